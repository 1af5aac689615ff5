/-! the calls that only look: vertices, edges, errorCount, degree, neighbour, findEdge -/
theorem sim_vertices  (t_scn : Int32) (r_er : Nat → Int32) (g_vc : Int32) (g_ec : Int32) (g_F : Nat → Int32) (g_T : Nat → Int32) (g_X : Nat → Int32) (g_Z : Nat → Int32) (v_pi : Nat → Nat) (v_vc : Nat → Int32) (v_ec : Nat → Int32) (v_F : Nat → Nat → Int32) (v_T : Nat → Nat → Int32) (v_X : Nat → Nat → Int32) (v_Z : Nat → Nat → Int32) (e_cn : Nat → Int32) (e_M : Nat → Nat → Int32) (s_fi : Int32) (s_ta : Int32) (s_st : Nat → Int32) (s_qu : Nat → Int32) (m_now : Nat → Int32) (m_sav : Nat → Int32) (m_sc : Int32) (m_err : Nat → Int32) (h : Rel t_scn r_er g_vc g_ec g_F g_T g_X g_Z v_pi v_vc v_ec v_F v_T v_X v_Z e_cn e_M s_fi s_ta s_st s_qu m_now m_sav m_sc m_err) : ∃ (o : Int32) (o' : Int32), pX5_vertices g_vc = some o ∧ pX6_vertices m_now = some o' ∧ o = o' ∧ Rel t_scn r_er g_vc g_ec g_F g_T g_X g_Z v_pi v_vc v_ec v_F v_T v_X v_Z e_cn e_M s_fi s_ta s_st s_qu m_now m_sav m_sc m_err := by
  obtain ⟨hG, hM, hE, hS, hR, hV⟩ := h
  exact ⟨g_vc, m_now 0, rfl, rfl, hM.1.symm, hG, hM, hE, hS, hR, hV⟩
theorem sim_edges  (t_scn : Int32) (r_er : Nat → Int32) (g_vc : Int32) (g_ec : Int32) (g_F : Nat → Int32) (g_T : Nat → Int32) (g_X : Nat → Int32) (g_Z : Nat → Int32) (v_pi : Nat → Nat) (v_vc : Nat → Int32) (v_ec : Nat → Int32) (v_F : Nat → Nat → Int32) (v_T : Nat → Nat → Int32) (v_X : Nat → Nat → Int32) (v_Z : Nat → Nat → Int32) (e_cn : Nat → Int32) (e_M : Nat → Nat → Int32) (s_fi : Int32) (s_ta : Int32) (s_st : Nat → Int32) (s_qu : Nat → Int32) (m_now : Nat → Int32) (m_sav : Nat → Int32) (m_sc : Int32) (m_err : Nat → Int32) (h : Rel t_scn r_er g_vc g_ec g_F g_T g_X g_Z v_pi v_vc v_ec v_F v_T v_X v_Z e_cn e_M s_fi s_ta s_st s_qu m_now m_sav m_sc m_err) : ∃ (o : Int32) (o' : Int32), pX5_edges g_ec = some o ∧ pX6_edges m_now = some o' ∧ o = o' ∧ Rel t_scn r_er g_vc g_ec g_F g_T g_X g_Z v_pi v_vc v_ec v_F v_T v_X v_Z e_cn e_M s_fi s_ta s_st s_qu m_now m_sav m_sc m_err := by
  obtain ⟨hG, hM, hE, hS, hR, hV⟩ := h
  exact ⟨g_ec, m_now 1, rfl, rfl, hM.2.1.symm, hG, hM, hE, hS, hR, hV⟩
theorem sim_degree (a1 : Int32) (t_scn : Int32) (r_er : Nat → Int32) (g_vc : Int32) (g_ec : Int32) (g_F : Nat → Int32) (g_T : Nat → Int32) (g_X : Nat → Int32) (g_Z : Nat → Int32) (v_pi : Nat → Nat) (v_vc : Nat → Int32) (v_ec : Nat → Int32) (v_F : Nat → Nat → Int32) (v_T : Nat → Nat → Int32) (v_X : Nat → Nat → Int32) (v_Z : Nat → Nat → Int32) (e_cn : Nat → Int32) (e_M : Nat → Nat → Int32) (s_fi : Int32) (s_ta : Int32) (s_st : Nat → Int32) (s_qu : Nat → Int32) (m_now : Nat → Int32) (m_sav : Nat → Int32) (m_sc : Int32) (m_err : Nat → Int32) (h : Rel t_scn r_er g_vc g_ec g_F g_T g_X g_Z v_pi v_vc v_ec v_F v_T v_X v_Z e_cn e_M s_fi s_ta s_st s_qu m_now m_sav m_sc m_err) : ∃ (o : Int32 × (Nat → Int32)) (o' : Int32 × (Nat → Int32)), pX5_degree a1 e_cn r_er g_vc = some o ∧ pX6_degree a1 m_now m_err = some o' ∧ o.1 = o'.1 ∧ Rel t_scn o.2 g_vc g_ec g_F g_T g_X g_Z v_pi v_vc v_ec v_F v_T v_X v_Z e_cn e_M s_fi s_ta s_st s_qu m_now m_sav m_sc o'.2 := by
  obtain ⟨hG, hM, hE, hS, hR, hV⟩ := h
  obtain ⟨nv, ne, rfl, rfl, hv1, hv6, hne⟩ := hG.n
  rcases D_isVertex hG hM a1 with ⟨h1, h2⟩ | ⟨k, rfl, hk, hk6, h1, h2⟩
  · refine ⟨(-2, upd r_er 0 (r_er 0 + 1)), (-2, upd m_err 0 (m_err 0 + 1)), ?_, ?_, rfl, hG, hM, hE, hS, RI_up hR 0 (by omega), hV⟩
    · unfold pX5_degree; rw [h1, kb_s, if_pos rfl, fail_2, kb_s]
    · unfold pX6_degree; rw [h2, kb_s, if_pos rfl, error_2, kb_s]
  · refine ⟨(e_cn k, r_er), (nI (ecnt g_F g_T (nI k) (2 * ne)), m_err), ?_, ?_, ?_, hG, hM, hE, hS, hR, hV⟩
    · unfold pX5_degree; rw [h1, kb_s, if_neg (by decide), kin_nI hk6 (by omega), kgd_tt, c_nI (by omega)]
    · unfold pX6_degree; rw [h2, kb_s, if_neg (by decide), degreeOf_s hM hne, kb_s]
    · have := (hE k hk6).1
      rw [c_nI (by omega)] at this
      exact this
theorem sim_neighbour (a1 : Int32) (a2 : Int32) (t_scn : Int32) (r_er : Nat → Int32) (g_vc : Int32) (g_ec : Int32) (g_F : Nat → Int32) (g_T : Nat → Int32) (g_X : Nat → Int32) (g_Z : Nat → Int32) (v_pi : Nat → Nat) (v_vc : Nat → Int32) (v_ec : Nat → Int32) (v_F : Nat → Nat → Int32) (v_T : Nat → Nat → Int32) (v_X : Nat → Nat → Int32) (v_Z : Nat → Nat → Int32) (e_cn : Nat → Int32) (e_M : Nat → Nat → Int32) (s_fi : Int32) (s_ta : Int32) (s_st : Nat → Int32) (s_qu : Nat → Int32) (m_now : Nat → Int32) (m_sav : Nat → Int32) (m_sc : Int32) (m_err : Nat → Int32) (h : Rel t_scn r_er g_vc g_ec g_F g_T g_X g_Z v_pi v_vc v_ec v_F v_T v_X v_Z e_cn e_M s_fi s_ta s_st s_qu m_now m_sav m_sc m_err) : ∃ (o : Int32 × (Nat → Int32)) (o' : Int32 × (Nat → Int32)), pX5_neighbour a1 a2 e_cn e_M r_er g_vc = some o ∧ pX6_neighbour a1 a2 m_now m_err = some o' ∧ o.1 = o'.1 ∧ Rel t_scn o.2 g_vc g_ec g_F g_T g_X g_Z v_pi v_vc v_ec v_F v_T v_X v_Z e_cn e_M s_fi s_ta s_st s_qu m_now m_sav m_sc o'.2 := by
  obtain ⟨hG, hM, hE, hS, hR, hV⟩ := h
  obtain ⟨nv, ne, rfl, rfl, hv1, hv6, hne⟩ := hG.n
  rcases D_isEnd hG hne hM hE a1 a2 with ⟨h1, h2⟩ | ⟨k, i, j, rfl, hk, hk6, rfl, hi, hj, hjv, hji, h1, h2, h3, h4, h5, h6⟩
  · refine ⟨(-2, upd r_er 0 (r_er 0 + 1)), (-2, upd m_err 0 (m_err 0 + 1)), ?_, ?_, rfl, hG, hM, hE, hS, RI_up hR 0 (by omega), hV⟩
    · unfold pX5_neighbour; rw [h1, kb_s, if_pos rfl, fail_2, kb_s]
    · unfold pX6_neighbour; rw [h2, kb_s, if_pos rfl, error_2, kb_s]
  · refine ⟨(e_M (0 + k) i, r_er), (eV g_T g_F j, m_err), ?_, ?_, ?_, hG, hM, hE, hS, hR, hV⟩
    · unfold pX5_neighbour; rw [h1, kb_s, if_neg (by decide), kin_nI hk6 (by omega), kgd_tt, c_nI (n := k) (by omega), show decide (0 + k < 18) = true from decide_eq_true (by omega), kgd_tt, kin_nI (k := i) hi (by omega), kgd_tt, c_nI (n := i) (by omega)]
    · unfold pX6_neighbour; rw [h2, kb_s, if_neg (by decide), h3, kb_s, leadsTo_s hM hne hj, kb_s]
    · rw [Nat.zero_add]; exact h4
theorem sim_errorCount (a1 : Int32) (t_scn : Int32) (r_er : Nat → Int32) (g_vc : Int32) (g_ec : Int32) (g_F : Nat → Int32) (g_T : Nat → Int32) (g_X : Nat → Int32) (g_Z : Nat → Int32) (v_pi : Nat → Nat) (v_vc : Nat → Int32) (v_ec : Nat → Int32) (v_F : Nat → Nat → Int32) (v_T : Nat → Nat → Int32) (v_X : Nat → Nat → Int32) (v_Z : Nat → Nat → Int32) (e_cn : Nat → Int32) (e_M : Nat → Nat → Int32) (s_fi : Int32) (s_ta : Int32) (s_st : Nat → Int32) (s_qu : Nat → Int32) (m_now : Nat → Int32) (m_sav : Nat → Int32) (m_sc : Int32) (m_err : Nat → Int32) (h : Rel t_scn r_er g_vc g_ec g_F g_T g_X g_Z v_pi v_vc v_ec v_F v_T v_X v_Z e_cn e_M s_fi s_ta s_st s_qu m_now m_sav m_sc m_err) : ∃ (o : Int32 × (Nat → Int32)) (o' : Int32 × (Nat → Int32)), pX5_errorCount a1 r_er = some o ∧ pX6_errorCount a1 m_err = some o' ∧ o.1 = o'.1 ∧ Rel t_scn o.2 g_vc g_ec g_F g_T g_X g_Z v_pi v_vc v_ec v_F v_T v_X v_Z e_cn e_M s_fi s_ta s_st s_qu m_now m_sav m_sc o'.2 := by
  obtain ⟨hG, hM, hE, hS, hR, hV⟩ := h
  rcases S_in a1 (-7) (-2) with ⟨h1, h2⟩ | ⟨h1, h2, h3⟩
  · rw [show (-7 : Int32).toInt = -7 from rfl, show (-2 : Int32).toInt = -2 from rfl] at h2
    refine ⟨(-2, upd r_er 0 (r_er 0 + 1)), (-2, upd m_err 0 (m_err 0 + 1)), ?_, ?_, rfl, hG, hM, hE, hS, RI_up hR 0 (by omega), hV⟩
    · unfold pX5_errorCount
      by_cases b : (-2 : Int32) < a1
      · rw [if_pos b, fail_2, kb_s]
      · rw [if_neg b, if_neg, fail_2, kb_s]
        rw [Int32.lt_iff_toInt_lt, show (-2 : Int32).toInt = -2 from rfl] at b
        rw [Int32.le_iff_toInt_le, show (-7 : Int32).toInt = -7 from rfl]; omega
    · unfold pX6_errorCount; rw [h1, kb_s, if_pos rfl, error_2, kb_s]
  · rw [show (-7 : Int32).toInt = -7 from rfl] at h2
    rw [show (-2 : Int32).toInt = -2 from rfl] at h3
    have hs : ((-2 : Int32) - a1).toInt = -2 - a1.toInt := by rw [i_sub] <;> rw [show (-2 : Int32).toInt = -2 from rfl] <;> omega
    have hk : kin ((-2 : Int32) - a1) 6 = true := kin_of (by omega) (by omega)
    have hc : ((-2 : Int32) - a1).toNatClampNeg < 6 := by
      have : ((-2 : Int32) - a1).toNatClampNeg = ((-2 : Int32) - a1).toInt.toNat := rfl
      omega
    refine ⟨(r_er ((-2 : Int32) - a1).toNatClampNeg, r_er), (m_err ((-2 : Int32) - a1).toNatClampNeg, m_err), ?_, ?_, hR _ hc, hG, hM, hE, hS, hR, hV⟩
    · unfold pX5_errorCount
      rw [if_neg (by rw [Int32.lt_iff_toInt_lt, show (-2 : Int32).toInt = -2 from rfl]; omega), if_pos (by rw [Int32.le_iff_toInt_le, show (-7 : Int32).toInt = -7 from rfl]; omega), hk, kgd_tt]
    · unfold pX6_errorCount; rw [h1, kb_s, if_neg (by decide), hk, kgd_tt]
def eMat (F T X Z : Nat → Int32) (a b x z : Int32) (e : Nat) : Prop := (F e = a ∧ T e = b ∧ X e = x ∧ Z e = z) ∨ (F e = b ∧ T e = a ∧ X e = -x ∧ Z e = -z)
theorem isStored_s {F T X Z : Nat → Int32} {e : Nat} (he : e < 12) (a b x z : Int32) : (pX2_isStored (nI e) a b x z F T X Z = some 1 ∧ (F e = a ∧ T e = b ∧ X e = x ∧ Z e = z)) ∨ (pX2_isStored (nI e) a b x z F T X Z = some 0 ∧ ¬ (F e = a ∧ T e = b ∧ X e = x ∧ Z e = z)) := by
  unfold pX2_isStored
  rw [kin_nI he (by omega), c_nI (by omega)]
  simp only [kgd_tt]
  by_cases h1 : F e = a
  · rw [if_pos h1]
    by_cases h2 : T e = b
    · rw [if_pos h2]
      by_cases h3 : X e = x
      · rw [if_pos h3]
        by_cases h4 : Z e = z
        · rw [if_pos h4]; exact Or.inl ⟨rfl, h1, h2, h3, h4⟩
        · rw [if_neg h4]; exact Or.inr ⟨rfl, fun h => h4 h.2.2.2⟩
      · rw [if_neg h3]; exact Or.inr ⟨rfl, fun h => h3 h.2.2.1⟩
    · rw [if_neg h2]; exact Or.inr ⟨rfl, fun h => h2 h.2.1⟩
  · rw [if_neg h1]; exact Or.inr ⟨rfl, fun h => h1 h.1⟩
theorem isEdge_s {now : Nat → Int32} {nv ne : Nat} {F T X Z : Nat → Int32} (hM : MI now 0 (nI nv) (nI ne) F T X Z) (hne : ne ≤ 12) {e : Nat} (he : e < ne) (a b x z : Int32) : (pX6_isEdge (nI e) a b x z now = some 1 ∧ (F e = a ∧ T e = b ∧ X e = x ∧ Z e = z)) ∨ (pX6_isEdge (nI e) a b x z now = some 0 ∧ ¬ (F e = a ∧ T e = b ∧ X e = x ∧ Z e = z)) := by
  have hm := hM.e hne he
  unfold pX6_isEdge
  have o0 : pX6_of (nI e) 0 now = some (F e) := by rw [show (0 : Int32) = nI 0 from rfl, of_k (by omega) (by omega), hm.1]
  have o1 : pX6_of (nI e) 1 now = some (T e) := by rw [show (1 : Int32) = nI 1 from rfl, of_k (by omega) (by omega), hm.2.1]
  have o2 : pX6_of (nI e) 2 now = some (X e) := by rw [show (2 : Int32) = nI 2 from rfl, of_k (by omega) (by omega), hm.2.2.1]
  have o3 : pX6_of (nI e) 3 now = some (Z e) := by rw [show (3 : Int32) = nI 3 from rfl, of_k (by omega) (by omega), hm.2.2.2]
  rw [o0, o1, o2, o3]
  simp only [kb_s]
  by_cases h1 : F e = a
  · rw [if_pos h1]
    by_cases h2 : T e = b
    · rw [if_pos h2]
      by_cases h3 : X e = x
      · rw [if_pos h3]
        by_cases h4 : Z e = z
        · rw [if_pos h4]; exact Or.inl ⟨rfl, h1, h2, h3, h4⟩
        · rw [if_neg h4]; exact Or.inr ⟨rfl, fun h => h4 h.2.2.2⟩
      · rw [if_neg h3]; exact Or.inr ⟨rfl, fun h => h3 h.2.2.1⟩
    · rw [if_neg h2]; exact Or.inr ⟨rfl, fun h => h2 h.2.1⟩
  · rw [if_neg h1]; exact Or.inr ⟨rfl, fun h => h1 h.1⟩
theorem between_loop {F T X Z : Nat → Int32} {ne : Nat} (hne : ne ≤ 12) (a b x z : Int32) : ∀ (m e n : Nat), e + m = ne → m < n → (∀ f, f < e → ¬ eMat F T X Z a b x z f) → ∃ r, pX2_edgeBetween_L3 n a b x z (nI e) (nI ne) F T X Z = some r ∧ ((r = -1 ∧ ∀ f, f < ne → ¬ eMat F T X Z a b x z f) ∨ ∃ f, f < ne ∧ eMat F T X Z a b x z f ∧ r = nI f) := by
  intro m
  induction m with
  | zero =>
    intro e n he hn hf
    obtain ⟨n, rfl⟩ : ∃ k, n = k + 1 := ⟨n - 1, by omega⟩
    have he : e = ne := he
    subst he
    refine ⟨-1, ?_, Or.inl ⟨rfl, hf⟩⟩
    rw [pX2_edgeBetween_L3, if_pos (nI_le (Nat.le_refl _) (by omega))]
  | succ m ih =>
    intro e n he hn hf
    obtain ⟨n, rfl⟩ : ∃ k, n = k + 1 := ⟨n - 1, by omega⟩
    rw [pX2_edgeBetween_L3, if_neg (nI_ge (by omega) (by omega))]
    rcases isStored_s (F := F) (T := T) (X := X) (Z := Z) (e := e) (by omega) a b x z with ⟨h1, h2⟩ | ⟨h1, h2⟩
    · refine ⟨nI e, ?_, Or.inr ⟨e, by omega, Or.inl h2, rfl⟩⟩
      rw [h1, kb_s, if_neg (by decide)]
    · rcases isStored_s (F := F) (T := T) (X := X) (Z := Z) (e := e) (by omega) b a (-x) (-z) with ⟨h3, h4⟩ | ⟨h3, h4⟩
      · refine ⟨nI e, ?_, Or.inr ⟨e, by omega, Or.inr h4, rfl⟩⟩
        rw [h1, kb_s, if_pos rfl, h3, kb_s, if_neg (by decide)]
      · rw [h1, kb_s, if_pos rfl, h3, kb_s, if_pos rfl, nI_1]
        refine ih (e + 1) n (by omega) (by omega) (fun f hfe => ?_)
        by_cases q : f = e
        · subst q
          rintro (h | h)
          · exact h2 h
          · exact h4 h
        · exact hf f (by omega)
theorem find_loop {now : Nat → Int32} {nv ne : Nat} {F T X Z : Nat → Int32} (hM : MI now 0 (nI nv) (nI ne) F T X Z) (hne : ne ≤ 12) (a b x z : Int32) : ∀ (m e n : Nat) (g : Int32), e + m = ne → m < n → ((g = -1 ∧ ∀ f, f < e → ¬ eMat F T X Z a b x z f) ∨ ∃ f, f < e ∧ eMat F T X Z a b x z f ∧ g = nI f) → ∃ r, pX6_find_L6 n a b x z g (nI e) now = some (r, nI ne) ∧ ((r = -1 ∧ ∀ f, f < ne → ¬ eMat F T X Z a b x z f) ∨ ∃ f, f < ne ∧ eMat F T X Z a b x z f ∧ r = nI f) := by
  have e1 : (1 : Int32).toNatClampNeg = 1 := rfl
  have hm1 : now 1 = nI ne := hM.2.1
  intro m
  induction m with
  | zero =>
    intro e n g he hn hf
    obtain ⟨n, rfl⟩ : ∃ k, n = k + 1 := ⟨n - 1, by omega⟩
    have he : e = ne := he
    subst he
    refine ⟨g, ?_, hf⟩
    rw [pX6_find_L6, e1, hm1, show kin 1 50 = true from rfl, kgd_tt, if_pos (nI_le (Nat.le_refl _) (by omega))]
  | succ m ih =>
    intro e n g he hn hf
    obtain ⟨n, rfl⟩ : ∃ k, n = k + 1 := ⟨n - 1, by omega⟩
    rw [pX6_find_L6, e1, hm1, show kin 1 50 = true from rfl, kgd_tt, if_neg (nI_ge (by omega) (by omega)), nI_1]
    rcases isEdge_s hM hne (e := e) (by omega) a b x z with ⟨h1, h2⟩ | ⟨h1, h2⟩
    · rw [h1, kb_s, if_neg (by decide), kb_s]
      exact ih (e + 1) n (nI e) (by omega) (by omega) (Or.inr ⟨e, by omega, Or.inl h2, rfl⟩)
    · rcases isEdge_s hM hne (e := e) (by omega) b a (-x) (-z) with ⟨h3, h4⟩ | ⟨h3, h4⟩
      · rw [h1, kb_s, if_pos rfl, h3, kb_s, if_neg (by decide), kb_s]
        exact ih (e + 1) n (nI e) (by omega) (by omega) (Or.inr ⟨e, by omega, Or.inr h4, rfl⟩)
      · rw [h1, kb_s, if_pos rfl, h3, kb_s, if_pos rfl, kb_s]
        refine ih (e + 1) n g (by omega) (by omega) ?_
        rcases hf with ⟨c1, c2⟩ | ⟨f, c1, c2, c3⟩
        · refine Or.inl ⟨c1, fun f hfe => ?_⟩
          by_cases q : f = e
          · subst q
            rintro (h | h)
            · exact h2 h
            · exact h4 h
          · exact c2 f (by omega)
        · exact Or.inr ⟨f, by omega, c2, c3⟩
theorem eMat_one {vc ec : Int32} {F T X Z : Nat → Int32} (hG : GI vc ec F T X Z) {ne : Nat} (hn : ec = nI ne) (hne : ne ≤ 12) {a b x z : Int32} {e f : Nat} (he : e < ne) (hf : f < ne) (h1 : eMat F T X Z a b x z e) (h2 : eMat F T X Z a b x z f) : e = f := by
  obtain ⟨nv, ne', rfl, h3, -, -, h4, -, hu⟩ := hG
  have : ne = ne' := by
    have := congrArg Int32.toInt (hn.symm.trans h3)
    rw [nI_toInt (by omega), nI_toInt (by omega)] at this
    omega
  subst this
  have key : ∀ {e f : Nat}, e < f → f < ne → eMat F T X Z a b x z e → eMat F T X Z a b x z f → False := by
    intro e f hef hf h1 h2
    obtain ⟨u1, u2⟩ := hu e f hef hf
    rcases h1 with ⟨p1, p2, p3, p4⟩ | ⟨p1, p2, p3, p4⟩ <;> rcases h2 with ⟨q1, q2, q3, q4⟩ | ⟨q1, q2, q3, q4⟩
    · exact u1 ⟨p1.trans q1.symm, p2.trans q2.symm, p3.trans q3.symm, p4.trans q4.symm⟩
    · exact u2 ⟨p1.trans q2.symm, p2.trans q1.symm, by rw [p3, q3, Int32.neg_neg], by rw [p4, q4, Int32.neg_neg]⟩
    · exact u2 ⟨p1.trans q2.symm, p2.trans q1.symm, by rw [p3, q3], by rw [p4, q4]⟩
    · exact u1 ⟨p1.trans q1.symm, p2.trans q2.symm, p3.trans q3.symm, p4.trans q4.symm⟩
  rcases Nat.lt_trichotomy e f with h | h | h
  · exact (key h hf h1 h2).elim
  · exact h
  · exact (key h he h2 h1).elim
/-- both find the same edge, or none -/
theorem D_find {vc : Int32} {ne : Nat} {F T X Z : Nat → Int32} {now : Nat → Int32} (hG : GI vc (nI ne) F T X Z) (hne : ne ≤ 12) (hM : MI now 0 vc (nI ne) F T X Z) (a b x z : Int32) : ∃ r, pX2_edgeBetween a b x z (nI ne) F T X Z = some r ∧ pX6_find a b x z now = some r ∧ ((r = -1 ∧ ∀ f, f < ne → ¬ eMat F T X Z a b x z f) ∨ ∃ f, f < ne ∧ r = nI f) := by
  obtain ⟨nv, _, rfl, -⟩ := id hG
  obtain ⟨r, h1, h2⟩ := between_loop (F := F) (T := T) (X := X) (Z := Z) hne a b x z ne 0 KF (by omega) (by unfold KF; omega) (fun f h => absurd h (Nat.not_lt_zero _))
  obtain ⟨r', h3, h4⟩ := find_loop hM hne a b x z ne 0 KF (-1) (by omega) (by unfold KF; omega) (Or.inl ⟨rfl, fun f h => absurd h (Nat.not_lt_zero _)⟩)
  have e : r' = r := by
    rcases h2 with ⟨c1, c2⟩ | ⟨f, c1, c2, c3⟩
    · rcases h4 with ⟨d1, d2⟩ | ⟨g, d1, d2, d3⟩
      · rw [c1, d1]
      · exact absurd d2 (c2 g d1)
    · rcases h4 with ⟨d1, d2⟩ | ⟨g, d1, d2, d3⟩
      · exact absurd c2 (d2 f c1)
      · rw [c3, d3, eMat_one hG rfl hne c1 d1 c2 d2]
  subst e
  refine ⟨r', ?_, ?_, ?_⟩
  · unfold pX2_edgeBetween; exact h1
  · unfold pX6_find; rw [show (0 : Int32) = nI 0 from rfl, h3, kb_s]
  · rcases h2 with h | ⟨f, c1, c2, c3⟩
    · exact Or.inl h
    · exact Or.inr ⟨f, c1, c3⟩
theorem sim_findEdge (a1 : Int32) (a2 : Int32) (a3 : Int32) (a4 : Int32) (t_scn : Int32) (r_er : Nat → Int32) (g_vc : Int32) (g_ec : Int32) (g_F : Nat → Int32) (g_T : Nat → Int32) (g_X : Nat → Int32) (g_Z : Nat → Int32) (v_pi : Nat → Nat) (v_vc : Nat → Int32) (v_ec : Nat → Int32) (v_F : Nat → Nat → Int32) (v_T : Nat → Nat → Int32) (v_X : Nat → Nat → Int32) (v_Z : Nat → Nat → Int32) (e_cn : Nat → Int32) (e_M : Nat → Nat → Int32) (s_fi : Int32) (s_ta : Int32) (s_st : Nat → Int32) (s_qu : Nat → Int32) (m_now : Nat → Int32) (m_sav : Nat → Int32) (m_sc : Int32) (m_err : Nat → Int32) (h : Rel t_scn r_er g_vc g_ec g_F g_T g_X g_Z v_pi v_vc v_ec v_F v_T v_X v_Z e_cn e_M s_fi s_ta s_st s_qu m_now m_sav m_sc m_err) : ∃ (o : Int32 × (Nat → Int32)) (o' : Int32 × (Nat → Int32)), pX5_findEdge a1 a2 a3 a4 r_er g_vc g_ec g_F g_T g_X g_Z = some o ∧ pX6_findEdge a1 a2 a3 a4 m_now m_err = some o' ∧ o.1 = o'.1 ∧ Rel t_scn o.2 g_vc g_ec g_F g_T g_X g_Z v_pi v_vc v_ec v_F v_T v_X v_Z e_cn e_M s_fi s_ta s_st s_qu m_now m_sav m_sc o'.2 := by
  obtain ⟨hG, hM, hE, hS, hR, hV⟩ := h
  obtain ⟨nv, ne, rfl, rfl, hv1, hv6, hne⟩ := hG.n
  rcases D_isVertex hG hM a1 with ⟨h1, h2⟩ | ⟨k, rfl, hk, hk6, h1, h2⟩
  · refine ⟨(-2, upd r_er 0 (r_er 0 + 1)), (-2, upd m_err 0 (m_err 0 + 1)), ?_, ?_, rfl, hG, hM, hE, hS, RI_up hR 0 (by omega), hV⟩
    · unfold pX5_findEdge; rw [h1, kb_s, if_pos rfl, fail_2, kb_s]
    · unfold pX6_findEdge; rw [h2, kb_s, if_pos rfl, error_2, kb_s]
  · rcases D_isVertex hG hM a2 with ⟨h3, h4⟩ | ⟨k2, rfl, hk2, hk26, h3, h4⟩
    · refine ⟨(-2, upd r_er 0 (r_er 0 + 1)), (-2, upd m_err 0 (m_err 0 + 1)), ?_, ?_, rfl, hG, hM, hE, hS, RI_up hR 0 (by omega), hV⟩
      · unfold pX5_findEdge; rw [h1, kb_s, if_neg (by decide), h3, kb_s, if_pos rfl, fail_2, kb_s]
      · unfold pX6_findEdge; rw [h2, kb_s, if_neg (by decide), h4, kb_s, if_pos rfl, error_2, kb_s]
    · obtain ⟨r, h5, h6, -⟩ := D_find hG hne hM (nI k) (nI k2) a3 a4
      refine ⟨(r, r_er), (r, m_err), ?_, ?_, rfl, hG, hM, hE, hS, hR, hV⟩
      · unfold pX5_findEdge; rw [h1, kb_s, if_neg (by decide), h3, kb_s, if_neg (by decide), h5, kb_s]
      · unfold pX6_findEdge; rw [h2, kb_s, if_neg (by decide), h4, kb_s, if_neg (by decide), h6, kb_s]
