/-! the calls that change the graph -/
theorem upd_eq2 {f : Nat → Int32} {k : Nat} {v : Int32} : upd f k v k = v := if_pos rfl
theorem upd_ne2 {f : Nat → Int32} {k j : Nat} {v : Int32} (h : j ≠ k) : upd f k v j = f j := if_neg h
theorem if3 {α : Type} {p q r : Prop} [Decidable p] [Decidable q] [Decidable r] {A B : α} (h : ¬ (p ∧ q ∧ r)) : (if p then (if q then (if r then A else B) else B) else B) = B := by
  by_cases hp : p
  · by_cases hq : q
    · rw [if_pos hp, if_pos hq, if_neg (fun hr => h ⟨hp, hq, hr⟩)]
    · rw [if_pos hp, if_neg hq]
  · rw [if_neg hp]
theorem nI_m1 {f : Nat} (h : f < 2 ^ 31) : nI f ≠ -1 := fun e => by
  have := congrArg Int32.toInt e
  rw [nI_toInt h, i32_m1] at this
  omega
theorem isShift5_s (x : Int32) : (pX5_isShift x = some 0 ∧ ¬ (-2 ≤ x.toInt ∧ x.toInt ≤ 2)) ∨ (pX5_isShift x = some 1 ∧ -2 ≤ x.toInt ∧ x.toInt ≤ 2) := by
  unfold pX5_isShift
  by_cases h1 : x < -2
  · rw [if_pos h1]
    rw [Int32.lt_iff_toInt_lt, i32_m2] at h1
    exact Or.inl ⟨rfl, by omega⟩
  · rw [if_neg h1]
    rw [Int32.lt_iff_toInt_lt, i32_m2] at h1
    by_cases h2 : 2 < x
    · rw [if_pos h2]
      rw [Int32.lt_iff_toInt_lt, i32_2] at h2
      exact Or.inl ⟨rfl, by omega⟩
    · rw [if_neg h2]
      rw [Int32.lt_iff_toInt_lt, i32_2] at h2
      exact Or.inr ⟨rfl, by omega, by omega⟩
theorem isShift6_s (x y : Int32) : (pX6_isShift x y = some 0 ∧ ¬ ((-2 ≤ x.toInt ∧ x.toInt ≤ 2) ∧ -2 ≤ y.toInt ∧ y.toInt ≤ 2)) ∨ (pX6_isShift x y = some 1 ∧ (-2 ≤ x.toInt ∧ x.toInt ≤ 2) ∧ -2 ≤ y.toInt ∧ y.toInt ≤ 2) := by
  unfold pX6_isShift
  rcases S_in x (-2) 2 with ⟨h1, h2⟩ | ⟨h1, h2⟩ <;> rw [i32_m2, i32_2] at h2
  · rw [h1, kb_s, if_pos rfl]
    exact Or.inl ⟨rfl, fun h => h2 h.1⟩
  · rw [h1, kb_s, if_neg (by decide)]
    rcases S_in y (-2) 2 with ⟨g1, g2⟩ | ⟨g1, g2⟩ <;> rw [i32_m2, i32_2] at g2
    · rw [g1, kb_s, if_pos rfl]
      exact Or.inl ⟨rfl, fun h => g2 h.2⟩
    · rw [g1, kb_s, if_neg (by decide)]
      exact Or.inr ⟨rfl, h2, g2⟩
theorem D_isShift (x y : Int32) : (pX6_isShift x y = some 0 ∧ (pX5_isShift x = some 0 ∨ (pX5_isShift x = some 1 ∧ pX5_isShift y = some 0))) ∨ (pX6_isShift x y = some 1 ∧ pX5_isShift x = some 1 ∧ pX5_isShift y = some 1 ∧ (-2 ≤ x.toInt ∧ x.toInt ≤ 2) ∧ -2 ≤ y.toInt ∧ y.toInt ≤ 2) := by
  rcases isShift6_s x y with ⟨h1, h2⟩ | ⟨h1, h2, h3⟩ <;> rcases isShift5_s x with ⟨a1, a2⟩ | ⟨a1, a2⟩ <;> rcases isShift5_s y with ⟨b1, b2⟩ | ⟨b1, b2⟩
  · exact Or.inl ⟨h1, Or.inl a1⟩
  · exact Or.inl ⟨h1, Or.inl a1⟩
  · exact Or.inl ⟨h1, Or.inr ⟨a1, b1⟩⟩
  · exact absurd ⟨a2, b2⟩ h2
  · exact absurd h2 a2
  · exact absurd h2 a2
  · exact absurd h3 b2
  · exact Or.inr ⟨h1, a1, b1, h2, h3⟩
theorem GI.add {vc : Int32} {ne : Nat} {F T X Z F' T' X' Z' : Nat → Int32} (hne : ne < 12) (h : GI vc (nI ne) F T X Z) {a b x z : Int32} (ha : 0 ≤ a.toInt ∧ a.toInt < vc.toInt) (hb : 0 ≤ b.toInt ∧ b.toInt < vc.toInt) (hx : -2 ≤ x.toInt ∧ x.toInt ≤ 2) (hz : -2 ≤ z.toInt ∧ z.toInt ≤ 2) (hs : ¬ (a = b ∧ x = 0 ∧ z = 0)) (hm : ∀ f, f < ne → ¬ eMat F T X Z a b x z f) (hF : ∀ e, e < ne → F' e = F e ∧ T' e = T e ∧ X' e = X e ∧ Z' e = Z e) (hn : F' ne = a ∧ T' ne = b ∧ X' ne = x ∧ Z' ne = z) : GI vc (nI (ne + 1)) F' T' X' Z' := by
  obtain ⟨nv, ne', h1, h2, h3, h4, h5, h6, h7⟩ := h
  have : ne = ne' := nI_inj (by omega) (by omega) h2
  subst this
  have hvc : vc.toInt = nv := by rw [h1, nI_toInt (by omega)]
  rw [hvc] at ha hb
  obtain ⟨n1, n2, n3, n4⟩ := hn
  refine ⟨nv, ne + 1, h1, rfl, h3, h4, by omega, fun e he => ?_, fun e f hef hf => ?_⟩
  · by_cases q : e = ne
    · subst q; rw [n1, n2, n3, n4]; exact ⟨ha, hb, hx, hz, hs⟩
    · obtain ⟨p1, p2, p3, p4⟩ := hF e (by omega)
      rw [p1, p2, p3, p4]; exact h6 e (by omega)
  · obtain ⟨p1, p2, p3, p4⟩ := hF e (by omega)
    by_cases q : f = ne
    · subst q
      rw [n1, n2, n3, n4, p1, p2, p3, p4]
      exact ⟨fun c => hm e hef (Or.inl c), fun c => hm e hef (Or.inr c)⟩
    · obtain ⟨q1, q2, q3, q4⟩ := hF f (by omega)
      rw [p1, p2, p3, p4, q1, q2, q3, q4]
      exact h7 e f hef (by omega)
theorem GI.sub {vc : Int32} {ne nd : Nat} {F T X Z F' T' X' Z' : Nat → Int32} (hne : ne ≤ 12) (hnd : nd ≤ 12) (h : GI vc (nI ne) F T X Z) (g : Nat → Nat) (hg : ∀ e, e < nd → g e < ne) (hg2 : ∀ e f, e < f → g e < g f) (hF : ∀ e, e < nd → F' e = F (g e) ∧ T' e = T (g e) ∧ X' e = X (g e) ∧ Z' e = Z (g e)) : GI vc (nI nd) F' T' X' Z' := by
  obtain ⟨nv, ne', h1, h2, h3, h4, h5, h6, h7⟩ := h
  have : ne = ne' := nI_inj (by omega) (by omega) h2
  subst this
  refine ⟨nv, nd, h1, rfl, h3, h4, hnd, fun e he => ?_, fun e f hef hf => ?_⟩
  · obtain ⟨p1, p2, p3, p4⟩ := hF e he
    rw [p1, p2, p3, p4]; exact h6 _ (hg e he)
  · obtain ⟨p1, p2, p3, p4⟩ := hF e (by omega)
    obtain ⟨q1, q2, q3, q4⟩ := hF f hf
    rw [p1, p2, p3, p4, q1, q2, q3, q4]
    exact h7 _ _ (hg2 e f hef) (hg f hf)
theorem sim_reset (a1 : Int32) (t_scn : Int32) (r_er : Nat → Int32) (g_vc : Int32) (g_ec : Int32) (g_F : Nat → Int32) (g_T : Nat → Int32) (g_X : Nat → Int32) (g_Z : Nat → Int32) (d_vc : Int32) (d_ec : Int32) (d_F : Nat → Int32) (d_T : Nat → Int32) (d_X : Nat → Int32) (d_Z : Nat → Int32) (v_pi : Nat → Nat) (v_vc : Nat → Int32) (v_ec : Nat → Int32) (v_F : Nat → Nat → Int32) (v_T : Nat → Nat → Int32) (v_X : Nat → Nat → Int32) (v_Z : Nat → Nat → Int32) (e_cn : Nat → Int32) (e_M : Nat → Nat → Int32) (s_fi : Int32) (s_ta : Int32) (s_st : Nat → Int32) (s_qu : Nat → Int32) (m_now : Nat → Int32) (m_sav : Nat → Int32) (m_sc : Int32) (m_err : Nat → Int32) (h : Rel t_scn r_er g_vc g_ec g_F g_T g_X g_Z v_pi v_vc v_ec v_F v_T v_X v_Z e_cn e_M s_fi s_ta s_st s_qu m_now m_sav m_sc m_err) : ∃ (o : Int32 × (Nat → Int32) × (Nat → Nat → Int32) × Int32 × (Nat → Int32) × Int32 × Int32 × (Nat → Int32) × (Nat → Int32) × (Nat → Int32) × (Nat → Int32) × Int32 × Int32 × (Nat → Nat) × (Nat → Int32) × (Nat → Int32) × (Nat → Nat → Int32) × (Nat → Nat → Int32) × (Nat → Nat → Int32) × (Nat → Nat → Int32)) (o' : Int32 × (Nat → Int32) × (Nat → Int32) × Int32 × (Nat → Int32)), pX5_reset a1 e_cn e_M t_scn r_er g_vc g_ec g_F g_T g_X g_Z d_vc d_ec d_F d_T d_X d_Z v_pi v_vc v_ec v_F v_T v_X v_Z = some o ∧ pX6_reset a1 m_now m_sav m_sc m_err = some o' ∧ o.1 = o'.1 ∧ Rel o.2.2.2.1 o.2.2.2.2.1 o.2.2.2.2.2.1 o.2.2.2.2.2.2.1 o.2.2.2.2.2.2.2.1 o.2.2.2.2.2.2.2.2.1 o.2.2.2.2.2.2.2.2.2.1 o.2.2.2.2.2.2.2.2.2.2.1 o.2.2.2.2.2.2.2.2.2.2.2.2.2.1 o.2.2.2.2.2.2.2.2.2.2.2.2.2.2.1 o.2.2.2.2.2.2.2.2.2.2.2.2.2.2.2.1 o.2.2.2.2.2.2.2.2.2.2.2.2.2.2.2.2.1 o.2.2.2.2.2.2.2.2.2.2.2.2.2.2.2.2.2.1 o.2.2.2.2.2.2.2.2.2.2.2.2.2.2.2.2.2.2.1 o.2.2.2.2.2.2.2.2.2.2.2.2.2.2.2.2.2.2.2 o.2.1 o.2.2.1 s_fi s_ta s_st s_qu o'.2.1 o'.2.2.1 o'.2.2.2.1 o'.2.2.2.2 := by
  obtain ⟨hG, hM, hE, hS, hR, hV⟩ := h
  obtain ⟨ne, hne, rfl⟩ := hG.ne
  rcases S_in a1 1 6 with ⟨h1, h2⟩ | ⟨h1, h2, h3⟩
  · rw [show (1 : Int32).toInt = 1 from rfl, show (6 : Int32).toInt = 6 from rfl] at h2
    refine ⟨(-2, e_cn, e_M, t_scn, upd r_er 0 (r_er 0 + 1), g_vc, nI ne, g_F, g_T, g_X, g_Z, d_vc, d_ec, v_pi, v_vc, v_ec, v_F, v_T, v_X, v_Z), (-2, m_now, m_sav, m_sc, upd m_err 0 (m_err 0 + 1)), ?_, ?_, rfl, hG, hM, hE, hS, RI_up hR 0 (by omega), hV⟩
    · unfold pX5_reset
      by_cases b : a1 < (1 : Int32)
      · rw [if_pos b, fail_2, kb_s]
      · rw [if_neg b, if_neg, fail_2, kb_s]
        rw [Int32.lt_iff_toInt_lt, show (1 : Int32).toInt = 1 from rfl] at b
        rw [Int32.le_iff_toInt_le, show (6 : Int32).toInt = 6 from rfl]; omega
    · unfold pX6_reset; rw [h1, kb_s, if_pos rfl, error_2, kb_s]
  · rw [show (1 : Int32).toInt = 1 from rfl] at h2
    rw [show (6 : Int32).toInt = 6 from rfl] at h3
    have hD : GI a1 (nI 0) d_F d_T d_X d_Z := ⟨a1.toInt.toNat, 0, i_nat (by omega), rfl, by omega, by omega, by omega, fun e he => absurd he (Nat.not_lt_zero _), fun e f _ hf => absurd hf (Nat.not_lt_zero _)⟩
    obtain ⟨cn', E', s, F1, T1, X1, Z1, pi', vc', ec', F', T', X', Z', sav', c1, c2, c3, c4, c5, c6⟩ := commit_s hV hne hG hM (by omega) hD e_cn e_M
    refine ⟨(g_vc, cn', E', s, r_er, a1, nI 0, F1, T1, X1, Z1, a1, nI 0, pi', vc', ec', F', T', X', Z'), (m_now 0, upd (upd m_now 0 a1) 1 0, sav', s, m_err), ?_, ?_, hM.1.symm, c4, c6 _ ⟨rfl, rfl, fun e he => absurd he (by rw [nI_toInt (by omega)]; omega)⟩, c5, hS, hR, c3⟩
    · unfold pX5_reset pX2_clear
      rw [if_neg (show ¬ a1 < (1 : Int32) by rw [Int32.lt_iff_toInt_lt, show (1 : Int32).toInt = 1 from rfl]; omega), if_pos (show a1 ≤ (6 : Int32) by rw [Int32.le_iff_toInt_le, show (6 : Int32).toInt = 6 from rfl]; omega), kb_s]
      show kb (pX5_commitDraft _ _ _ _ _ _ _ _ _ a1 (nI 0) _ _ _ _ _ _ _ _ _ _ _) _ = _
      rw [c1, kb_s]
      rfl
    · unfold pX6_reset; rw [h1, kb_s, if_neg (by decide), c2, kb_s]; rfl
theorem undo_loop {s : Nat} (hs : s < 5) (sav : Nat → Int32) : ∀ (m k n : Nat) (t : Nat → Int32), k + m = 50 → m < n → (∀ i, i < k → t i = sav (50 * s + i)) → ∃ t', pX6_undo_L26 n (nI k) t sav (nI s) = some (nI 50, t') ∧ ∀ i, i < 50 → t' i = sav (50 * s + i) := by
  intro m
  induction m with
  | zero =>
    intro k n t hk hn ha
    obtain ⟨n, rfl⟩ : ∃ k, n = k + 1 := ⟨n - 1, by omega⟩
    have hk : k = 50 := hk
    subst hk
    exact ⟨t, by rw [pX6_undo_L26, if_pos (by decide)], ha⟩
  | succ m ih =>
    intro k n t hk hn ha
    obtain ⟨n, rfl⟩ : ∃ k, n = k + 1 := ⟨n - 1, by omega⟩
    rw [pX6_undo_L26, if_neg (show ¬ (50 : Int32) ≤ nI k from nI_ge (a := k) (b := 50) (by omega) (by omega)), nI_mulc 50 (show (50 : Int32) = nI 50 from rfl), nI_add, kin_nI (by omega) (by omega), kin_nI (by omega) (by omega), c_nI (by omega), c_nI (by omega), nI_1]
    simp only [kgd_tt]
    refine ih (k + 1) n _ (by omega) (by omega) (fun i hi => ?_)
    by_cases z : i = k
    · subst z; exact upd_eq2
    · rw [upd_ne2 z]; exact ha i (by omega)
theorem sim_undo  (t_scn : Int32) (r_er : Nat → Int32) (g_vc : Int32) (g_ec : Int32) (g_F : Nat → Int32) (g_T : Nat → Int32) (g_X : Nat → Int32) (g_Z : Nat → Int32) (v_pi : Nat → Nat) (v_vc : Nat → Int32) (v_ec : Nat → Int32) (v_F : Nat → Nat → Int32) (v_T : Nat → Nat → Int32) (v_X : Nat → Nat → Int32) (v_Z : Nat → Nat → Int32) (e_cn : Nat → Int32) (e_M : Nat → Nat → Int32) (s_fi : Int32) (s_ta : Int32) (s_st : Nat → Int32) (s_qu : Nat → Int32) (m_now : Nat → Int32) (m_sav : Nat → Int32) (m_sc : Int32) (m_err : Nat → Int32) (h : Rel t_scn r_er g_vc g_ec g_F g_T g_X g_Z v_pi v_vc v_ec v_F v_T v_X v_Z e_cn e_M s_fi s_ta s_st s_qu m_now m_sav m_sc m_err) : ∃ (o : Int32 × (Nat → Int32) × (Nat → Nat → Int32) × Int32 × (Nat → Int32) × Int32 × Int32 × (Nat → Int32) × (Nat → Int32) × (Nat → Int32) × (Nat → Int32)) (o' : Int32 × (Nat → Int32) × Int32 × (Nat → Int32)), pX5_undo e_cn e_M t_scn r_er g_vc g_ec g_F g_T g_X g_Z v_pi v_vc v_ec v_F v_T v_X v_Z = some o ∧ pX6_undo m_now m_sav m_sc m_err = some o' ∧ o.1 = o'.1 ∧ Rel o.2.2.2.1 o.2.2.2.2.1 o.2.2.2.2.2.1 o.2.2.2.2.2.2.1 o.2.2.2.2.2.2.2.1 o.2.2.2.2.2.2.2.2.1 o.2.2.2.2.2.2.2.2.2.1 o.2.2.2.2.2.2.2.2.2.2 v_pi v_vc v_ec v_F v_T v_X v_Z o.2.1 o.2.2.1 s_fi s_ta s_st s_qu o'.2.1 m_sav o'.2.2.1 o'.2.2.2 := by
  obtain ⟨hG, hM, hE, hS, hR, hV⟩ := h
  obtain ⟨ne, hne, rfl⟩ := hG.ne
  obtain ⟨rfl, v1, v2, q, hq, rfl, v3⟩ := hV
  by_cases hq0 : q = 0
  · subst hq0
    refine ⟨(-7, e_cn, e_M, nI 0, upd r_er 5 (r_er 5 + 1), g_vc, nI ne, g_F, g_T, g_X, g_Z), (-7, m_now, nI 0, upd m_err 5 (m_err 5 + 1)), ?_, ?_, rfl, hG, hM, hE, hS, RI_up hR 5 (by omega), rfl, v1, v2, 0, by omega, rfl, v3⟩
    · unfold pX5_undo; rw [if_neg (by decide), fail_7, kb_s]
    · unfold pX6_undo; rw [if_pos (by rfl), error_7, kb_s]
  · obtain ⟨s, rfl⟩ : ∃ s, q = s + 1 := ⟨q - 1, by omega⟩
    obtain ⟨g1, g2⟩ := v3 s (by omega)
    obtain ⟨nd, hnd, hnd2⟩ := g1.ne
    obtain ⟨t', u1, u2⟩ := undo_loop (show s < 5 by omega) m_sav 50 0 KF m_now (by omega) (by unfold KF; omega) (fun i hi => absurd hi (Nat.not_lt_zero _))
    rw [hnd2] at g1 g2
    have hD := g1.congr hnd (F' := cpy (v_F (v_pi s)) g_F nd) (T' := cpy (v_T (v_pi s)) g_T nd) (X' := cpy (v_X (v_pi s)) g_X nd) (Z' := cpy (v_Z (v_pi s)) g_Z nd) (fun e he => cpy_lt he) (fun e he => cpy_lt he) (fun e he => cpy_lt he) (fun e he => cpy_lt he)
    obtain ⟨cn', E', f1, f2⟩ := listAll_s hnd hD e_cn e_M
    refine ⟨(nI s, cn', E', nI s, r_er, v_vc (v_pi s), nI nd, cpy (v_F (v_pi s)) g_F nd, cpy (v_T (v_pi s)) g_T nd, cpy (v_X (v_pi s)) g_X nd, cpy (v_Z (v_pi s)) g_Z nd), (nI s, t', nI s, m_err), ?_, ?_, rfl, hD, ?_, f2, hS, hR, rfl, v1, v2, s, by omega, rfl, fun i hi => v3 i (by omega)⟩
    · unfold pX5_undo
      rw [if_pos (show (1 : Int32) ≤ nI (s + 1) from nI_le (a := 1) (by omega) (by omega)), nI_pred, kin_nI (show s < 5 by omega) (by omega), kgd_tt, c_nI (by omega), decide_eq_true (v1 s (by omega)), kgd_tt, hnd2, copyFrom_s hnd, kb_s]
      simp only []
      rw [f1, kb_s]
    · unfold pX6_undo
      rw [if_neg (nI_ne0 (by omega) (by omega)), nI_pred, show (0 : Int32) = nI 0 from rfl, u1, kb_s]
    · exact (g2.move hnd (fun l hl => by rw [Nat.zero_add]; exact u2 l hl)).congr hnd (fun e he => cpy_lt he) (fun e he => cpy_lt he) (fun e he => cpy_lt he) (fun e he => cpy_lt he)
theorem nI_bnd {k : Nat} {vc : Int32} (hk : (k : Int) < vc.toInt) (hk6 : k < 6) : 0 ≤ (nI k).toInt ∧ (nI k).toInt < vc.toInt := by
  rw [nI_toInt (by omega)]; omega
theorem sim_addEdge (a1 : Int32) (a2 : Int32) (a3 : Int32) (a4 : Int32) (t_scn : Int32) (r_er : Nat → Int32) (g_vc : Int32) (g_ec : Int32) (g_F : Nat → Int32) (g_T : Nat → Int32) (g_X : Nat → Int32) (g_Z : Nat → Int32) (d_vc : Int32) (d_ec : Int32) (d_F : Nat → Int32) (d_T : Nat → Int32) (d_X : Nat → Int32) (d_Z : Nat → Int32) (v_pi : Nat → Nat) (v_vc : Nat → Int32) (v_ec : Nat → Int32) (v_F : Nat → Nat → Int32) (v_T : Nat → Nat → Int32) (v_X : Nat → Nat → Int32) (v_Z : Nat → Nat → Int32) (e_cn : Nat → Int32) (e_M : Nat → Nat → Int32) (s_fi : Int32) (s_ta : Int32) (s_st : Nat → Int32) (s_qu : Nat → Int32) (m_now : Nat → Int32) (m_sav : Nat → Int32) (m_sc : Int32) (m_err : Nat → Int32) (h : Rel t_scn r_er g_vc g_ec g_F g_T g_X g_Z v_pi v_vc v_ec v_F v_T v_X v_Z e_cn e_M s_fi s_ta s_st s_qu m_now m_sav m_sc m_err) : ∃ (o : Int32 × (Nat → Int32) × (Nat → Nat → Int32) × Int32 × (Nat → Int32) × Int32 × Int32 × (Nat → Int32) × (Nat → Int32) × (Nat → Int32) × (Nat → Int32) × Int32 × Int32 × (Nat → Int32) × (Nat → Int32) × (Nat → Int32) × (Nat → Int32) × (Nat → Nat) × (Nat → Int32) × (Nat → Int32) × (Nat → Nat → Int32) × (Nat → Nat → Int32) × (Nat → Nat → Int32) × (Nat → Nat → Int32)) (o' : Int32 × (Nat → Int32) × (Nat → Int32) × Int32 × (Nat → Int32)), pX5_addEdge a1 a2 a3 a4 e_cn e_M t_scn r_er g_vc g_ec g_F g_T g_X g_Z d_vc d_ec d_F d_T d_X d_Z v_pi v_vc v_ec v_F v_T v_X v_Z = some o ∧ pX6_addEdge a1 a2 a3 a4 m_now m_sav m_sc m_err = some o' ∧ o.1 = o'.1 ∧ Rel o.2.2.2.1 o.2.2.2.2.1 o.2.2.2.2.2.1 o.2.2.2.2.2.2.1 o.2.2.2.2.2.2.2.1 o.2.2.2.2.2.2.2.2.1 o.2.2.2.2.2.2.2.2.2.1 o.2.2.2.2.2.2.2.2.2.2.1 o.2.2.2.2.2.2.2.2.2.2.2.2.2.2.2.2.2.1 o.2.2.2.2.2.2.2.2.2.2.2.2.2.2.2.2.2.2.1 o.2.2.2.2.2.2.2.2.2.2.2.2.2.2.2.2.2.2.2.1 o.2.2.2.2.2.2.2.2.2.2.2.2.2.2.2.2.2.2.2.2.1 o.2.2.2.2.2.2.2.2.2.2.2.2.2.2.2.2.2.2.2.2.2.1 o.2.2.2.2.2.2.2.2.2.2.2.2.2.2.2.2.2.2.2.2.2.2.1 o.2.2.2.2.2.2.2.2.2.2.2.2.2.2.2.2.2.2.2.2.2.2.2 o.2.1 o.2.2.1 s_fi s_ta s_st s_qu o'.2.1 o'.2.2.1 o'.2.2.2.1 o'.2.2.2.2 := by
  obtain ⟨hG, hM, hE, hS, hR, hV⟩ := h
  obtain ⟨ne, hne, rfl⟩ := hG.ne
  rcases D_isVertex hG hM a1 with ⟨h1, h2⟩ | ⟨k, rfl, hk, hk6, h1, h2⟩
  · refine ⟨(-2, e_cn, e_M, t_scn, upd r_er 0 (r_er 0 + 1), g_vc, nI ne, g_F, g_T, g_X, g_Z, d_vc, d_ec, d_F, d_T, d_X, d_Z, v_pi, v_vc, v_ec, v_F, v_T, v_X, v_Z), (-2, m_now, m_sav, m_sc, upd m_err 0 (m_err 0 + 1)), ?_, ?_, rfl, hG, hM, hE, hS, RI_up hR 0 (by omega), hV⟩
    · unfold pX5_addEdge; rw [h1, kb_s, if_pos rfl, fail_2, kb_s]
    · unfold pX6_addEdge; rw [h2, kb_s, if_pos rfl, error_2, kb_s]
  rcases D_isVertex hG hM a2 with ⟨i1, i2⟩ | ⟨l, rfl, hl, hl6, i1, i2⟩
  · refine ⟨(-2, e_cn, e_M, t_scn, upd r_er 0 (r_er 0 + 1), g_vc, nI ne, g_F, g_T, g_X, g_Z, d_vc, d_ec, d_F, d_T, d_X, d_Z, v_pi, v_vc, v_ec, v_F, v_T, v_X, v_Z), (-2, m_now, m_sav, m_sc, upd m_err 0 (m_err 0 + 1)), ?_, ?_, rfl, hG, hM, hE, hS, RI_up hR 0 (by omega), hV⟩
    · unfold pX5_addEdge; rw [h1, kb_s, if_neg (by decide), i1, kb_s, if_pos rfl, fail_2, kb_s]
    · unfold pX6_addEdge; rw [h2, kb_s, if_neg (by decide), i2, kb_s, if_pos rfl, error_2, kb_s]
  rcases D_isShift a3 a4 with ⟨j2, j1⟩ | ⟨j2, j1, j3, j4, j5⟩
  · refine ⟨(-2, e_cn, e_M, t_scn, upd r_er 0 (r_er 0 + 1), g_vc, nI ne, g_F, g_T, g_X, g_Z, d_vc, d_ec, d_F, d_T, d_X, d_Z, v_pi, v_vc, v_ec, v_F, v_T, v_X, v_Z), (-2, m_now, m_sav, m_sc, upd m_err 0 (m_err 0 + 1)), ?_, ?_, rfl, hG, hM, hE, hS, RI_up hR 0 (by omega), hV⟩
    · unfold pX5_addEdge; rw [h1, kb_s, if_neg (by decide), i1, kb_s, if_neg (by decide)]
      rcases j1 with j1 | ⟨j1, j3⟩
      · rw [j1, kb_s, if_pos rfl, fail_2, kb_s]
      · rw [j1, kb_s, if_neg (by decide), j3, kb_s, if_pos rfl, fail_2, kb_s]
    · unfold pX6_addEdge; rw [h2, kb_s, if_neg (by decide), i2, kb_s, if_neg (by decide), j2, kb_s, if_pos rfl, error_2, kb_s]
  by_cases hz : nI k = nI l ∧ a3 = 0 ∧ a4 = 0
  · obtain ⟨z1, z2, z3⟩ := hz
    refine ⟨(-2, e_cn, e_M, t_scn, upd r_er 0 (r_er 0 + 1), g_vc, nI ne, g_F, g_T, g_X, g_Z, d_vc, d_ec, d_F, d_T, d_X, d_Z, v_pi, v_vc, v_ec, v_F, v_T, v_X, v_Z), (-2, m_now, m_sav, m_sc, upd m_err 0 (m_err 0 + 1)), ?_, ?_, rfl, hG, hM, hE, hS, RI_up hR 0 (by omega), hV⟩
    · unfold pX5_addEdge; rw [h1, kb_s, if_neg (by decide), i1, kb_s, if_neg (by decide), j1, kb_s, if_neg (by decide), j3, kb_s, if_neg (by decide), if_pos z1, if_pos z2, if_pos z3, fail_2, kb_s]
    · unfold pX6_addEdge; rw [h2, kb_s, if_neg (by decide), i2, kb_s, if_neg (by decide), j2, kb_s, if_neg (by decide), if_pos z1, if_pos z2, if_pos z3, error_2, kb_s]
  obtain ⟨r, f1, f2, f3⟩ := D_find hG hne hM (nI k) (nI l) a3 a4
  rcases f3 with ⟨rfl, f3⟩ | ⟨f, hf, rfl⟩
  · by_cases hfull : ne < 12
    · have hD : GI g_vc (nI (ne + 1)) (upd (cpy g_F d_F ne) ne (nI k)) (upd (cpy g_T d_T ne) ne (nI l)) (upd (cpy g_X d_X ne) ne a3) (upd (cpy g_Z d_Z ne) ne a4) := hG.add hfull (nI_bnd hk hk6) (nI_bnd hl hl6) j4 j5 hz f3 (fun e he => ⟨(upd_ne2 (by omega)).trans (cpy_lt he), (upd_ne2 (by omega)).trans (cpy_lt he), (upd_ne2 (by omega)).trans (cpy_lt he), (upd_ne2 (by omega)).trans (cpy_lt he)⟩) ⟨upd_eq2, upd_eq2, upd_eq2, upd_eq2⟩
      obtain ⟨cn', E', s, F1, T1, X1, Z1, pi', vc', ec', F', T', X', Z', sav', c1, c2, c3, c4, c5, c6⟩ := commit_s hV hne hG hM (by omega) hD e_cn e_M
      obtain ⟨W, hW⟩ : ∃ W : Nat → Int32, W = upd (upd (upd (upd (upd m_now (2 + 4 * ne) (nI k)) (2 + 4 * ne + 1) (nI l)) (2 + 4 * ne + 2) a3) (2 + 4 * ne + 3) a4) 1 (nI (ne + 1)) := ⟨_, rfl⟩
      have w0 : W 0 = g_vc := by
        rw [hW, upd_ne2 (by omega), upd_ne2 (by omega), upd_ne2 (by omega), upd_ne2 (by omega), upd_ne2 (by omega)]; exact hM.1
      have w1 : W 1 = nI (ne + 1) := by rw [hW, upd_eq2]
      have wE : ∀ e : Nat, (e : Int) < (nI (ne + 1)).toInt → W (0 + 2 + 4 * e) = upd (cpy g_F d_F ne) ne (nI k) e ∧ W (0 + 2 + 4 * e + 1) = upd (cpy g_T d_T ne) ne (nI l) e ∧ W (0 + 2 + 4 * e + 2) = upd (cpy g_X d_X ne) ne a3 e ∧ W (0 + 2 + 4 * e + 3) = upd (cpy g_Z d_Z ne) ne a4 e := by
        intro e he
        rw [hW]
        rw [nI_toInt (by omega)] at he
        rw [Nat.zero_add]
        by_cases q : e = ne
        · subst q
          refine ⟨?_, ?_, ?_, ?_⟩
          · rw [upd_ne2 (by omega), upd_ne2 (by omega), upd_ne2 (by omega), upd_ne2 (by omega), upd_eq2, upd_eq2]
          · rw [upd_ne2 (by omega), upd_ne2 (by omega), upd_ne2 (by omega), upd_eq2, upd_eq2]
          · rw [upd_ne2 (by omega), upd_ne2 (by omega), upd_eq2, upd_eq2]
          · rw [upd_ne2 (by omega), upd_eq2, upd_eq2]
        · have he' : e < ne := by omega
          obtain ⟨p1, p2, p3, p4⟩ := hM.2.2 e (by rw [nI_toInt (by omega)]; omega)
          rw [Nat.zero_add] at p1 p2 p3 p4
          refine ⟨?_, ?_, ?_, ?_⟩
          · rw [upd_ne2 (by omega), upd_ne2 (by omega), upd_ne2 (by omega), upd_ne2 (by omega), upd_ne2 (by omega), upd_ne2 q, cpy_lt he']; exact p1
          · rw [upd_ne2 (by omega), upd_ne2 (by omega), upd_ne2 (by omega), upd_ne2 (by omega), upd_ne2 (by omega), upd_ne2 q, cpy_lt he']; exact p2
          · rw [upd_ne2 (by omega), upd_ne2 (by omega), upd_ne2 (by omega), upd_ne2 (by omega), upd_ne2 (by omega), upd_ne2 q, cpy_lt he']; exact p3
          · rw [upd_ne2 (by omega), upd_ne2 (by omega), upd_ne2 (by omega), upd_ne2 (by omega), upd_ne2 (by omega), upd_ne2 q, cpy_lt he']; exact p4
      refine ⟨(nI ne, cn', E', s, r_er, g_vc, nI (ne + 1), F1, T1, X1, Z1, g_vc, nI (ne + 1), upd (cpy g_F d_F ne) ne (nI k), upd (cpy g_T d_T ne) ne (nI l), upd (cpy g_X d_X ne) ne a3, upd (cpy g_Z d_Z ne) ne a4, pi', vc', ec', F', T', X', Z'), (nI ne, W, sav', s, m_err), ?_, ?_, rfl, c4, c6 _ ⟨w0, w1, wE⟩, c5, hS, hR, c3⟩
      · unfold pX5_addEdge; rw [h1, kb_s, if_neg (by decide), i1, kb_s, if_neg (by decide), j1, kb_s, if_neg (by decide), j3, kb_s, if_neg (by decide), if3 hz]
        unfold pX5_addEdge_J59
        rw [f1, kb_s, if_pos rfl, if_pos (show nI ne < (12 : Int32) from nI_lt (b := 12) hfull (by omega)), copyFrom_s hne, kb_s]
        simp only []
        rw [append_s hfull, kb_s]
        simp only []
        rw [c1, kb_s]
        simp only []
        rw [nI_pred]
      · unfold pX6_addEdge; rw [h2, kb_s, if_neg (by decide), i2, kb_s, if_neg (by decide), j2, kb_s, if_neg (by decide), if3 hz, f2, kb_s, if_pos rfl, show kin 1 50 = true from rfl]
        have q1 : m_now (1 : Int32).toNatClampNeg = nI ne := hM.2.1
        have q3 : (3 : Int32) = nI 3 := rfl
        have q2 : (2 : Int32) = nI 2 := rfl
        rw [q1, if_neg (fun e => by have := nI_inj (b := 12) (by omega) (by omega) e; omega), c2, kb_s, nI_mulc 4 (show (4 : Int32) = nI 4 from rfl), q2, nI_add, nI_1, q3, nI_add, nI_add, kin_nI (by omega) (by omega), kin_nI (by omega) (by omega), kin_nI (by omega) (by omega), kin_nI (by omega) (by omega), c_nI (by omega), c_nI (by omega), c_nI (by omega), c_nI (by omega)]
        simp only [kgd_tt]
        have q5 : upd (upd (upd (upd m_now (2 + 4 * ne) (nI k)) (2 + 4 * ne + 1) (nI l)) (2 + 4 * ne + 2) a3) (2 + 4 * ne + 3) a4 (1 : Int32).toNatClampNeg = nI ne := by
          rw [show (1 : Int32).toNatClampNeg = 1 from rfl, upd_ne2 (by omega), upd_ne2 (by omega), upd_ne2 (by omega), upd_ne2 (by omega)]
          exact hM.2.1
        rw [q5, nI_1]
        show some ((upd _ 1 (nI (ne + 1)) 1 - 1), _) = _
        rw [upd_eq2, nI_pred, hW]
        rfl
    · have h12 : nI ne = 12 := by rw [show ne = 12 by omega]; rfl
      refine ⟨(-4, e_cn, e_M, t_scn, upd r_er 2 (r_er 2 + 1), g_vc, nI ne, g_F, g_T, g_X, g_Z, d_vc, d_ec, d_F, d_T, d_X, d_Z, v_pi, v_vc, v_ec, v_F, v_T, v_X, v_Z), (-4, m_now, m_sav, m_sc, upd m_err 2 (m_err 2 + 1)), ?_, ?_, rfl, hG, hM, hE, hS, RI_up hR 2 (by omega), hV⟩
      · unfold pX5_addEdge; rw [h1, kb_s, if_neg (by decide), i1, kb_s, if_neg (by decide), j1, kb_s, if_neg (by decide), j3, kb_s, if_neg (by decide), if3 hz]
        unfold pX5_addEdge_J59
        rw [f1, kb_s, if_pos rfl, if_neg (by rw [h12]; decide), fail_4, kb_s]
      · unfold pX6_addEdge; rw [h2, kb_s, if_neg (by decide), i2, kb_s, if_neg (by decide), j2, kb_s, if_neg (by decide), if3 hz, f2, kb_s, if_pos rfl, show kin 1 50 = true from rfl, kgd_tt, if_pos (show m_now (1 : Int32).toNatClampNeg = 12 from hM.2.1.trans h12), error_4, kb_s]
  · refine ⟨(-3, e_cn, e_M, t_scn, upd r_er 1 (r_er 1 + 1), g_vc, nI ne, g_F, g_T, g_X, g_Z, d_vc, d_ec, d_F, d_T, d_X, d_Z, v_pi, v_vc, v_ec, v_F, v_T, v_X, v_Z), (-3, m_now, m_sav, m_sc, upd m_err 1 (m_err 1 + 1)), ?_, ?_, rfl, hG, hM, hE, hS, RI_up hR 1 (by omega), hV⟩
    · unfold pX5_addEdge; rw [h1, kb_s, if_neg (by decide), i1, kb_s, if_neg (by decide), j1, kb_s, if_neg (by decide), j3, kb_s, if_neg (by decide), if3 hz]
      unfold pX5_addEdge_J59
      rw [f1, kb_s, if_neg (nI_m1 (by omega)), fail_3, kb_s]
    · unfold pX6_addEdge; rw [h2, kb_s, if_neg (by decide), i2, kb_s, if_neg (by decide), j2, kb_s, if_neg (by decide), if3 hz, f2, kb_s, if_neg (nI_m1 (by omega)), error_3, kb_s]
