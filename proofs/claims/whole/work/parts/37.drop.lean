/-! removeEdge -/
def DR (F F' : Nat → Int32) (d e : Nat) : Prop := ∀ j, F' j = if d ≤ j ∧ j + 1 < e then F (j + 1) else F j
theorem DR.up {F F' : Nat → Int32} {d e : Nat} (h : DR F F' d (e + 1)) (hd : d ≤ e) : DR F (upd F' e (F' (e + 1))) d (e + 1 + 1) := by
  intro j
  by_cases q : j = e
  · subst q
    rw [upd_eq2, h, if_neg (by omega), if_pos (by omega)]
  · rw [upd_ne2 q, h]
    by_cases z : d ≤ j ∧ j + 1 < e + 1
    · rw [if_pos z, if_pos (by omega)]
    · rw [if_neg z, if_neg (by omega)]
theorem DR.z (F : Nat → Int32) (d : Nat) : DR F F d (d + 1) := fun j => by rw [if_neg (by omega)]
theorem drop_loop {ne d : Nat} (hne : ne ≤ 12) (F T X Z : Nat → Int32) : ∀ (m e n : Nat) (F' T' X' Z' : Nat → Int32), e + m = ne → d < e → m < n → DR F F' d e → DR T T' d e → DR X X' d e → DR Z Z' d e → ∃ F1 T1 X1 Z1, pX2_dropEdge_L4 n (nI e) (nI ne) F' T' X' Z' = some (nI ne, F1, T1, X1, Z1) ∧ DR F F1 d ne ∧ DR T T1 d ne ∧ DR X X1 d ne ∧ DR Z Z1 d ne := by
  intro m
  induction m with
  | zero =>
    intro e n F' T' X' Z' he hd hn a b c f
    obtain ⟨n, rfl⟩ : ∃ k, n = k + 1 := ⟨n - 1, by omega⟩
    have he : e = ne := he
    subst he
    exact ⟨F', T', X', Z', by rw [pX2_dropEdge_L4, if_pos (nI_le (Nat.le_refl _) (by omega))], a, b, c, f⟩
  | succ m ih =>
    intro e n F' T' X' Z' he hd hn a b c f
    obtain ⟨n, rfl⟩ : ∃ k, n = k + 1 := ⟨n - 1, by omega⟩
    obtain ⟨e, rfl⟩ : ∃ j, e = j + 1 := ⟨e - 1, by omega⟩
    rw [pX2_dropEdge_L4, if_neg (nI_ge (by omega) (by omega)), kin_nI (show e + 1 < 12 by omega) (by omega), c_nI (by omega), nI_pred]
    unfold pX2_setEdge
    rw [kin_nI (show e < 12 by omega) (by omega), c_nI (by omega), nI_1]
    simp only [kgd_tt, kb_s]
    exact ih (e + 1 + 1) n _ _ _ _ (by omega) (by omega) (by omega) (a.up (by omega)) (b.up (by omega)) (c.up (by omega)) (f.up (by omega))
theorem mdrop_loop {nd d : Nat} (hnd : nd < 12) (w : Nat → Int32) (hw : w 1 = nI nd) : ∀ (m l n : Nat) (t : Nat → Int32), l + m = 4 * nd → 4 * d ≤ l → m < n → (∀ j, t j = if 2 + 4 * d ≤ j ∧ j < 2 + l then w (j + 4) else w j) → ∃ t', pX6_removeEdge_L41 n (nI l) t = some (nI (4 * nd), t') ∧ ∀ j, t' j = if 2 + 4 * d ≤ j ∧ j < 2 + 4 * nd then w (j + 4) else w j := by
  intro m
  induction m with
  | zero =>
    intro l n t he hd hn a
    obtain ⟨n, rfl⟩ : ∃ k, n = k + 1 := ⟨n - 1, by omega⟩
    have he : l = 4 * nd := he
    have h1 : t (1 : Int32).toNatClampNeg = nI nd := by rw [show (1 : Int32).toNatClampNeg = 1 from rfl, a, if_neg (by omega), hw]
    refine ⟨t, ?_, by rw [he] at a; exact a⟩
    rw [pX6_removeEdge_L41, show kin 1 50 = true from rfl, kgd_tt, h1, nI_mulc 4 (show (4 : Int32) = nI 4 from rfl), he, if_pos (nI_le (Nat.le_refl _) (by omega))]
  | succ m ih =>
    intro l n t he hd hn a
    obtain ⟨n, rfl⟩ : ∃ k, n = k + 1 := ⟨n - 1, by omega⟩
    have h1 : t (1 : Int32).toNatClampNeg = nI nd := by rw [show (1 : Int32).toNatClampNeg = 1 from rfl, a, if_neg (by omega), hw]
    rw [pX6_removeEdge_L41, show kin 1 50 = true from rfl, kgd_tt, h1, nI_mulc 4 (show (4 : Int32) = nI 4 from rfl), if_neg (nI_ge (by omega) (by omega)), show (2 : Int32) = nI 2 from rfl, show (4 : Int32) = nI 4 from rfl, nI_add, nI_add, kin_nI (by omega) (by omega), kin_nI (by omega) (by omega), c_nI (by omega), c_nI (by omega), nI_1]
    simp only [kgd_tt]
    refine ih (l + 1) n _ (by omega) (by omega) (by omega) (fun j => ?_)
    by_cases q : j = 2 + l
    · subst q
      rw [upd_eq2, a, if_neg (by omega), if_pos (by omega)]
    · rw [upd_ne2 q, a]
      by_cases z : 2 + 4 * d ≤ j ∧ j < 2 + l
      · rw [if_pos z, if_pos (by omega)]
      · rw [if_neg z, if_neg (by omega)]
theorem DR.at {F F' G : Nat → Int32} {d ne : Nat} (h : DR F F' d ne) (hF : ∀ j, j < ne → F j = G j) {j : Nat} (hj : j + 1 < ne) : F' j = G (if d ≤ j then j + 1 else j) := by
  rw [h]
  by_cases z : d ≤ j
  · rw [if_pos ⟨z, hj⟩, if_pos z, hF _ hj]
  · rw [if_neg (fun c => z c.1), if_neg z, hF _ (by omega)]
theorem sim_removeEdge (a1 : Int32) (t_scn : Int32) (r_er : Nat → Int32) (g_vc : Int32) (g_ec : Int32) (g_F : Nat → Int32) (g_T : Nat → Int32) (g_X : Nat → Int32) (g_Z : Nat → Int32) (d_vc : Int32) (d_ec : Int32) (d_F : Nat → Int32) (d_T : Nat → Int32) (d_X : Nat → Int32) (d_Z : Nat → Int32) (v_pi : Nat → Nat) (v_vc : Nat → Int32) (v_ec : Nat → Int32) (v_F : Nat → Nat → Int32) (v_T : Nat → Nat → Int32) (v_X : Nat → Nat → Int32) (v_Z : Nat → Nat → Int32) (e_cn : Nat → Int32) (e_M : Nat → Nat → Int32) (s_fi : Int32) (s_ta : Int32) (s_st : Nat → Int32) (s_qu : Nat → Int32) (m_now : Nat → Int32) (m_sav : Nat → Int32) (m_sc : Int32) (m_err : Nat → Int32) (h : Rel t_scn r_er g_vc g_ec g_F g_T g_X g_Z v_pi v_vc v_ec v_F v_T v_X v_Z e_cn e_M s_fi s_ta s_st s_qu m_now m_sav m_sc m_err) : ∃ (o : Int32 × (Nat → Int32) × (Nat → Nat → Int32) × Int32 × (Nat → Int32) × Int32 × Int32 × (Nat → Int32) × (Nat → Int32) × (Nat → Int32) × (Nat → Int32) × Int32 × Int32 × (Nat → Int32) × (Nat → Int32) × (Nat → Int32) × (Nat → Int32) × (Nat → Nat) × (Nat → Int32) × (Nat → Int32) × (Nat → Nat → Int32) × (Nat → Nat → Int32) × (Nat → Nat → Int32) × (Nat → Nat → Int32)) (o' : Int32 × (Nat → Int32) × (Nat → Int32) × Int32 × (Nat → Int32)), pX5_removeEdge a1 e_cn e_M t_scn r_er g_vc g_ec g_F g_T g_X g_Z d_vc d_ec d_F d_T d_X d_Z v_pi v_vc v_ec v_F v_T v_X v_Z = some o ∧ pX6_removeEdge a1 m_now m_sav m_sc m_err = some o' ∧ o.1 = o'.1 ∧ Rel o.2.2.2.1 o.2.2.2.2.1 o.2.2.2.2.2.1 o.2.2.2.2.2.2.1 o.2.2.2.2.2.2.2.1 o.2.2.2.2.2.2.2.2.1 o.2.2.2.2.2.2.2.2.2.1 o.2.2.2.2.2.2.2.2.2.2.1 o.2.2.2.2.2.2.2.2.2.2.2.2.2.2.2.2.2.1 o.2.2.2.2.2.2.2.2.2.2.2.2.2.2.2.2.2.2.1 o.2.2.2.2.2.2.2.2.2.2.2.2.2.2.2.2.2.2.2.1 o.2.2.2.2.2.2.2.2.2.2.2.2.2.2.2.2.2.2.2.2.1 o.2.2.2.2.2.2.2.2.2.2.2.2.2.2.2.2.2.2.2.2.2.1 o.2.2.2.2.2.2.2.2.2.2.2.2.2.2.2.2.2.2.2.2.2.2.1 o.2.2.2.2.2.2.2.2.2.2.2.2.2.2.2.2.2.2.2.2.2.2.2 o.2.1 o.2.2.1 s_fi s_ta s_st s_qu o'.2.1 o'.2.2.1 o'.2.2.2.1 o'.2.2.2.2 := by
  obtain ⟨hG, hM, hE, hS, hR, hV⟩ := h
  obtain ⟨ne, hne, rfl⟩ := hG.ne
  have q1 : m_now (1 : Int32).toNatClampNeg = nI ne := hM.2.1
  have hs : (nI ne - 1).toInt = ne - 1 := by rw [i_sub] <;> rw [nI_toInt (by omega), show (1 : Int32).toInt = 1 from rfl] <;> omega
  rcases S_in a1 0 (nI ne - 1) with ⟨h1, h2⟩ | ⟨h1, h2, h3⟩
  · rw [i32_0, hs] at h2
    refine ⟨(-2, e_cn, e_M, t_scn, upd r_er 0 (r_er 0 + 1), g_vc, nI ne, g_F, g_T, g_X, g_Z, d_vc, d_ec, d_F, d_T, d_X, d_Z, v_pi, v_vc, v_ec, v_F, v_T, v_X, v_Z), (-2, m_now, m_sav, m_sc, upd m_err 0 (m_err 0 + 1)), ?_, ?_, rfl, hG, hM, hE, hS, RI_up hR 0 (by omega), hV⟩
    · unfold pX5_removeEdge
      by_cases b : a1 < (0 : Int32)
      · rw [if_pos b, fail_2, kb_s]
      · rw [if_neg b, if_neg, fail_2, kb_s]
        rw [Int32.lt_iff_toInt_lt, i32_0] at b
        rw [Int32.lt_iff_toInt_lt, nI_toInt (by omega)]; omega
    · unfold pX6_removeEdge; rw [show kin 1 50 = true from rfl, kgd_tt, q1, h1, kb_s, if_pos rfl, error_2, kb_s]
  · rw [i32_0] at h2
    rw [hs] at h3
    obtain ⟨d, hd, rfl⟩ : ∃ d, d < ne ∧ a1 = nI d := ⟨a1.toInt.toNat, by omega, i_nat h2⟩
    obtain ⟨nd, rfl⟩ : ∃ k, ne = k + 1 := ⟨ne - 1, by omega⟩
    obtain ⟨F0, T0, X0, Z0, l1, l2, l3, l4, l5⟩ := drop_loop hne (cpy g_F d_F (nd + 1)) (cpy g_T d_T (nd + 1)) (cpy g_X d_X (nd + 1)) (cpy g_Z d_Z (nd + 1)) (nd - d) (d + 1) KF (cpy g_F d_F (nd + 1)) (cpy g_T d_T (nd + 1)) (cpy g_X d_X (nd + 1)) (cpy g_Z d_Z (nd + 1)) (by omega) (by omega) (by unfold KF; omega) (DR.z _ _) (DR.z _ _) (DR.z _ _) (DR.z _ _)
    have b1 : ∀ j, j < nd → F0 j = g_F (if d ≤ j then j + 1 else j) := fun j hj => l2.at (fun i hi => cpy_lt hi) (by omega)
    have b2 : ∀ j, j < nd → T0 j = g_T (if d ≤ j then j + 1 else j) := fun j hj => l3.at (fun i hi => cpy_lt hi) (by omega)
    have b3 : ∀ j, j < nd → X0 j = g_X (if d ≤ j then j + 1 else j) := fun j hj => l4.at (fun i hi => cpy_lt hi) (by omega)
    have b4 : ∀ j, j < nd → Z0 j = g_Z (if d ≤ j then j + 1 else j) := fun j hj => l5.at (fun i hi => cpy_lt hi) (by omega)
    have hD : GI g_vc (nI nd) F0 T0 X0 Z0 := hG.sub hne (by omega) (fun j => if d ≤ j then j + 1 else j) (fun e he => by split <;> omega) (fun e f he => by split <;> split <;> omega) (fun e he => ⟨b1 e he, b2 e he, b3 e he, b4 e he⟩)
    obtain ⟨cn', E', s, F1, T1, X1, Z1, pi', vc', ec', F', T', X', Z', sav', c1, c2, c3, c4, c5, c6⟩ := commit_s hV hne hG hM (by omega) hD e_cn e_M
    obtain ⟨W, u1, u2⟩ := mdrop_loop (d := d) (show nd < 12 by omega) (upd m_now 1 (nI nd)) upd_eq2 (4 * nd - 4 * d) (4 * d) KF (upd m_now 1 (nI nd)) (by omega) (by omega) (by unfold KF; omega) (fun j => by rw [if_neg (by omega)])
    have w1 : W 1 = nI nd := by rw [u2, if_neg (by omega), upd_eq2]
    have w0 : W 0 = g_vc := by rw [u2, if_neg (by omega), upd_ne2 (by omega)]; exact hM.1
    have wE : ∀ e : Nat, (e : Int) < (nI nd).toInt → W (0 + 2 + 4 * e) = F0 e ∧ W (0 + 2 + 4 * e + 1) = T0 e ∧ W (0 + 2 + 4 * e + 2) = X0 e ∧ W (0 + 2 + 4 * e + 3) = Z0 e := by
      intro e he
      rw [nI_toInt (by omega)] at he
      have he' : e < nd := by omega
      rw [b1 e he', b2 e he', b3 e he', b4 e he']
      obtain ⟨p1, p2, p3, p4⟩ := hM.2.2 (if d ≤ e then e + 1 else e) (by rw [nI_toInt (by omega)]; split <;> omega)
      rw [← p1, ← p2, ← p3, ← p4]
      by_cases z : d ≤ e
      · rw [if_pos z]
        refine ⟨?_, ?_, ?_, ?_⟩ <;> rw [u2, if_pos (by omega), upd_ne2 (by omega)] <;> congr 1 <;> omega
      · rw [if_neg z]
        refine ⟨?_, ?_, ?_, ?_⟩ <;> rw [u2, if_neg (by omega), upd_ne2 (by omega)]
    refine ⟨(nI nd, cn', E', s, r_er, g_vc, nI nd, F1, T1, X1, Z1, g_vc, nI nd, F0, T0, X0, Z0, pi', vc', ec', F', T', X', Z'), (nI nd, W, sav', s, m_err), ?_, ?_, rfl, c4, c6 _ ⟨w0, w1, wE⟩, c5, hS, hR, c3⟩
    · unfold pX5_removeEdge
      rw [if_neg (nI_pos (by omega)), if_pos (nI_lt hd (by omega)), copyFrom_s hne, kb_s]
      unfold pX2_dropEdge
      simp only []
      rw [nI_1, l1, kb_s, nI_pred, kb_s]
      simp only []
      rw [c1, kb_s]
    · unfold pX6_removeEdge
      rw [show kin 1 50 = true from rfl, kgd_tt, q1, h1, kb_s, if_neg (by decide), c2, kb_s]
      simp only [kgd_tt]
      rw [nI_pred, nI_mulc 4 (show (4 : Int32) = nI 4 from rfl), show (1 : Int32).toNatClampNeg = 1 from rfl, u1, kb_s, show (nI (4 * nd), W).snd 1 = nI nd from w1]
