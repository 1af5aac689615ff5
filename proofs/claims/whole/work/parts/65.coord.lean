/-! coordinates -/
def PS (u : Nat) (R : Nat → Nat → Int64) (row : Nat → Int64) (s : Int64) : Prop := RM u R row ∧ 0 < s.toInt ∧ s.toInt ≤ 248832 ∧ ∀ r, r < u → (R r u).toInt.natAbs ≤ 1521681143169024 ∧ (R r (u + 1)).toInt.natAbs ≤ 1521681143169024
def zz (R : Nat → Nat → Int64) (u v ax : Nat) : Int64 := if v = 0 then 0 else R (v - 1) (u + ax)
theorem zz_b {u : Nat} {R : Nat → Nat → Int64} {row : Nat → Int64} {s : Int64} (h : PS u R row s) {v ax : Nat} (hv : v ≤ u) (hx : ax < 2) : (zz R u v ax).toInt.natAbs ≤ 1521681143169024 := by
  unfold zz
  by_cases z : v = 0
  · rw [if_pos z, lg0]; decide
  · rw [if_neg z]
    obtain ⟨-, -, -, h4⟩ := h
    obtain ⟨a, b⟩ := h4 (v - 1) (by omega)
    by_cases y : ax = 0
    · rw [y]; exact a
    · rw [show ax = 1 by omega]; exact b
theorem unred_s {u : Nat} {R : Nat → Nat → Int64} {row : Nat → Int64} {s : Int64} (hu : u ≤ 5) (h : PS u R row s) {v ax : Nat} (hv : v ≤ u) (hx : ax < 2) : pX3_unreduced (nI v) (nI ax) R (nI u) = some (zz R u v ax) ∧ pX6_scaled (nI v) (nI ax) row = some (zz R u v ax) := by
  unfold pX3_unreduced pX6_scaled zz
  by_cases z : v = 0
  · subst z
    exact ⟨by rw [if_neg (by decide), if_pos rfl], by rw [if_pos (by rfl), if_pos rfl]⟩
  · obtain ⟨v, rfl⟩ : ∃ k, v = k + 1 := ⟨v - 1, by omega⟩
    obtain ⟨-, p2, p3⟩ := h.1 v (by omega)
    rw [if_pos (show (1 : Int32) ≤ nI (v + 1) from nI_le (a := 1) (by omega) (by omega)), if_neg (nI_ne0 (by omega) (by omega)), if_neg z, nI_pred, nI_add, kin_nI (show v < 5 by omega) (by omega), kin_nI (show u + ax < 7 by omega) (by omega), c_nI (n := v) (by omega), c_nI (n := u + ax) (by omega), Nat.zero_add, decide_eq_true (show v < 5 by omega), show (5 : Int32) = nI 5 from rfl, nI_add, cell_s, kb_s, kin_nI (show 8 * v + (5 + ax) < 56 by omega) (by omega), c_nI (n := 8 * v + (5 + ax)) (by omega)]
    refine ⟨rfl, ?_⟩
    rw [kgd_tt, show v + 1 - 1 = v from rfl]
    by_cases y : ax = 0
    · rw [y, show u + 0 = u from rfl, p2]
    · rw [show ax = 1 by omega, p3]
theorem cmp_le {b : Nat} (hb : b < 2 ^ 63) : lg_cmp (lN b) 0 ≤ 0 ↔ b = 0 := by
  constructor
  · intro h
    apply Classical.byContradiction
    intro hb0
    have hg : lN b > 0 := by
      show (0 : Int64) < lN b
      rw [Int64.lt_iff_toInt_lt, lg0, pk_lT hb]; omega
    unfold lg_cmp at h
    rw [if_pos hg] at h
    exact absurd h (by decide)
  · intro h
    subst h
    decide
theorem gdc_loop : ∀ (P n a b : Nat), P < n → a < 2 ^ 62 → b < a → a * b < 2 ^ P → ∃ l, pX6_common_L17 n (lN a) (lN b) = some (lN (Nat.gcd a b), l) := by
  intro P
  induction P with
  | zero =>
    intro n a b hn ha hba hP
    obtain ⟨n, rfl⟩ : ∃ k, n = k + 1 := ⟨n - 1, by omega⟩
    have hb : b = 0 := by
      rcases Nat.eq_zero_or_pos b with h | h
      · exact h
      · have : 1 * 1 ≤ a * b := Nat.mul_le_mul (by omega) h
        omega
    subst hb
    exact ⟨lN 0, by rw [pX6_common_L17, if_pos ((cmp_le (by omega)).mpr rfl), Nat.gcd_zero_right]⟩
  | succ P ih =>
    intro n a b hn ha hba hP
    obtain ⟨n, rfl⟩ : ∃ k, n = k + 1 := ⟨n - 1, by omega⟩
    by_cases hb : b = 0
    · subst hb
      exact ⟨lN 0, by rw [pX6_common_L17, if_pos ((cmp_le (by omega)).mpr rfl), Nat.gcd_zero_right]⟩
    · have hb0 : lN b ≠ 0 := fun e => hb ((pk_lEQ (b := 0) (by omega) (by omega)).mp e)
      rw [pX6_common_L17, if_neg (fun e => hb ((cmp_le (by omega)).mp e)), decide_eq_true hb0, kgd_tt, pk_lRem (by omega) (by omega) (by omega), gcd_st]
      have := Nat.mod_lt a (Nat.pos_of_ne_zero hb)
      exact ih n b (a % b) (by omega) (by omega) this (half_st hba hb hP)
theorem common_s {z s : Int64} (hz : z.toInt.natAbs < 2 ^ 62) (hs : 0 < s.toInt) (hs2 : s.toInt ≤ 248832) : pX6_common z s = some (lN (Nat.gcd z.toInt.natAbs s.toInt.natAbs)) := by
  unfold pX6_common
  rw [abs_l hz, kb_s]
  obtain ⟨b, hb, hb2⟩ : ∃ b, b = s.toInt.natAbs ∧ s = lN b := ⟨s.toInt.natAbs, rfl, by rw [l_nat (x := s) (by omega)]; congr 1; rw [pk_lT (by omega)]; omega⟩
  rw [← hb]
  rw [hb2]
  have hb0 : lN b ≠ 0 := fun e => by
    have := (pk_lEQ (b := 0) (by omega) (by omega)).mp e
    omega
  obtain ⟨n, hn⟩ : ∃ n, KF = n + 1 := ⟨6999, rfl⟩
  have hm := Nat.mod_lt z.toInt.natAbs (show b > 0 by omega)
  have h2 : b * (z.toInt.natAbs % b) ≤ 248832 * 248832 := Nat.mul_le_mul (by omega) (by omega)
  obtain ⟨l, h⟩ := gdc_loop 63 n b (z.toInt.natAbs % b) (by unfold KF at hn; omega) (by omega) hm (by omega)
  rw [hn, pX6_common_L17, if_neg (fun e => by have := (cmp_le (show b < 2 ^ 63 by omega)).mp e; omega), decide_eq_true hb0, kgd_tt, pk_lRem (by omega) (by omega) (by omega), h, kb_s, ← gcd_st]
/-- numerator and denominator -/
theorem ratio_s {u : Nat} {R : Nat → Nat → Int64} {row : Nat → Int64} {s : Int64} (hu : u ≤ 5) (h : PS u R row s) {v ax : Nat} (hv : v ≤ u) (hx : ax < 2) : ∃ g t b, pX3_top (nI v) (nI ax) R (nI u) s = some t ∧ pX3_bottom (nI v) (nI ax) R (nI u) s = some b ∧ pX6_upper (nI v) (nI ax) row s = some t ∧ pX6_lower (nI v) (nI ax) row s = some b ∧ 0 < g ∧ g = Nat.gcd (zz R u v ax).toInt.natAbs s.toInt.natAbs ∧ t = zz R u v ax / lN g ∧ b = s / lN g := by
  have hz := zz_b h hv hx
  obtain ⟨u1, u2⟩ := unred_s hu h hv hx
  obtain ⟨-, s1, s2, -⟩ := h
  have hg0 : 0 < Nat.gcd (zz R u v ax).toInt.natAbs s.toInt.natAbs := Nat.gcd_pos_of_pos_right _ (by omega)
  have hgl : Nat.gcd (zz R u v ax).toInt.natAbs s.toInt.natAbs ≤ s.toInt.natAbs := Nat.gcd_le_right _ (by omega)
  have hgn : lN (Nat.gcd (zz R u v ax).toInt.natAbs s.toInt.natAbs) ≠ 0 := fun e => by
    have := (pk_lEQ (b := 0) (by omega) (by omega)).mp e
    omega
  have hgd := gd5_s (a := zz R u v ax) (b := s) (by omega) (by omega)
  have hco := common_s (z := zz R u v ax) (by omega) s1 s2
  refine ⟨_, zz R u v ax / lN (Nat.gcd (zz R u v ax).toInt.natAbs s.toInt.natAbs), s / lN (Nat.gcd (zz R u v ax).toInt.natAbs s.toInt.natAbs), ?_, ?_, ?_, ?_, hg0, rfl, rfl, rfl⟩
  · unfold pX3_top pX3_lowered
    rw [u1, kb_s, kb_s, hgd, kb_s, if_neg (fun e => hgn ((cmp_eq _).mp e)), decide_eq_true hgn, kgd_tt, kb_s]
  · unfold pX3_bottom pX3_lowered
    rw [u1, kb_s, hgd, kb_s, if_neg (fun e => hgn ((cmp_eq _).mp e)), decide_eq_true hgn, kgd_tt, kb_s]
  · unfold pX6_upper
    rw [u2, kb_s, kb_s, hco, kb_s, decide_eq_true hgn, kgd_tt]
  · unfold pX6_lower
    rw [u2, kb_s, hco, kb_s, decide_eq_true hgn, kgd_tt]
theorem err0 (now err qx qy met : Nat → Int32) (row : Nat → Int64) (det : Int64) : pX6_placementError 0 now err qx qy met row det = some (-2, upd err 0 (err 0 + 1), qx, qy, met, row, det) := by
  unfold pX6_placementError
  rw [if_pos rfl, error_2, kb_s]
/-- a placement where the graph is in one piece -/
theorem err1 {now : Nat → Int32} {nv ne : Nat} {F T X Z : Nat → Int32} (h1 : 1 ≤ nv) (hnv : nv ≤ 6) (hG : GI (nI nv) (nI ne) F T X Z) (hM : MI now 0 (nI nv) (nI ne) F T X Z) (hne : ne ≤ 12) (re cx cy px py met qx qy err : Nat → Int32) (pn un : Int32) (R0 : Nat → Nat → Int64) (sc det : Int64) (row : Nat → Int64) : ∃ re' cx' cy' px' py' pn' met' qx' qy', (pX5_isOnePiece (nI nv) (nI ne) F T X Z re cx cy px py pn = some (0, re', cx', cy', px', py', pn') ∧ pX6_placementError 1 now err qx qy met row det = some (-6, upd err 4 (err 4 + 1), qx', qy', met', row, det)) ∨ (pX5_isOnePiece (nI nv) (nI ne) F T X Z re cx cy px py pn = some (1, re', cx', cy', px', py', pn') ∧ ∃ R row' s, pX3_solve R0 un sc (nI nv) (nI ne) F T X Z = some (R, nI (nv - 1), s) ∧ pX6_placementError 1 now err qx qy met row det = some (0, err, qx', qy', met', row', s) ∧ PS (nv - 1) R row' s) := by
  obtain ⟨re', cx', cy', px', py', pn', met', qx', qy', r, a1, a2, a3⟩ := piece_s h1 hnv hG hM hne re cx cy px py met qx qy pn
  refine ⟨re', cx', cy', px', py', pn', met', qx', qy', ?_⟩
  rcases a3 with a3 | ⟨a3, a4⟩
  · rw [a3] at a1 a2
    refine Or.inl ⟨a1, ?_⟩
    unfold pX6_placementError
    rw [if_neg (by decide), a2, kb_s, if_pos rfl, error_6, kb_s]
  · rw [a3] at a1 a2
    obtain ⟨R, row', s, b1, b2, b3, b4, b5, b6⟩ := place_s hnv (u := nv - 1) (by omega) hG hM hne a4 R0 un sc row det
    refine Or.inr ⟨a1, R, row', s, b1, ?_, b3, b4, b5, b6⟩
    unfold pX6_placementError
    rw [if_neg (by decide), a2, kb_s, if_neg (show ¬ (1 : Int32) = 0 by decide), b2, kb_s]
theorem D_coord {now : Nat → Int32} {nv ne : Nat} {F T X Z : Nat → Int32} (h1 : 1 ≤ nv) (hnv : nv ≤ 6) (hG : GI (nI nv) (nI ne) F T X Z) (hM : MI now 0 (nI nv) (nI ne) F T X Z) (hne : ne ≤ 12) (a1 a2 : Int32) (re cx cy px py met qx qy err : Nat → Int32) (pn un : Int32) (R0 : Nat → Nat → Int64) (sc det : Int64) (row : Nat → Int64) : ∃ re' cx' cy' px' py' pn' tr o, pX5_placementTrouble a1 a2 (nI nv) (nI ne) F T X Z re cx cy px py pn = some (tr, re', cx', cy', px', py', pn') ∧ (∀ (α : Type) (K : Int32 × (Nat → Int32) × (Nat → Int32) × (Nat → Int32) × (Nat → Int32) × (Nat → Int64) × Int64 → Option α), kb (pX6_isVertex a1 now) (fun v1 => kb ((if v1 = 0 then some 0 else kb (pX6_in a2 0 1) (fun v4 => (if v4 = 0 then some 0 else some 1))) : Option (Int32)) (fun v7 => kb (pX6_placementError v7 now err qx qy met row det) K)) = K o) ∧ ((tr = -2 ∧ o.1 = -2 ∧ o.2.1 = upd err 0 (err 0 + 1)) ∨ (tr = -6 ∧ o.1 = -6 ∧ o.2.1 = upd err 4 (err 4 + 1)) ∨ (tr = 0 ∧ o.1 = 0 ∧ o.2.1 = err ∧ ∃ k ax R s, a1 = nI k ∧ k < nv ∧ a2 = nI ax ∧ ax < 2 ∧ pX3_solve R0 un sc (nI nv) (nI ne) F T X Z = some (R, nI (nv - 1), s) ∧ o.2.2.2.2.2.2 = s ∧ PS (nv - 1) R o.2.2.2.2.2.1 s)) := by
  rcases D_isVertex hG hM a1 with ⟨k1, k2⟩ | ⟨k, rfl, hk, hk6, k1, k2⟩
  · refine ⟨re, cx, cy, px, py, pn, -2, (-2, upd err 0 (err 0 + 1), qx, qy, met, row, det), ?_, fun α K => ?_, Or.inl ⟨rfl, rfl, rfl⟩⟩
    · unfold pX5_placementTrouble; rw [k1, kb_s, if_pos rfl]
    · rw [k2, kb_s, if_pos rfl, kb_s, err0, kb_s]
  rcases S_in a2 0 1 with ⟨g1, g2⟩ | ⟨g1, g2, g3⟩
  · rw [i32_0, show (1 : Int32).toInt = 1 from rfl] at g2
    refine ⟨re, cx, cy, px, py, pn, -2, (-2, upd err 0 (err 0 + 1), qx, qy, met, row, det), ?_, fun α K => ?_, Or.inl ⟨rfl, rfl, rfl⟩⟩
    · unfold pX5_placementTrouble; rw [k1, kb_s, if_neg (by decide)]
      by_cases b : a2 < (0 : Int32)
      · rw [if_pos b]
      · rw [if_neg b, if_neg]
        rw [Int32.lt_iff_toInt_lt, i32_0] at b
        rw [Int32.le_iff_toInt_le, show (1 : Int32).toInt = 1 from rfl]; omega
    · rw [k2, kb_s, if_neg (by decide), g1, kb_s, if_pos rfl, kb_s, err0, kb_s]
  rw [i32_0] at g2
  rw [show (1 : Int32).toInt = 1 from rfl] at g3
  rw [nI_toInt (by omega)] at hk
  have hlt : ¬ a2 < (0 : Int32) := by rw [Int32.lt_iff_toInt_lt, i32_0]; omega
  have hle : a2 ≤ (1 : Int32) := by rw [Int32.le_iff_toInt_le, show (1 : Int32).toInt = 1 from rfl]; omega
  obtain ⟨re', cx', cy', px', py', pn', met', qx', qy', hh⟩ := err1 h1 hnv hG hM hne re cx cy px py met qx qy err pn un R0 sc det row
  rcases hh with ⟨b1, b2⟩ | ⟨b1, R, row', s, b2, b3, b4⟩
  · refine ⟨re', cx', cy', px', py', pn', -6, (-6, upd err 4 (err 4 + 1), qx', qy', met', row, det), ?_, fun α K => ?_, Or.inr (Or.inl ⟨rfl, rfl, rfl⟩)⟩
    · unfold pX5_placementTrouble; rw [k1, kb_s, if_neg (by decide), if_neg hlt, if_pos hle, b1, kb_s, if_pos rfl]
    · rw [k2, kb_s, if_neg (by decide), g1, kb_s, if_neg (by decide), kb_s, b2, kb_s]
  · refine ⟨re', cx', cy', px', py', pn', 0, (0, err, qx', qy', met', row', s), ?_, fun α K => ?_, Or.inr (Or.inr ⟨rfl, rfl, rfl, k, a2.toInt.toNat, R, s, rfl, by omega, i_nat g2, by omega, b2, rfl, b4⟩)⟩
    · unfold pX5_placementTrouble; rw [k1, kb_s, if_neg (by decide), if_neg hlt, if_pos hle, b1, kb_s, if_neg (show ¬ (1 : Int32) = 0 by decide)]
    · rw [k2, kb_s, if_neg (by decide), g1, kb_s, if_neg (by decide), kb_s, b3, kb_s]
theorem n2_0 : ¬ (-2 : Int32) = 0 := by decide
theorem n2_le : ¬ (0 : Int32) ≤ -2 := by decide
theorem n6_le : ¬ (0 : Int32) ≤ -6 := by decide
theorem z_le : (0 : Int32) ≤ 0 := by decide
theorem n6_0 : ¬ (-6 : Int32) = 0 := by decide
theorem sim_numerator (a1 : Int32) (a2 : Int32) (t_scn : Int32) (r_er : Nat → Int32) (g_vc : Int32) (g_ec : Int32) (g_F : Nat → Int32) (g_T : Nat → Int32) (g_X : Nat → Int32) (g_Z : Nat → Int32) (v_pi : Nat → Nat) (v_vc : Nat → Int32) (v_ec : Nat → Int32) (v_F : Nat → Nat → Int32) (v_T : Nat → Nat → Int32) (v_X : Nat → Nat → Int32) (v_Z : Nat → Nat → Int32) (e_cn : Nat → Int32) (e_M : Nat → Nat → Int32) (s_fi : Int32) (s_ta : Int32) (s_st : Nat → Int32) (s_qu : Nat → Int32) (c_re : Nat → Int32) (c_cx : Nat → Int32) (c_cy : Nat → Int32) (c_px : Nat → Int32) (c_py : Nat → Int32) (c_pn : Int32) (p_R : Nat → Nat → Int64) (p_un : Int32) (p_sc : Int64) (m_now : Nat → Int32) (m_sav : Nat → Int32) (m_sc : Int32) (m_err : Nat → Int32) (m_qx : Nat → Int32) (m_qy : Nat → Int32) (m_met : Nat → Int32) (m_row : Nat → Int64) (m_det : Int64) (h : Rel t_scn r_er g_vc g_ec g_F g_T g_X g_Z v_pi v_vc v_ec v_F v_T v_X v_Z e_cn e_M s_fi s_ta s_st s_qu m_now m_sav m_sc m_err) : ∃ (o : Int64 × (Nat → Nat → Int64) × Int32 × Int64 × (Nat → Int32) × (Nat → Int32) × (Nat → Int32) × (Nat → Int32) × (Nat → Int32) × (Nat → Int32) × Int32) (o' : Int64 × (Nat → Int32) × (Nat → Int32) × (Nat → Int32) × (Nat → Int32) × (Nat → Int64) × Int64), pX5_numerator a1 a2 p_R p_un p_sc r_er g_vc g_ec g_F g_T g_X g_Z c_re c_cx c_cy c_px c_py c_pn = some o ∧ pX6_numerator a1 a2 m_now m_err m_qx m_qy m_met m_row m_det = some o' ∧ o.1 = o'.1 ∧ Rel t_scn o.2.2.2.2.1 g_vc g_ec g_F g_T g_X g_Z v_pi v_vc v_ec v_F v_T v_X v_Z e_cn e_M s_fi s_ta s_st s_qu m_now m_sav m_sc o'.2.1 := by
  obtain ⟨hG, hM, hE, hS, hR, hV⟩ := h
  obtain ⟨nv, ne, rfl, rfl, h1, hnv, hne⟩ := hG.n
  obtain ⟨re', cx', cy', px', py', pn', tr, ⟨o1, o2, o3, o4, o5, o6, o7⟩, a1, a2, a3⟩ := D_coord h1 hnv hG hM hne a1 a2 c_re c_cx c_cy c_px c_py m_met m_qx m_qy m_err c_pn p_un p_R p_sc m_det m_row
  have hm : pX6_numerator _ _ m_now m_err m_qx m_qy m_met m_row m_det = _ := a2 _ _
  rcases a3 with ⟨e1, e2, e3⟩ | ⟨e1, e2, e3⟩ | ⟨e1, e2, e3, k, ax, R, s, rfl, hk, rfl, hax, b2, b3, b4⟩
  · dsimp only at e2 e3
    subst e1 e2 e3
    refine ⟨((-2 : Int32).toInt64, p_R, p_un, p_sc, upd r_er 0 (r_er 0 + 1), re', cx', cy', px', py', pn'), ((-2 : Int32).toInt64, upd m_err 0 (m_err 0 + 1), o3, o4, o5, o6, o7), ?_, ?_, rfl, hG, hM, hE, hS, RI_up hR 0 (by omega), hV⟩
    · unfold pX5_numerator; rw [a1, kb_s, if_neg n2_0, fail_2, kb_s]
    · rw [hm]; exact if_neg n2_le
  · dsimp only at e2 e3
    subst e1 e2 e3
    refine ⟨((-6 : Int32).toInt64, p_R, p_un, p_sc, upd r_er 4 (r_er 4 + 1), re', cx', cy', px', py', pn'), ((-6 : Int32).toInt64, upd m_err 4 (m_err 4 + 1), o3, o4, o5, o6, o7), ?_, ?_, rfl, hG, hM, hE, hS, RI_up hR 4 (by omega), hV⟩
    · unfold pX5_numerator; rw [a1, kb_s, if_neg n6_0, fail_6, kb_s]
    · rw [hm]; exact if_neg n6_le
  · dsimp only at e2 e3 b3 b4
    subst e1 e2 e3 b3
    obtain ⟨g, t, b, t1, t2, t3, t4, -⟩ := ratio_s (u := nv - 1) (by omega) b4 (v := k) (by omega) hax
    refine ⟨(t, R, nI (nv - 1), o7, r_er, re', cx', cy', px', py', pn'), (t, o2, o3, o4, o5, o6, o7), ?_, ?_, rfl, hG, hM, hE, hS, hR, hV⟩
    · unfold pX5_numerator; rw [a1, kb_s, if_pos rfl, b2, kb_s]; simp only []; rw [t1, kb_s]
    · rw [hm]; refine (if_pos z_le).trans ?_; show kb (pX6_upper (nI k) (nI ax) o6 o7) _ = _; rw [t3, kb_s]
theorem sim_denominator (a1 : Int32) (a2 : Int32) (t_scn : Int32) (r_er : Nat → Int32) (g_vc : Int32) (g_ec : Int32) (g_F : Nat → Int32) (g_T : Nat → Int32) (g_X : Nat → Int32) (g_Z : Nat → Int32) (v_pi : Nat → Nat) (v_vc : Nat → Int32) (v_ec : Nat → Int32) (v_F : Nat → Nat → Int32) (v_T : Nat → Nat → Int32) (v_X : Nat → Nat → Int32) (v_Z : Nat → Nat → Int32) (e_cn : Nat → Int32) (e_M : Nat → Nat → Int32) (s_fi : Int32) (s_ta : Int32) (s_st : Nat → Int32) (s_qu : Nat → Int32) (c_re : Nat → Int32) (c_cx : Nat → Int32) (c_cy : Nat → Int32) (c_px : Nat → Int32) (c_py : Nat → Int32) (c_pn : Int32) (p_R : Nat → Nat → Int64) (p_un : Int32) (p_sc : Int64) (m_now : Nat → Int32) (m_sav : Nat → Int32) (m_sc : Int32) (m_err : Nat → Int32) (m_qx : Nat → Int32) (m_qy : Nat → Int32) (m_met : Nat → Int32) (m_row : Nat → Int64) (m_det : Int64) (h : Rel t_scn r_er g_vc g_ec g_F g_T g_X g_Z v_pi v_vc v_ec v_F v_T v_X v_Z e_cn e_M s_fi s_ta s_st s_qu m_now m_sav m_sc m_err) : ∃ (o : Int64 × (Nat → Nat → Int64) × Int32 × Int64 × (Nat → Int32) × (Nat → Int32) × (Nat → Int32) × (Nat → Int32) × (Nat → Int32) × (Nat → Int32) × Int32) (o' : Int64 × (Nat → Int32) × (Nat → Int32) × (Nat → Int32) × (Nat → Int32) × (Nat → Int64) × Int64), pX5_denominator a1 a2 p_R p_un p_sc r_er g_vc g_ec g_F g_T g_X g_Z c_re c_cx c_cy c_px c_py c_pn = some o ∧ pX6_denominator a1 a2 m_now m_err m_qx m_qy m_met m_row m_det = some o' ∧ o.1 = o'.1 ∧ Rel t_scn o.2.2.2.2.1 g_vc g_ec g_F g_T g_X g_Z v_pi v_vc v_ec v_F v_T v_X v_Z e_cn e_M s_fi s_ta s_st s_qu m_now m_sav m_sc o'.2.1 := by
  obtain ⟨hG, hM, hE, hS, hR, hV⟩ := h
  obtain ⟨nv, ne, rfl, rfl, h1, hnv, hne⟩ := hG.n
  obtain ⟨re', cx', cy', px', py', pn', tr, ⟨o1, o2, o3, o4, o5, o6, o7⟩, a1, a2, a3⟩ := D_coord h1 hnv hG hM hne a1 a2 c_re c_cx c_cy c_px c_py m_met m_qx m_qy m_err c_pn p_un p_R p_sc m_det m_row
  have hm : pX6_denominator _ _ m_now m_err m_qx m_qy m_met m_row m_det = _ := a2 _ _
  rcases a3 with ⟨e1, e2, e3⟩ | ⟨e1, e2, e3⟩ | ⟨e1, e2, e3, k, ax, R, s, rfl, hk, rfl, hax, b2, b3, b4⟩
  · dsimp only at e2 e3
    subst e1 e2 e3
    refine ⟨((-2 : Int32).toInt64, p_R, p_un, p_sc, upd r_er 0 (r_er 0 + 1), re', cx', cy', px', py', pn'), ((-2 : Int32).toInt64, upd m_err 0 (m_err 0 + 1), o3, o4, o5, o6, o7), ?_, ?_, rfl, hG, hM, hE, hS, RI_up hR 0 (by omega), hV⟩
    · unfold pX5_denominator; rw [a1, kb_s, if_neg n2_0, fail_2, kb_s]
    · rw [hm]; exact if_neg n2_le
  · dsimp only at e2 e3
    subst e1 e2 e3
    refine ⟨((-6 : Int32).toInt64, p_R, p_un, p_sc, upd r_er 4 (r_er 4 + 1), re', cx', cy', px', py', pn'), ((-6 : Int32).toInt64, upd m_err 4 (m_err 4 + 1), o3, o4, o5, o6, o7), ?_, ?_, rfl, hG, hM, hE, hS, RI_up hR 4 (by omega), hV⟩
    · unfold pX5_denominator; rw [a1, kb_s, if_neg n6_0, fail_6, kb_s]
    · rw [hm]; exact if_neg n6_le
  · dsimp only at e2 e3 b3 b4
    subst e1 e2 e3 b3
    obtain ⟨g, t, b, t1, t2, t3, t4, -⟩ := ratio_s (u := nv - 1) (by omega) b4 (v := k) (by omega) hax
    refine ⟨(b, R, nI (nv - 1), o7, r_er, re', cx', cy', px', py', pn'), (b, o2, o3, o4, o5, o6, o7), ?_, ?_, rfl, hG, hM, hE, hS, hR, hV⟩
    · unfold pX5_denominator; rw [a1, kb_s, if_pos rfl, b2, kb_s]; simp only []; rw [t2, kb_s]
    · rw [hm]; refine (if_pos z_le).trans ?_; show kb (pX6_lower (nI k) (nI ax) o6 o7) _ = _; rw [t4, kb_s]
