/-! collide, collisions -/
theorem rem_s {x y s : Int64} (hx : x.toInt.natAbs ≤ 1521681143169024) (hy : y.toInt.natAbs ≤ 1521681143169024) (hs : 0 < s.toInt) : lg_cmp ((x - y) - (x - y) / s * s) 0 = 0 ↔ s.toInt ∣ x.toInt - y.toInt := by
  have e1 : (x - y).toInt = x.toInt - y.toInt := l_sub (by omega) (by omega)
  have b1 : ((x.toInt - y.toInt).tdiv s.toInt).natAbs ≤ (x.toInt - y.toInt).natAbs := by rw [Int.natAbs_tdiv]; exact Nat.div_le_self _ _
  have e2 : ((x - y) / s).toInt = (x.toInt - y.toInt).tdiv s.toInt := by rw [Int64.toInt_div, e1, Int.bmod_eq_of_le (by omega) (by omega)]
  have b2 : ((x.toInt - y.toInt).tdiv s.toInt * s.toInt).natAbs ≤ (x.toInt - y.toInt).natAbs := by
    rw [Int.natAbs_mul, Int.natAbs_tdiv]; exact Nat.div_mul_le_self _ _
  have e3 : ((x - y) / s * s).toInt = (x.toInt - y.toInt).tdiv s.toInt * s.toInt := by rw [l_mul] <;> rw [e2] <;> omega
  have e4 : ((x - y) - (x - y) / s * s).toInt = (x.toInt - y.toInt) - (x.toInt - y.toInt).tdiv s.toInt * s.toInt := by rw [l_sub] <;> rw [e1, e3] <;> omega
  rw [cmp_eq]
  constructor
  · intro h
    rw [h, lg0] at e4
    exact ⟨(x.toInt - y.toInt).tdiv s.toInt, by rw [Int.mul_comm]; omega⟩
  · intro h
    apply Int64.toInt_inj.mp
    rw [e4, lg0, Int.tdiv_mul_cancel h]
    omega
def Mt (R : Nat → Nat → Int64) (u : Nat) (s : Int64) (v w : Nat) : Prop := s.toInt ∣ (zz R u v 0).toInt - (zz R u w 0).toInt ∧ s.toInt ∣ (zz R u v 1).toInt - (zz R u w 1).toInt
theorem Mt_symm {R : Nat → Nat → Int64} {u : Nat} {s : Int64} {v w : Nat} : Mt R u s v w ↔ Mt R u s w v := by
  have key : ∀ a b : Int, s.toInt ∣ a - b → s.toInt ∣ b - a := fun a b h => by
    have := Int.dvd_neg.mpr h
    rw [Int.neg_sub] at this
    exact this
  exact ⟨fun h => ⟨key _ _ h.1, key _ _ h.2⟩, fun h => ⟨key _ _ h.1, key _ _ h.2⟩⟩
theorem meet_s {u : Nat} {R : Nat → Nat → Int64} {row : Nat → Int64} {s : Int64} (hu : u ≤ 5) (h : PS u R row s) {v w : Nat} (hv : v ≤ u) (hw : w ≤ u) : (pX3_meet (nI v) (nI w) R (nI u) s = some 1 ∧ pX6_doCollide (nI v) (nI w) row s = some 1 ∧ Mt R u s v w) ∨ (pX3_meet (nI v) (nI w) R (nI u) s = some 0 ∧ pX6_doCollide (nI v) (nI w) row s = some 0 ∧ ¬ Mt R u s v w) := by
  obtain ⟨a1, a2⟩ := unred_s hu h hv (ax := 0) (by omega)
  obtain ⟨b1, b2⟩ := unred_s hu h hw (ax := 0) (by omega)
  obtain ⟨c1, c2⟩ := unred_s hu h hv (ax := 1) (by omega)
  obtain ⟨d1, d2⟩ := unred_s hu h hw (ax := 1) (by omega)
  have za := zz_b h hv (ax := 0) (by omega)
  have zb := zz_b h hw (ax := 0) (by omega)
  have zc := zz_b h hv (ax := 1) (by omega)
  have zd := zz_b h hw (ax := 1) (by omega)
  have hs := h.2.1
  have hs0 := l_ne0 hs
  have r0 := rem_s za zb hs
  have r1 := rem_s zc zd hs
  have hsc : ¬ lg_cmp s 0 = 0 := fun e => hs0 ((cmp_eq _).mp e)
  have w0 : pX3_isWholeApart (nI v) (nI w) 0 R (nI u) s = (if lg_cmp ((zz R u v 0 - zz R u w 0) - (zz R u v 0 - zz R u w 0) / s * s) 0 = 0 then some 1 else some 0) := by
    unfold pX3_isWholeApart
    rw [if_neg hsc, show pX3_unreduced (nI v) 0 R (nI u) = _ from a1, kb_s, show pX3_unreduced (nI w) 0 R (nI u) = _ from b1, kb_s, decide_eq_true hs0, kgd_tt]
  have w1 : pX3_isWholeApart (nI v) (nI w) 1 R (nI u) s = (if lg_cmp ((zz R u v 1 - zz R u w 1) - (zz R u v 1 - zz R u w 1) / s * s) 0 = 0 then some 1 else some 0) := by
    unfold pX3_isWholeApart
    rw [if_neg hsc, show pX3_unreduced (nI v) 1 R (nI u) = _ from c1, kb_s, show pX3_unreduced (nI w) 1 R (nI u) = _ from d1, kb_s, decide_eq_true hs0, kgd_tt]
  have m : pX6_doCollide (nI v) (nI w) row s = (if lg_cmp ((zz R u v 0 - zz R u w 0) - (zz R u v 0 - zz R u w 0) / s * s) 0 = 0 then (if lg_cmp ((zz R u v 1 - zz R u w 1) - (zz R u v 1 - zz R u w 1) / s * s) 0 = 0 then some 1 else some 0) else some 0) := by
    unfold pX6_doCollide
    rw [show pX6_scaled (nI v) 0 row = _ from a2, kb_s, show pX6_scaled (nI w) 0 row = _ from b2, kb_s, decide_eq_true hs0, kgd_tt, show pX6_scaled (nI v) 1 row = _ from c2, kb_s, show pX6_scaled (nI w) 1 row = _ from d2, kb_s, kgd_tt]
  unfold pX3_meet
  rw [w0, w1, m]
  unfold Mt
  by_cases p : lg_cmp ((zz R u v 0 - zz R u w 0) - (zz R u v 0 - zz R u w 0) / s * s) 0 = 0
  · rw [if_pos p, if_pos p, kb_s, if_neg (show ¬ (1 : Int32) = 0 by decide)]
    by_cases q : lg_cmp ((zz R u v 1 - zz R u w 1) - (zz R u v 1 - zz R u w 1) / s * s) 0 = 0
    · rw [if_pos q, kb_s, if_neg (show ¬ (1 : Int32) = 0 by decide)]
      exact Or.inl ⟨rfl, rfl, r0.mp p, r1.mp q⟩
    · rw [if_neg q, kb_s, if_pos rfl]
      exact Or.inr ⟨rfl, rfl, fun c => q (r1.mpr c.2)⟩
  · rw [if_neg p, if_neg p, kb_s, if_pos rfl]
    exact Or.inr ⟨rfl, rfl, fun c => p (r0.mpr c.1)⟩
theorem sim_collide (a1 : Int32) (a2 : Int32) (t_scn : Int32) (r_er : Nat → Int32) (g_vc : Int32) (g_ec : Int32) (g_F : Nat → Int32) (g_T : Nat → Int32) (g_X : Nat → Int32) (g_Z : Nat → Int32) (v_pi : Nat → Nat) (v_vc : Nat → Int32) (v_ec : Nat → Int32) (v_F : Nat → Nat → Int32) (v_T : Nat → Nat → Int32) (v_X : Nat → Nat → Int32) (v_Z : Nat → Nat → Int32) (e_cn : Nat → Int32) (e_M : Nat → Nat → Int32) (s_fi : Int32) (s_ta : Int32) (s_st : Nat → Int32) (s_qu : Nat → Int32) (c_re : Nat → Int32) (c_cx : Nat → Int32) (c_cy : Nat → Int32) (c_px : Nat → Int32) (c_py : Nat → Int32) (c_pn : Int32) (p_R : Nat → Nat → Int64) (p_un : Int32) (p_sc : Int64) (m_now : Nat → Int32) (m_sav : Nat → Int32) (m_sc : Int32) (m_err : Nat → Int32) (m_qx : Nat → Int32) (m_qy : Nat → Int32) (m_met : Nat → Int32) (m_row : Nat → Int64) (m_det : Int64) (h : Rel t_scn r_er g_vc g_ec g_F g_T g_X g_Z v_pi v_vc v_ec v_F v_T v_X v_Z e_cn e_M s_fi s_ta s_st s_qu m_now m_sav m_sc m_err) : ∃ (o : Int32 × (Nat → Nat → Int64) × Int32 × Int64 × (Nat → Int32) × (Nat → Int32) × (Nat → Int32) × (Nat → Int32) × (Nat → Int32) × (Nat → Int32) × Int32) (o' : Int32 × (Nat → Int32) × (Nat → Int32) × (Nat → Int32) × (Nat → Int32) × (Nat → Int64) × Int64), pX5_collide a1 a2 p_R p_un p_sc r_er g_vc g_ec g_F g_T g_X g_Z c_re c_cx c_cy c_px c_py c_pn = some o ∧ pX6_collide a1 a2 m_now m_err m_qx m_qy m_met m_row m_det = some o' ∧ o.1 = o'.1 ∧ Rel t_scn o.2.2.2.2.1 g_vc g_ec g_F g_T g_X g_Z v_pi v_vc v_ec v_F v_T v_X v_Z e_cn e_M s_fi s_ta s_st s_qu m_now m_sav m_sc o'.2.1 := by
  obtain ⟨hG, hM, hE, hS, hR, hV⟩ := h
  obtain ⟨nv, ne, rfl, rfl, h1, hnv, hne⟩ := hG.n
  rcases D_isVertex hG hM a1 with ⟨i1, i2⟩ | ⟨k, rfl, hk, hk6, i1, i2⟩
  · refine ⟨(-2, p_R, p_un, p_sc, upd r_er 0 (r_er 0 + 1), c_re, c_cx, c_cy, c_px, c_py, c_pn), (-2, upd m_err 0 (m_err 0 + 1), m_qx, m_qy, m_met, m_row, m_det), ?_, ?_, rfl, hG, hM, hE, hS, RI_up hR 0 (by omega), hV⟩
    · unfold pX5_collide; rw [i1, kb_s, if_pos rfl, fail_2, kb_s]
    · unfold pX6_collide; rw [i2, kb_s, if_pos rfl, kb_s, err0, kb_s]; exact if_neg n2_le
  rcases D_isVertex hG hM a2 with ⟨j1, j2⟩ | ⟨l, rfl, hl, hl6, j1, j2⟩
  · refine ⟨(-2, p_R, p_un, p_sc, upd r_er 0 (r_er 0 + 1), c_re, c_cx, c_cy, c_px, c_py, c_pn), (-2, upd m_err 0 (m_err 0 + 1), m_qx, m_qy, m_met, m_row, m_det), ?_, ?_, rfl, hG, hM, hE, hS, RI_up hR 0 (by omega), hV⟩
    · unfold pX5_collide; rw [i1, kb_s, if_neg (by decide), j1, kb_s, if_pos rfl, fail_2, kb_s]
    · unfold pX6_collide; rw [i2, kb_s, if_neg (by decide), j2, kb_s, if_pos rfl, kb_s, err0, kb_s]; exact if_neg n2_le
  by_cases hkl : nI k = nI l
  · refine ⟨(-2, p_R, p_un, p_sc, upd r_er 0 (r_er 0 + 1), c_re, c_cx, c_cy, c_px, c_py, c_pn), (-2, upd m_err 0 (m_err 0 + 1), m_qx, m_qy, m_met, m_row, m_det), ?_, ?_, rfl, hG, hM, hE, hS, RI_up hR 0 (by omega), hV⟩
    · unfold pX5_collide; rw [i1, kb_s, if_neg (by decide), j1, kb_s, if_neg (by decide), if_pos hkl, fail_2, kb_s]
    · unfold pX6_collide; rw [i2, kb_s, if_neg (by decide), j2, kb_s, if_neg (by decide), if_pos hkl, kb_s, err0, kb_s]; exact if_neg n2_le
  rw [nI_toInt (by omega)] at hk hl
  obtain ⟨re', cx', cy', px', py', pn', met', qx', qy', hh⟩ := err1 h1 hnv hG hM hne c_re c_cx c_cy c_px c_py m_met m_qx m_qy m_err c_pn p_un p_R p_sc m_det m_row
  rcases hh with ⟨b1, b2⟩ | ⟨b1, R, row', s, b2, b3, b4⟩
  · refine ⟨(-6, p_R, p_un, p_sc, upd r_er 4 (r_er 4 + 1), re', cx', cy', px', py', pn'), (-6, upd m_err 4 (m_err 4 + 1), qx', qy', met', m_row, m_det), ?_, ?_, rfl, hG, hM, hE, hS, RI_up hR 4 (by omega), hV⟩
    · unfold pX5_collide; rw [i1, kb_s, if_neg (by decide), j1, kb_s, if_neg (by decide), if_neg hkl, b1, kb_s, if_pos rfl, fail_6, kb_s]
    · unfold pX6_collide; rw [i2, kb_s, if_neg (by decide), j2, kb_s, if_neg (by decide), if_neg hkl, kb_s, b2, kb_s]; exact if_neg n6_le
  · have hc : ∀ r, pX3_meet (nI k) (nI l) R (nI (nv - 1)) s = some r → pX5_collide (nI k) (nI l) p_R p_un p_sc r_er (nI nv) (nI ne) g_F g_T g_X g_Z c_re c_cx c_cy c_px c_py c_pn = (if r = 0 then some (0, R, nI (nv - 1), s, r_er, re', cx', cy', px', py', pn') else some (1, R, nI (nv - 1), s, r_er, re', cx', cy', px', py', pn')) := by
      intro r hr
      unfold pX5_collide
      rw [i1, kb_s, if_neg (by decide), j1, kb_s, if_neg (by decide), if_neg hkl, b1, kb_s, if_neg (show ¬ (1 : Int32) = 0 by decide), b2, kb_s]
      simp only []
      rw [hr, kb_s]
    have hm : ∀ r, pX6_doCollide (nI k) (nI l) row' s = some r → pX6_collide (nI k) (nI l) m_now m_err m_qx m_qy m_met m_row m_det = (if r = 0 then some (0, m_err, qx', qy', met', row', s) else some (1, m_err, qx', qy', met', row', s)) := by
      intro r hr
      unfold pX6_collide
      rw [i2, kb_s, if_neg (by decide), j2, kb_s, if_neg (by decide), if_neg hkl, kb_s, b3, kb_s]
      refine (if_pos z_le).trans ?_
      show kb (pX6_doCollide (nI k) (nI l) row' s) _ = _
      rw [hr, kb_s]
    rcases meet_s (show nv - 1 ≤ 5 by omega) b4 (v := k) (w := l) (by omega) (by omega) with ⟨x1, x2, -⟩ | ⟨x1, x2, -⟩
    · refine ⟨(1, R, nI (nv - 1), s, r_er, re', cx', cy', px', py', pn'), (1, m_err, qx', qy', met', row', s), ?_, ?_, rfl, hG, hM, hE, hS, hR, hV⟩
      · rw [hc 1 x1, if_neg (by decide)]
      · rw [hm 1 x2, if_neg (by decide)]
    · refine ⟨(0, R, nI (nv - 1), s, r_er, re', cx', cy', px', py', pn'), (0, m_err, qx', qy', met', row', s), ?_, ?_, rfl, hG, hM, hE, hS, hR, hV⟩
      · rw [hc 0 x1, if_pos rfl]
      · rw [hm 0 x2, if_pos rfl]
def sN (f : Nat → Nat) : Nat → Nat
  | 0 => 0
  | n + 1 => sN f n + f n
theorem sN_s (f : Nat → Nat) (n : Nat) : sN f (n + 1) = sN f n + f n := rfl
theorem sN_congr {f g : Nat → Nat} : ∀ n, (∀ i, i < n → f i = g i) → sN f n = sN g n
  | 0 => fun _ => rfl
  | n + 1 => fun h => by rw [sN_s, sN_s, sN_congr n (fun i hi => h i (by omega)), h n (by omega)]
theorem sN_add (f g : Nat → Nat) : ∀ n, sN (fun i => f i + g i) n = sN f n + sN g n
  | 0 => rfl
  | n + 1 => by rw [sN_s, sN_s, sN_s, sN_add f g n]; omega
theorem sN_zero : ∀ n, sN (fun _ => 0) n = 0
  | 0 => rfl
  | n + 1 => by rw [sN_s, sN_zero n]
theorem sN_swap (f : Nat → Nat → Nat) (m : Nat) : ∀ n, sN (fun v => sN (fun w => f v w) m) n = sN (fun w => sN (fun v => f v w) n) m
  | 0 => (sN_zero m).symm
  | n + 1 => by
    rw [sN_s, sN_swap f m n]
    show _ = sN (fun w => sN (fun v => f v w) n + f n w) m
    rw [sN_add]
theorem sN_ext {f : Nat → Nat} {n : Nat} (h : ∀ i, n ≤ i → f i = 0) : ∀ k, sN f (n + k) = sN f n
  | 0 => rfl
  | k + 1 => by rw [← Nat.add_assoc, sN_s, sN_ext h k, h _ (by omega)]; omega
theorem sN_le {f : Nat → Nat} {c : Nat} (h : ∀ i, f i ≤ c) : ∀ n, sN f n ≤ n * c
  | 0 => Nat.zero_le _
  | n + 1 => by
    have := sN_le h n
    have := h n
    rw [sN_s, Nat.succ_mul]
    omega
noncomputable def mt (R : Nat → Nat → Int64) (u : Nat) (s : Int64) (v w : Nat) : Nat := haveI := Classical.propDecidable (Mt R u s v w); if Mt R u s v w then 1 else 0
theorem mt_1 {R : Nat → Nat → Int64} {u : Nat} {s : Int64} {v w : Nat} (h : Mt R u s v w) : mt R u s v w = 1 := if_pos h
theorem mt_0 {R : Nat → Nat → Int64} {u : Nat} {s : Int64} {v w : Nat} (h : ¬ Mt R u s v w) : mt R u s v w = 0 := if_neg h
theorem mt_le (R : Nat → Nat → Int64) (u : Nat) (s : Int64) (v w : Nat) : mt R u s v w ≤ 1 := by
  rcases Classical.em (Mt R u s v w) with h | h
  · rw [mt_1 h]; omega
  · rw [mt_0 h]; omega
theorem mt_symm (R : Nat → Nat → Int64) (u : Nat) (s : Int64) (v w : Nat) : mt R u s v w = mt R u s w v := by
  rcases Classical.em (Mt R u s v w) with h | h
  · rw [mt_1 h, mt_1 (Mt_symm.mp h)]
  · rw [mt_0 h, mt_0 (fun c => h (Mt_symm.mp c))]
theorem coll_in {u : Nat} {R : Nat → Nat → Int64} {row : Nat → Int64} {s : Int64} (hu : u ≤ 5) (h : PS u R row s) {v : Nat} (hv : v ≤ u) (A : Nat) (hA : A ≤ 1000) : ∀ (m w n : Nat), w + m = u + 1 → v < w → m < n → pX5_collisions_L44 n (nI (A + sN (fun w => if v < w then mt R u s v w else 0) w)) (nI v) (nI w) R (nI u) s (nI (u + 1)) = some (nI (A + sN (fun w => if v < w then mt R u s v w else 0) (u + 1)), nI (u + 1)) := by
  intro m
  induction m with
  | zero =>
    intro w n hw hvw hn
    obtain ⟨n, rfl⟩ : ∃ k, n = k + 1 := ⟨n - 1, by omega⟩
    have hw : w = u + 1 := hw
    subst hw
    rw [pX5_collisions_L44, if_pos (nI_le (Nat.le_refl _) (by omega))]
  | succ m ih =>
    intro w n hw hvw hn
    obtain ⟨n, rfl⟩ : ∃ k, n = k + 1 := ⟨n - 1, by omega⟩
    rw [pX5_collisions_L44, if_neg (nI_ge (by omega) (by omega)), nI_1]
    have hx := ih (w + 1) n (by omega) (by omega) (by omega)
    rw [sN_s, if_pos hvw] at hx
    rcases meet_s hu h hv (w := w) (by omega) with ⟨x1, -, x3⟩ | ⟨x1, -, x3⟩
    · rw [x1, kb_s, if_neg (show ¬ (1 : Int32) = 0 by decide), kb_s, nI_1]
      rw [mt_1 x3] at hx
      exact hx
    · rw [x1, kb_s, if_pos rfl, kb_s, nI_1]
      rw [mt_0 x3] at hx
      exact hx
theorem coll_out {u : Nat} {R : Nat → Nat → Int64} {row : Nat → Int64} {s : Int64} (hu : u ≤ 5) (h : PS u R row s) : ∀ (m v n : Nat), v + m = u + 1 → m < n → pX5_collisions_L29 n (nI (sN (fun v => sN (fun w => if v < w then mt R u s v w else 0) (u + 1)) v)) (nI v) R (nI u) s (nI (u + 1)) = some (nI (sN (fun v => sN (fun w => if v < w then mt R u s v w else 0) (u + 1)) (u + 1)), nI (u + 1)) := by
  have hb : ∀ v, sN (fun w => if v < w then mt R u s v w else 0) (u + 1) ≤ (u + 1) * 1 := fun v => sN_le (fun w => by
    have := mt_le R u s v w
    split <;> omega) _
  intro m
  induction m with
  | zero =>
    intro v n hv hn
    obtain ⟨n, rfl⟩ : ∃ k, n = k + 1 := ⟨n - 1, by omega⟩
    have hv : v = u + 1 := hv
    subst hv
    rw [pX5_collisions_L29, if_pos (nI_le (Nat.le_refl _) (by omega))]
  | succ m ih =>
    intro v n hv hn
    obtain ⟨n, rfl⟩ : ∃ k, n = k + 1 := ⟨n - 1, by omega⟩
    have hA := sN_le (c := 6) (fun v => Nat.le_trans (hb v) (by omega)) v
    have hi := coll_in hu h (show v ≤ u by omega) (sN (fun v => sN (fun w => if v < w then mt R u s v w else 0) (u + 1)) v) (by omega) (u - v) (v + 1) KF (by omega) (by omega) (by unfold KF; omega)
    have z : sN (fun w => if v < w then mt R u s v w else 0) (v + 1) = 0 := by
      rw [sN_congr (g := fun _ => 0) _ (fun i hi => if_neg (by omega)), sN_zero]
    rw [z, Nat.add_zero] at hi
    rw [pX5_collisions_L29, if_neg (nI_ge (by omega) (by omega)), nI_1, hi, kb_s]
    exact ih (v + 1) n (by omega) (by omega)
theorem mcoll_in {u : Nat} {R : Nat → Nat → Int64} {row : Nat → Int64} {s : Int64} (hu : u ≤ 5) (h : PS u R row s) {v : Nat} (hv : v ≤ u) (A : Nat) : ∀ (m w n : Nat), w + m = v → m < n → pX6_collisions_L29 n (nI (A + sN (fun w => if w < v then mt R u s v w else 0) w)) (nI v) (nI w) row s = some (nI (A + sN (fun w => if w < v then mt R u s v w else 0) v), nI v) := by
  intro m
  induction m with
  | zero =>
    intro w n hw hn
    obtain ⟨n, rfl⟩ : ∃ k, n = k + 1 := ⟨n - 1, by omega⟩
    have hw : w = v := hw
    subst hw
    rw [pX6_collisions_L29, if_pos (nI_le (Nat.le_refl _) (by omega))]
  | succ m ih =>
    intro w n hw hn
    obtain ⟨n, rfl⟩ : ∃ k, n = k + 1 := ⟨n - 1, by omega⟩
    rw [pX6_collisions_L29, if_neg (nI_ge (by omega) (by omega)), nI_1]
    have hx := ih (w + 1) n (by omega) (by omega)
    rw [sN_s, if_pos (show w < v by omega)] at hx
    rcases meet_s hu h hv (w := w) (by omega) with ⟨-, x2, x3⟩ | ⟨-, x2, x3⟩
    · rw [x2, kb_s, if_neg (show ¬ (1 : Int32) = 0 by decide), kb_s, nI_1]
      rw [mt_1 x3] at hx
      exact hx
    · rw [x2, kb_s, if_pos rfl, kb_s, Int32.add_zero]
      rw [mt_0 x3] at hx
      exact hx
theorem mcoll_out {u : Nat} {R : Nat → Nat → Int64} {row : Nat → Int64} {s : Int64} {now : Nat → Int32} (h0 : now 0 = nI (u + 1)) (hu : u ≤ 5) (h : PS u R row s) : ∀ (m v n : Nat), v + m = u + 1 → m < n → pX6_collisions_L16 n (nI (sN (fun v => sN (fun w => if w < v then mt R u s v w else 0) (u + 1)) v)) (nI v) now row s = some (nI (sN (fun v => sN (fun w => if w < v then mt R u s v w else 0) (u + 1)) (u + 1)), nI (u + 1)) := by
  intro m
  induction m with
  | zero =>
    intro v n hv hn
    obtain ⟨n, rfl⟩ : ∃ k, n = k + 1 := ⟨n - 1, by omega⟩
    have hv : v = u + 1 := hv
    subst hv
    rw [pX6_collisions_L16, show kin 0 50 = true from rfl, kgd_tt, show now (0 : Int32).toNatClampNeg = _ from h0, if_pos (nI_le (Nat.le_refl _) (by omega))]
  | succ m ih =>
    intro v n hv hn
    obtain ⟨n, rfl⟩ : ∃ k, n = k + 1 := ⟨n - 1, by omega⟩
    have hi := mcoll_in hu h (show v ≤ u by omega) (sN (fun v => sN (fun w => if w < v then mt R u s v w else 0) (u + 1)) v) v 0 KF (by omega) (by unfold KF; omega)
    have z : sN (fun w => if w < v then mt R u s v w else 0) v = sN (fun w => if w < v then mt R u s v w else 0) (u + 1) := by
      have := sN_ext (f := fun w => if w < v then mt R u s v w else 0) (n := v) (fun i hi => if_neg (by omega)) (u + 1 - v)
      rw [show v + (u + 1 - v) = u + 1 by omega] at this
      exact this.symm
    rw [z] at hi
    rw [pX6_collisions_L16, show kin 0 50 = true from rfl, kgd_tt, show now (0 : Int32).toNatClampNeg = _ from h0, if_neg (nI_ge (by omega) (by omega)), nI_1, show pX6_collisions_L29 KF (nI (sN (fun v => sN (fun w => if w < v then mt R u s v w else 0) (u + 1)) v)) (nI v) 0 row s = _ from hi, kb_s]
    exact ih (v + 1) n (by omega) (by omega)
theorem sim_collisions  (t_scn : Int32) (r_er : Nat → Int32) (g_vc : Int32) (g_ec : Int32) (g_F : Nat → Int32) (g_T : Nat → Int32) (g_X : Nat → Int32) (g_Z : Nat → Int32) (v_pi : Nat → Nat) (v_vc : Nat → Int32) (v_ec : Nat → Int32) (v_F : Nat → Nat → Int32) (v_T : Nat → Nat → Int32) (v_X : Nat → Nat → Int32) (v_Z : Nat → Nat → Int32) (e_cn : Nat → Int32) (e_M : Nat → Nat → Int32) (s_fi : Int32) (s_ta : Int32) (s_st : Nat → Int32) (s_qu : Nat → Int32) (c_re : Nat → Int32) (c_cx : Nat → Int32) (c_cy : Nat → Int32) (c_px : Nat → Int32) (c_py : Nat → Int32) (c_pn : Int32) (p_R : Nat → Nat → Int64) (p_un : Int32) (p_sc : Int64) (m_now : Nat → Int32) (m_sav : Nat → Int32) (m_sc : Int32) (m_err : Nat → Int32) (m_qx : Nat → Int32) (m_qy : Nat → Int32) (m_met : Nat → Int32) (m_row : Nat → Int64) (m_det : Int64) (h : Rel t_scn r_er g_vc g_ec g_F g_T g_X g_Z v_pi v_vc v_ec v_F v_T v_X v_Z e_cn e_M s_fi s_ta s_st s_qu m_now m_sav m_sc m_err) : ∃ (o : Int32 × (Nat → Nat → Int64) × Int32 × Int64 × (Nat → Int32) × (Nat → Int32) × (Nat → Int32) × (Nat → Int32) × (Nat → Int32) × (Nat → Int32) × Int32) (o' : Int32 × (Nat → Int32) × (Nat → Int32) × (Nat → Int32) × (Nat → Int32) × (Nat → Int64) × Int64), pX5_collisions p_R p_un p_sc r_er g_vc g_ec g_F g_T g_X g_Z c_re c_cx c_cy c_px c_py c_pn = some o ∧ pX6_collisions m_now m_err m_qx m_qy m_met m_row m_det = some o' ∧ o.1 = o'.1 ∧ Rel t_scn o.2.2.2.2.1 g_vc g_ec g_F g_T g_X g_Z v_pi v_vc v_ec v_F v_T v_X v_Z e_cn e_M s_fi s_ta s_st s_qu m_now m_sav m_sc o'.2.1 := by
  obtain ⟨hG, hM, hE, hS, hR, hV⟩ := h
  obtain ⟨nv, ne, rfl, rfl, h1, hnv, hne⟩ := hG.n
  obtain ⟨re', cx', cy', px', py', pn', met', qx', qy', hh⟩ := err1 h1 hnv hG hM hne c_re c_cx c_cy c_px c_py m_met m_qx m_qy m_err c_pn p_un p_R p_sc m_det m_row
  rcases hh with ⟨b1, b2⟩ | ⟨b1, R, row', s, b2, b3, b4⟩
  · refine ⟨(-6, p_R, p_un, p_sc, upd r_er 4 (r_er 4 + 1), re', cx', cy', px', py', pn'), (-6, upd m_err 4 (m_err 4 + 1), qx', qy', met', m_row, m_det), ?_, ?_, rfl, hG, hM, hE, hS, RI_up hR 4 (by omega), hV⟩
    · unfold pX5_collisions; rw [b1, kb_s, if_pos rfl, fail_6, kb_s]
    · unfold pX6_collisions; rw [b2, kb_s]; exact if_neg n6_le
  · obtain ⟨u, rfl⟩ : ∃ u, nv = u + 1 := ⟨nv - 1, by omega⟩
    rw [show u + 1 - 1 = u from rfl] at b2 b4
    have c1 := coll_out (show u ≤ 5 by omega) b4 (u + 1) 0 KF (by omega) (by unfold KF; omega)
    have c2 := mcoll_out hM.1 (show u ≤ 5 by omega) b4 (u + 1) 0 KF (by omega) (by unfold KF; omega)
    have hsum : sN (fun v => sN (fun w => if w < v then mt R u s v w else 0) (u + 1)) (u + 1) = sN (fun v => sN (fun w => if v < w then mt R u s v w else 0) (u + 1)) (u + 1) := by
      rw [sN_swap (fun v w => if w < v then mt R u s v w else 0)]
      exact sN_congr _ (fun w _ => sN_congr _ (fun v _ => by rw [mt_symm]))
    rw [hsum] at c2
    refine ⟨(nI (sN (fun v => sN (fun w => if v < w then mt R u s v w else 0) (u + 1)) (u + 1)), R, nI u, s, r_er, re', cx', cy', px', py', pn'), (nI (sN (fun v => sN (fun w => if v < w then mt R u s v w else 0) (u + 1)) (u + 1)), m_err, qx', qy', met', row', s), ?_, ?_, rfl, hG, hM, hE, hS, hR, hV⟩
    · unfold pX5_collisions
      rw [b1, kb_s, if_neg (show ¬ (1 : Int32) = 0 by decide), b2, kb_s]
      simp only []
      rw [show pX5_collisions_L29 KF 0 0 R (nI u) s (nI (u + 1)) = _ from c1, kb_s]
    · unfold pX6_collisions
      rw [b3, kb_s]
      refine (if_pos z_le).trans ?_
      show kb (pX6_collisions_L16 KF 0 0 m_now row' s) _ = _
      rw [show pX6_collisions_L16 KF 0 0 m_now row' s = _ from c2, kb_s]
