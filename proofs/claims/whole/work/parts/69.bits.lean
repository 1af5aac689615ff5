/-! positionBits -/
theorem conv_s {t : Int64} (h1 : 1 ≤ t.toInt.natAbs) (h2 : t.toInt.natAbs ≤ 2251799813685248) : ∃ (s : Bool) (E M : Nat), 127 ≤ E ∧ E ≤ 178 ∧ M < 8388608 ∧ FP.Core.decode FP.Core.b32 (FP.l2f t).toNat = .fin s (8388608 + M) ((E : Int) - 150) ∧ s = decide (t.toInt < 0) ∧ FP.Core.mag FP.Core.b32 (FP.l2f t).toNat = E * 8388608 + M := by
  have hd : FP.Core.decode FP.Core.b32 (FP.l2f t).toNat = FP.Core.roundRatio FP.Core.b32 (decide (t.toInt < 0)) t.toInt.natAbs 1 0 := FP.Core.val32_l2f t
  have u1 : FP.Core.unitsOf FP.Core.b32 1065353216 = 2 ^ 149 := by decide +kernel
  have u2 : FP.Core.unitsOf FP.Core.b32 1493172224 = 2251799813685248 * 2 ^ 149 := by decide +kernel
  have iu : FP.Core.inUnits t.toInt.natAbs 0 (-149) = t.toInt.natAbs * 2 ^ 149 := rfl
  have m1 := FP.Core.mag_ge FP.Core.good_b32 (m := 1065353216) (e0 := -149) hd (by decide) (by rw [b_qmin]; omega) (by omega) (by rw [b_inf]; omega) (by
    rw [iu, u1, b_qmin, show ((-149 : Int) - -149).toNat = 0 from rfl, Nat.pow_zero, Nat.mul_one, Nat.mul_one]
    have := Nat.mul_le_mul_right (2 ^ 149) h1
    rw [Nat.one_mul] at this
    exact this)
  have m2 := FP.Core.mag_le FP.Core.good_b32 (m := 1493172224) (e0 := -149) hd (by decide) (by rw [b_qmin]; omega) (by omega) (by
    rw [iu, u2, b_qmin, show ((-149 : Int) - -149).toNat = 0 from rfl, Nat.pow_zero, Nat.mul_one, Nat.mul_one]
    exact Nat.mul_le_mul_right (2 ^ 149) h2)
  have hx := (FP.l2f t).toNat_lt
  obtain ⟨s, hs⟩ : ∃ s, s = decide (2147483648 ≤ (FP.l2f t).toNat) := ⟨_, rfl⟩
  rw [mag_s] at m1 m2
  obtain ⟨E, M, hE, hE2, hM, hn⟩ : ∃ E M, 127 ≤ E ∧ E ≤ 178 ∧ M < 8388608 ∧ (FP.l2f t).toNat % 2147483648 = E * 8388608 + M := ⟨(FP.l2f t).toNat % 2147483648 / 8388608, (FP.l2f t).toNat % 2147483648 % 8388608, by omega, by omega, by omega, by omega⟩
  have hsn : (FP.l2f t).toNat = s.toNat * 2147483648 + (E * 8388608 + M) := by
    by_cases h : 2147483648 ≤ (FP.l2f t).toNat
    · rw [hs, decide_eq_true h]
      show _ = 1 * 2147483648 + _
      omega
    · rw [hs, decide_eq_false h]
      show _ = 0 * 2147483648 + _
      omega
  have hdec := dec_s s (show 1 ≤ E by omega) (show E ≤ 254 by omega) hM
  rw [← hsn] at hdec
  refine ⟨s, E, M, hE, hE2, hM, hdec, ?_, by rw [mag_s, hn]⟩
  have hsg := FP.Core.sgn_roundRatio FP.Core.b32 (decide (t.toInt < 0)) t.toInt.natAbs 1 0
  rw [← hd, hdec] at hsg
  exact hsg
theorem quot_s {x y : UInt32} {s t : Bool} {E1 E2 M1 M2 : Nat} (a1 : 127 ≤ E1) (a2 : E1 ≤ 178) (b1 : 127 ≤ E2) (b2 : E2 ≤ 178) (hM1 : M1 < 8388608) (hM2 : M2 < 8388608) (hx : FP.Core.decode FP.Core.b32 x.toNat = .fin s (8388608 + M1) ((E1 : Int) - 150)) (hy : FP.Core.decode FP.Core.b32 y.toNat = .fin t (8388608 + M2) ((E2 : Int) - 150)) : 8388608 ≤ (FP.fdiv x y).toNat % 2147483648 ∧ (FP.fdiv x y).toNat % 2147483648 < 2139095040 := by
  have hd : FP.Core.decode FP.Core.b32 (FP.fdiv x y).toNat = FP.Core.roundRatio FP.Core.b32 (s != t) (8388608 + M1) (8388608 + M2) (((E1 : Int) - 150) - ((E2 : Int) - 150)) := by
    have h := FP.Core.val32_fdiv x y
    have hq : FP.Core.quotient FP.Core.b32 (.fin s (8388608 + M1) ((E1 : Int) - 150)) (.fin t (8388608 + M2) ((E2 : Int) - 150)) = FP.Core.roundRatio FP.Core.b32 (s != t) (8388608 + M1) (8388608 + M2) (((E1 : Int) - 150) - ((E2 : Int) - 150)) := if_neg (by omega)
    rw [← hq, ← hx, ← hy]
    exact h
  have u1 : FP.Core.unitsOf FP.Core.b32 620756992 = 2 ^ 96 := by decide +kernel
  have u2 : FP.Core.unitsOf FP.Core.b32 1509949440 = 2 ^ 202 := by decide +kernel
  obtain ⟨k, hk, hk2, hk3⟩ : ∃ k : Nat, 98 ≤ k ∧ k ≤ 200 ∧ FP.Core.inUnits (8388608 + M1) (((E1 : Int) - 150) - ((E2 : Int) - 150)) (-149) = (8388608 + M1) * 2 ^ k := ⟨(((E1 : Int) - 150) - ((E2 : Int) - 150) - (-149)).toNat, by omega, by omega, rfl⟩
  have m1 := FP.Core.mag_ge FP.Core.good_b32 (m := 620756992) (e0 := -149) hd (by omega) (by rw [b_qmin]; omega) (by omega) (by rw [b_inf]; omega) (by
    rw [hk3, u1, b_qmin, show ((-149 : Int) - -149).toNat = 0 from rfl, Nat.pow_zero, Nat.mul_one]
    have p1 : 2 ^ 98 ≤ 2 ^ k := Nat.pow_le_pow_right (by decide) hk
    have p2 : 8388608 * 2 ^ 98 ≤ (8388608 + M1) * 2 ^ k := Nat.mul_le_mul (by omega) p1
    have p3 : 2 ^ 96 * (8388608 + M2) ≤ 2 ^ 96 * 16777216 := Nat.mul_le_mul_left _ (by omega)
    exact Nat.le_trans p3 (Nat.le_trans (by decide) p2))
  have m2 := FP.Core.mag_le FP.Core.good_b32 (m := 1509949440) (e0 := -149) hd (by omega) (by rw [b_qmin]; omega) (by omega) (by
    rw [hk3, u2, b_qmin, show ((-149 : Int) - -149).toNat = 0 from rfl, Nat.pow_zero, Nat.mul_one]
    have p1 : 2 ^ k ≤ 2 ^ 200 := Nat.pow_le_pow_right (by decide) hk2
    have p2 : (8388608 + M1) * 2 ^ k ≤ 16777216 * 2 ^ 200 := Nat.mul_le_mul (by omega) p1
    have p3 : 2 ^ 202 * 8388608 ≤ 2 ^ 202 * (8388608 + M2) := Nat.mul_le_mul_left _ (by omega)
    exact Nat.le_trans p2 (Nat.le_trans (by decide) p3))
  rw [mag_s] at m1 m2
  omega
theorem bits_s {t b : Int64} (ht : t.toInt.natAbs ≤ 1521681143169024) (hb : 1 ≤ b.toInt) (hb2 : b.toInt ≤ 248832) : ∃ v, ¬ Op.cmpValue (FP.fcmp (FP.l2f b) FP.fconst0) CmpOp.l ≤ 0 ∧ kfn (FP.fdiv (FP.l2f t) (FP.l2f b)) = true ∧ pX5_floatBits (FP.fdiv (FP.l2f t) (FP.l2f b)) = some v ∧ pJ_ftib (FP.fdiv (FP.l2f t) (FP.l2f b)) = some v := by
  obtain ⟨s2, E2, M2, b1, b2, hM2, hy, hs2, hm2⟩ := conv_s (t := b) (by omega) (by omega)
  have hcmp : ¬ Op.cmpValue (FP.fcmp (FP.l2f b) FP.fconst0) CmpOp.l ≤ 0 := by
    have hlt : (FP.l2f b).toNat < 2147483648 := by
      have h := FP.Core.sgn_decode (f := FP.Core.b32) (n := (FP.l2f b).toNat) (by rw [hm2, b_inf]; omega) (by rw [b_half]; have := (FP.l2f b).toNat_lt; omega)
      rw [hy] at h
      have h : s2 = decide (FP.Core.half FP.Core.b32 ≤ (FP.l2f b).toNat) := h
      rw [hs2, b_half, decide_eq_false (by omega)] at h
      have := of_decide_eq_false h.symm
      omega
    rw [mag_s, Nat.mod_eq_of_lt hlt] at hm2
    rw [fcmp_s (by rw [mag_s, Nat.mod_eq_of_lt hlt, hm2]; omega) mag_c0, key_p hlt, key_c0, if_neg (by omega), if_neg (by omega)]
    decide
  by_cases h0 : t.toInt = 0
  · have ht0 : t = 0 := Int64.toInt_inj.mp (by rw [h0, lg0])
    have hz : FP.fdiv (FP.l2f t) (FP.l2f b) = 0 := by
      rw [ht0]
      show UInt32.ofNat (FP.Core.encode FP.Core.b32 (FP.Core.quotient FP.Core.b32 (FP.Core.decode FP.Core.b32 (FP.l2f 0).toNat) (FP.Core.decode FP.Core.b32 (FP.l2f b).toNat))) = _
      rw [hy, show FP.Core.decode FP.Core.b32 (FP.l2f 0).toNat = .fin false 0 (-149) from by decide +kernel]
      have hq : FP.Core.quotient FP.Core.b32 (.fin false 0 (-149)) (.fin s2 (8388608 + M2) ((E2 : Int) - 150)) = FP.Core.roundRatio FP.Core.b32 (false != s2) 0 (8388608 + M2) (-149 - ((E2 : Int) - 150)) := if_neg (by omega)
      rw [hq, hs2, decide_eq_false (by omega)]
      unfold FP.Core.roundRatio
      rw [if_pos rfl]
      decide +kernel
    rw [hz]
    exact ⟨0, hcmp, by decide, by decide +kernel, by decide +kernel⟩
  · obtain ⟨s1, E1, M1, a1, a2, hM1, hx, -, -⟩ := conv_s (t := t) (by omega) (by omega)
    obtain ⟨q1, q2⟩ := quot_s a1 a2 b1 b2 hM1 hM2 hx hy
    exact ⟨_, hcmp, kfn_s (by omega), nb_f q1 q2, self_f (by omega)⟩
theorem sim_positionBits (a1 : Int32) (a2 : Int32) (t_scn : Int32) (r_er : Nat → Int32) (g_vc : Int32) (g_ec : Int32) (g_F : Nat → Int32) (g_T : Nat → Int32) (g_X : Nat → Int32) (g_Z : Nat → Int32) (v_pi : Nat → Nat) (v_vc : Nat → Int32) (v_ec : Nat → Int32) (v_F : Nat → Nat → Int32) (v_T : Nat → Nat → Int32) (v_X : Nat → Nat → Int32) (v_Z : Nat → Nat → Int32) (e_cn : Nat → Int32) (e_M : Nat → Nat → Int32) (s_fi : Int32) (s_ta : Int32) (s_st : Nat → Int32) (s_qu : Nat → Int32) (c_re : Nat → Int32) (c_cx : Nat → Int32) (c_cy : Nat → Int32) (c_px : Nat → Int32) (c_py : Nat → Int32) (c_pn : Int32) (p_R : Nat → Nat → Int64) (p_un : Int32) (p_sc : Int64) (m_now : Nat → Int32) (m_sav : Nat → Int32) (m_sc : Int32) (m_err : Nat → Int32) (m_qx : Nat → Int32) (m_qy : Nat → Int32) (m_met : Nat → Int32) (m_row : Nat → Int64) (m_det : Int64) (h : Rel t_scn r_er g_vc g_ec g_F g_T g_X g_Z v_pi v_vc v_ec v_F v_T v_X v_Z e_cn e_M s_fi s_ta s_st s_qu m_now m_sav m_sc m_err) : ∃ (o : Int32 × (Nat → Nat → Int64) × Int32 × Int64 × (Nat → Int32) × (Nat → Int32) × (Nat → Int32) × (Nat → Int32) × (Nat → Int32) × (Nat → Int32) × Int32) (o' : Int32 × (Nat → Int32) × (Nat → Int32) × (Nat → Int32) × (Nat → Int32) × (Nat → Int64) × Int64), pX5_positionBits a1 a2 p_R p_un p_sc r_er g_vc g_ec g_F g_T g_X g_Z c_re c_cx c_cy c_px c_py c_pn = some o ∧ pX6_positionBits a1 a2 m_now m_err m_qx m_qy m_met m_row m_det = some o' ∧ o.1 = o'.1 ∧ Rel t_scn o.2.2.2.2.1 g_vc g_ec g_F g_T g_X g_Z v_pi v_vc v_ec v_F v_T v_X v_Z e_cn e_M s_fi s_ta s_st s_qu m_now m_sav m_sc o'.2.1 := by
  obtain ⟨hG, hM, hE, hS, hR, hV⟩ := h
  obtain ⟨nv, ne, rfl, rfl, h1, hnv, hne⟩ := hG.n
  obtain ⟨re', cx', cy', px', py', pn', tr, ⟨o1, o2, o3, o4, o5, o6, o7⟩, a1, a2, a3⟩ := D_coord h1 hnv hG hM hne a1 a2 c_re c_cx c_cy c_px c_py m_met m_qx m_qy m_err c_pn p_un p_R p_sc m_det m_row
  have hm : pX6_positionBits _ _ m_now m_err m_qx m_qy m_met m_row m_det = _ := a2 _ _
  rcases a3 with ⟨e1, e2, e3⟩ | ⟨e1, e2, e3⟩ | ⟨e1, e2, e3, k, ax, R, s, rfl, hk, rfl, hax, b2, b3, b4⟩
  · dsimp only at e2 e3
    subst e1 e2 e3
    refine ⟨(-2, p_R, p_un, p_sc, upd r_er 0 (r_er 0 + 1), re', cx', cy', px', py', pn'), (-2, upd m_err 0 (m_err 0 + 1), o3, o4, o5, o6, o7), ?_, ?_, rfl, hG, hM, hE, hS, RI_up hR 0 (by omega), hV⟩
    · unfold pX5_positionBits; rw [a1, kb_s, if_neg n2_0, fail_2, kb_s]
    · rw [hm]; exact if_neg n2_le
  · dsimp only at e2 e3
    subst e1 e2 e3
    refine ⟨(-6, p_R, p_un, p_sc, upd r_er 4 (r_er 4 + 1), re', cx', cy', px', py', pn'), (-6, upd m_err 4 (m_err 4 + 1), o3, o4, o5, o6, o7), ?_, ?_, rfl, hG, hM, hE, hS, RI_up hR 4 (by omega), hV⟩
    · unfold pX5_positionBits; rw [a1, kb_s, if_neg n6_0, fail_6, kb_s]
    · rw [hm]; exact if_neg n6_le
  · dsimp only at e2 e3 b3 b4
    subst e1 e2 e3 b3
    obtain ⟨g, t, b, t1, t2, t3, t4, g1, g2, g3, g4⟩ := ratio_s (u := nv - 1) (by omega) b4 (v := k) (by omega) hax
    have hz := zz_b b4 (v := k) (ax := ax) (by omega) hax
    have hs1 := b4.2.1
    have hs2 := b4.2.2.1
    have hgl : g ≤ o7.toInt.natAbs := by rw [g2]; exact Nat.gcd_le_right _ (by omega)
    have hg : (lN g).toInt = g := pk_lT (by omega)
    have ht : t.toInt.natAbs ≤ 1521681143169024 := by
      have hb : ((zz R (nv - 1) k ax).toInt.tdiv (g : Int)).natAbs ≤ (zz R (nv - 1) k ax).toInt.natAbs := by rw [Int.natAbs_tdiv]; exact Nat.div_le_self _ _
      rw [g3, Int64.toInt_div, hg, Int.bmod_eq_of_le (by omega) (by omega)]
      omega
    have hbb : 1 ≤ b.toInt ∧ b.toInt ≤ 248832 := by
      have e : o7 = lN o7.toInt.natAbs := by
        have := l_nat (x := o7) (by omega)
        rw [show o7.toInt.natAbs = o7.toInt.toNat by omega]
        exact this
      have hdp : 0 < o7.toInt.natAbs / g := Nat.div_pos hgl g1
      have hdl : o7.toInt.natAbs / g ≤ o7.toInt.natAbs := Nat.div_le_self _ _
      have hbe : b = lN (o7.toInt.natAbs / g) := by
        rw [g4]
        conv => lhs; rw [e]
        exact pk_lDiv (by omega) g1 (by omega)
      rw [hbe, pk_lT (by omega)]
      omega
    obtain ⟨v, c1, c2, c3, c4⟩ := bits_s ht hbb.1 hbb.2
    refine ⟨(v, R, nI (nv - 1), o7, r_er, re', cx', cy', px', py', pn'), (v, o2, o3, o4, o5, o6, o7), ?_, ?_, rfl, hG, hM, hE, hS, hR, hV⟩
    · unfold pX5_positionBits; rw [a1, kb_s, if_pos rfl, b2, kb_s]; simp only []; rw [t2, kb_s, if_neg c1, t1, kb_s, c2, kgd_tt, c3, kb_s]
    · rw [hm]; refine (if_pos z_le).trans ?_; show kb (pX6_upper (nI k) (nI ax) o6 o7) _ = _; rw [t3, kb_s]
      show kb (pX6_lower (nI k) (nI ax) o6 o7) _ = _
      rw [t4, kb_s, c2, kgd_tt, c4, kb_s]
