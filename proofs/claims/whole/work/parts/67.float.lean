/-! floats: the bits that the class makes, beside Float.floatToIntBits -/
theorem b_exps : FP.Core.b32.exps = 256 := by decide
theorem b_tails : FP.Core.b32.tails = 8388608 := by decide
theorem b_qmin : FP.Core.b32.qmin = -149 := by decide
theorem b_qmax : FP.Core.b32.qmax = 104 := by decide
theorem b_half : FP.Core.half FP.Core.b32 = 2147483648 := by decide
theorem b_inf : FP.Core.infBits FP.Core.b32 = 2139095040 := by decide
theorem b_pp : 2 ^ FP.Core.b32.p = 16777216 := by decide
theorem dec_s (s : Bool) {E M : Nat} (h1 : 1 ≤ E) (h2 : E ≤ 254) (hM : M < 8388608) : FP.Core.decode FP.Core.b32 (s.toNat * 2147483648 + (E * 8388608 + M)) = .fin s (8388608 + M) ((E : Int) - 150) := by
  have h := FP.Core.decode_assemble FP.Core.b32 s E M (by rw [b_exps]; omega) (by rw [b_tails]; exact hM)
  unfold FP.Core.assemble at h
  rw [b_exps, b_tails, if_neg (by omega), if_neg (by omega), b_qmin, show (s.toNat * 256 + E) * 8388608 + M = s.toNat * 2147483648 + (E * 8388608 + M) by omega] at h
  rw [h]
  congr 1
  omega
theorem dec_p {E M : Nat} (h1 : 1 ≤ E) (h2 : E ≤ 254) (hM : M < 8388608) : FP.Core.decode FP.Core.b32 (E * 8388608 + M) = .fin false (8388608 + M) ((E : Int) - 150) := by
  have := dec_s false h1 h2 hM
  rw [show (false : Bool).toNat = 0 from rfl, Nat.zero_mul, Nat.zero_add] at this
  exact this
theorem enc_p {E M : Nat} (h1 : 1 ≤ E) (h2 : E ≤ 254) (hM : M < 8388608) : FP.Core.encode FP.Core.b32 (.fin false (8388608 + M) ((E : Int) - 150)) = E * 8388608 + M := by
  show (if 8388608 + M < FP.Core.b32.tails then _ else _) = _
  rw [b_tails, if_neg (by omega)]
  unfold FP.Core.assemble
  rw [b_exps, b_tails, b_qmin, show (false : Bool).toNat = 0 from rfl]
  omega
theorem fit_p {E M : Nat} (h1 : 1 ≤ E) (h2 : E ≤ 254) (hM : M < 8388608) : FP.Core.fits FP.Core.b32 (.fin false (8388608 + M) ((E : Int) - 150)) := by
  refine ⟨?_, ?_, ?_, Or.inr ?_⟩
  · rw [b_pp]; omega
  · rw [b_qmin]; omega
  · rw [b_qmax]; omega
  · rw [b_tails]; omega
def fE (E M : Nat) : UInt32 := UInt32.ofNat (E * 8388608 + M)
theorem fE_n {E M : Nat} (h2 : E ≤ 254) (hM : M < 8388608) : (fE E M).toNat = E * 8388608 + M := UInt32.toNat_ofNat_of_lt (show E * 8388608 + M < 4294967296 by omega)
theorem half_f {E M : Nat} (h1 : 1 ≤ E) (h2 : E + 1 ≤ 254) (hM : M < 8388608) : FP.fdiv (fE (E + 1) M) FP.fconst2 = fE E M := by
  show UInt32.ofNat (FP.Core.encode FP.Core.b32 (FP.Core.quotient FP.Core.b32 (FP.Core.decode FP.Core.b32 (fE (E + 1) M).toNat) (FP.Core.decode FP.Core.b32 FP.fconst2.toNat))) = _
  rw [fE_n (by omega) hM, dec_p (by omega) (by omega) hM, show FP.Core.decode FP.Core.b32 FP.fconst2.toNat = .fin false 8388608 (-22) from by decide +kernel]
  show UInt32.ofNat (FP.Core.encode FP.Core.b32 (FP.Core.roundRatio FP.Core.b32 false (8388608 + M) 8388608 (((E + 1 : Nat) : Int) - 150 - (-22)))) = _
  rw [FP.Core.roundRatio_exact FP.Core.good_b32 (c := 8388608 + M) (q := (E : Int) - 150) (by decide) (fit_p h1 (by omega) hM), enc_p h1 (by omega) hM]
  · rfl
  · rw [show (((E + 1 : Nat) : Int) - 150 - (-22) - ((E : Int) - 150)).toNat = 23 by omega, show ((E : Int) - 150 - (((E + 1 : Nat) : Int) - 150 - (-22))).toNat = 0 by omega]
    omega
theorem twice_f {E M : Nat} (h1 : 1 ≤ E) (h2 : E + 1 ≤ 254) (hM : M < 8388608) : FP.fmul (fE E M) FP.fconst2 = fE (E + 1) M := by
  show UInt32.ofNat (FP.Core.encode FP.Core.b32 (FP.Core.round FP.Core.b32 (FP.Core.exactProduct (FP.Core.decode FP.Core.b32 (fE E M).toNat) (FP.Core.decode FP.Core.b32 FP.fconst2.toNat)))) = _
  rw [fE_n (by omega) hM, dec_p (by omega) (by omega) hM, show FP.Core.decode FP.Core.b32 FP.fconst2.toNat = .fin false 8388608 (-22) from by decide +kernel]
  show UInt32.ofNat (FP.Core.encode FP.Core.b32 (FP.Core.roundRatio FP.Core.b32 false ((8388608 + M) * 8388608) 1 ((E : Int) - 150 + (-22)))) = _
  rw [FP.Core.roundRatio_exact FP.Core.good_b32 (c := 8388608 + M) (q := ((E + 1 : Nat) : Int) - 150) (by decide) (fit_p (by omega) (by omega) hM), enc_p (by omega) (by omega) hM]
  · rfl
  · rw [show ((E : Int) - 150 + (-22) - (((E + 1 : Nat) : Int) - 150)).toNat = 0 by omega, show (((E + 1 : Nat) : Int) - 150 - ((E : Int) - 150 + (-22))).toNat = 23 by omega]
    omega
theorem scale_f {M : Nat} (hM : M < 8388608) : FP.fmul (fE 127 M) (1258291200 : UInt32) = fE 150 M := by
  show UInt32.ofNat (FP.Core.encode FP.Core.b32 (FP.Core.round FP.Core.b32 (FP.Core.exactProduct (FP.Core.decode FP.Core.b32 (fE 127 M).toNat) (FP.Core.decode FP.Core.b32 (1258291200 : UInt32).toNat)))) = _
  rw [fE_n (by omega) hM, dec_p (by omega) (by omega) hM, show FP.Core.decode FP.Core.b32 (1258291200 : UInt32).toNat = .fin false 8388608 0 from by decide +kernel]
  show UInt32.ofNat (FP.Core.encode FP.Core.b32 (FP.Core.roundRatio FP.Core.b32 false ((8388608 + M) * 8388608) 1 (((127 : Nat) : Int) - 150 + 0))) = _
  rw [FP.Core.roundRatio_exact FP.Core.good_b32 (c := 8388608 + M) (q := ((150 : Nat) : Int) - 150) (by decide) (fit_p (by omega) (by omega) hM), enc_p (by omega) (by omega) hM]
  · rfl
  · show (8388608 + M) * 8388608 * 2 ^ 0 = (8388608 + M) * 1 * 2 ^ 23
    omega
theorem f2i_f {M : Nat} (hM : M < 8388608) : FP.f2i (fE 150 M) = nI (8388608 + M) := by
  show FP.Core.toI (FP.Core.decode FP.Core.b32 (fE 150 M).toNat) = _
  rw [fE_n (by omega) hM, dec_p (by omega) (by omega) hM]
  show Int32.ofInt (max (-2 ^ 31) (min (2 ^ 31 - 1) (FP.Core.signed false ((8388608 + M) * 2 ^ 0 / 2 ^ 0)))) = _
  have : FP.Core.signed false ((8388608 + M) * 2 ^ 0 / 2 ^ 0) = ((8388608 + M : Nat) : Int) := by
    show (((8388608 + M) * 1 / 1 : Nat) : Int) = _
    rw [Nat.mul_one, Nat.div_one]
  rw [this, show max (-2 ^ 31) (min (2 ^ 31 - 1) ((8388608 + M : Nat) : Int)) = ((8388608 + M : Nat) : Int) by omega]
  rfl
theorem cmp_i (a b : Int) (op : CmpOp) : Op.cmpValue (some (compare a b)) op = if a < b then -1 else if a = b then 0 else 1 := by
  show Op.cmpValue (some (if a < b then Ordering.lt else if a = b then Ordering.eq else Ordering.gt)) op = _
  split
  · rfl
  · split <;> rfl
theorem fcmp_s {x y : UInt32} (hx : FP.Core.mag FP.Core.b32 x.toNat ≤ 2139095040) (hy : FP.Core.mag FP.Core.b32 y.toNat ≤ 2139095040) (op : CmpOp) : Op.cmpValue (FP.fcmp x y) op = if FP.Core.key FP.Core.b32 x.toNat < FP.Core.key FP.Core.b32 y.toNat then -1 else if FP.Core.key FP.Core.b32 x.toNat = FP.Core.key FP.Core.b32 y.toNat then 0 else 1 := by
  have e : FP.fcmp x y = some (compare (FP.Core.key FP.Core.b32 x.toNat) (FP.Core.key FP.Core.b32 y.toNat)) := FP.Core.cmp_key FP.Core.good_b32 (by rw [b_half]; have := x.toNat_lt; omega) (by rw [b_half]; have := y.toNat_lt; omega) (fun e => by have := (FP.Core.decode_nan _).mp e; rw [b_inf] at this; omega) (fun e => by have := (FP.Core.decode_nan _).mp e; rw [b_inf] at this; omega)
  rw [e]
  exact cmp_i _ _ op
theorem mag_s (n : Nat) : FP.Core.mag FP.Core.b32 n = n % 2147483648 := by unfold FP.Core.mag; rw [b_half]
theorem key_p {n : Nat} (h : n < 2147483648) : FP.Core.key FP.Core.b32 n = n := by
  unfold FP.Core.key
  rw [b_half, mag_s, decide_eq_false (by omega), Nat.mod_eq_of_lt h]
  rfl
theorem key_n {n : Nat} (h : n < 2147483648) : FP.Core.key FP.Core.b32 (2147483648 + n) = -(n : Int) := by
  unfold FP.Core.key
  rw [b_half, mag_s, decide_eq_true (by omega), show (2147483648 + n) % 2147483648 = n by omega]
  rfl
theorem kfn_s {x : UInt32} (h : x.toNat % 2147483648 ≤ 2139095040) : kfn x = true := by
  refine decide_eq_true ?_
  rw [UInt32.le_iff_toNat_le, UInt32.toNat_and]
  show x.toNat &&& 2147483647 ≤ 2139095040
  rw [show 2147483647 = 2 ^ 31 - 1 from rfl, Nat.and_two_pow_sub_one_eq_mod]
  exact h
theorem mag_f {E M : Nat} (h2 : E ≤ 254) (hM : M < 8388608) : FP.Core.mag FP.Core.b32 (fE E M).toNat ≤ 2139095040 := by
  rw [mag_s, fE_n h2 hM]; omega
theorem key_f {E M : Nat} (h2 : E ≤ 254) (hM : M < 8388608) : FP.Core.key FP.Core.b32 (fE E M).toNat = ((E * 8388608 + M : Nat) : Int) := by
  rw [fE_n h2 hM, key_p (by omega)]
theorem kfn_f {E M : Nat} (h2 : E ≤ 254) (hM : M < 8388608) : kfn (fE E M) = true := kfn_s (by rw [fE_n h2 hM]; omega)
theorem key_c2 : FP.Core.key FP.Core.b32 FP.fconst2.toNat = 1073741824 := by decide +kernel
theorem key_c1 : FP.Core.key FP.Core.b32 FP.fconst1.toNat = 1065353216 := by decide +kernel
theorem key_c0 : FP.Core.key FP.Core.b32 FP.fconst0.toNat = 0 := by decide +kernel
theorem mag_c2 : FP.Core.mag FP.Core.b32 FP.fconst2.toNat ≤ 2139095040 := by decide +kernel
theorem mag_c1 : FP.Core.mag FP.Core.b32 FP.fconst1.toNat ≤ 2139095040 := by decide +kernel
theorem mag_c0 : FP.Core.mag FP.Core.b32 FP.fconst0.toNat ≤ 2139095040 := by decide +kernel
theorem down_loop (x : UInt32) {M : Nat} (hM : M < 8388608) : ∀ (m E k n : Nat), E = 127 + m → E ≤ 254 → k + m ≤ 254 → m < n → pX5_floatBits_L24 n x (fE E M) (nI k) = some (fE 127 M, nI (k + m)) := by
  intro m
  induction m with
  | zero =>
    intro E k n hE hE2 hk hn
    obtain ⟨n, rfl⟩ : ∃ k, n = k + 1 := ⟨n - 1, by omega⟩
    have hE : E = 127 := hE
    subst hE
    rw [pX5_floatBits_L24, fcmp_s (mag_f (by omega) hM) mag_c2, key_f (by omega) hM, key_c2, if_pos (show ((127 * 8388608 + M : Nat) : Int) < 1073741824 by omega), if_pos (by decide)]
    rfl
  | succ m ih =>
    intro E k n hE hE2 hk hn
    obtain ⟨n, rfl⟩ : ∃ k, n = k + 1 := ⟨n - 1, by omega⟩
    obtain ⟨E, rfl⟩ : ∃ k, E = k + 1 := ⟨E - 1, by omega⟩
    have hc : ¬ Op.cmpValue (FP.fcmp (fE (E + 1) M) FP.fconst2) CmpOp.l < 0 := by
      rw [fcmp_s (mag_f (by omega) hM) mag_c2, key_f (by omega) hM, key_c2, if_neg (by omega)]
      split <;> decide
    rw [pX5_floatBits_L24, if_neg hc, if_neg (show ¬ (254 : Int32) ≤ nI k from nI_ge (a := k) (b := 254) (by omega) (by omega)), half_f (by omega) (by omega) hM, kfn_f (by omega) hM, kgd_tt, nI_1, ih E (k + 1) n (by omega) (by omega) (by omega) (by omega), show k + 1 + m = k + (m + 1) by omega]
theorem down0 (x : UInt32) {E M : Nat} (hE : E ≤ 127) (h1 : 1 ≤ E) (hM : M < 8388608) : pX5_floatBits_L24 KF x (fE E M) (nI 127) = some (fE E M, nI 127) := by
  rw [show KF = 6999 + 1 from rfl, pX5_floatBits_L24, fcmp_s (mag_f (by omega) hM) mag_c2, key_f (by omega) hM, key_c2, if_pos (show ((E * 8388608 + M : Nat) : Int) < 1073741824 by omega), if_pos (by decide)]
theorem up0 (x : UInt32) {M : Nat} (hM : M < 8388608) (k : Int32) : pX5_floatBits_L47 KF x (fE 127 M) k = some (fE 127 M, k) := by
  have hc : 0 ≤ Op.cmpValue (FP.fcmp (fE 127 M) FP.fconst1) CmpOp.g := by
    rw [fcmp_s (mag_f (by omega) hM) mag_c1, key_f (by omega) hM, key_c1, if_neg (by omega)]
    split <;> decide
  rw [show KF = 6999 + 1 from rfl, pX5_floatBits_L47, if_pos hc]
theorem up_loop2 (x : UInt32) {M : Nat} (hM : M < 8388608) : ∀ (m E E0 n : Nat), E + m = 127 → 1 ≤ E0 → E0 ≤ E → m < n → pX5_floatBits_L47 n x (fE E M) (nI (E0 + m)) = some (fE 127 M, nI E0) := by
  intro m
  induction m with
  | zero =>
    intro E E0 n hE h1 h2 hn
    obtain ⟨n, rfl⟩ : ∃ k, n = k + 1 := ⟨n - 1, by omega⟩
    have hE : E = 127 := hE
    subst hE
    have hc : 0 ≤ Op.cmpValue (FP.fcmp (fE 127 M) FP.fconst1) CmpOp.g := by
      rw [fcmp_s (mag_f (by omega) hM) mag_c1, key_f (by omega) hM, key_c1, if_neg (by omega)]
      split <;> decide
    rw [pX5_floatBits_L47, if_pos hc]
    rfl
  | succ m ih =>
    intro E E0 n hE h1 h2 hn
    obtain ⟨n, rfl⟩ : ∃ k, n = k + 1 := ⟨n - 1, by omega⟩
    have hc : ¬ 0 ≤ Op.cmpValue (FP.fcmp (fE E M) FP.fconst1) CmpOp.g := by
      rw [fcmp_s (mag_f (by omega) hM) mag_c1, key_f (by omega) hM, key_c1, if_pos (by omega)]
      decide
    rw [pX5_floatBits_L47, if_neg hc, if_neg (show ¬ nI (E0 + (m + 1)) ≤ (1 : Int32) from nI_ge (a := 1) (b := E0 + (m + 1)) (by omega) (by omega)), twice_f (by omega) (by omega) hM, kfn_f (by omega) hM, kgd_tt, show nI (E0 + (m + 1)) + (-1) = nI (E0 + m) by rw [show E0 + (m + 1) = E0 + m + 1 by omega, ← Int32.sub_eq_add_neg, nI_pred]]
    exact ih (E + 1) E0 n (by omega) h1 (by omega) (by omega)
theorem nI_or (a b : Nat) : nI a ||| nI b = nI (a ||| b) := by
  apply Int32.toBitVec_inj.mp
  rw [Int32.toBitVec_or]
  show BitVec.ofNat 32 a ||| BitVec.ofNat 32 b = BitVec.ofNat 32 (a ||| b)
  rw [BitVec.ofNat_or]
theorem bits_or {E M : Nat} (hM : M < 8388608) (s : Nat) : (s * 2147483648 ||| E * 8388608) ||| M = (s * 2147483648 ||| E * 8388608) + M := by
  have e1 : s * 2147483648 ||| E * 8388608 = 2 ^ 23 * (s * 256 ||| E) := by
    rw [Nat.mul_comm (2 ^ 23), ← Nat.shiftLeft_eq, Nat.shiftLeft_or_distrib, Nat.shiftLeft_eq, Nat.shiftLeft_eq, Nat.mul_assoc]
  rw [e1, Nat.two_pow_add_eq_or_of_lt (i := 23) (by omega)]
theorem bits_or2 {E : Nat} (hE : E ≤ 254) (s : Nat) : s * 2147483648 ||| E * 8388608 = s * 2147483648 + E * 8388608 := by
  rw [Nat.mul_comm s, show 2147483648 = 2 ^ 31 from rfl, Nat.two_pow_add_eq_or_of_lt (i := 31) (by omega)]
theorem un_lt {n : Nat} (h : n < 4294967296) : (UInt32.ofNat n).toNat = n := UInt32.toNat_ofNat_of_lt h
theorem xor31 {n : Nat} (h : n < 2147483648) : (2147483648 + n) ^^^ 2147483648 = n := by
  apply Nat.eq_of_testBit_eq
  intro i
  rw [Nat.testBit_xor, show 2147483648 = 2 ^ 31 from rfl, Nat.testBit_two_pow]
  rcases Nat.lt_trichotomy i 31 with h1 | h1 | h1
  · rw [Nat.testBit_two_pow_add_gt h1, decide_eq_false (show ¬ 31 = i by omega), Bool.xor_false]
  · subst h1
    rw [Nat.testBit_two_pow_add_eq, decide_eq_true rfl, Nat.testBit_lt_two_pow (show n < 2 ^ 31 from h)]
    rfl
  · have h2 : 2 ^ 32 ≤ 2 ^ i := Nat.pow_le_pow_right (by decide) h1
    rw [Nat.testBit_lt_two_pow (show 2 ^ 31 + n < 2 ^ i by omega), Nat.testBit_lt_two_pow (show n < 2 ^ i by omega), decide_eq_false (show ¬ 31 = i by omega)]
    rfl
theorem fneg_f {E M : Nat} (h2 : E ≤ 254) (hM : M < 8388608) : FP.fneg (UInt32.ofNat (2147483648 + (E * 8388608 + M))) = fE E M := by
  apply UInt32.toNat_inj.mp
  show (UInt32.ofNat (2147483648 + (E * 8388608 + M)) ^^^ 0x80000000).toNat = _
  rw [UInt32.toNat_xor, un_lt (show 2147483648 + (E * 8388608 + M) < 4294967296 by omega), fE_n h2 hM]
  exact xor31 (by omega)
theorem rounds_f (x : UInt32) {E M : Nat} (h1 : 1 ≤ E) (h2 : E ≤ 254) (hM : M < 8388608) : ∃ k, pX5_floatBits_L24 KF x (fE E M) 127 = some k ∧ pX5_floatBits_L47 KF x k.1 k.2 = some (fE 127 M, nI E) := by
  by_cases h : 127 ≤ E
  · refine ⟨(fE 127 M, nI E), ?_, up0 x hM _⟩
    have := down_loop x hM (E - 127) E 127 KF (by omega) h2 (by omega) (by unfold KF; omega)
    rw [show 127 + (E - 127) = E by omega] at this
    exact this
  · refine ⟨(fE E M, nI 127), down0 x (by omega) h1 hM, ?_⟩
    have := up_loop2 x hM (127 - E) E E KF (by omega) h1 (by omega) (by unfold KF; omega)
    rw [show E + (127 - E) = 127 by omega] at this
    exact this
theorem fin_f {E M s : Nat} (h1 : 1 ≤ E) (h2 : E ≤ 254) (hM : M < 8388608) (hs : s ≤ 1) : (∀ v17, v17 = nI (s * 2147483648) → (v17 ||| (nI E <<< (23 &&& 31))) ||| ((FP.f2i (fE 150 M)) - 8388608) = nI (s * 2147483648 + (E * 8388608 + M))) := by
  intro v17 hv
  rw [hv, f2i_f hM, show nI (8388608 + M) - 8388608 = nI M from (pk_sub (a := 8388608 + M) (b := 8388608) (by omega)).trans (by rw [show 8388608 + M - 8388608 = M by omega]), pk_shlN (23 &&& 31) 23 (by decide) (by omega), show (2 : Nat) ^ 23 = 8388608 from rfl, nI_or, nI_or, bits_or hM, bits_or2 h2, Nat.add_assoc]
theorem self_f {x : UInt32} (h : x.toNat % 2147483648 ≤ 2139095040) : pJ_ftib x = some x.toInt32 := by
  unfold pJ_ftib pJ_isNaN
  have c : Op.cmpValue (FP.fcmp x x) CmpOp.l = 0 := by rw [fcmp_s (by rw [mag_s]; exact h) (by rw [mag_s]; exact h), if_neg (Int.lt_irrefl _), if_pos rfl]
  rw [c, if_pos rfl, kb_s, if_pos rfl]
theorem nb_f {x : UInt32} (h1 : 8388608 ≤ x.toNat % 2147483648) (h2 : x.toNat % 2147483648 < 2139095040) : pX5_floatBits x = some x.toInt32 := by
  have hx := x.toNat_lt
  obtain ⟨E, M, hE1, hE2, hM, hn⟩ : ∃ E M, 1 ≤ E ∧ E ≤ 254 ∧ M < 8388608 ∧ x.toNat % 2147483648 = E * 8388608 + M := ⟨x.toNat % 2147483648 / 8388608, x.toNat % 2147483648 % 8388608, by omega, by omega, by omega, by omega⟩
  have hm : FP.Core.mag FP.Core.b32 x.toNat ≤ 2139095040 := by rw [mag_s]; omega
  obtain ⟨k, r1, r2⟩ := rounds_f x hE1 hE2 hM
  unfold pX5_floatBits
  by_cases hs : x.toNat < 2147483648
  · have hxn : x.toNat = E * 8388608 + M := by omega
    have hxe : x = fE E M := UInt32.toNat_inj.mp (by rw [hxn, fE_n hE2 hM])
    have hk : FP.Core.key FP.Core.b32 x.toNat = ((E * 8388608 + M : Nat) : Int) := by rw [hxn, key_p (by omega)]
    have c : ∀ op, Op.cmpValue (FP.fcmp x FP.fconst0) op = 1 := fun op => by
      rw [fcmp_s hm mag_c0, hk, key_c0, if_neg (by omega), if_neg (by omega)]
    rw [c, c, if_neg (by decide), if_pos (by decide), if_pos (by decide), kb_s]
    rw [← hxe] at r1
    rw [r1, kb_s, r2, kb_s]
    simp only []
    rw [scale_f hM, kfn_f (by omega) hM, kgd_tt, kb_s, fin_f hE1 hE2 hM (s := 0) (by omega) 0 rfl]
    rw [Nat.zero_mul, Nat.zero_add, hxe]
    rfl
  · have hxn : x.toNat = 2147483648 + (E * 8388608 + M) := by omega
    have hxe : x = UInt32.ofNat (2147483648 + (E * 8388608 + M)) := UInt32.toNat_inj.mp (by rw [hxn, un_lt (show 2147483648 + (E * 8388608 + M) < 4294967296 by omega)])
    have hk : FP.Core.key FP.Core.b32 x.toNat = -((E * 8388608 + M : Nat) : Int) := by rw [hxn, key_n (by omega)]
    have c : ∀ op, Op.cmpValue (FP.fcmp x FP.fconst0) op = -1 := fun op => by
      rw [fcmp_s hm mag_c0, hk, key_c0, if_pos (by omega)]
    have hneg : FP.fneg x = fE E M := by rw [hxe]; exact fneg_f hE2 hM
    rw [c, c, if_neg (by decide), if_neg (by decide), if_neg (by decide), kb_s, hneg, r1, kb_s, r2, kb_s]
    simp only []
    rw [scale_f hM, kfn_f (by omega) hM, kgd_tt, kb_s, fin_f hE1 hE2 hM (s := 1) (by omega) (-2147483648) (by decide)]
    rw [Nat.one_mul, hxe]
    rfl
