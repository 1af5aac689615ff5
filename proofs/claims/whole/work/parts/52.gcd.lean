/-! greatest divisors -/
theorem lg0 : (0 : Int64).toInt = 0 := rfl
theorem cmp_ge (a : Int64) : (0 : Int32) ≤ lg_cmp a 0 ↔ 0 ≤ a.toInt := by
  unfold lg_cmp
  by_cases h : a > 0
  · rw [if_pos h]
    have : (0 : Int64) < a := h
    rw [Int64.lt_iff_toInt_lt, lg0] at this
    exact ⟨fun _ => by omega, fun _ => by decide⟩
  · rw [if_neg h]
    have h' : ¬ (0 : Int64) < a := h
    rw [Int64.lt_iff_toInt_lt, lg0] at h'
    by_cases e : a = 0
    · rw [if_pos e, e]
      exact ⟨fun _ => by decide, fun _ => by decide⟩
    · rw [if_neg e]
      refine ⟨fun h => absurd h (by decide), fun h => absurd ?_ e⟩
      apply Int64.toInt_inj.mp
      rw [lg0]; omega
theorem cmp_eq (a : Int64) : lg_cmp a 0 = 0 ↔ a = 0 := by
  unfold lg_cmp
  by_cases h : a > 0
  · rw [if_pos h]
    exact ⟨fun h => absurd h (by decide), fun e => by rw [e] at h; exact absurd h (by decide)⟩
  · rw [if_neg h]
    by_cases e : a = 0
    · rw [if_pos e]; exact ⟨fun _ => e, fun _ => rfl⟩
    · rw [if_neg e]; exact ⟨fun h => absurd h (by decide), fun h => absurd h e⟩
theorem l_nat {x : Int64} (h : 0 ≤ x.toInt) : x = lN x.toInt.toNat := by
  obtain ⟨k, hk, rfl⟩ := pk_lOf (x := x) (by rw [Int64.lt_iff_toInt_lt, lg0]; omega)
  rw [pk_lT hk, Int.toNat_natCast]
theorem l_neg {a : Int64} (h1 : -9223372036854775808 < a.toInt) : (-a).toInt = -a.toInt := by
  rw [Int64.toInt_neg, Int.bmod_eq_of_le (by have := a.toInt_lt; omega) (by have := a.toInt_lt; omega)]
theorem l_mul {a b : Int64} (h1 : -9223372036854775808 ≤ a.toInt * b.toInt) (h2 : a.toInt * b.toInt < 9223372036854775808) : (a * b).toInt = a.toInt * b.toInt := by
  rw [Int64.toInt_mul, Int.bmod_eq_of_le (by omega) (by omega)]
theorem l_sub {a b : Int64} (h1 : -9223372036854775808 ≤ a.toInt - b.toInt) (h2 : a.toInt - b.toInt < 9223372036854775808) : (a - b).toInt = a.toInt - b.toInt := by
  rw [Int64.toInt_sub, Int.bmod_eq_of_le (by omega) (by omega)]
theorem l_add {a b : Int64} (h1 : -9223372036854775808 ≤ a.toInt + b.toInt) (h2 : a.toInt + b.toInt < 9223372036854775808) : (a + b).toInt = a.toInt + b.toInt := by
  rw [Int64.toInt_add, Int.bmod_eq_of_le (by omega) (by omega)]
theorem gcd_st (a b : Nat) : Nat.gcd a b = Nat.gcd b (a % b) := by
  rw [Nat.gcd_comm a b, Nat.gcd_rec, Nat.gcd_comm]
theorem half_st {a b P : Nat} (h : b < a) (hb : b ≠ 0) (hP : a * b < 2 ^ (P + 1)) : b * (a % b) < 2 ^ P := by
  have h1 := Nat.mod_lt a (Nat.pos_of_ne_zero hb)
  have h2 : b + a % b ≤ a := by
    have := Nat.div_add_mod a b
    have h3 : 1 ≤ a / b := (Nat.one_le_div_iff (Nat.pos_of_ne_zero hb)).mpr (by omega)
    have h4 : b * 1 ≤ b * (a / b) := Nat.mul_le_mul_left b h3
    omega
  have h5 : b * (2 * (a % b)) ≤ b * a := Nat.mul_le_mul_left b (by omega)
  rw [Nat.pow_succ] at hP
  rw [Nat.mul_comm b a] at h5
  have h6 : b * (2 * (a % b)) = 2 * (b * (a % b)) := by rw [Nat.mul_left_comm]
  omega
theorem gd5_loop : ∀ (P k n a b : Nat), k + P < 100 → P < n → a < 2 ^ 62 → b < a → a * b < 2 ^ P → ∃ l k', pX5_greatestDivisor_L31 n (lN a) (lN b) (nI k) = some (lN (Nat.gcd a b), l, k') := by
  intro P
  induction P with
  | zero =>
    intro k n a b hk hn ha hba hP
    obtain ⟨n, rfl⟩ : ∃ k, n = k + 1 := ⟨n - 1, by omega⟩
    have hb : b = 0 := by
      rcases Nat.eq_zero_or_pos b with h | h
      · exact h
      · have : 1 * 1 ≤ a * b := Nat.mul_le_mul (by omega) h
        omega
    subst hb
    refine ⟨lN 0, nI k, ?_⟩
    rw [pX5_greatestDivisor_L31, if_neg (show ¬ (100 : Int32) ≤ nI k from nI_ge (a := k) (b := 100) (by omega) (by omega)), if_pos (by decide), Nat.gcd_zero_right]
  | succ P ih =>
    intro k n a b hk hn ha hba hP
    obtain ⟨n, rfl⟩ : ∃ k, n = k + 1 := ⟨n - 1, by omega⟩
    by_cases hb : b = 0
    · subst hb
      refine ⟨lN 0, nI k, ?_⟩
      rw [pX5_greatestDivisor_L31, if_neg (show ¬ (100 : Int32) ≤ nI k from nI_ge (a := k) (b := 100) (by omega) (by omega)), if_pos (by decide), Nat.gcd_zero_right]
    · have hb0 : lN b ≠ 0 := fun e => hb ((pk_lEQ (b := 0) (by omega) (by omega)).mp e)
      rw [pX5_greatestDivisor_L31, if_neg (show ¬ (100 : Int32) ≤ nI k from nI_ge (a := k) (b := 100) (by omega) (by omega)), if_neg (fun e => hb0 ((cmp_eq _).mp e)), decide_eq_true hb0, kgd_tt, pk_lRem (by omega) (by omega) (by omega), nI_1, gcd_st]
      have := Nat.mod_lt a (Nat.pos_of_ne_zero hb)
      exact ih (k + 1) n b (a % b) (by omega) (by omega) (by omega) this (half_st hba hb hP)
theorem gd5_any {P n a b : Nat} (hP : P < 98) (hn : P + 1 < n) (ha : a < 2 ^ 62) (hb : b < 2 ^ 62) (h : b * b < 2 ^ P) : ∃ l k', pX5_greatestDivisor_L31 n (lN a) (lN b) 0 = some (lN (Nat.gcd a b), l, k') := by
  obtain ⟨n, rfl⟩ : ∃ k, n = k + 1 := ⟨n - 1, by omega⟩
  by_cases hb : b = 0
  · subst hb
    refine ⟨lN 0, 0, ?_⟩
    rw [pX5_greatestDivisor_L31, if_neg (by decide), if_pos (by decide), Nat.gcd_zero_right]
  · have hb0 : lN b ≠ 0 := fun e => hb ((pk_lEQ (b := 0) (by omega) (by omega)).mp e)
    rw [pX5_greatestDivisor_L31, if_neg (by decide), if_neg (fun e => hb0 ((cmp_eq _).mp e)), decide_eq_true hb0, kgd_tt, pk_lRem (by omega) (by omega) (by omega), gcd_st]
    have hm := Nat.mod_lt a (Nat.pos_of_ne_zero hb)
    have h2 : b * (a % b) ≤ b * b := Nat.mul_le_mul_left b (by omega)
    exact gd5_loop P 1 n b (a % b) (by omega) (by omega) (by omega) hm (by omega)
theorem abs_l {a : Int64} (h : a.toInt.natAbs < 2 ^ 62) : ((if (0 : Int32) ≤ lg_cmp a 0 then some a else some (-a)) : Option Int64) = some (lN a.toInt.natAbs) := by
  by_cases p : 0 ≤ a.toInt
  · rw [if_pos ((cmp_ge a).mpr p), l_nat p]
    have := a.toInt_lt
    rw [pk_lT (by omega)]
    rfl
  · rw [if_neg (fun e => p ((cmp_ge a).mp e))]
    have : (-a).toInt = -a.toInt := l_neg (by omega)
    rw [l_nat (x := -a) (by omega), this]
    congr 2
    omega
theorem gd5_s {a b : Int64} (ha : a.toInt.natAbs < 2 ^ 62) (hb : b.toInt.natAbs < 2 ^ 48) : pX5_greatestDivisor a b = some (lN (Nat.gcd a.toInt.natAbs b.toInt.natAbs)) := by
  have hbb : b.toInt.natAbs * b.toInt.natAbs < 2 ^ 96 := by
    have : b.toInt.natAbs * b.toInt.natAbs ≤ (2 ^ 48 - 1) * (2 ^ 48 - 1) := Nat.mul_le_mul (by omega) (by omega)
    omega
  obtain ⟨l, k, h⟩ := gd5_any (P := 96) (n := KF) (by omega) (by unfold KF; omega) ha (show b.toInt.natAbs < 2 ^ 62 by omega) hbb
  unfold pX5_greatestDivisor
  rw [abs_l ha, kb_s, abs_l (by omega), kb_s, h, kb_s]
theorem gd6_loop : ∀ (P n a b : Nat), P < n → a < 2 ^ 31 → b < a → a * b < 2 ^ P → ∃ l, pX6_divisor_L22 n (nI a) (nI b) = some (nI (Nat.gcd a b), l) := by
  intro P
  induction P with
  | zero =>
    intro n a b hn ha hba hP
    obtain ⟨n, rfl⟩ : ∃ k, n = k + 1 := ⟨n - 1, by omega⟩
    have hb : b = 0 := by
      rcases Nat.eq_zero_or_pos b with h | h
      · exact h
      · have : 1 * 1 ≤ a * b := Nat.mul_le_mul (by omega) h
        omega
    subst hb
    exact ⟨_, by rw [pX6_divisor_L22, if_pos (by decide), Nat.gcd_zero_right]⟩
  | succ P ih =>
    intro n a b hn ha hba hP
    obtain ⟨n, rfl⟩ : ∃ k, n = k + 1 := ⟨n - 1, by omega⟩
    by_cases hb : b = 0
    · subst hb
      exact ⟨_, by rw [pX6_divisor_L22, if_pos (by decide), Nat.gcd_zero_right]⟩
    · rw [pX6_divisor_L22, if_neg (nI_nle (by omega) (by omega)), decide_eq_true (nI_ne0 (by omega) (by omega)), kgd_tt, pk_rem (by omega) (by omega) (by omega), gcd_st]
      have := Nat.mod_lt a (Nat.pos_of_ne_zero hb)
      exact ih n b (a % b) (by omega) (by omega) this (half_st hba hb hP)
theorem gd6_any {a b : Nat} (ha : a < 2 ^ 31) (hb : b < 2 ^ 31) : ∃ l, pX6_divisor_L22 KF (nI a) (nI b) = some (nI (Nat.gcd a b), l) := by
  obtain ⟨n, hn⟩ : ∃ n, KF = n + 1 := ⟨6999, rfl⟩
  rw [hn]
  by_cases hb0 : b = 0
  · subst hb0
    exact ⟨_, by rw [pX6_divisor_L22, if_pos (by decide), Nat.gcd_zero_right]⟩
  · rw [pX6_divisor_L22, if_neg (nI_nle (by omega) (by omega)), decide_eq_true (nI_ne0 (by omega) (by omega)), kgd_tt, pk_rem (by omega) (by omega) (by omega), gcd_st]
    have hm := Nat.mod_lt a (Nat.pos_of_ne_zero hb0)
    have h2 : b * (a % b) ≤ (2 ^ 31) * (2 ^ 31) := Nat.mul_le_mul (by omega) (by omega)
    exact gd6_loop 63 n b (a % b) (by unfold KF at hn; omega) (by omega) hm (by omega)
theorem abs_i {a : Int32} (h : -2147483648 < a.toInt) : ((if (0 : Int32) ≤ a then some a else some (-a)) : Option Int32) = some (nI a.toInt.natAbs) := by
  have := a.toInt_lt
  by_cases p : 0 ≤ a.toInt
  · rw [if_pos (by rw [Int32.le_iff_toInt_le, i32_0]; exact p)]
    rw [i_nat p, nI_toInt (by omega)]
    rfl
  · rw [if_neg (by rw [Int32.le_iff_toInt_le, i32_0]; exact p)]
    have h2 : (-a).toInt = -a.toInt := i_neg h
    rw [i_nat (x := -a) (by omega), h2]
    congr 2
    omega
theorem gd6_s {a b : Int32} (ha : -2147483648 < a.toInt) (hb : -2147483648 < b.toInt) : pX6_divisor a b = some (nI (Nat.gcd a.toInt.natAbs b.toInt.natAbs)) := by
  have h1 := a.toInt_lt
  have h2 := b.toInt_lt
  obtain ⟨l, h⟩ := gd6_any (a := a.toInt.natAbs) (b := b.toInt.natAbs) (by omega) (by omega)
  unfold pX6_divisor
  rw [abs_i ha, kb_s, abs_i hb, kb_s, h, kb_s]
