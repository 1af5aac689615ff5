/-! numbers, guards, and the small methods -/
theorem kb_s {α β : Type} (v : α) (f : α → Option β) : kb (some v) f = f v := rfl
theorem kgd_tt {α : Type} (k : Option α) : kgd true k = k := rfl
theorem kin_of {i : Int32} {n : Nat} (h1 : 0 ≤ i.toInt) (h2 : i.toInt < n) : kin i n = true := decide_eq_true ⟨h1, h2⟩
theorem i10 : ((1 : Int32) = 0) = False := by simp
theorem i32_0 : (0 : Int32).toInt = 0 := rfl
theorem i32_m1 : (-1 : Int32).toInt = -1 := rfl
theorem i32_m2 : (-2 : Int32).toInt = -2 := rfl
theorem i32_2 : (2 : Int32).toInt = 2 := rfl
theorem i_add {a b : Int32} (h1 : -2147483648 ≤ a.toInt + b.toInt) (h2 : a.toInt + b.toInt < 2147483648) : (a + b).toInt = a.toInt + b.toInt := by
  rw [Int32.toInt_add, Int.bmod_eq_of_le (by omega) (by omega)]
theorem i_sub {a b : Int32} (h1 : -2147483648 ≤ a.toInt - b.toInt) (h2 : a.toInt - b.toInt < 2147483648) : (a - b).toInt = a.toInt - b.toInt := by
  rw [Int32.toInt_sub, Int.bmod_eq_of_le (by omega) (by omega)]
theorem i_mul {a b : Int32} (h1 : -2147483648 ≤ a.toInt * b.toInt) (h2 : a.toInt * b.toInt < 2147483648) : (a * b).toInt = a.toInt * b.toInt := by
  rw [Int32.toInt_mul, Int.bmod_eq_of_le (by omega) (by omega)]
theorem i_neg {a : Int32} (h1 : -2147483648 < a.toInt) : (-a).toInt = -a.toInt := by
  have := a.toInt_lt
  rw [Int32.toInt_neg, Int.bmod_eq_of_le (by omega) (by omega)]
theorem i_nat {x : Int32} (h : 0 ≤ x.toInt) : x = nI x.toInt.toNat := by
  apply Int32.toInt_inj.mp
  have h2 := x.toInt_lt
  rw [nI_toInt (by omega)]
  omega
theorem c_nI {n : Nat} (h : n < 2 ^ 31) : (nI n).toNatClampNeg = n := nI_clamp h
theorem fail_2 (er : Nat → Int32) : pX5_fail (-2) er = some (-2, upd er 0 (er 0 + 1)) := rfl
theorem fail_3 (er : Nat → Int32) : pX5_fail (-3) er = some (-3, upd er 1 (er 1 + 1)) := rfl
theorem fail_4 (er : Nat → Int32) : pX5_fail (-4) er = some (-4, upd er 2 (er 2 + 1)) := rfl
theorem fail_5 (er : Nat → Int32) : pX5_fail (-5) er = some (-5, upd er 3 (er 3 + 1)) := rfl
theorem fail_6 (er : Nat → Int32) : pX5_fail (-6) er = some (-6, upd er 4 (er 4 + 1)) := rfl
theorem fail_7 (er : Nat → Int32) : pX5_fail (-7) er = some (-7, upd er 5 (er 5 + 1)) := rfl
theorem error_2 (er : Nat → Int32) : pX6_error (-2) er = some (-2, upd er 0 (er 0 + 1)) := rfl
theorem error_3 (er : Nat → Int32) : pX6_error (-3) er = some (-3, upd er 1 (er 1 + 1)) := rfl
theorem error_4 (er : Nat → Int32) : pX6_error (-4) er = some (-4, upd er 2 (er 2 + 1)) := rfl
theorem error_5 (er : Nat → Int32) : pX6_error (-5) er = some (-5, upd er 3 (er 3 + 1)) := rfl
theorem error_6 (er : Nat → Int32) : pX6_error (-6) er = some (-6, upd er 4 (er 4 + 1)) := rfl
theorem error_7 (er : Nat → Int32) : pX6_error (-7) er = some (-7, upd er 5 (er 5 + 1)) := rfl
theorem RI_up {a b : Nat → Int32} (h : ∀ k, k < 6 → a k = b k) (j : Nat) (hj : j < 6) : ∀ k, k < 6 → upd a j (a j + 1) k = upd b j (b j + 1) k := by
  intro k hk
  unfold upd
  rw [h j hj, h k hk]
theorem S_in (a l m : Int32) : (pX6_in a l m = some 0 ∧ ¬ (l.toInt ≤ a.toInt ∧ a.toInt ≤ m.toInt)) ∨ (pX6_in a l m = some 1 ∧ l.toInt ≤ a.toInt ∧ a.toInt ≤ m.toInt) := by
  unfold pX6_in
  by_cases h1 : a < l
  · rw [if_pos h1]
    rw [Int32.lt_iff_toInt_lt] at h1
    exact Or.inl ⟨rfl, by omega⟩
  · rw [if_neg h1]
    rw [Int32.lt_iff_toInt_lt] at h1
    by_cases h2 : m < a
    · rw [if_pos h2]
      rw [Int32.lt_iff_toInt_lt] at h2
      exact Or.inl ⟨rfl, by omega⟩
    · rw [if_neg h2]
      rw [Int32.lt_iff_toInt_lt] at h2
      exact Or.inr ⟨rfl, by omega, by omega⟩
theorem GI.v {vc ec : Int32} {F T X Z : Nat → Int32} (h : GI vc ec F T X Z) : 1 ≤ vc.toInt ∧ vc.toInt ≤ 6 ∧ 0 ≤ ec.toInt ∧ ec.toInt ≤ 12 := by
  obtain ⟨nv, ne, rfl, rfl, h1, h2, h3, -⟩ := h
  rw [nI_toInt (by omega), nI_toInt (by omega)]
  omega
theorem D_isVertex {vc ec : Int32} {F T X Z : Nat → Int32} {now : Nat → Int32} (hG : GI vc ec F T X Z) (hM : MI now 0 vc ec F T X Z) (v : Int32) : (pX5_isVertex v vc = some 0 ∧ pX6_isVertex v now = some 0) ∨ ∃ k : Nat, v = nI k ∧ (k : Int) < vc.toInt ∧ k < 6 ∧ pX5_isVertex v vc = some 1 ∧ pX6_isVertex v now = some 1 := by
  have hv := hG.v
  have h0 : now 0 = vc := hM.1
  have e0 : (0 : Int32).toNatClampNeg = 0 := rfl
  have hs : (vc - 1).toInt = vc.toInt - 1 := by rw [i_sub] <;> rw [show (1 : Int32).toInt = 1 from rfl] <;> omega
  have h6 : ∀ r : Int32, pX6_in v 0 (vc - 1) = some r → (r = 0 ∨ r = 1) → pX6_isVertex v now = some r := by
    intro r hr hz
    unfold pX6_isVertex
    rw [e0, h0, hr, kb_s, show kin 0 50 = true from rfl, kgd_tt, show kzb r = true from decide_eq_true hz, kgd_tt]
  by_cases h : 0 ≤ v.toInt ∧ v.toInt < vc.toInt
  · refine Or.inr ⟨v.toInt.toNat, i_nat h.1, by omega, by omega, ?_, ?_⟩
    · unfold pX5_isVertex
      rw [if_neg (by rw [Int32.lt_iff_toInt_lt, i32_0]; omega), if_neg (by rw [Int32.le_iff_toInt_le]; omega)]
    · rcases S_in v 0 (vc - 1) with ⟨h1, h2⟩ | ⟨h1, h2⟩
      · rw [i32_0, hs] at h2; omega
      · exact h6 1 h1 (Or.inr rfl)
  · refine Or.inl ⟨?_, ?_⟩
    · unfold pX5_isVertex
      by_cases h1 : v < 0
      · rw [if_pos h1]
      · rw [if_neg h1, if_pos]
        rw [Int32.lt_iff_toInt_lt, i32_0] at h1
        rw [Int32.le_iff_toInt_le]; omega
    · rcases S_in v 0 (vc - 1) with ⟨h1, h2⟩ | ⟨h1, h2⟩
      · exact h6 0 h1 (Or.inl rfl)
      · rw [i32_0, hs] at h2; omega
