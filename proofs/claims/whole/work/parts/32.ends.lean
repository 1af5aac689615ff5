/-! the model's edges and ends -/
theorem of_k {now : Nat → Int32} {e k : Nat} (he : e < 12) (hk : k < 4) : pX6_of (nI e) (nI k) now = some (now (2 + 4 * e + k)) := by
  unfold pX6_of
  have h : (2 : Int32) + 4 * nI e + nI k = nI (2 + 4 * e + k) := by
    show nI 2 + nI 4 * nI e + nI k = _
    rw [pk_mul, nI_add, nI_add]
  rw [h, kin_nI (by omega) (by omega), kgd_tt, c_nI (by omega)]
theorem MI.e {now : Nat → Int32} {nv ne : Nat} {F T X Z : Nat → Int32} (hM : MI now 0 (nI nv) (nI ne) F T X Z) (hne : ne ≤ 12) {e : Nat} (he : e < ne) : now (2 + 4 * e + 0) = F e ∧ now (2 + 4 * e + 1) = T e ∧ now (2 + 4 * e + 2) = X e ∧ now (2 + 4 * e + 3) = Z e := by
  have h := hM.2.2 e (by rw [nI_toInt (by omega)]; omega)
  rw [Nat.zero_add] at h
  exact h
theorem d2 {j : Nat} (hj : j < 2 ^ 31) : nI j / 2 = nI (j / 2) := pk_div (d := 2) hj (by omega) (by omega)
theorem r2 {j : Nat} (hj : j < 2 ^ 31) : nI j - nI j / 2 * 2 = nI (j % 2) := pk_rem (d := 2) hj (by omega) (by omega)
theorem dec20 : decide (¬ (2 : Int32) = 0) = true := by decide
theorem isEndOf_s {now : Nat → Int32} {nv ne : Nat} {F T X Z : Nat → Int32} (hM : MI now 0 (nI nv) (nI ne) F T X Z) (hne : ne ≤ 12) {j : Nat} (hj : j < 2 * ne) (v : Int32) : pX6_isEndOf (nI j) v now = some (if eV F T j = v then 1 else 0) := by
  have hm := hM.e hne (e := j / 2) (by omega)
  unfold pX6_isEndOf
  rw [dec20, kgd_tt, kgd_tt, d2 (by omega), ← d2 (by omega), r2 (by omega), d2 (by omega), of_k (by omega) (by omega), kb_s]
  unfold eV
  rcases Nat.mod_two_eq_zero_or_one j with h | h
  · rw [h, if_pos rfl, hm.1]
    by_cases q : F (j / 2) = v
    · rw [if_pos q, if_pos q]
    · rw [if_neg q, if_neg q]
  · rw [h, if_neg (show ¬ ((1 : Nat) = 0) by decide), hm.2.1]
    by_cases q : T (j / 2) = v
    · rw [if_pos q, if_pos q]
    · rw [if_neg q, if_neg q]
theorem leadsTo_s {now : Nat → Int32} {nv ne : Nat} {F T X Z : Nat → Int32} (hM : MI now 0 (nI nv) (nI ne) F T X Z) (hne : ne ≤ 12) {j : Nat} (hj : j < 2 * ne) : pX6_leadsTo (nI j) now = some (eV T F j) := by
  have hm := hM.e hne (e := j / 2) (by omega)
  unfold pX6_leadsTo
  have h1 : (1 : Int32) - nI (j % 2) = nI (1 - j % 2) := pk_sub (a := 1) (by omega)
  rw [dec20, kgd_tt, kgd_tt, r2 (by omega), d2 (by omega), h1, of_k (by omega) (by omega), kb_s]
  unfold eV
  rcases Nat.mod_two_eq_zero_or_one j with h | h
  · rw [h, if_pos rfl, show 1 - 0 = 1 from rfl, hm.2.1]
  · rw [h, if_neg (show ¬ ((1 : Nat) = 0) by decide), show 1 - 1 = 0 from rfl, hm.1]
theorem endX_s {now : Nat → Int32} {nv ne : Nat} {F T X Z : Nat → Int32} (hM : MI now 0 (nI nv) (nI ne) F T X Z) (hne : ne ≤ 12) {j : Nat} (hj : j < 2 * ne) : pX6_endX (nI j) now = some (eX X j) := by
  have hm := hM.e hne (e := j / 2) (by omega)
  unfold pX6_endX
  have ho := of_k (now := now) (e := j / 2) (k := 2) (by omega) (by omega)
  rw [dec20, kgd_tt, r2 (by omega), kgd_tt, kgd_tt, d2 (by omega)]
  unfold eX
  rcases Nat.mod_two_eq_zero_or_one j with h | h
  · rw [h, if_pos (show nI 0 = 0 from rfl), if_pos (show (0 : Nat) = 0 from rfl), show (2 : Int32) = nI 2 from rfl, ho, kb_s, hm.2.2.1]
  · rw [h, if_neg (show ¬ nI 1 = 0 by decide), if_neg (show ¬ ((1 : Nat) = 0) by decide), show (2 : Int32) = nI 2 from rfl, ho, kb_s, hm.2.2.1]
theorem endY_s {now : Nat → Int32} {nv ne : Nat} {F T X Z : Nat → Int32} (hM : MI now 0 (nI nv) (nI ne) F T X Z) (hne : ne ≤ 12) {j : Nat} (hj : j < 2 * ne) : pX6_endY (nI j) now = some (eX Z j) := by
  have hm := hM.e hne (e := j / 2) (by omega)
  unfold pX6_endY
  have ho := of_k (now := now) (e := j / 2) (k := 3) (by omega) (by omega)
  rw [dec20, kgd_tt, r2 (by omega), kgd_tt, kgd_tt, d2 (by omega)]
  unfold eX
  rcases Nat.mod_two_eq_zero_or_one j with h | h
  · rw [h, if_pos (show nI 0 = 0 from rfl), if_pos (show (0 : Nat) = 0 from rfl), show (3 : Int32) = nI 3 from rfl, ho, kb_s, hm.2.2.2]
  · rw [h, if_neg (show ¬ nI 1 = 0 by decide), if_neg (show ¬ ((1 : Nat) = 0) by decide), show (3 : Int32) = nI 3 from rfl, ho, kb_s, hm.2.2.2]
theorem ecnt_le (F T : Nat → Int32) (v : Int32) : ∀ j, ecnt F T v j ≤ j
  | 0 => Nat.le_refl _
  | j + 1 => by
    unfold ecnt
    have := ecnt_le F T v j
    split <;> omega
theorem ecnt_mono (F T : Nat → Int32) (v : Int32) {i j : Nat} (h : i ≤ j) : ecnt F T v i ≤ ecnt F T v j := by
  induction j with
  | zero => rw [Nat.le_zero.mp h]; exact Nat.le_refl _
  | succ j ih =>
    by_cases e : i = j + 1
    · rw [e]; exact Nat.le_refl _
    · have := ih (by omega)
      show _ ≤ (if eV F T j = v then ecnt F T v j + 1 else ecnt F T v j)
      split <;> omega
theorem ecnt_lt {F T : Nat → Int32} {v : Int32} {i j : Nat} (h : i < j) (hv : eV F T i = v) : ecnt F T v i < ecnt F T v j := by
  have h1 : ecnt F T v (i + 1) = ecnt F T v i + 1 := if_pos hv
  have := ecnt_mono F T v (show i + 1 ≤ j from h)
  omega
theorem two_mul_I {ne : Nat} : (2 : Int32) * nI ne = nI (2 * ne) := pk_mul 2 ne
theorem deg_loop {now : Nat → Int32} {nv ne : Nat} {F T X Z : Nat → Int32} (hM : MI now 0 (nI nv) (nI ne) F T X Z) (hne : ne ≤ 12) (v : Int32) : ∀ (m j n : Nat), j + m = 2 * ne → m < n → pX6_degreeOf_L4 n v (nI (ecnt F T v j)) (nI j) now = some (nI (ecnt F T v (2 * ne)), nI (2 * ne)) := by
  have e1 : (1 : Int32).toNatClampNeg = 1 := rfl
  have hm1 : now 1 = nI ne := hM.2.1
  intro m
  induction m with
  | zero =>
    intro j n hj hn
    obtain ⟨n, rfl⟩ : ∃ k, n = k + 1 := ⟨n - 1, by omega⟩
    have hj : j = 2 * ne := hj
    subst hj
    rw [pX6_degreeOf_L4, e1, hm1, two_mul_I, show kin 1 50 = true from rfl, kgd_tt, if_pos (nI_le (Nat.le_refl _) (by omega))]
  | succ m ih =>
    intro j n hj hn
    obtain ⟨n, rfl⟩ : ∃ k, n = k + 1 := ⟨n - 1, by omega⟩
    rw [pX6_degreeOf_L4, e1, hm1, two_mul_I, show kin 1 50 = true from rfl, kgd_tt, if_neg (nI_ge (by omega) (by omega)), isEndOf_s hM hne (by omega), kb_s]
    have hr := ih (j + 1) n (by omega) (by omega)
    rw [show nI j + 1 = nI (j + 1) from nI_1 j]
    by_cases q : eV F T j = v
    · rw [if_pos q, if_neg (by decide), kb_s]
      rw [show ecnt F T v (j + 1) = ecnt F T v j + 1 from if_pos q, ← nI_1] at hr
      exact hr
    · rw [if_neg q, if_pos rfl, kb_s]
      rw [show ecnt F T v (j + 1) = ecnt F T v j from if_neg q] at hr
      rw [show nI (ecnt F T v j) + 0 = nI (ecnt F T v j) from nI_add _ 0]
      exact hr
theorem degreeOf_s {now : Nat → Int32} {nv ne : Nat} {F T X Z : Nat → Int32} (hM : MI now 0 (nI nv) (nI ne) F T X Z) (hne : ne ≤ 12) (v : Int32) : pX6_degreeOf v now = some (nI (ecnt F T v (2 * ne))) := by
  unfold pX6_degreeOf
  rw [show pX6_degreeOf_L4 KF v 0 0 now = _ from deg_loop hM hne v (2 * ne) 0 KF (by omega) (by unfold KF; omega), kb_s]
theorem sub_eq0 {i c : Nat} (hi : i < 2 ^ 30) (hc : c < 2 ^ 30) : nI i - nI c = 0 ↔ i = c := by
  rw [← Int32.toInt_inj, pk_sub_toInt hi hc, i32_0]
  omega
theorem endAt_loop {now : Nat → Int32} {nv ne : Nat} {F T X Z : Nat → Int32} (hM : MI now 0 (nI nv) (nI ne) F T X Z) (hne : ne ≤ 12) (v : Int32) {i : Nat} (hi : i < 24) : ∀ (m j n : Nat) (f : Int32), j + m = 2 * ne → m < n → (i < ecnt F T v j → ∃ j0, j0 < j ∧ eV F T j0 = v ∧ ecnt F T v j0 = i ∧ f = nI j0) → ∃ l' f', pX6_endAt_L8 n v (nI i - nI (ecnt F T v j)) f (nI j) now = some (l', f', nI (2 * ne)) ∧ (i < ecnt F T v (2 * ne) → ∃ j0, j0 < 2 * ne ∧ eV F T j0 = v ∧ ecnt F T v j0 = i ∧ f' = nI j0) := by
  have e1 : (1 : Int32).toNatClampNeg = 1 := rfl
  have hm1 : now 1 = nI ne := hM.2.1
  intro m
  induction m with
  | zero =>
    intro j n f hj hn hf
    obtain ⟨n, rfl⟩ : ∃ k, n = k + 1 := ⟨n - 1, by omega⟩
    have hj : j = 2 * ne := hj
    subst hj
    refine ⟨nI i - nI (ecnt F T v (2 * ne)), f, ?_, hf⟩
    rw [pX6_endAt_L8, e1, hm1, two_mul_I, show kin 1 50 = true from rfl, kgd_tt, if_pos (nI_le (Nat.le_refl _) (by omega))]
  | succ m ih =>
    intro j n f hj hn hf
    obtain ⟨n, rfl⟩ : ∃ k, n = k + 1 := ⟨n - 1, by omega⟩
    rw [pX6_endAt_L8, e1, hm1, two_mul_I, show kin 1 50 = true from rfl, kgd_tt, if_neg (nI_ge (by omega) (by omega)), isEndOf_s hM hne (by omega), kb_s, show nI j + 1 = nI (j + 1) from nI_1 j]
    have hc := ecnt_le F T v j
    by_cases q : eV F T j = v
    · have e2 : ecnt F T v (j + 1) = ecnt F T v j + 1 := if_pos q
      have e3 : nI i - nI (ecnt F T v j) + (-1) = nI i - nI (ecnt F T v (j + 1)) := by
        rw [e2, ← nI_1]
        apply Int32.toInt_inj.mp
        have a1 := pk_sub_toInt (a := i) (b := ecnt F T v j) (by omega) (by omega)
        have a2 := pk_sub_toInt (a := i) (b := ecnt F T v j + 1) (by omega) (by omega)
        rw [nI_1, a2, i_add] <;> rw [a1, show (-1 : Int32).toInt = -1 from rfl] <;> omega
      rw [if_pos q, if_neg (by decide)]
      by_cases z : i = ecnt F T v j
      · rw [if_pos ((sub_eq0 (by omega) (by omega)).mpr z), kb_s, kb_s]
        show ∃ l' f', pX6_endAt_L8 n v (nI i - nI (ecnt F T v j) + (-1)) (nI j) (nI (j + 1)) now = some (l', f', nI (2 * ne)) ∧ _
        rw [e3]
        exact ih (j + 1) n (nI j) (by omega) (by omega) (fun _ => ⟨j, by omega, q, z.symm, rfl⟩)
      · rw [if_neg (fun h => z ((sub_eq0 (by omega) (by omega)).mp h)), kb_s, kb_s]
        show ∃ l' f', pX6_endAt_L8 n v (nI i - nI (ecnt F T v j) + (-1)) f (nI (j + 1)) now = some (l', f', nI (2 * ne)) ∧ _
        rw [e3]
        refine ih (j + 1) n f (by omega) (by omega) (fun h => ?_)
        obtain ⟨j0, b1, b2, b3, b4⟩ := hf (by omega)
        exact ⟨j0, by omega, b2, b3, b4⟩
    · have e2 : ecnt F T v (j + 1) = ecnt F T v j := if_neg q
      rw [if_neg q, if_pos rfl, kb_s]
      show ∃ l' f', pX6_endAt_L8 n v (nI i - nI (ecnt F T v j)) f (nI (j + 1)) now = some (l', f', nI (2 * ne)) ∧ _
      rw [← e2]
      refine ih (j + 1) n f (by omega) (by omega) (fun h => ?_)
      obtain ⟨j0, b1, b2, b3, b4⟩ := hf (by omega)
      exact ⟨j0, by omega, b2, b3, b4⟩
theorem endAt_s {now : Nat → Int32} {nv ne : Nat} {F T X Z : Nat → Int32} (hM : MI now 0 (nI nv) (nI ne) F T X Z) (hne : ne ≤ 12) (v : Int32) {i : Nat} (hi : i < ecnt F T v (2 * ne)) : ∃ j, j < 2 * ne ∧ eV F T j = v ∧ ecnt F T v j = i ∧ pX6_endAt v (nI i) now = some (nI j) := by
  have hc := ecnt_le F T v (2 * ne)
  obtain ⟨l', f', h1, h2⟩ := endAt_loop hM hne v (i := i) (by omega) (2 * ne) 0 KF (-1) (by omega) (by unfold KF; omega) (fun h => absurd h (Nat.not_lt_zero _))
  obtain ⟨j, b1, b2, b3, b4⟩ := h2 hi
  refine ⟨j, b1, b2, b3, ?_⟩
  unfold pX6_endAt
  rw [show nI i - nI (ecnt F T v 0) = nI i from pk_sub (Nat.zero_le i)] at h1
  rw [show (0 : Int32) = nI 0 from rfl, h1, kb_s, b4]
theorem GI.n {vc ec : Int32} {F T X Z : Nat → Int32} (h : GI vc ec F T X Z) : ∃ nv ne : Nat, vc = nI nv ∧ ec = nI ne ∧ 1 ≤ nv ∧ nv ≤ 6 ∧ ne ≤ 12 := by
  obtain ⟨nv, ne, h1, h2, h3, h4, h5, -⟩ := h
  exact ⟨nv, ne, h1, h2, h3, h4, h5⟩
/-- an end's index: both refuse, or both take it, and it is the same end -/
theorem D_isEnd {vc : Int32} {ne : Nat} {F T X Z : Nat → Int32} {now : Nat → Int32} {cn : Nat → Int32} {E : Nat → Nat → Int32} (hG : GI vc (nI ne) F T X Z) (hne : ne ≤ 12) (hM : MI now 0 vc (nI ne) F T X Z) (hE : EI cn E (nI ne) F T X Z) (v p : Int32) :
    (pX5_isEnd v p cn vc = some 0 ∧ pX6_isEndIndex v p now = some 0) ∨ ∃ k i j : Nat, v = nI k ∧ (k : Int) < vc.toInt ∧ k < 6 ∧ p = nI i ∧ i < 24 ∧ j < 2 * ne ∧ eV F T j = nI k ∧ ecnt F T (nI k) j = i ∧ pX5_isEnd v p cn vc = some 1 ∧ pX6_isEndIndex v p now = some 1 ∧ pX6_endAt v p now = some (nI j) ∧ E k i = eV T F j ∧ E (6 + k) i = eX X j ∧ E (12 + k) i = eX Z j := by
  obtain ⟨nv, ne', rfl, hne', hv1, hv6, -⟩ := hG.n
  unfold EI at hE
  rw [c_nI (n := ne) (by omega)] at hE
  rcases D_isVertex hG hM v with ⟨h1, h2⟩ | ⟨k, rfl, hk, hk6, h1, h2⟩
  · refine Or.inl ⟨?_, ?_⟩
    · unfold pX5_isEnd; rw [h1, kb_s, if_pos rfl]
    · unfold pX6_isEndIndex; rw [h2, kb_s, if_pos rfl]
  · obtain ⟨e1, e2⟩ := hE k hk6
    have hc := ecnt_le F T (nI k) (2 * ne)
    have d1 : (nI (ecnt F T (nI k) (2 * ne)) - 1).toInt = (ecnt F T (nI k) (2 * ne) : Int) - 1 := pk_sub_toInt (b := 1) (by omega) (by omega)
    have x5 : pX5_isEnd (nI k) p cn (nI nv) = (if p < 0 then some 0 else (if nI (ecnt F T (nI k) (2 * ne)) ≤ p then some 0 else some 1)) := by
      unfold pX5_isEnd; rw [h1, kb_s, if_neg (by decide), kin_nI hk6 (by omega), kgd_tt, c_nI (by omega), e1]
    have x6 : ∀ r : Int32, pX6_in p 0 (nI (ecnt F T (nI k) (2 * ne)) - 1) = some r → pX6_isEndIndex (nI k) p now = (if r = 0 then some 0 else some 1) := by
      intro r hr
      unfold pX6_isEndIndex; rw [h2, kb_s, if_neg (by decide), degreeOf_s hM hne, kb_s, hr, kb_s]
    rcases S_in p 0 (nI (ecnt F T (nI k) (2 * ne)) - 1) with ⟨a1, a2⟩ | ⟨a1, a2, a3⟩
    · rw [i32_0, d1] at a2
      refine Or.inl ⟨?_, by rw [x6 0 a1, if_pos rfl]⟩
      rw [x5]
      by_cases b : p < 0
      · rw [if_pos b]
      · rw [if_neg b, if_pos]
        rw [Int32.lt_iff_toInt_lt, i32_0] at b
        rw [Int32.le_iff_toInt_le, nI_toInt (by omega)]; omega
    · rw [i32_0] at a2
      rw [d1] at a3
      have hp := i_nat a2
      obtain ⟨j, b1, b2, b3, b4⟩ := endAt_s hM hne (nI k) (i := p.toInt.toNat) (by omega)
      obtain ⟨c1, c2, c3⟩ := e2 j b1 b2
      rw [b3] at c1 c2 c3
      refine Or.inr ⟨k, p.toInt.toNat, j, rfl, hk, hk6, hp, by omega, b1, b2, b3, ?_, by rw [x6 1 a1, if_neg (by decide)], by rw [← hp] at b4; exact b4, c1, c2, c3⟩
      rw [x5, if_neg (by rw [Int32.lt_iff_toInt_lt, i32_0]; omega), if_neg (by rw [Int32.le_iff_toInt_le, nI_toInt (by omega)]; omega)]
