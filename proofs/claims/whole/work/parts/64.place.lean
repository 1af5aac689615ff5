/-! what the rows hold, and the placement's end -/
def dg (F T : Nat → Int32) (v : Nat) : Nat → Nat
  | 0 => 0
  | J + 1 => if av F T J = v ∧ av T F J ≠ v then dg F T v J + 1 else dg F T v J
theorem dg_s (F T : Nat → Int32) (v J : Nat) : dg F T v (J + 1) = if av F T J = v ∧ av T F J ≠ v then dg F T v J + 1 else dg F T v J := rfl
theorem dg_le (F T : Nat → Int32) (v : Nat) : ∀ J, dg F T v J ≤ J
  | 0 => Nat.le_refl _
  | J + 1 => by
    have := dg_le F T v J
    rw [dg_s]
    split <;> omega
theorem dg_two {nv ne : Nat} {F T X Z : Nat → Int32} (hnv : nv ≤ 6) (hne : ne ≤ 12) (h : GI (nI nv) (nI ne) F T X Z) (v : Nat) : ∀ e, e ≤ ne → dg F T v (2 * e) ≤ e
  | 0 => fun _ => Nat.le_refl _
  | e + 1 => fun he => by
    have ih := dg_two hnv hne h v e (by omega)
    obtain ⟨-, -, -, -, a1, a2⟩ := h.avs hnv hne (j := 2 * e) (by omega)
    obtain ⟨-, -, -, -, b1, b2⟩ := h.avs hnv hne (j := 2 * e + 1) (by omega)
    rw [if_pos (by omega), show 2 * e / 2 = e by omega] at a1 a2
    rw [if_neg (by omega), show (2 * e + 1) / 2 = e by omega] at b1 b2
    rw [show 2 * (e + 1) = 2 * e + 1 + 1 by omega, dg_s, dg_s, a1, a2, b1, b2]
    split <;> split <;> omega
def EV (F T : Nat → Int32) (u J : Nat) (R : Nat → Nat → Int64) : Prop := (∀ r c, r < u → c < u → r ≠ c → -(J : Int) ≤ (R r c).toInt ∧ (R r c).toInt ≤ 0) ∧ (∀ r, r < u → 0 ≤ (R r r).toInt ∧ (R r r).toInt ≤ (dg F T (r + 1) J : Nat)) ∧ (∀ r c, r < u → u ≤ c → c < u + 2 → -(2 * (J : Int)) ≤ (R r c).toInt ∧ (R r c).toInt ≤ 2 * (J : Int)) ∧ (∀ r, r < u → 0 ≤ sm (fun c => (R r c).toInt) 0 u) ∧ ∀ j, j < J → ∀ r, r < u → r + 1 = av F T j → av F T j ≠ av T F j → (av T F j = 0 → 0 < sm (fun c => (R r c).toInt) 0 u) ∧ ∀ c, c < u → c + 1 = av T F j → (R r c).toInt < 0
theorem sm_add3 (f g h : Nat → Int) : ∀ (n k : Nat), sm (fun c => f c + (g c - h c)) k n = sm f k n + (sm g k n - sm h k n) := by
  intro n
  induction n with
  | zero => intro k; rfl
  | succ n ih => intro k; rw [sm_s, sm_s, sm_s, sm_s, ih]; omega
theorem sm_ind (a : Nat) : ∀ (n k : Nat), sm (fun c => if c + 1 = a then (1 : Int) else 0) k n = if k + 1 ≤ a ∧ a ≤ k + n then 1 else 0 := by
  intro n
  induction n with
  | zero => intro k; rw [if_neg (by omega)]; rfl
  | succ n ih =>
    intro k
    rw [sm_s, ih]
    by_cases h : k + 1 = a
    · rw [if_pos h, if_neg (by omega), if_pos (by omega)]; rfl
    · rw [if_neg h]
      by_cases h2 : k + 1 + 1 ≤ a ∧ a ≤ k + 1 + n
      · rw [if_pos h2, if_pos (by omega)]; rfl
      · rw [if_neg h2, if_neg (by omega)]; rfl
theorem l1 : (1 : Int64).toInt = 1 := rfl
theorem ae_in {a b u : Nat} {x y : Int64} {R : Nat → Nat → Int64} {r c : Nat} (hc : c < u) (hb : -1000 ≤ (R r c).toInt ∧ (R r c).toInt ≤ 1000) : (aeL a b u x y R r c).toInt = (R r c).toInt + (if r + 1 = a then (if c + 1 = a then (1 : Int) else 0) - (if c + 1 = b then (1 : Int) else 0) else 0) := by
  have e1 : (R r c + 1).toInt = (R r c).toInt + 1 := by rw [l_add] <;> rw [l1] <;> omega
  have e2 : (R r c - 1).toInt = (R r c).toInt - 1 := by rw [l_sub] <;> rw [l1] <;> omega
  have e3 : (R r c + 1 - 1).toInt = (R r c).toInt := by rw [l_sub] <;> rw [e1, l1] <;> omega
  unfold aeL
  by_cases h1 : r + 1 = a
  · rw [if_pos h1, if_pos h1, if_neg (by omega), if_neg (by omega)]
    by_cases h2 : c + 1 = b
    · rw [if_pos h2, if_pos h2]
      by_cases h3 : c + 1 = a
      · rw [if_pos h3, if_pos h3, e3]; omega
      · rw [if_neg h3, if_neg h3, e2]; omega
    · rw [if_neg h2, if_neg h2]
      by_cases h3 : c + 1 = a
      · rw [if_pos h3, if_pos h3, e1]; omega
      · rw [if_neg h3, if_neg h3]; omega
  · rw [if_neg h1, if_neg h1]; omega
theorem ae_out {a b u : Nat} {x y : Int64} {R : Nat → Nat → Int64} {r c : Nat} (hc : u ≤ c) (hc2 : c < u + 2) (hb : -1000 ≤ (R r c).toInt ∧ (R r c).toInt ≤ 1000) (hx : -2 ≤ x.toInt ∧ x.toInt ≤ 2) (hy : -2 ≤ y.toInt ∧ y.toInt ≤ 2) : (R r c).toInt - 2 ≤ (aeL a b u x y R r c).toInt ∧ (aeL a b u x y R r c).toInt ≤ (R r c).toInt + 2 := by
  have e1 : (R r c + x).toInt = (R r c).toInt + x.toInt := l_add (by omega) (by omega)
  have e2 : (R r c + y).toInt = (R r c).toInt + y.toInt := l_add (by omega) (by omega)
  unfold aeL
  by_cases h1 : r + 1 = a
  · rw [if_pos h1]
    by_cases h2 : c = u
    · rw [if_pos h2, e1]; omega
    · rw [if_neg h2, if_pos (by omega), e2]; omega
  · rw [if_neg h1]; omega
theorem EV.step {F T : Nat → Int32} {u J : Nat} {R R' : Nat → Nat → Int64} (h : EV F T u J R) (hJ : J < 24) (ha : av F T J ≤ u) (hb : av T F J ≤ u) {x y : Int64} (hx : -2 ≤ x.toInt ∧ x.toInt ≤ 2) (hy : -2 ≤ y.toInt ∧ y.toInt ≤ 2) (hR : ∀ r c, R' r c = aeL (av F T J) (av T F J) u x y R r c) : EV F T u (J + 1) R' := by
  obtain ⟨h1, h2, h3, h4, h5⟩ := h
  have hdl : ∀ v, dg F T v J ≤ J := fun v => dg_le F T v J
  have hcell : ∀ r c, r < u → c < u → (R' r c).toInt = (R r c).toInt + (if r + 1 = av F T J then (if c + 1 = av F T J then (1 : Int) else 0) - (if c + 1 = av T F J then (1 : Int) else 0) else 0) := by
    intro r c hr hc
    rw [hR]
    refine ae_in hc ?_
    by_cases z : r = c
    · subst z
      have := h2 r hr; have := hdl (r + 1); omega
    · have := h1 r c hr hc z; omega
  have hsum : ∀ r, r < u → sm (fun c => (R' r c).toInt) 0 u = sm (fun c => (R r c).toInt) 0 u + (if r + 1 = av F T J then (if av T F J = 0 then (1 : Int) else 0) else 0) := by
    intro r hr
    by_cases z : r + 1 = av F T J
    · rw [if_pos z, sm_congr (g := fun c => (R r c).toInt + ((if c + 1 = av F T J then (1 : Int) else 0) - (if c + 1 = av T F J then (1 : Int) else 0))) _ _ (fun c c1 c2 => by rw [hcell r c hr (by omega), if_pos z]), sm_add3, sm_ind, sm_ind, if_pos (by omega)]
      by_cases y : av T F J = 0
      · rw [if_neg (by omega), if_pos y]; omega
      · rw [if_pos (by omega), if_neg y]; omega
    · rw [if_neg z, sm_congr (g := fun c => (R r c).toInt) _ _ (fun c c1 c2 => by rw [hcell r c hr (by omega), if_neg z]; omega)]
      omega
  refine ⟨fun r c hr hc hrc => ?_, fun r hr => ?_, fun r c hr c1 c2 => ?_, fun r hr => ?_, fun j hj r hr hra hab => ?_⟩
  · have := h1 r c hr hc hrc
    rw [hcell r c hr hc]
    by_cases z : r + 1 = av F T J
    · rw [if_pos z, if_neg (by omega)]
      split <;> omega
    · rw [if_neg z]; omega
  · have := h2 r hr
    rw [hcell r r hr hr, dg_s]
    by_cases z : r + 1 = av F T J
    · rw [if_pos z, if_pos z]
      by_cases w : r + 1 = av T F J
      · rw [if_pos w, if_neg (by omega)]; omega
      · rw [if_neg w, if_pos (by omega)]; omega
    · rw [if_neg z, if_neg (by omega)]; omega
  · have i3 := h3 r c hr c1 c2
    have := ae_out (a := av F T J) (b := av T F J) (R := R) (r := r) (c := c) c1 c2 (by omega) hx hy
    rw [hR]
    omega
  · have := h4 r hr
    rw [hsum r hr]
    split
    · split <;> omega
    · omega
  · have mon : sm (fun c => (R r c).toInt) 0 u ≤ sm (fun c => (R' r c).toInt) 0 u := by
      rw [hsum r hr]
      split
      · split <;> omega
      · omega
    by_cases z : j = J
    · subst z
      refine ⟨fun hb0 => ?_, fun c hc hcb => ?_⟩
      · have := h4 r hr
        rw [hsum r hr, if_pos hra, if_pos hb0]; omega
      · have := h1 r c hr hc (by omega)
        rw [hcell r c hr hc, if_pos hra, if_neg (by omega), if_pos hcb]; omega
    · obtain ⟨k1, k2⟩ := h5 j (by omega) r hr hra hab
      refine ⟨fun hb0 => ?_, fun c hc hcb => ?_⟩
      · have := k1 hb0; omega
      · have := k2 c hc hcb
        rw [hcell r c hr hc]
        by_cases w : r + 1 = av F T J
        · rw [if_pos w, if_neg (by omega)]
          split <;> omega
        · rw [if_neg w]; omega
theorem aeL_congr {a b u : Nat} {x y : Int64} {R R' : Nat → Nat → Int64} {row : Nat → Int64} (h : RM u (aeL a b u x y R) row) (h2 : ∀ r c, R' r c = aeL a b u x y R r c) : RM u R' row := fun r hr => by
  obtain ⟨a1, a2, a3⟩ := h r hr
  exact ⟨fun c hc => by rw [h2]; exact a1 c hc, by rw [h2]; exact a2, by rw [h2]; exact a3⟩
theorem rows_loop {now : Nat → Int32} {nv ne u : Nat} {F T X Z : Nat → Int32} (hnv : nv ≤ 6) (hu : nv = u + 1) (hG : GI (nI nv) (nI ne) F T X Z) (hM : MI now 0 (nI nv) (nI ne) F T X Z) (hne : ne ≤ 12) : ∀ (m e n n' : Nat) (R : Nat → Nat → Int64) (row : Nat → Int64), e + m = ne → m < n → 2 * m < n' → RM u R row → EV F T u (2 * e) R → ∃ R' row', pX3_solve_L16 n (nI e) R (nI u) (nI ne) F T X Z = some (nI ne, R') ∧ pX6_makeRows_L23 n' (nI (2 * e)) now row = some (nI (2 * ne), row') ∧ RM u R' row' ∧ EV F T u (2 * ne) R' := by
  intro m
  induction m with
  | zero =>
    intro e n n' R row he hn hn' hRM hE
    obtain ⟨n, rfl⟩ : ∃ k, n = k + 1 := ⟨n - 1, by omega⟩
    obtain ⟨n', rfl⟩ : ∃ k, n' = k + 1 := ⟨n' - 1, by omega⟩
    have he : e = ne := he
    subst he
    exact ⟨R, row, by rw [pX3_solve_L16, if_pos (nI_le (Nat.le_refl _) (by omega))], by rw [pX6_makeRows_L23, show kin 1 50 = true from rfl, kgd_tt, show now (1 : Int32).toNatClampNeg = _ from hM.2.1, two_mul_I, if_pos (nI_le (Nat.le_refl _) (by omega))], hRM, hE⟩
  | succ m ih =>
    intro e n n' R row he hn hn' hRM hE
    obtain ⟨n, rfl⟩ : ∃ k, n = k + 1 := ⟨n - 1, by omega⟩
    obtain ⟨n', rfl⟩ : ∃ k, n' = k + 2 := ⟨n' - 2, by omega⟩
    have m0 : 2 * e % 2 = 0 := by omega
    have m1 : ¬ (2 * e + 1) % 2 = 0 := by omega
    have d0 : 2 * e / 2 = e := by omega
    have d1 : (2 * e + 1) / 2 = e := by omega
    obtain ⟨f1, t1, f2, t2, hx, hz⟩ := hG.vt hnv hne (show e < ne by omega)
    obtain ⟨-, -, -, -, a1, a2⟩ := hG.avs hnv hne (j := 2 * e) (by omega)
    obtain ⟨-, -, -, -, b1, b2⟩ := hG.avs hnv hne (j := 2 * e + 1) (by omega)
    rw [if_pos m0, d0] at a1 a2
    rw [if_neg m1, d1] at b1 b2
    have x0 : eX X (2 * e) = X e := by unfold eX; rw [if_pos m0, d0]
    have z0 : eX Z (2 * e) = Z e := by unfold eX; rw [if_pos m0, d0]
    have x1 : eX X (2 * e + 1) = -X e := by unfold eX; rw [if_neg m1, d1]
    have z1 : eX Z (2 * e + 1) = -Z e := by unfold eX; rw [if_neg m1, d1]
    have nx : (-X e).toInt = -(X e).toInt := i_neg (by omega)
    have nz : (-Z e).toInt = -(Z e).toInt := i_neg (by omega)
    obtain ⟨R1, p1, p2⟩ := addEnd_s (show u ≤ 5 by omega) (show ix F e ≤ u by omega) (show ix T e ≤ u by omega) (X e) (Z e) R
    obtain ⟨R2, q1, q2⟩ := addEnd_s (show u ≤ 5 by omega) (show ix T e ≤ u by omega) (show ix F e ≤ u by omega) (-X e) (-Z e) R1
    obtain ⟨row1, s1, s2⟩ := mend_s hnv hG hM hne (j := 2 * e) (by omega) hu hRM
    rw [a1, a2, x0, z0] at s2
    have hRM1 := aeL_congr s2 p2
    obtain ⟨row2, w1, w2⟩ := mend_s hnv hG hM hne (j := 2 * e + 1) (by omega) hu hRM1
    rw [b1, b2, x1, z1] at w2
    have hRM2 := aeL_congr w2 q2
    have hE1 : EV F T u (2 * e + 1) R1 := hE.step (by omega) (by omega) (by omega) (x := (X e).toInt64) (y := (Z e).toInt64) (by rw [Int32.toInt_toInt64]; exact hx) (by rw [Int32.toInt_toInt64]; exact hz) (by rw [a1, a2]; exact p2)
    have hE2 : EV F T u (2 * e + 1 + 1) R2 := hE1.step (by omega) (by omega) (by omega) (x := (-X e).toInt64) (y := (-Z e).toInt64) (by rw [Int32.toInt_toInt64, nx]; omega) (by rw [Int32.toInt_toInt64, nz]; omega) (by rw [b1, b2]; exact q2)
    obtain ⟨R3, row3, e1, e2, e3, e4⟩ := ih (e + 1) n n' R2 row2 (by omega) (by omega) (by omega) hRM2 hE2
    refine ⟨R3, row3, ?_, ?_, e3, e4⟩
    · rw [pX3_solve_L16, if_neg (nI_ge (by omega) (by omega)), kin_nI (show e < 12 by omega) (by omega), c_nI (n := e) (by omega), f1, t1, nI_1]
      simp only [kgd_tt]
      rw [p1, kb_s, q1, kb_s]
      exact e1
    · rw [s1, w1]
      exact e2
theorem clear_in {u r : Nat} (hu : u ≤ 5) (hr : r < u) : ∀ (m c n : Nat) (R : Nat → Nat → Int64), c + m = u + 2 → m < n → (∀ c', c' < c → R r c' = 0) → ∃ R', pX3_clearRows_L12 n (nI r) (nI c) R (nI u) = some (nI (u + 2), R') ∧ (∀ c', c' < u + 2 → R' r c' = 0) ∧ ∀ r' c', r' ≠ r → R' r' c' = R r' c' := by
  intro m
  induction m with
  | zero =>
    intro c n R hc hn h
    obtain ⟨n, rfl⟩ : ∃ k, n = k + 1 := ⟨n - 1, by omega⟩
    have hc : c = u + 2 := hc
    subst hc
    exact ⟨R, by rw [pX3_clearRows_L12, show (2 : Int32) = nI 2 from rfl, nI_add, if_pos (nI_le (Nat.le_refl _) (by omega))], h, fun _ _ _ => rfl⟩
  | succ m ih =>
    intro c n R hc hn h
    obtain ⟨n, rfl⟩ : ∃ k, n = k + 1 := ⟨n - 1, by omega⟩
    rw [pX3_clearRows_L12, show (2 : Int32) = nI 2 from rfl, nI_add, if_neg (nI_ge (by omega) (by omega)), kin_nI (show r < 5 by omega) (by omega), kin_nI (show c < 7 by omega) (by omega), c_nI (n := r) (by omega), c_nI (n := c) (by omega), Nat.zero_add, decide_eq_true (show r < 5 by omega), nI_1]
    simp only [kgd_tt]
    obtain ⟨R', a1, a2, a3⟩ := ih (c + 1) n (va_up R r (vp_updL (R r) c 0)) (by omega) (by omega) (fun c' hc' => by
      by_cases z : c' = c
      · subst z; exact set2_eq
      · rw [set2_ne (fun e => z e.2)]; exact h c' (by omega))
    exact ⟨R', a1, a2, fun r' c' hr' => by rw [a3 r' c' hr', set2_ne (fun e => hr' e.1)]⟩
theorem clear_loop {u : Nat} (hu : u ≤ 5) : ∀ (m r n : Nat) (R : Nat → Nat → Int64), r + m = u → m < n → (∀ r' c', r' < r → c' < u + 2 → R r' c' = 0) → ∃ R', pX3_clearRows_L2 n (nI r) R (nI u) = some (nI u, R') ∧ ∀ r' c', r' < u → c' < u + 2 → R' r' c' = 0 := by
  intro m
  induction m with
  | zero =>
    intro r n R hr hn h
    obtain ⟨n, rfl⟩ : ∃ k, n = k + 1 := ⟨n - 1, by omega⟩
    have hr : r = u := hr
    subst hr
    exact ⟨R, by rw [pX3_clearRows_L2, if_pos (nI_le (Nat.le_refl _) (by omega))], h⟩
  | succ m ih =>
    intro r n R hr hn h
    obtain ⟨n, rfl⟩ : ∃ k, n = k + 1 := ⟨n - 1, by omega⟩
    obtain ⟨R1, a1, a2, a3⟩ := clear_in hu (show r < u by omega) (u + 2) 0 KF R (by omega) (by unfold KF; omega) (fun c' h => absurd h (Nat.not_lt_zero _))
    rw [pX3_clearRows_L2, if_neg (nI_ge (by omega) (by omega)), show pX3_clearRows_L12 KF (nI r) 0 R (nI u) = _ from a1, kb_s, nI_1]
    refine ih (r + 1) n R1 (by omega) (by omega) (fun r' c' hr' hc' => ?_)
    by_cases z : r' = r
    · subst z; exact a2 c' hc'
    · rw [a3 r' c' z]; exact h r' c' (by omega) hc'
theorem zero_loop6 : ∀ (m k n : Nat) (row : Nat → Int64), k + m = 56 → m < n → (∀ i, i < k → row i = 0) → ∃ row', pX6_makeRows_L2 n (nI k) row = some (nI 56, row') ∧ ∀ i, i < 56 → row' i = 0 := by
  intro m
  induction m with
  | zero =>
    intro k n row hk hn h
    obtain ⟨n, rfl⟩ : ∃ k, n = k + 1 := ⟨n - 1, by omega⟩
    have hk : k = 56 := hk
    subst hk
    exact ⟨row, by rw [pX6_makeRows_L2, if_pos (by decide)], h⟩
  | succ m ih =>
    intro k n row hk hn h
    obtain ⟨n, rfl⟩ : ∃ k, n = k + 1 := ⟨n - 1, by omega⟩
    rw [pX6_makeRows_L2, if_neg (show ¬ (56 : Int32) ≤ nI k from nI_ge (a := k) (b := 56) (by omega) (by omega)), kin_nI (by omega) (by omega), kgd_tt, c_nI (by omega), nI_1]
    refine ih (k + 1) n _ (by omega) (by omega) (fun i hi => ?_)
    by_cases z : i = k
    · subst z; exact updL_eq
    · rw [updL_ne z]; exact h i (by omega)
theorem place_s {now : Nat → Int32} {nv ne u : Nat} {F T X Z : Nat → Int32} (hnv : nv ≤ 6) (hu : nv = u + 1) (hG : GI (nI nv) (nI ne) F T X Z) (hM : MI now 0 (nI nv) (nI ne) F T X Z) (hne : ne ≤ 12) (hcl : ∀ S : Nat → Prop, (∀ e, e < ne → (S (ix F e) ↔ S (ix T e))) → S 0 → ∀ v, v < nv → S v) (R0 : Nat → Nat → Int64) (un : Int32) (sc : Int64) (row0 : Nat → Int64) (det : Int64) : ∃ R row s, pX3_solve R0 un sc (nI nv) (nI ne) F T X Z = some (R, nI u, s) ∧ pX6_place now row0 det = some (row, s) ∧ RM u R row ∧ 0 < s.toInt ∧ s.toInt ≤ 248832 ∧ ∀ r, r < u → (R r u).toInt.natAbs ≤ 1521681143169024 ∧ (R r (u + 1)).toInt.natAbs ≤ 1521681143169024 := by
  obtain ⟨R1, a1, a2⟩ := clear_loop (show u ≤ 5 by omega) u 0 KF R0 (by omega) (by unfold KF; omega) (fun r' c' h => absurd h (Nat.not_lt_zero _))
  obtain ⟨row1, b1, b2⟩ := zero_loop6 56 0 KF row0 (by omega) (by unfold KF; omega) (fun i h => absurd h (Nat.not_lt_zero _))
  have hRM1 : RM u R1 row1 := fun r hr => ⟨fun c hc => by rw [a2 r c hr (by omega), b2 _ (by omega)], by rw [a2 r u hr (by omega), b2 _ (by omega)], by rw [a2 r (u + 1) hr (by omega), b2 _ (by omega)]⟩
  have sm0 : ∀ r, r < u → sm (fun c => (R1 r c).toInt) 0 u = 0 := fun r hr => by
    rw [sm_congr (g := fun _ => (0 : Int) * 0 - 0 * 0) _ _ (fun c c1 c2 => by rw [a2 r c hr (by omega), lg0]; rfl), sm_lin 0 0 (fun _ => 0) (fun _ => 0), Int.zero_mul]
    rfl
  have hE1 : EV F T u (2 * 0) R1 := ⟨fun r c hr hc _ => by rw [a2 r c hr (by omega), lg0]; omega, fun r hr => by rw [a2 r r hr (by omega), lg0]; omega, fun r c hr c1 c2 => by rw [a2 r c hr c2, lg0]; omega, fun r hr => by rw [sm0 r hr]; omega, fun j hj => by omega⟩
  obtain ⟨R2, row2, c1, c2, c3, c4⟩ := rows_loop hnv hu hG hM hne ne 0 KF KF R1 row1 (by omega) (by unfold KF; omega) (by unfold KF; omega) hRM1 hE1
  obtain ⟨v1, v2, v3, v4, v5⟩ := c4
  have hJ : JR u 0 1 (fun r c => (R2 r c).toInt) R2 := by
    refine ⟨⟨by rw [l1]; omega, fun r c _ hr _ hc hrc => (v1 r c hr hc hrc).2, fun r _ hr => v4 r hr, fun r _ hr => ?_, fun S ⟨r0, _, q2, q3⟩ => ?_⟩, rfl, fun r c _ _ _ _ => rfl, by rw [l1]; decide, fun r c _ hr c1 c2 => ?_, fun r hr => absurd hr (Nat.not_lt_zero _)⟩
    · have := v2 r hr
      have := dg_two hnv hne hG (r + 1) ne (Nat.le_refl _)
      rw [l1]
      show (R2 r r).toInt ≤ 12 * 1
      omega
    · apply Classical.byContradiction
      intro hno
      have hno : ∀ r, r < u → S r → ¬ 0 < sm (fun c => (R2 r c).toInt) 0 u ∧ ∀ c, c < u → ¬ S c → ¬ (R2 r c).toInt < 0 := fun r hr hS => ⟨fun c => hno ⟨r, Nat.zero_le _, hr, hS, Or.inl c⟩, fun c hc hcS hn => hno ⟨r, Nat.zero_le _, hr, hS, Or.inr ⟨c, Nat.zero_le _, hc, hcS, hn⟩⟩⟩
      have one : ∀ j, j < 2 * ne → (1 ≤ av F T j ∧ S (av F T j - 1)) → (1 ≤ av T F j ∧ S (av T F j - 1)) := by
        intro j hj ⟨g1, g2⟩
        obtain ⟨-, -, w1, w2, -⟩ := hG.avs hnv hne hj
        by_cases hab : av F T j = av T F j
        · rw [← hab]; exact ⟨g1, g2⟩
        · obtain ⟨k1, k2⟩ := v5 j hj (av F T j - 1) (by omega) (by omega) hab
          obtain ⟨n1, n2⟩ := hno (av F T j - 1) (by omega) g2
          have hb : 1 ≤ av T F j := by
            rcases Nat.eq_zero_or_pos (av T F j) with z | z
            · exact absurd (k1 z) n1
            · exact z
          refine ⟨hb, Classical.byContradiction (fun hS => ?_)⟩
          exact n2 (av T F j - 1) (by omega) hS (k2 (av T F j - 1) (by omega) (by omega))
      have hall := hcl (fun v => ¬ (1 ≤ v ∧ S (v - 1))) (fun e he => ?_) (fun h => by omega) (r0 + 1) (by omega)
      · exact hall ⟨by omega, q3⟩
      · obtain ⟨-, -, -, -, x1, x2⟩ := hG.avs hnv hne (j := 2 * e) (by omega)
        obtain ⟨-, -, -, -, y1, y2⟩ := hG.avs hnv hne (j := 2 * e + 1) (by omega)
        rw [if_pos (by omega), show 2 * e / 2 = e by omega] at x1 x2
        rw [if_neg (by omega), show (2 * e + 1) / 2 = e by omega] at y1 y2
        have o1 := one (2 * e) (by omega)
        have o2 := one (2 * e + 1) (by omega)
        rw [x1, x2] at o1
        rw [y1, y2] at o2
        exact ⟨fun h c => h (o2 c), fun h c => h (o1 c)⟩
    · have := v3 r c hr c1 c2
      show (R2 r c).toInt.natAbs ≤ 48 * 1
      omega
  have h0 : now 0 = nI (u + 1) := by rw [← hu]; exact hM.1
  obtain ⟨R3, row3, s, d1, d2, d3, d4⟩ := solve_loop (show u ≤ 5 by omega) h0 _ u 0 KF KF 1 R2 row2 (by omega) (by unfold KF; omega) (by unfold KF; omega) c3 hJ
  obtain ⟨j0, -, -, j3, -, j5⟩ := d4
  have hp : ∀ u, u ≤ 5 → 12 ^ u ≤ 248832 ∧ 24 ^ (2 * u + 1) ≤ 1521681143169024 := by decide
  obtain ⟨p1, p2⟩ := hp u (by omega)
  have hs : 0 < s.toInt := j0.1
  refine ⟨R3, row3, s, ?_, ?_, d3, hs, by omega, fun r hr => ?_⟩
  · unfold pX3_solve pX3_clearRows
    rw [hu, nI_pred, show pX3_clearRows_L2 KF 0 R0 (nI u) = _ from a1, kb_s, kb_s]
    simp only []
    rw [show pX3_solve_L16 KF 0 R1 (nI u) (nI ne) F T X Z = _ from c1, kb_s]
    simp only []
    rw [show pX3_solve_L95 KF 0 R2 (nI u) 1 = _ from d1, kb_s]
  · unfold pX6_place pX6_makeRows
    rw [show pX6_makeRows_L2 KF 0 row0 = _ from b1, kb_s]
    simp only []
    rw [show pX6_makeRows_L23 KF 0 now row1 = _ from c2, kb_s, kb_s]
    simp only []
    rw [show pX6_place_L11 KF 0 now row2 1 = _ from d2, kb_s]
  · obtain ⟨-, q⟩ := j5 r hr
    have := q u (Nat.le_refl _) (by omega)
    have := q (u + 1) (by omega) (by omega)
    omega
