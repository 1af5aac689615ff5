/-! the elimination on either side -/
def el (k : Nat) (s : Int64) (R : Nat → Nat → Int64) (r c : Nat) : Int64 := (R k k * R r c - R r k * R k c) / s
def JR (u k : Nat) (s : Int64) (a : Nat → Nat → Int) (R : Nat → Nat → Int64) : Prop := JJ u k s.toInt (fun r c => (R r c).toInt) ∧ s.toInt = sk k a ∧ (∀ r c, k ≤ r → r < u → k ≤ c → c < u → (R r c).toInt = dk k a r c) ∧ s.toInt.natAbs ≤ 12 ^ k ∧ (∀ r c, k ≤ r → r < u → u ≤ c → c < u + 2 → (R r c).toInt.natAbs ≤ 48 * 24 ^ k) ∧ ∀ r, r < k → (∀ c, k ≤ c → c < u → (R r c).toInt.natAbs ≤ 24 ^ (k + 1)) ∧ ∀ c, u ≤ c → c < u + 2 → (R r c).toInt.natAbs ≤ 24 ^ (2 * k + 1)
theorem bnd_F : ∀ k, k < 5 → 24 * (48 * 24 ^ k) = 48 * 24 ^ (k + 1) ∧ 24 * 24 ^ (k + 1) = 24 ^ (k + 1 + 1) ∧ 12 * 24 ^ (2 * k + 1) + 24 ^ (k + 1) * (48 * 24 ^ k) ≤ 24 ^ (2 * (k + 1) + 1) ∧ 12 * 12 ^ k ≤ 24 ^ (k + 1 + 1) ∧ 48 * 24 ^ k ≤ 24 ^ (2 * (k + 1) + 1) ∧ 48 * 24 ^ k ≤ 15925248 ∧ 24 ^ (k + 1) ≤ 7962624 ∧ 24 ^ (2 * k + 1) ≤ 2641807540224 ∧ 12 * 12 ^ k ≤ 248832 ∧ 12 * 12 ^ k = 12 ^ (k + 1) := by decide
theorem nab (x y : Int) : (x - y).natAbs ≤ x.natAbs + y.natAbs := by omega
theorem el_int {p x f y s : Int64} (hs : 0 < s.toInt) (hp : p.toInt.natAbs ≤ 248832) (hx : x.toInt.natAbs ≤ 2641807540224) (hf : f.toInt.natAbs ≤ 7962624) (hy : y.toInt.natAbs ≤ 15925248) : ((p * x - f * y) / s).toInt = (p.toInt * x.toInt - f.toInt * y.toInt).tdiv s.toInt := by
  have b1 : (p.toInt * x.toInt).natAbs ≤ 248832 * 2641807540224 := by rw [Int.natAbs_mul]; exact Nat.mul_le_mul hp hx
  have b2 : (f.toInt * y.toInt).natAbs ≤ 7962624 * 15925248 := by rw [Int.natAbs_mul]; exact Nat.mul_le_mul hf hy
  have e1 : (p * x).toInt = p.toInt * x.toInt := l_mul (by omega) (by omega)
  have e2 : (f * y).toInt = f.toInt * y.toInt := l_mul (by omega) (by omega)
  have e3 : (p * x - f * y).toInt = p.toInt * x.toInt - f.toInt * y.toInt := by rw [l_sub] <;> rw [e1, e2] <;> omega
  rw [Int64.toInt_div, e3]
  have b3 := nab (p.toInt * x.toInt) (f.toInt * y.toInt)
  have b4 : ((p.toInt * x.toInt - f.toInt * y.toInt).tdiv s.toInt).natAbs ≤ (p.toInt * x.toInt - f.toInt * y.toInt).natAbs := by
    rw [Int.natAbs_tdiv]; exact Nat.div_le_self _ _
  rw [Int.bmod_eq_of_le (by omega) (by omega)]
theorem tdiv_b {N s : Int} {B : Nat} (h : N.natAbs ≤ s.natAbs * B) : (N.tdiv s).natAbs ≤ B := by
  rw [Int.natAbs_tdiv]
  exact Nat.div_le_of_le_mul h
theorem two_b {p x f y : Int} {S C : Nat} (h1 : p.natAbs * x.natAbs ≤ 12 * S * C) (h2 : f.natAbs * y.natAbs ≤ 12 * S * C) : (p * x - f * y).natAbs ≤ S * (24 * C) := by
  have h := nab (p * x) (f * y)
  rw [Int.natAbs_mul, Int.natAbs_mul] at h
  rw [Nat.mul_assoc] at h1 h2
  rw [show S * (24 * C) = 24 * (S * C) from Nat.mul_left_comm S 24 C]
  omega
theorem JR.pivot {u k : Nat} {s : Int64} {a : Nat → Nat → Int} {R : Nat → Nat → Int64} (h : JR u k s a R) (hk : k < u) : 0 < (R k k).toInt := h.1.pivot hk
theorem JR.step {u k : Nat} {s : Int64} {a : Nat → Nat → Int} {R R' : Nat → Nat → Int64} (h : JR u k s a R) (hk : k < u) (hu : u ≤ 5) (h1 : ∀ r c, r < u → r ≠ k → c < u + 2 → R' r c = el k s R r c) (h2 : ∀ c, c < u + 2 → R' k c = R k c) : JR u (k + 1) (R k k) a R' := by
  have hp := h.pivot hk
  obtain ⟨j, j1, j2, j3, j4, j5⟩ := h
  obtain ⟨F1, F2, F3, F4, F5, F6, F7, F8, F9, F10⟩ := bnd_F k (by omega)
  have hs := j.1
  have habs : ∀ r c, k ≤ r → r < u → k ≤ c → c < u → (R r c).toInt.natAbs ≤ 12 * s.toInt.natAbs := fun r c r1 r2 c1 c2 => by
    have : -(12 * s.toInt) ≤ (R r c).toInt ∧ (R r c).toInt ≤ 12 * s.toInt := j.abs r1 r2 c1 c2
    omega
  have hpp := habs k k (Nat.le_refl _) hk (Nat.le_refl _) hk
  have hblk : ∀ r c, k + 1 ≤ r → r < u → k + 1 ≤ c → c < u → s.toInt * (R' r c).toInt = (R k k).toInt * (R r c).toInt - (R r k).toInt * (R k c).toInt := by
    intro r c r1 r2 c1 c2
    have i1 := habs r c (by omega) r2 (by omega) c2
    have i2 := habs r k (by omega) r2 (Nat.le_refl _) hk
    have i3 := habs k c (Nat.le_refl _) hk (by omega) c2
    rw [h1 r c r2 (by omega) (by omega)]
    unfold el
    rw [el_int hs (by omega) (by omega) (by omega) (by omega)]
    have hd := dk_step a r c k (by omega)
    rw [← j2 k k (Nat.le_refl _) hk (Nat.le_refl _) hk, ← j2 r c (by omega) r2 (by omega) c2, ← j2 r k (by omega) r2 (Nat.le_refl _) hk, ← j2 k c (Nat.le_refl _) hk (by omega) c2, ← j1] at hd
    rw [hd, Int.mul_tdiv_cancel_left _ (by omega)]
  refine ⟨j.step hk hblk, ?_, fun r c r1 r2 c1 c2 => ?_, by omega, fun r c r1 r2 c1 c2 => ?_, fun r r1 => ⟨fun c c1 c2 => ?_, fun c c1 c2 => ?_⟩⟩
  · exact j2 k k (Nat.le_refl _) hk (Nat.le_refl _) hk
  · have hd := dk_step a r c k (by omega)
    rw [← j2 k k (Nat.le_refl _) hk (Nat.le_refl _) hk, ← j2 r c (by omega) r2 (by omega) c2, ← j2 r k (by omega) r2 (Nat.le_refl _) hk, ← j2 k c (Nat.le_refl _) hk (by omega) c2, ← j1, ← hblk r c r1 r2 c1 c2] at hd
    exact Int.eq_of_mul_eq_mul_left (by omega) hd
  · have i1 := j4 r c (by omega) r2 c1 c2
    have i2 := habs r k (by omega) r2 (Nat.le_refl _) hk
    have i3 := j4 k c (Nat.le_refl _) hk c1 c2
    rw [h1 r c r2 (by omega) (by omega)]
    unfold el
    rw [el_int hs (by omega) (by omega) (by omega) (by omega), ← F1]
    exact tdiv_b (two_b (Nat.mul_le_mul hpp i1) (Nat.mul_le_mul i2 i3))
  · by_cases z : r = k
    · subst z
      rw [h2 c (by omega)]
      have := habs r c (Nat.le_refl _) hk (by omega) c2
      omega
    · obtain ⟨q1, q2⟩ := j5 r (by omega)
      have i1 := q1 c (by omega) c2
      have i2 := q1 k (Nat.le_refl _) hk
      have i3 := habs k c (Nat.le_refl _) hk (by omega) c2
      rw [h1 r c (by omega) z (by omega)]
      unfold el
      rw [el_int hs (by omega) (by omega) (by omega) (by omega), ← F2]
      refine tdiv_b (two_b (Nat.mul_le_mul hpp i1) ?_)
      rw [Nat.mul_comm (12 * s.toInt.natAbs)]
      exact Nat.mul_le_mul i2 i3
  · by_cases z : r = k
    · subst z
      rw [h2 c (by omega)]
      have := j4 r c (Nat.le_refl _) hk c1 c2
      omega
    · obtain ⟨q1, q2⟩ := j5 r (by omega)
      have i1 := q2 c c1 c2
      have i2 := q1 k (Nat.le_refl _) hk
      have i3 := j4 k c (Nat.le_refl _) hk c1 c2
      rw [h1 r c (by omega) z (by omega)]
      unfold el
      rw [el_int hs (by omega) (by omega) (by omega) (by omega)]
      refine Nat.le_trans (tdiv_b (B := 12 * 24 ^ (2 * k + 1) + 24 ^ (k + 1) * (48 * 24 ^ k)) ?_) F3
      have n1 := nab ((R k k).toInt * (R r c).toInt) ((R r k).toInt * (R k c).toInt)
      rw [Int.natAbs_mul, Int.natAbs_mul] at n1
      have n2 := Nat.mul_le_mul hpp i1
      have n3 := Nat.mul_le_mul i2 i3
      rw [Nat.mul_add]
      rw [Nat.mul_assoc, Nat.mul_left_comm] at n2
      have n4 : 1 * (24 ^ (k + 1) * (48 * 24 ^ k)) ≤ s.toInt.natAbs * (24 ^ (k + 1) * (48 * 24 ^ k)) := Nat.mul_le_mul_right _ (by omega)
      omega
/-- the class's rows beside the model's -/
def RM (u : Nat) (R : Nat → Nat → Int64) (row : Nat → Int64) : Prop := ∀ r, r < u → (∀ c, c < u → R r c = row (8 * r + c)) ∧ R r u = row (8 * r + 5) ∧ R r (u + 1) = row (8 * r + 6)
theorem updL_eq {f : Nat → Int64} {k : Nat} {v : Int64} : vp_updL f k v k = v := if_pos rfl
theorem updL_ne {f : Nat → Int64} {k j : Nat} {v : Int64} (h : j ≠ k) : vp_updL f k v j = f j := if_neg h
theorem set2_eq {R : Nat → Nat → Int64} {r c : Nat} {v : Int64} : va_up R r (vp_updL (R r) c v) r c = v := by rw [va_up_eq2, updL_eq]
theorem set2_ne {R : Nat → Nat → Int64} {r c r' c' : Nat} {v : Int64} (h : ¬ (r' = r ∧ c' = c)) : va_up R r (vp_updL (R r) c v) r' c' = R r' c' := by
  by_cases z : r' = r
  · subst z; rw [va_up_eq2, updL_ne (fun e => h ⟨rfl, e⟩)]
  · rw [va_up_ne2 z]
theorem reduce_loop {u k r : Nat} (hu : u ≤ 5) (hr : r < u) (hk : k < u) (hrk : r ≠ k) {s : Int64} (hs : s ≠ 0) (R : Nat → Nat → Int64) : ∀ (m c n : Nat) (Q : Nat → Nat → Int64), c + m = u + 2 → m < n → (∀ r' c', Q r' c' = if r' = r ∧ c' < c then el k s R r c' else R r' c') → ∃ Q', pX3_reduceRow_L13 n (nI r) (nI k) (R k k) (R r k) (nI c) Q (nI u) s = some (nI (u + 2), Q') ∧ ∀ r' c', Q' r' c' = if r' = r ∧ c' < u + 2 then el k s R r c' else R r' c' := by
  intro m
  induction m with
  | zero =>
    intro c n Q hc hn h
    obtain ⟨n, rfl⟩ : ∃ k, n = k + 1 := ⟨n - 1, by omega⟩
    have hc : c = u + 2 := hc
    subst hc
    exact ⟨Q, by rw [pX3_reduceRow_L13, show (2 : Int32) = nI 2 from rfl, nI_add, if_pos (nI_le (Nat.le_refl _) (by omega))], h⟩
  | succ m ih =>
    intro c n Q hc hn h
    obtain ⟨n, rfl⟩ : ∃ k, n = k + 1 := ⟨n - 1, by omega⟩
    rw [pX3_reduceRow_L13, show (2 : Int32) = nI 2 from rfl, nI_add, if_neg (nI_ge (by omega) (by omega)), kin_nI (show r < 5 by omega) (by omega), kin_nI (show k < 5 by omega) (by omega), kin_nI (show c < 7 by omega) (by omega), c_nI (n := r) (by omega), c_nI (n := k) (by omega), c_nI (n := c) (by omega), Nat.zero_add, Nat.zero_add, decide_eq_true (show r < 5 by omega), decide_eq_true (show k < 5 by omega), decide_eq_true hs, nI_1]
    simp only [kgd_tt]
    refine ih (c + 1) n _ (by omega) (by omega) (fun r' c' => ?_)
    have q1 : Q r c = R r c := by rw [h, if_neg (by omega)]
    have q2 : Q k c = R k c := by rw [h, if_neg (by omega)]
    rw [q1, q2]
    by_cases z : r' = r ∧ c' = c
    · obtain ⟨z1, z2⟩ := z
      subst z1 z2
      rw [set2_eq, if_pos ⟨rfl, by omega⟩]
      rfl
    · rw [set2_ne z, h]
      by_cases y : r' = r ∧ c' < c
      · rw [if_pos y, if_pos ⟨y.1, by omega⟩]
      · rw [if_neg y, if_neg (by omega)]
theorem elim_loop {u k : Nat} (hu : u ≤ 5) (hk : k < u) {s : Int64} (hs : s ≠ 0) (R : Nat → Nat → Int64) : ∀ (m r n : Nat) (Q : Nat → Nat → Int64), r + m = u → m < n → (∀ r' c', Q r' c' = if r' < r ∧ r' ≠ k ∧ c' < u + 2 then el k s R r' c' else R r' c') → ∃ Q', pX3_eliminate_L28 n (nI k) (R k k) (nI r) Q (nI u) s = some (nI u, Q') ∧ ∀ r' c', Q' r' c' = if r' < u ∧ r' ≠ k ∧ c' < u + 2 then el k s R r' c' else R r' c' := by
  intro m
  induction m with
  | zero =>
    intro r n Q hr hn h
    obtain ⟨n, rfl⟩ : ∃ k, n = k + 1 := ⟨n - 1, by omega⟩
    have hr : r = u := hr
    subst hr
    exact ⟨Q, by rw [pX3_eliminate_L28, if_pos (nI_le (Nat.le_refl _) (by omega))], h⟩
  | succ m ih =>
    intro r n Q hr hn h
    obtain ⟨n, rfl⟩ : ∃ k, n = k + 1 := ⟨n - 1, by omega⟩
    rw [pX3_eliminate_L28, if_neg (nI_ge (by omega) (by omega)), nI_1]
    by_cases z : r = k
    · rw [if_pos (by rw [z]), kb_s]
      refine ih (r + 1) n Q (by omega) (by omega) (fun r' c' => ?_)
      rw [h]
      by_cases y : r' < r ∧ r' ≠ k ∧ c' < u + 2
      · rw [if_pos y, if_pos (by omega)]
      · rw [if_neg y, if_neg (by omega)]
    · rw [if_neg (fun e => z (nI_inj (by omega) (by omega) e))]
      have q1 : Q k k = R k k := by rw [h, if_neg (by omega)]
      have q2 : Q r k = R r k := by rw [h, if_neg (by omega)]
      have q3 : ∀ c', el k s Q r c' = el k s R r c' := fun c' => by
        unfold el
        rw [q1, q2, show Q r c' = R r c' by rw [h, if_neg (by omega)], show Q k c' = R k c' by rw [h, if_neg (by omega)]]
      obtain ⟨Q1, a1, a2⟩ := reduce_loop hu (show r < u by omega) hk z hs Q (u + 2) 0 KF Q (by omega) (by unfold KF; omega) (fun r' c' => by rw [if_neg (by omega)])
      unfold pX3_reduceRow
      rw [kin_nI (show r < 5 by omega) (by omega), kin_nI (show k < 7 by omega) (by omega), c_nI (n := r) (by omega), c_nI (n := k) (by omega), Nat.zero_add, decide_eq_true (show r < 5 by omega)]
      simp only [kgd_tt]
      rw [← q1, show pX3_reduceRow_L13 KF (nI r) (nI k) (Q k k) (Q r k) 0 Q (nI u) s = _ from a1, kb_s, kb_s, kb_s, q1]
      simp only []
      refine ih (r + 1) n Q1 (by omega) (by omega) (fun r' c' => ?_)
      rw [a2]
      by_cases y : r' = r ∧ c' < u + 2
      · rw [if_pos y, if_pos (by omega), q3, y.1]
      · rw [if_neg y, h]
        by_cases x : r' < r ∧ r' ≠ k ∧ c' < u + 2
        · rw [if_pos x, if_pos (by omega)]
        · rw [if_neg x, if_neg (by omega)]
def elm (k : Nat) (s : Int64) (row : Nat → Int64) (r c : Nat) : Int64 := (row (8 * k + k) * row (8 * r + c) - row (8 * r + k) * row (8 * k + c)) / s
theorem cell_s {r c : Nat} : pX6_cell (nI r) (nI c) = some (nI (8 * r + c)) := by
  unfold pX6_cell
  rw [nI_mulc 8 (show (8 : Int32) = nI 8 from rfl), nI_add]
theorem mreduce_loop {k r : Nat} (hr : r < 6) (hk : k < 6) (hrk : r ≠ k) {s : Int64} (hs : s ≠ 0) (row : Nat → Int64) : ∀ (m c n : Nat) (Q : Nat → Int64), c + m = 7 → m < n → (∀ r' c', c' < 8 → Q (8 * r' + c') = if r' = r ∧ c' < c then elm k s row r c' else row (8 * r' + c')) → ∃ Q', pX6_place_L66 n (nI k) (row (8 * k + k)) (nI r) (row (8 * r + k)) (nI c) Q s = some (nI 7, Q') ∧ ∀ r' c', c' < 8 → Q' (8 * r' + c') = if r' = r ∧ c' < 7 then elm k s row r c' else row (8 * r' + c') := by
  intro m
  induction m with
  | zero =>
    intro c n Q hc hn h
    obtain ⟨n, rfl⟩ : ∃ k, n = k + 1 := ⟨n - 1, by omega⟩
    have hc : c = 7 := hc
    subst hc
    exact ⟨Q, by rw [pX6_place_L66, if_pos (by decide)], h⟩
  | succ m ih =>
    intro c n Q hc hn h
    obtain ⟨n, rfl⟩ : ∃ k, n = k + 1 := ⟨n - 1, by omega⟩
    rw [pX6_place_L66, if_neg (show ¬ (7 : Int32) ≤ nI c from nI_ge (a := c) (b := 7) (by omega) (by omega)), if_neg (fun e => hrk (nI_inj (by omega) (by omega) e)), cell_s, cell_s, kb_s, kb_s, kb_s, kin_nI (show 8 * r + c < 56 by omega) (by omega), kin_nI (show 8 * k + c < 56 by omega) (by omega), c_nI (n := 8 * r + c) (by omega), c_nI (n := 8 * k + c) (by omega), decide_eq_true hs, nI_1]
    simp only [kgd_tt]
    refine ih (c + 1) n _ (by omega) (by omega) (fun r' c' hc' => ?_)
    have q1 : Q (8 * r + c) = row (8 * r + c) := by rw [h _ _ (by omega), if_neg (by omega)]
    have q2 : Q (8 * k + c) = row (8 * k + c) := by rw [h _ _ (by omega), if_neg (by omega)]
    rw [q1, q2]
    by_cases z : r' = r ∧ c' = c
    · obtain ⟨z1, z2⟩ := z
      subst z1 z2
      rw [updL_eq, if_pos ⟨rfl, by omega⟩]
      rfl
    · rw [updL_ne (by omega), h _ _ hc']
      by_cases y : r' = r ∧ c' < c
      · rw [if_pos y, if_pos ⟨y.1, by omega⟩]
      · rw [if_neg y, if_neg (by omega)]
theorem melim_loop {u k : Nat} (hu : u ≤ 5) (hk : k < u) {s : Int64} (hs : s ≠ 0) {now : Nat → Int32} (h0 : now 0 = nI (u + 1)) (row : Nat → Int64) : ∀ (m r n : Nat) (Q : Nat → Int64), r + m = u → m < n → (∀ r' c', c' < 8 → Q (8 * r' + c') = if r' < r ∧ r' ≠ k ∧ c' < 7 then elm k s row r' c' else row (8 * r' + c')) → ∃ Q', pX6_place_L37 n (nI k) (row (8 * k + k)) (nI r) now Q s = some (nI u, Q') ∧ ∀ r' c', c' < 8 → Q' (8 * r' + c') = if r' < u ∧ r' ≠ k ∧ c' < 7 then elm k s row r' c' else row (8 * r' + c') := by
  intro m
  induction m with
  | zero =>
    intro r n Q hr hn h
    obtain ⟨n, rfl⟩ : ∃ k, n = k + 1 := ⟨n - 1, by omega⟩
    have hr : r = u := hr
    subst hr
    exact ⟨Q, by rw [pX6_place_L37, show kin 0 50 = true from rfl, kgd_tt, show now (0 : Int32).toNatClampNeg = _ from h0, nI_pred, if_pos (nI_le (Nat.le_refl _) (by omega))], h⟩
  | succ m ih =>
    intro r n Q hr hn h
    obtain ⟨n, rfl⟩ : ∃ k, n = k + 1 := ⟨n - 1, by omega⟩
    have q2 : Q (8 * r + k) = row (8 * r + k) := by rw [h _ _ (by omega), if_neg (by omega)]
    rw [pX6_place_L37, show kin 0 50 = true from rfl, kgd_tt, show now (0 : Int32).toNatClampNeg = _ from h0, nI_pred, if_neg (nI_ge (by omega) (by omega)), cell_s, kb_s, kin_nI (show 8 * r + k < 56 by omega) (by omega), kgd_tt, c_nI (n := 8 * r + k) (by omega), nI_1]
    by_cases z : r = k
    · obtain ⟨l, hl⟩ : ∃ l, pX6_place_L66 KF (nI k) (row (8 * k + k)) (nI r) (Q (8 * r + k)) 0 Q s = some (l, Q) := ⟨0, by
        obtain ⟨n', hn'⟩ : ∃ n', KF = n' + 1 := ⟨6999, rfl⟩
        rw [hn', pX6_place_L66, if_neg (by decide), if_pos (by rw [z])]⟩
      rw [hl, kb_s]
      refine ih (r + 1) n Q (by omega) (by omega) (fun r' c' hc' => ?_)
      rw [h _ _ hc']
      by_cases y : r' < r ∧ r' ≠ k ∧ c' < 7
      · rw [if_pos y, if_pos (by omega)]
      · rw [if_neg y, if_neg (by omega)]
    · have q1 : Q (8 * k + k) = row (8 * k + k) := by rw [h _ _ (by omega), if_neg (by omega)]
      have q3 : ∀ c', c' < 8 → elm k s Q r c' = elm k s row r c' := fun c' hc' => by
        unfold elm
        rw [q1, q2, show Q (8 * r + c') = row (8 * r + c') by rw [h _ _ hc', if_neg (by omega)], show Q (8 * k + c') = row (8 * k + c') by rw [h _ _ hc', if_neg (by omega)]]
      obtain ⟨Q1, a1, a2⟩ := mreduce_loop (show r < 6 by omega) (show k < 6 by omega) z hs Q 7 0 KF Q (by omega) (by unfold KF; omega) (fun r' c' _ => by rw [if_neg (by omega)])
      rw [← q1, show pX6_place_L66 KF (nI k) (Q (8 * k + k)) (nI r) (Q (8 * r + k)) 0 Q s = _ from a1, kb_s, q1]
      simp only []
      refine ih (r + 1) n Q1 (by omega) (by omega) (fun r' c' hc' => ?_)
      rw [a2 _ _ hc']
      by_cases y : r' = r ∧ c' < 7
      · rw [if_pos y, if_pos (by omega), q3 _ hc', y.1]
      · rw [if_neg y, h _ _ hc']
        by_cases x : r' < r ∧ r' ≠ k ∧ c' < 7
        · rw [if_pos x, if_pos (by omega)]
        · rw [if_neg x, if_neg (by omega)]
theorem l_ne0 {x : Int64} (h : 0 < x.toInt) : x ≠ 0 := fun e => by rw [e, lg0] at h; omega
theorem solve_loop {u : Nat} (hu : u ≤ 5) {now : Nat → Int32} (h0 : now 0 = nI (u + 1)) (a : Nat → Nat → Int) : ∀ (m k n n' : Nat) (s : Int64) (R : Nat → Nat → Int64) (row : Nat → Int64), k + m = u → m < n → m < n' → RM u R row → JR u k s a R → ∃ R' row' s', pX3_solve_L95 n (nI k) R (nI u) s = some (nI u, R', s') ∧ pX6_place_L11 n' (nI k) now row s = some (nI u, row', s') ∧ RM u R' row' ∧ JR u u s' a R' := by
  intro m
  induction m with
  | zero =>
    intro k n n' s R row hk hn hn' hRM hJ
    obtain ⟨n, rfl⟩ : ∃ k, n = k + 1 := ⟨n - 1, by omega⟩
    obtain ⟨n', rfl⟩ : ∃ k, n' = k + 1 := ⟨n' - 1, by omega⟩
    have hk : k = u := hk
    subst hk
    exact ⟨R, row, s, by rw [pX3_solve_L95, if_pos (nI_le (Nat.le_refl _) (by omega))], by rw [pX6_place_L11, show kin 0 50 = true from rfl, kgd_tt, show now (0 : Int32).toNatClampNeg = _ from h0, nI_pred, if_pos (nI_le (Nat.le_refl _) (by omega))], hRM, hJ⟩
  | succ m ih =>
    intro k n n' s R row hk hn hn' hRM hJ
    obtain ⟨n, rfl⟩ : ∃ k, n = k + 1 := ⟨n - 1, by omega⟩
    obtain ⟨n', rfl⟩ : ∃ k, n' = k + 1 := ⟨n' - 1, by omega⟩
    have hku : k < u := by omega
    have hp := l_ne0 (hJ.pivot hku)
    have hs := l_ne0 hJ.1.1
    obtain ⟨R1, a1, a2⟩ := elim_loop hu hku hs R u 0 KF R (by omega) (by unfold KF; omega) (fun r' c' => by rw [if_neg (by omega)])
    obtain ⟨row1, b1, b2⟩ := melim_loop hu hku hs h0 row u 0 KF row (by omega) (by unfold KF; omega) (fun r' c' _ => by rw [if_neg (by omega)])
    have hkk := (hRM k hku).1 k hku
    have hJ1 := hJ.step hku hu (R' := R1) (fun r c r1 r2 c1 => by rw [a2, if_pos ⟨r1, r2, c1⟩]) (fun c c1 => by rw [a2, if_neg (by omega)])
    have hRM1 : RM u R1 row1 := fun r hr => by
      obtain ⟨c1, c2, c3⟩ := hRM r hr
      obtain ⟨d1, d2, d3⟩ := hRM k hku
      by_cases z : r = k
      · subst z
        refine ⟨fun c hc => ?_, ?_, ?_⟩
        · rw [a2, if_neg (by omega), b2 _ _ (by omega), if_neg (by omega)]; exact c1 c hc
        · rw [a2, if_neg (by omega), b2 _ _ (by omega), if_neg (by omega)]; exact c2
        · rw [a2, if_neg (by omega), b2 _ _ (by omega), if_neg (by omega)]; exact c3
      · refine ⟨fun c hc => ?_, ?_, ?_⟩
        · rw [a2, if_pos (by omega), b2 _ _ (by omega), if_pos (by omega)]
          unfold el elm
          rw [c1 c hc, c1 k hku, d1 c hc, d1 k hku]
        · rw [a2, if_pos (by omega), b2 _ _ (by omega), if_pos (by omega)]
          unfold el elm
          rw [c2, c1 k hku, d2, d1 k hku]
        · rw [a2, if_pos (by omega), b2 _ _ (by omega), if_pos (by omega)]
          unfold el elm
          rw [c3, c1 k hku, d3, d1 k hku]
    obtain ⟨R2, row2, s2, e1, e2, e3, e4⟩ := ih (k + 1) n n' (R k k) R1 row1 (by omega) (by omega) (by omega) hRM1 hJ1
    refine ⟨R2, row2, s2, ?_, ?_, e3, e4⟩
    · rw [pX3_solve_L95, if_neg (nI_ge (by omega) (by omega))]
      unfold pX3_eliminate
      rw [kin_nI (show k < 5 by omega) (by omega), kin_nI (show k < 7 by omega) (by omega), c_nI (n := k) (by omega), Nat.zero_add, decide_eq_true (show k < 5 by omega), if_neg (fun e => hp ((cmp_eq _).mp e)), if_neg (fun e => hs ((cmp_eq _).mp e))]
      simp only [kgd_tt]
      rw [show pX3_eliminate_L28 KF (nI k) (R k k) 0 R (nI u) s = _ from a1, kb_s, kb_s, nI_1]
      exact e1
    · rw [pX6_place_L11, show kin 0 50 = true from rfl, kgd_tt, show now (0 : Int32).toNatClampNeg = _ from h0, nI_pred, if_neg (nI_ge (by omega) (by omega)), cell_s, kb_s, kin_nI (show 8 * k + k < 56 by omega) (by omega), kgd_tt, c_nI (n := 8 * k + k) (by omega), show pX6_place_L37 KF (nI k) (row (8 * k + k)) 0 now row s = _ from b1, kb_s, nI_1, ← hkk]
      exact e2
