/-! one step of the elimination keeps what makes the next pivot positive -/
def sm (f : Nat → Int) : Nat → Nat → Int
  | _, 0 => 0
  | k, n + 1 => f k + sm f (k + 1) n
theorem sm_s (f : Nat → Int) (k n : Nat) : sm f k (n + 1) = f k + sm f (k + 1) n := rfl
theorem sm_lin (p q : Int) (f g : Nat → Int) : ∀ (n k : Nat), sm (fun c => p * f c - q * g c) k n = p * sm f k n - q * sm g k n := by
  intro n
  induction n with
  | zero => intro k; show (0 : Int) = p * 0 - q * 0; rw [Int.mul_zero, Int.mul_zero]; rfl
  | succ n ih => intro k; rw [sm_s, sm_s, sm_s, ih, Int.mul_add, Int.mul_add]; omega
theorem sm_mul (s : Int) (f : Nat → Int) : ∀ (n k : Nat), s * sm f k n = sm (fun c => s * f c) k n := by
  intro n
  induction n with
  | zero => intro k; exact Int.mul_zero s
  | succ n ih => intro k; rw [sm_s, sm_s, Int.mul_add, ih]
theorem sm_congr {f g : Nat → Int} : ∀ (n k : Nat), (∀ i, k ≤ i → i < k + n → f i = g i) → sm f k n = sm g k n := by
  intro n
  induction n with
  | zero => intro k _; rfl
  | succ n ih => intro k h; rw [sm_s, sm_s, h k (by omega) (by omega), ih (k + 1) (fun i h1 h2 => h i (by omega) (by omega))]
theorem sm_np {f : Nat → Int} : ∀ (n k : Nat), (∀ i, k ≤ i → i < k + n → f i ≤ 0) → sm f k n ≤ 0 ∧ ∀ c, k ≤ c → c < k + n → sm f k n ≤ f c := by
  intro n
  induction n with
  | zero => intro k _; exact ⟨Int.le_refl _, fun c h1 h2 => by omega⟩
  | succ n ih =>
    intro k h
    obtain ⟨a, b⟩ := ih (k + 1) (fun i h1 h2 => h i (by omega) (by omega))
    have hk := h k (by omega) (by omega)
    rw [sm_s]
    refine ⟨by omega, fun c h1 h2 => ?_⟩
    by_cases z : c = k
    · subst z; omega
    · have := b c (by omega) (by omega); omega
theorem sm_one {f : Nat → Int} {r : Nat} : ∀ (n k : Nat), (∀ i, k ≤ i → i < k + n → i ≠ r → f i ≤ 0) → k ≤ r → r < k + n → sm f k n ≤ f r ∧ ∀ c, k ≤ c → c < k + n → c ≠ r → sm f k n ≤ f r + f c := by
  intro n
  induction n with
  | zero => intro k _ h1 h2; omega
  | succ n ih =>
    intro k h h1 h2
    rw [sm_s]
    by_cases z : k = r
    · subst z
      obtain ⟨a, b⟩ := sm_np (f := f) n (k + 1) (fun i h1 h2 => h i (by omega) (by omega) (by omega))
      refine ⟨by omega, fun c h3 h4 h5 => ?_⟩
      have := b c (by omega) (by omega); omega
    · obtain ⟨a, b⟩ := ih (k + 1) (fun i h1 h2 => h i (by omega) (by omega)) (by omega) (by omega)
      have hk := h k (by omega) (by omega) z
      refine ⟨by omega, fun c h3 h4 h5 => ?_⟩
      by_cases y : c = k
      · subst y; omega
      · have := b c (by omega) (by omega) h5; omega
theorem z_np {a b : Int} (ha : 0 ≤ a) (hb : b ≤ 0) : a * b ≤ 0 := by
  have := Int.mul_nonneg ha (show 0 ≤ -b by omega)
  rw [Int.mul_neg] at this
  omega
theorem z_nn {a b : Int} (ha : a ≤ 0) (hb : b ≤ 0) : 0 ≤ a * b := by
  have := Int.mul_nonneg (show 0 ≤ -a by omega) (show 0 ≤ -b by omega)
  rw [Int.neg_mul_neg] at this
  exact this
theorem z_pn {a b : Int} (ha : 0 < a) (hb : b < 0) : a * b < 0 := by
  have := Int.mul_pos ha (show 0 < -b by omega)
  rw [Int.mul_neg] at this
  omega
theorem z_np2 {a b : Int} (ha : a ≤ 0) (hb : 0 ≤ b) : a * b ≤ 0 := by rw [Int.mul_comm]; exact z_np hb ha
theorem z_pn2 {a b : Int} (ha : a < 0) (hb : 0 < b) : a * b < 0 := by rw [Int.mul_comm]; exact z_pn hb ha
theorem z_ss {a b : Int} (ha : a < 0) (hb : b < 0) : 0 < a * b := by
  have := Int.mul_pos (show 0 < -a by omega) (show 0 < -b by omega)
  rw [Int.neg_mul_neg] at this
  exact this
theorem c_np {s x : Int} (hs : 0 < s) (h : s * x ≤ 0) : x ≤ 0 := by
  rcases Int.lt_or_le 0 x with p | p
  · have := Int.mul_pos hs p; omega
  · exact p
theorem c_n {s x : Int} (hs : 0 < s) (h : s * x < 0) : x < 0 := by
  rcases Int.lt_or_le x 0 with p | p
  · exact p
  · have := Int.mul_nonneg (show 0 ≤ s by omega) p; omega
theorem c_nn {s x : Int} (hs : 0 < s) (h : 0 ≤ s * x) : 0 ≤ x := by
  rcases Int.lt_or_le x 0 with p | p
  · have := z_pn hs p; omega
  · exact p
theorem c_p {s x : Int} (hs : 0 < s) (h : 0 < s * x) : 0 < x := by
  rcases Int.lt_or_le 0 x with p | p
  · exact p
  · have := z_np (show 0 ≤ s by omega) p; omega
def JJ (u k : Nat) (s : Int) (V : Nat → Nat → Int) : Prop := 0 < s ∧ (∀ r c, k ≤ r → r < u → k ≤ c → c < u → r ≠ c → V r c ≤ 0) ∧ (∀ r, k ≤ r → r < u → 0 ≤ sm (V r) k (u - k)) ∧ (∀ r, k ≤ r → r < u → V r r ≤ 12 * s) ∧ ∀ S : Nat → Prop, (∃ r, k ≤ r ∧ r < u ∧ S r) → ∃ r, k ≤ r ∧ r < u ∧ S r ∧ (0 < sm (V r) k (u - k) ∨ ∃ c, k ≤ c ∧ c < u ∧ ¬ S c ∧ V r c < 0)
theorem JJ.pivot {u k : Nat} {s : Int} {V : Nat → Nat → Int} (h : JJ u k s V) (hk : k < u) : 0 < V k k := by
  obtain ⟨h1, h2, h3, h4, h5⟩ := h
  obtain ⟨r, r1, r2, r3, r4⟩ := h5 (fun x => x = k) ⟨k, Nat.le_refl _, hk, rfl⟩
  have r3 : r = k := r3
  subst r3
  obtain ⟨a, b⟩ := sm_one (f := V r) (r := r) (u - r) r (fun i c1 c2 c3 => h2 r i (Nat.le_refl _) hk c1 (by omega) (fun e => c3 e.symm)) (Nat.le_refl _) (by omega)
  rcases r4 with r4 | ⟨c, c1, c2, c3, c4⟩
  · omega
  · have := b c c1 (by omega) c3
    have := h3 r (Nat.le_refl _) hk
    omega
theorem JJ.abs {u k : Nat} {s : Int} {V : Nat → Nat → Int} (h : JJ u k s V) {r c : Nat} (r1 : k ≤ r) (r2 : r < u) (c1 : k ≤ c) (c2 : c < u) : -(12 * s) ≤ V r c ∧ V r c ≤ 12 * s := by
  obtain ⟨h1, h2, h3, h4, h5⟩ := h
  obtain ⟨a, b⟩ := sm_one (f := V r) (r := r) (u - k) k (fun i c1 c2 c3 => h2 r i r1 r2 c1 (by omega) (fun e => c3 e.symm)) r1 (by omega)
  have q1 := h3 r r1 r2
  have q2 := h4 r r1 r2
  by_cases z : c = r
  · subst z; omega
  · have := b c c1 (by omega) z
    have := h2 r c r1 r2 c1 c2 (fun e => z e.symm)
    omega
theorem JJ.step {u k : Nat} {s : Int} {V V' : Nat → Nat → Int} (h : JJ u k s V) (hk : k < u) (hV : ∀ r c, k + 1 ≤ r → r < u → k + 1 ≤ c → c < u → s * V' r c = V k k * V r c - V r k * V k c) : JJ u (k + 1) (V k k) V' := by
  have hp := h.pivot hk
  obtain ⟨h1, h2, h3, h4, h5⟩ := h
  have hrow : ∀ r, k + 1 ≤ r → r < u → s * sm (V' r) (k + 1) (u - (k + 1)) = V k k * sm (V r) k (u - k) - V r k * sm (V k) k (u - k) := by
    intro r r1 r2
    rw [sm_mul, sm_congr (g := fun c => V k k * V r c - V r k * V k c) _ _ (fun c c1 c2 => hV r c r1 r2 c1 (by omega)), sm_lin, show u - k = (u - (k + 1)) + 1 by omega, sm_s, sm_s, Int.mul_add, Int.mul_add, Int.mul_comm (V r k) (V k k)]
    omega
  have hrk : ∀ r, k + 1 ≤ r → r < u → V r k ≤ 0 := fun r r1 r2 => h2 r k (by omega) r2 (Nat.le_refl _) hk (by omega)
  have hkc : ∀ c, k + 1 ≤ c → c < u → V k c ≤ 0 := fun c c1 c2 => h2 k c (Nat.le_refl _) hk (by omega) c2 (by omega)
  have htk := h3 k (Nat.le_refl _) hk
  have hoff : ∀ r c, k + 1 ≤ r → r < u → k + 1 ≤ c → c < u → r ≠ c → V' r c ≤ 0 ∧ (V r c < 0 → V' r c < 0) ∧ (V r k < 0 → V k c < 0 → V' r c < 0) := by
    intro r c r1 r2 c1 c2 hrc
    have e := hV r c r1 r2 c1 c2
    have a1 := z_np (show 0 ≤ V k k by omega) (h2 r c (by omega) r2 (by omega) c2 hrc)
    have a2 := z_nn (hrk r r1 r2) (hkc c c1 c2)
    refine ⟨c_np h1 (by omega), fun b => c_n h1 ?_, fun b1 b2 => c_n h1 ?_⟩
    · have := z_pn hp b; omega
    · have := z_ss b1 b2; omega
  have hrs : ∀ r, k + 1 ≤ r → r < u → 0 ≤ sm (V' r) (k + 1) (u - (k + 1)) ∧ (0 < sm (V r) k (u - k) → 0 < sm (V' r) (k + 1) (u - (k + 1))) ∧ (V r k < 0 → 0 < sm (V k) k (u - k) → 0 < sm (V' r) (k + 1) (u - (k + 1))) := by
    intro r r1 r2
    have e := hrow r r1 r2
    have a1 := Int.mul_nonneg (show 0 ≤ V k k by omega) (h3 r (by omega) r2)
    have a2 := z_np2 (hrk r r1 r2) htk
    refine ⟨c_nn h1 (by omega), fun b => c_p h1 ?_, fun b1 b2 => c_p h1 ?_⟩
    · have := Int.mul_pos hp b; omega
    · have := z_pn2 b1 b2; omega
  refine ⟨hp, fun r c r1 r2 c1 c2 hrc => (hoff r c r1 r2 c1 c2 hrc).1, fun r r1 r2 => (hrs r r1 r2).1, fun r r1 r2 => ?_, fun S ⟨r0, q1, q2, q3⟩ => ?_⟩
  · have e := hV r r r1 r2 r1 r2
    have a2 := z_nn (hrk r r1 r2) (hkc r r1 r2)
    have a3 : V k k * V r r ≤ V k k * (12 * s) := Int.mul_le_mul_of_nonneg_left (h4 r (by omega) r2) (by omega)
    refine Int.le_of_mul_le_mul_left (a := s) ?_ h1
    rw [show s * (12 * V k k) = V k k * (12 * s) by rw [Int.mul_comm (V k k), Int.mul_assoc, Int.mul_left_comm, Int.mul_comm s]]
    omega
  · obtain ⟨r, r1, r2, r3, r4⟩ := h5 (fun x => S x ∧ k + 1 ≤ x) ⟨r0, by omega, q2, q3, q1⟩
    obtain ⟨r3, r5⟩ := r3
    rcases r4 with r4 | ⟨c, c1, c2, c3, c4⟩
    · exact ⟨r, r5, r2, r3, Or.inl ((hrs r r5 r2).2.1 r4)⟩
    · by_cases ck : c = k
      · subst ck
        obtain ⟨r', s1, s2, s3, s4⟩ := h5 (fun x => (S x ∧ c + 1 ≤ x) ∨ x = c) ⟨c, Nat.le_refl _, c2, Or.inr rfl⟩
        rcases s3 with ⟨s3, s5⟩ | s3
        · rcases s4 with s4 | ⟨c', d1, d2, d3, d4⟩
          · exact ⟨r', s5, s2, s3, Or.inl ((hrs r' s5 s2).2.1 s4)⟩
          · have dc : c' ≠ c := fun e => d3 (Or.inr e)
            have dS : ¬ S c' := fun e => d3 (Or.inl ⟨e, by omega⟩)
            exact ⟨r', s5, s2, s3, Or.inr ⟨c', by omega, d2, dS, (hoff r' c' s5 s2 (by omega) d2 (fun e => dS (e ▸ s3))).2.1 d4⟩⟩
        · subst s3
          rcases s4 with s4 | ⟨c', d1, d2, d3, d4⟩
          · exact ⟨r, r5, r2, r3, Or.inl ((hrs r r5 r2).2.2 c4 s4)⟩
          · have dc : c' ≠ r' := fun e => d3 (Or.inr e)
            have dS : ¬ S c' := fun e => d3 (Or.inl ⟨e, by omega⟩)
            exact ⟨r, r5, r2, r3, Or.inr ⟨c', by omega, d2, dS, (hoff r c' r5 r2 (by omega) d2 (fun e => dS (e ▸ r3))).2.2 c4 d4⟩⟩
      · have cS : ¬ S c := fun e => c3 ⟨e, by omega⟩
        exact ⟨r, r5, r2, r3, Or.inr ⟨c, by omega, c2, cS, (hoff r c r5 r2 (by omega) c2 (fun e => cS (e ▸ r3))).2.1 c4⟩⟩
