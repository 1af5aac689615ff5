/-! the walk of the class beside the search of the model -/
def ph (n : Nat) : Nat := ((n % 6) * 33 + n / 6 / 33) * 33 + n / 6 % 33
theorem ph_lt {n : Nat} (h : n < 6534) : ph n < 6534 := by unfold ph; omega
theorem ph_inj {n m : Nat} (hn : n < 6534) (hm : m < 6534) (h : ph n = ph m) : n = m := by unfold ph at h; omega
theorem i32_16 : (16 : Int32).toInt = 16 := rfl
theorem i32_m16 : (-16 : Int32).toInt = -16 := rfl
theorem nodeAt_in {n : Nat} (h : n < 6534) : pX4_nodeAt (nI (n % 6)) (nI (n / 6 / 33) - 16) (nI (n / 6 % 33) - 16) = some (nI n) ∧ pX6_node (nI (n % 6)) (nI (n / 6 / 33) - 16) (nI (n / 6 % 33) - 16) = some (nI (ph n)) := by
  have e1 : (nI (n / 6 / 33) - 16).toInt = ((n / 6 / 33 : Nat) : Int) - 16 := by rw [i_sub] <;> rw [nI_toInt (by omega), i32_16] <;> omega
  have e2 : (nI (n / 6 % 33) - 16).toInt = ((n / 6 % 33 : Nat) : Int) - 16 := by rw [i_sub] <;> rw [nI_toInt (by omega), i32_16] <;> omega
  refine ⟨?_, ?_⟩
  · unfold pX4_nodeAt
    rw [if_neg (by rw [Int32.lt_iff_toInt_lt, e1, i32_m16]; omega), if_neg (by rw [Int32.lt_iff_toInt_lt, e1, i32_16]; omega), if_neg (by rw [Int32.lt_iff_toInt_lt, e2, i32_m16]; omega), if_pos (by rw [Int32.le_iff_toInt_le, e2, i32_16]; omega), Int32.sub_add_cancel, Int32.add_assoc, Int32.sub_add_cancel, show (33 : Int32) = nI 33 from rfl, pk_mul, nI_add, show (6 : Int32) = nI 6 from rfl, pk_mul, nI_add]
    congr 2
    omega
  · unfold pX6_node
    rw [Int32.add_assoc (nI (n % 6) * 33), Int32.sub_add_cancel, show (33 : Int32) = nI 33 from rfl, pk_mul, nI_add, pk_mul, Int32.add_assoc, Int32.sub_add_cancel, nI_add]
    rfl
theorem nodeAt_s {w : Nat} (hw : w < 6) (a b : Int32) : (pX4_nodeAt (nI w) a b = some (-1) ∧ ¬ ((-16 ≤ a.toInt ∧ a.toInt ≤ 16) ∧ -16 ≤ b.toInt ∧ b.toInt ≤ 16)) ∨ ∃ n, n < 6534 ∧ w = n % 6 ∧ a = nI (n / 6 / 33) - 16 ∧ b = nI (n / 6 % 33) - 16 ∧ (-16 ≤ a.toInt ∧ a.toInt ≤ 16) ∧ -16 ≤ b.toInt ∧ b.toInt ≤ 16 := by
  by_cases h : (-16 ≤ a.toInt ∧ a.toInt ≤ 16) ∧ -16 ≤ b.toInt ∧ b.toInt ≤ 16
  · right
    obtain ⟨i, hi, hi2⟩ : ∃ i : Nat, i < 33 ∧ (i : Int) = a.toInt + 16 := ⟨(a.toInt + 16).toNat, by omega, by omega⟩
    obtain ⟨j, hj, hj2⟩ : ∃ j : Nat, j < 33 ∧ (j : Int) = b.toInt + 16 := ⟨(b.toInt + 16).toNat, by omega, by omega⟩
    refine ⟨(i * 33 + j) * 6 + w, by omega, by omega, ?_, ?_, h⟩
    · rw [show ((i * 33 + j) * 6 + w) / 6 / 33 = i by omega]
      apply Int32.toInt_inj.mp
      rw [i_sub] <;> rw [nI_toInt (by omega), i32_16] <;> omega
    · rw [show ((i * 33 + j) * 6 + w) / 6 % 33 = j by omega]
      apply Int32.toInt_inj.mp
      rw [i_sub] <;> rw [nI_toInt (by omega), i32_16] <;> omega
  · refine Or.inl ⟨?_, h⟩
    unfold pX4_nodeAt
    by_cases h1 : a < -16
    · rw [if_pos h1]
    · rw [if_neg h1]
      by_cases h2 : 16 < a
      · rw [if_pos h2]
      · rw [if_neg h2]
        by_cases h3 : b < -16
        · rw [if_pos h3]
        · rw [if_neg h3, if_neg]
          rw [Int32.lt_iff_toInt_lt, i32_m16] at h1 h3
          rw [Int32.lt_iff_toInt_lt, i32_16] at h2
          rw [Int32.le_iff_toInt_le, i32_16]
          omega
/-- how many of the first N nodes are marked -/
def mc (st : Nat → Int32) : Nat → Nat
  | 0 => 0
  | N + 1 => if st N = -1 then mc st N else mc st N + 1
theorem mc_le (st : Nat → Int32) : ∀ N, mc st N ≤ N
  | 0 => Nat.le_refl _
  | N + 1 => by
    have := mc_le st N
    rw [show mc st (N + 1) = if st N = -1 then mc st N else mc st N + 1 from rfl]
    split <;> omega
theorem mc_lt {st : Nat → Int32} {n : Nat} (h : st n = -1) : ∀ N, n < N → mc st N < N
  | 0 => fun h => absurd h (Nat.not_lt_zero _)
  | N + 1 => fun hN => by
    rw [show mc st (N + 1) = if st N = -1 then mc st N else mc st N + 1 from rfl]
    have := mc_le st N
    by_cases q : n = N
    · subst q; rw [if_pos h]; omega
    · have := mc_lt h N (by omega)
      split <;> omega
theorem mc_out {st : Nat → Int32} {n : Nat} {s : Int32} : ∀ N, N ≤ n → mc (upd st n s) N = mc st N
  | 0 => fun _ => rfl
  | N + 1 => fun hN => by
    rw [show mc (upd st n s) (N + 1) = if upd st n s N = -1 then mc (upd st n s) N else mc (upd st n s) N + 1 from rfl, show mc st (N + 1) = if st N = -1 then mc st N else mc st N + 1 from rfl, upd_ne2 (by omega), mc_out N (by omega)]
theorem mc_in {st : Nat → Int32} {n : Nat} {s : Int32} (h : st n = -1) (hs : s ≠ -1) : ∀ N, n < N → mc (upd st n s) N = mc st N + 1
  | 0 => fun h => absurd h (Nat.not_lt_zero _)
  | N + 1 => fun hN => by
    rw [show mc (upd st n s) (N + 1) = if upd st n s N = -1 then mc (upd st n s) N else mc (upd st n s) N + 1 from rfl, show mc st (N + 1) = if st N = -1 then mc st N else mc st N + 1 from rfl]
    by_cases q : n = N
    · subst q; rw [upd_eq2, if_neg hs, if_pos h, mc_out n (Nat.le_refl _)]
    · rw [upd_ne2 (by omega), mc_in h hs N (by omega)]
      split <;> omega
theorem mc_0 {st : Nat → Int32} : ∀ N, (∀ n, n < N → st n = -1) → mc st N = 0
  | 0 => fun _ => rfl
  | N + 1 => fun h => by
    rw [show mc st (N + 1) = if st N = -1 then mc st N else mc st N + 1 from rfl, if_pos (h N (by omega)), mc_0 N (fun n hn => h n (by omega))]
/-- the class's queue has d nodes before the model's; the node c is closed -/
def BR (d c : Nat) (st qu : Nat → Int32) (q : Nat) (stp que : Nat → Int32) : Prop :=
  d ≤ q ∧ (∀ k, k < q → ∃ n, n < 6534 ∧ qu k = nI n ∧ 0 ≤ (st n).toInt ∧ (d ≤ k → que (k - d) = nI (ph n) ∧ n ≠ c)) ∧ (∀ n, n < 6534 → n ≠ c → stp (ph n) = st n) ∧ (∀ n, n < 6534 → st n ≠ -1 → ∃ k, k < q ∧ qu k = nI n) ∧ mc st 6534 = q ∧ (c < 6534 → st c ≠ -1)
def PR (st st' : Nat → Int32) : Prop := ∀ n, n < 6534 → st n ≠ -1 → st' n = st n
theorem PR.rfl {st : Nat → Int32} : PR st st := fun _ _ _ => by rfl
theorem PR.trans {a b c : Nat → Int32} (h : PR a b) (g : PR b c) : PR a c := fun n hn hm => by
  have h1 := h n hn hm
  rw [g n hn (by rw [h1]; exact hm), h1]
def WO (d c : Nat) (wo : Int32) : Prop := (d = 0 ∧ c = 6534 ∧ wo = -1) ∨ (d = 1 ∧ c < 6534 ∧ wo = nI (ph c))
theorem BR.q {d c q : Nat} {st qu stp que : Nat → Int32} (h : BR d c st qu q stp que) : q ≤ 6534 := by
  obtain ⟨-, -, -, -, h, -⟩ := h
  rw [← h]
  exact mc_le _ _
/-- one node marked on either side -/
theorem BR.mark {d c q : Nat} {st qu stp que : Nat → Int32} (h : BR d c st qu q stp que) {wo s : Int32} (hw : WO d c wo) (hs : 0 ≤ s.toInt) {n : Nat} (hn : n < 6534) : ∃ st' qu' q' stp' que', pX4_mark (nI n) s (nI q) st qu = some (nI q', st', qu') ∧ (if nI (ph n) = wo then stp' = stp ∧ que' = que ∧ q' = q else pX6_reach (nI (ph n)) s stp que (nI (q - d)) = some (stp', que', nI (q' - d))) ∧ BR d c st' qu' q' stp' que' ∧ PR st st' := by
  obtain ⟨b1, b2, b3, b4, b5, b6⟩ := h
  have hp := ph_lt hn
  have hs1 : s ≠ -1 := fun e => by rw [e, i32_m1] at hs; omega
  have hck : pX4_mark (nI n) s (nI q) st qu = (if st n = -1 then (if (6534 : Int32) ≤ nI q then some (nI q, st, qu) else kgd (kin (nI q) 6534) (some (nI q + 1, upd st n s, upd qu (nI q).toNatClampNeg (nI n)))) else some (nI q, st, qu)) := by
    unfold pX4_mark
    rw [if_neg (nI_pos (by omega)), if_neg (show ¬ (6534 : Int32) ≤ nI n from nI_ge (a := n) (b := 6534) hn (by omega)), kin_nI hn (by omega), kgd_tt, c_nI (by omega)]
    rfl
  by_cases hc : st n = -1
  · have hq : q < 6534 := by rw [← b5]; exact mc_lt hc _ hn
    have hnc : n ≠ c := fun e => by subst e; exact b6 hn hc
    refine ⟨upd st n s, upd qu q (nI n), q + 1, upd stp (ph n) s, upd que (q - d) (nI (ph n)), ?_, ?_, ⟨by omega, fun k hk => ?_, fun m hm hmc => ?_, fun m hm hmm => ?_, ?_, fun hc2 => ?_⟩, fun m hm hmm => ?_⟩
    · rw [hck, if_pos hc, if_neg (show ¬ (6534 : Int32) ≤ nI q from nI_ge (a := q) (b := 6534) hq (by omega)), kin_nI hq (by omega), kgd_tt, c_nI (by omega), nI_1]
    · rw [if_neg]
      · unfold pX6_reach
        rw [kin_nI hp (by omega), kgd_tt, c_nI (by omega), b3 n hn hnc, if_pos hc, kgd_tt, kin_nI (by omega) (by omega), kgd_tt, c_nI (by omega), nI_1, show q - d + 1 = q + 1 - d by omega]
      · rcases hw with ⟨-, -, rfl⟩ | ⟨-, hc2, rfl⟩
        · exact nI_m1 (by omega)
        · exact fun e => hnc (ph_inj hn hc2 (nI_inj (by omega) (by have := ph_lt hc2; omega) e))
    · by_cases z : k = q
      · subst z
        exact ⟨n, hn, upd_eq2, by rw [upd_eq2]; exact hs, fun _ => ⟨upd_eq2, hnc⟩⟩
      · obtain ⟨m, m1, m2, m3, m4⟩ := b2 k (by omega)
        refine ⟨m, m1, by rw [upd_ne2 z, m2], ?_, fun hd => ⟨?_, (m4 hd).2⟩⟩
        · have : m ≠ n := fun e => by rw [e, hc, i32_m1] at m3; omega
          rw [upd_ne2 this]; exact m3
        · rw [upd_ne2 (by omega)]; exact (m4 hd).1
    · by_cases z : m = n
      · subst z; rw [upd_eq2, upd_eq2]
      · rw [upd_ne2 z, upd_ne2 (fun e => z (ph_inj hm hn e))]; exact b3 m hm hmc
    · by_cases z : m = n
      · subst z; exact ⟨q, by omega, upd_eq2⟩
      · rw [upd_ne2 z] at hmm
        obtain ⟨k, k1, k2⟩ := b4 m hm hmm
        exact ⟨k, by omega, by rw [upd_ne2 (by omega), k2]⟩
    · rw [mc_in hc hs1 _ hn, b5]
    · rw [upd_ne2 (fun e => hnc e.symm)]; exact b6 hc2
    · rw [upd_ne2 (fun e => by subst e; exact hmm hc)]
  · refine ⟨st, qu, q, stp, que, by rw [hck, if_neg hc], ?_, ⟨b1, b2, b3, b4, b5, b6⟩, PR.rfl⟩
    split
    · exact ⟨rfl, rfl, rfl⟩
    · rename_i hx
      have hnc : n ≠ c := fun e => by
        rcases hw with ⟨-, rfl, -⟩ | ⟨-, hc2, rfl⟩
        · omega
        · exact hx (by rw [e])
      unfold pX6_reach
      rw [kin_nI hp (by omega), kgd_tt, c_nI (by omega), b3 n hn hnc, if_neg hc]
theorem mark_out (s : Int32) (q : Int32) (st qu : Nat → Int32) : pX4_mark (-1) s q st qu = some (q, st, qu) := by
  unfold pX4_mark
  rw [if_pos (by decide)]
theorem GI.end {vc : Int32} {ne : Nat} {F T X Z : Nat → Int32} (hne : ne ≤ 12) (h : GI vc (nI ne) F T X Z) {j : Nat} (hj : j < 2 * ne) : (∃ w, w < 6 ∧ eV T F j = nI w) ∧ (-2 ≤ (eX X j).toInt ∧ (eX X j).toInt ≤ 2) ∧ -2 ≤ (eX Z j).toInt ∧ (eX Z j).toInt ≤ 2 := by
  obtain ⟨hF, hT⟩ := h.ends hne
  obtain ⟨nv, ne', rfl, h2, h3, h4, h5, h6, -⟩ := h
  have : ne = ne' := nI_inj (by omega) (by omega) h2
  subst this
  obtain ⟨-, -, hx, hz, -⟩ := h6 (j / 2) (by omega)
  unfold eV eX
  by_cases m : j % 2 = 0
  · rw [if_pos m, if_pos m, if_pos m]
    obtain ⟨w, w1, w2, -⟩ := hT (j / 2) (by omega)
    exact ⟨⟨w, w1, w2⟩, hx, hz⟩
  · rw [if_neg m, if_neg m, if_neg m, i_neg (by omega), i_neg (by omega)]
    obtain ⟨w, w1, w2, -⟩ := hF (j / 2) (by omega)
    exact ⟨⟨w, w1, w2⟩, by omega, by omega⟩
theorem leave_loop {vc : Int32} {ne : Nat} {F T X Z now cn : Nat → Int32} {E : Nat → Nat → Int32} (hG : GI vc (nI ne) F T X Z) (hne : ne ≤ 12) (hM : MI now 0 vc (nI ne) F T X Z) (hE : EI cn E (nI ne) F T X Z) {d c : Nat} {wo : Int32} (hw : WO d c wo) {n0 : Nat} (hn0 : n0 < 6534) (hc0 : n0 ≠ c) (l3 l4 s : Int32) (hs : 0 ≤ s.toInt) : ∀ (m J n n' : Nat) (st qu stp que : Nat → Int32) (q : Nat), J + m = 2 * ne → m < n → m < n' → BR d c st qu q stp que → st n0 ≠ -1 → st n0 + 1 = s → ∃ st' qu' q' stp' que', pX4_leave_L68 n (nI (n0 % 6)) (nI (n0 / 6 / 33) - 16) (nI (n0 / 6 % 33) - 16) s (n0 % 6) (6 + n0 % 6) (12 + n0 % 6) (nI (ecnt F T (nI (n0 % 6)) J)) cn E (nI q) st qu = some (nI (ecnt F T (nI (n0 % 6)) (2 * ne)), nI q', st', qu') ∧ pX6_search_L107 n' wo l3 l4 (nI (ph n0)) (nI (n0 % 6)) (nI (n0 / 6 / 33) - 16) (nI (n0 / 6 % 33) - 16) (nI J) now stp que (nI (q - d)) = some (nI (2 * ne), stp', que', nI (q' - d)) ∧ BR d c st' qu' q' stp' que' ∧ PR st st' := by
  obtain ⟨nv, _, rfl, -⟩ := id hG
  have h1 : now (1 : Int32).toNatClampNeg = nI ne := hM.2.1
  obtain ⟨cv, ce⟩ := hE (n0 % 6) (by omega)
  rw [c_nI (by omega)] at cv ce
  have hi : (nI (n0 / 6 / 33) - 16).toInt = ((n0 / 6 / 33 : Nat) : Int) - 16 := by rw [i_sub] <;> rw [nI_toInt (by omega), i32_16] <;> omega
  have hj : (nI (n0 / 6 % 33) - 16).toInt = ((n0 / 6 % 33 : Nat) : Int) - 16 := by rw [i_sub] <;> rw [nI_toInt (by omega), i32_16] <;> omega
  intro m
  induction m with
  | zero =>
    intro J n n' st qu stp que q hJ hn hn' hB _ _
    obtain ⟨n, rfl⟩ : ∃ k, n = k + 1 := ⟨n - 1, by omega⟩
    obtain ⟨n', rfl⟩ : ∃ k, n' = k + 1 := ⟨n' - 1, by omega⟩
    have hJ : J = 2 * ne := hJ
    subst hJ
    refine ⟨st, qu, q, stp, que, ?_, ?_, hB, PR.rfl⟩
    · rw [pX4_leave_L68, kin_nI (show n0 % 6 < 6 by omega) (by omega), kgd_tt, c_nI (by omega), cv, if_pos (nI_le (Nat.le_refl _) (by have := ecnt_le F T (nI (n0 % 6)) (2 * ne); omega))]
    · rw [pX6_search_L107, show kin 1 50 = true from rfl, kgd_tt, h1, two_mul_I, if_pos (nI_le (Nat.le_refl _) (by omega))]
  | succ m ih =>
    intro J n n' st qu stp que q hJ hn hn' hB hst hs0
    obtain ⟨n', rfl⟩ : ∃ k, n' = k + 1 := ⟨n' - 1, by omega⟩
    have hJ2 : J < 2 * ne := by omega
    rw [pX6_search_L107, show kin 1 50 = true from rfl, kgd_tt, h1, two_mul_I, if_neg (nI_ge (by omega) (by omega)), endX_s hM hne hJ2, kb_s, endY_s hM hne hJ2, kb_s, isEndOf_s hM hne hJ2, kb_s, nI_1]
    by_cases hv : eV F T J = nI (n0 % 6)
    · rw [if_pos hv, if_neg (show ¬ (1 : Int32) = 0 by decide)]
      obtain ⟨n, rfl⟩ : ∃ k, n = k + 1 := ⟨n - 1, by omega⟩
      have hel := ecnt_lt (F := F) (T := T) hJ2 hv
      have hel2 := ecnt_le F T (nI (n0 % 6)) (2 * ne)
      have hes : ecnt F T (nI (n0 % 6)) (J + 1) = ecnt F T (nI (n0 % 6)) J + 1 := if_pos hv
      obtain ⟨c1, c2, c3⟩ := ce J hJ2 hv
      obtain ⟨⟨w, w1, w2⟩, hx, hz⟩ := hG.end hne hJ2
      have ha : (nI (n0 / 6 / 33) - 16 + eX X J).toInt = (nI (n0 / 6 / 33) - 16).toInt + (eX X J).toInt := by rw [i_add] <;> omega
      have hb : (nI (n0 / 6 % 33) - 16 + eX Z J).toInt = (nI (n0 / 6 % 33) - 16).toInt + (eX Z J).toInt := by rw [i_add] <;> omega
      rw [pX4_leave_L68, kin_nI (show n0 % 6 < 6 by omega) (by omega), kgd_tt, c_nI (by omega), cv, if_neg (nI_ge hel (by omega)), decide_eq_true (show n0 % 6 < 18 by omega), decide_eq_true (show 6 + n0 % 6 < 18 by omega), decide_eq_true (show 12 + n0 % 6 < 18 by omega), kin_nI (show ecnt F T (nI (n0 % 6)) J < 24 by omega) (by omega), c_nI (by omega), c1, c2, c3, nI_1, ← hes, w2]
      simp only [kgd_tt]
      rcases nodeAt_s w1 (nI (n0 / 6 / 33) - 16 + eX X J) (nI (n0 / 6 % 33) - 16 + eX Z J) with ⟨p1, p2⟩ | ⟨n2, p1, p2, p3, p4, p5⟩
      · have hin : kb (pX6_in (nI (n0 / 6 / 33) - 16 + eX X J) (-16) 16) (fun v25 => (if v25 = 0 then some 0 else kb (pX6_in (nI (n0 / 6 % 33) - 16 + eX Z J) (-16) 16) (fun v28 => (if v28 = 0 then some 0 else some 1)))) = some (0 : Int32) := by
          rcases S_in (nI (n0 / 6 / 33) - 16 + eX X J) (-16) 16 with ⟨g1, g2⟩ | ⟨g1, g2⟩ <;> rw [i32_m16, i32_16] at g2
          · rw [g1, kb_s, if_pos rfl]
          · rw [g1, kb_s, if_neg (by decide)]
            rcases S_in (nI (n0 / 6 % 33) - 16 + eX Z J) (-16) 16 with ⟨f1, f2⟩ | ⟨f1, f2⟩ <;> rw [i32_m16, i32_16] at f2
            · rw [f1, kb_s, if_pos rfl]
            · exact absurd ⟨g2, f2⟩ p2
        rw [p1, kb_s, mark_out, kb_s, hin, kb_s, if_pos rfl, kb_s, if_pos rfl, kb_s]
        exact ih (J + 1) n n' st qu stp que q (by omega) (by omega) (by omega) hB hst hs0
      · have hin : kb (pX6_in (nI (n0 / 6 / 33) - 16 + eX X J) (-16) 16) (fun v25 => (if v25 = 0 then some 0 else kb (pX6_in (nI (n0 / 6 % 33) - 16 + eX Z J) (-16) 16) (fun v28 => (if v28 = 0 then some 0 else some 1)))) = some (1 : Int32) := by
          rcases S_in (nI (n0 / 6 / 33) - 16 + eX X J) (-16) 16 with ⟨g1, g2⟩ | ⟨g1, g2⟩ <;> rw [i32_m16, i32_16] at g2
          · exact absurd p5.1 g2
          · rw [g1, kb_s, if_neg (by decide)]
            rcases S_in (nI (n0 / 6 % 33) - 16 + eX Z J) (-16) 16 with ⟨f1, f2⟩ | ⟨f1, f2⟩ <;> rw [i32_m16, i32_16] at f2
            · exact absurd p5.2 f2
            · rw [f1, kb_s, if_neg (by decide)]
        rw [hin, kb_s, if_neg (show ¬ (1 : Int32) = 0 by decide), leadsTo_s hM hne hJ2, kb_s, w2, p2, p3, p4, (nodeAt_in p1).2, (nodeAt_in p1).1, kb_s, kb_s, kb_s]
        obtain ⟨st', qu', q', stp', que', r1, r2, r3, r4⟩ := hB.mark hw hs p1
        have hq' := r3.q
        rw [r1, kb_s]
        have hst' := r4 n0 hn0 hst
        have key : kb ((if nI (ph n2) = wo then some (stp, que, nI (q - d)) else kgd (kin (nI (ph n0)) 6534) (kb (pX6_reach (nI (ph n2)) ((stp (nI (ph n0)).toNatClampNeg) + 1) stp que (nI (q - d))) (fun v42 => some (v42.1, v42.2.1, v42.2.2)))) : Option ((Nat → Int32) × (Nat → Int32) × Int32)) (fun v => some v) = some (stp', que', nI (q' - d)) := by
          by_cases hwo : nI (ph n2) = wo
          · rw [if_pos hwo] at r2 ⊢
            obtain ⟨rfl, rfl, rfl⟩ := r2
            rfl
          · rw [if_neg hwo] at r2 ⊢
            have hp0 := ph_lt hn0
            rw [kin_nI hp0 (by omega), kgd_tt, c_nI (by omega), hB.2.2.1 n0 hn0 hc0, hs0, r2]
            rfl
        have key2 : ∀ (o : Option ((Nat → Int32) × (Nat → Int32) × Int32)) (a : (Nat → Int32) × (Nat → Int32) × Int32), kb o (fun v => some v) = some a → o = some a := fun o a h => by cases o <;> exact h
        rw [key2 _ _ key, kb_s]
        obtain ⟨st2, qu2, q2, stp2, que2, s1, s2, s3, s4⟩ := ih (J + 1) n n' st' qu' stp' que' q' (by omega) (by omega) (by omega) r3 (by rw [hst']; exact hst) (by rw [hst']; exact hs0)
        exact ⟨st2, qu2, q2, stp2, que2, s1, s2, s3, r4.trans s4⟩
    · rw [if_neg hv, if_pos rfl, kb_s, if_pos rfl, kb_s, if_pos rfl, kb_s]
      have hes : ecnt F T (nI (n0 % 6)) (J + 1) = ecnt F T (nI (n0 % 6)) J := if_neg hv
      rw [← hes]
      exact ih (J + 1) n n' st qu stp que q (by omega) (by omega) (by omega) hB hst hs0
