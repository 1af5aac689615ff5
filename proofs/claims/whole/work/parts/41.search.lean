/-! coordination, distance, ring -/
theorem stepsTo_m1 (st : Nat → Int32) : pX4_stepsTo (-1) st = some (-1) := by
  unfold pX4_stepsTo
  rw [if_pos (by decide)]
theorem stepsTo_s {n : Nat} (hn : n < 6534) (st : Nat → Int32) : pX4_stepsTo (nI n) st = some (st n) := by
  unfold pX4_stepsTo
  rw [if_neg (nI_pos (by omega)), if_pos (show nI n < (6534 : Int32) from nI_lt (b := 6534) hn (by omega)), kin_nI hn (by omega), kgd_tt, c_nI (by omega)]
theorem ph_lem (v a b : Nat) (ha : a < 33) (hb : b < 33) : ((v * 33 + a) * 33 + b) / 1089 = v ∧ ((v * 33 + a) * 33 + b) / 33 % 33 = a ∧ ((v * 33 + a) * 33 + b) % 33 = b := by
  have h : ((v * 33 + a) * 33 + b) / 33 = v * 33 + a := by omega
  refine ⟨by omega, by rw [h]; omega, by omega⟩
theorem ph_s {n : Nat} (h : n < 6534) : ph n / 1089 = n % 6 ∧ ph n / 33 % 33 = n / 6 / 33 ∧ ph n % 33 = n / 6 % 33 := ph_lem _ _ _ (by omega) (by omega)
theorem leave_s {vc : Int32} {ne : Nat} {F T X Z now cn : Nat → Int32} {E : Nat → Nat → Int32} (hG : GI vc (nI ne) F T X Z) (hne : ne ≤ 12) (hM : MI now 0 vc (nI ne) F T X Z) (hE : EI cn E (nI ne) F T X Z) {d c : Nat} {wo : Int32} (hw : WO d c wo) {n0 : Nat} (hn0 : n0 < 6534) (hc0 : n0 ≠ c) (l3 l4 : Int32) {st qu stp que : Nat → Int32} {q : Nat} (hB : BR d c st qu q stp que) (hs : 0 ≤ (st n0 + 1).toInt) (hm : st n0 ≠ -1) : ∃ st' qu' q' stp' que', pX4_leave (nI n0) cn E (nI q) st qu = some (nI q', st', qu') ∧ pX6_search_L107 KF wo l3 l4 (nI (ph n0)) (nI (ph n0) / 1089) ((nI (ph n0) / 33 - nI (ph n0) / 33 / 33 * 33) - 16) ((nI (ph n0) - nI (ph n0) / 33 * 33) - 16) 0 now stp que (nI (q - d)) = some (nI (2 * ne), stp', que', nI (q' - d)) ∧ BR d c st' qu' q' stp' que' ∧ PR st st' := by
  have hp := ph_lt hn0
  obtain ⟨st', qu', q', stp', que', r1, r2, r3, r4⟩ := leave_loop hG hne hM hE hw hn0 hc0 l3 l4 (st n0 + 1) hs (2 * ne) 0 KF KF st qu stp que q (by omega) (by unfold KF; omega) (by unfold KF; omega) hB hm rfl
  refine ⟨st', qu', q', stp', que', ?_, ?_, r3, r4⟩
  · unfold pX4_leave
    rw [show decide (¬ (6 : Int32) = 0) = true by decide, show decide (¬ (33 : Int32) = 0) = true by decide, kin_nI hn0 (by omega), show nI n0 - nI n0 / 6 * 6 = nI (n0 % 6) from pk_rem (d := 6) (by omega) (by omega) (by omega), show nI n0 / 6 = nI (n0 / 6) from pk_div (d := 6) (by omega) (by omega) (by omega), show nI (n0 / 6) - nI (n0 / 6) / 33 * 33 = nI (n0 / 6 % 33) from pk_rem (d := 33) (by omega) (by omega) (by omega), show nI (n0 / 6) / 33 = nI (n0 / 6 / 33) from pk_div (d := 33) (by omega) (by omega) (by omega), kin_nI (show n0 % 6 < 6 by omega) (by omega), c_nI (n := n0 % 6) (by omega), c_nI (n := n0) (by omega), Nat.zero_add, show (0 : Int32) = nI (ecnt F T (nI (n0 % 6)) 0) from rfl, r1]
    rfl
  · rw [show nI (ph n0) - nI (ph n0) / 33 * 33 = nI (ph n0 % 33) from pk_rem (d := 33) (by omega) (by omega) (by omega), show nI (ph n0) / 33 = nI (ph n0 / 33) from pk_div (d := 33) (by omega) (by omega) (by omega), show nI (ph n0 / 33) - nI (ph n0 / 33) / 33 * 33 = nI (ph n0 / 33 % 33) from pk_rem (d := 33) (by omega) (by omega) (by omega), show nI (ph n0) / 1089 = nI (ph n0 / 1089) from pk_div (d := 1089) (by omega) (by omega) (by omega), (ph_s hn0).1, (ph_s hn0).2.1, (ph_s hn0).2.2]
    exact r2
theorem walk_loop {vc : Int32} {ne : Nat} {F T X Z now cn : Nat → Int32} {E : Nat → Nat → Int32} (hG : GI vc (nI ne) F T X Z) (hne : ne ≤ 12) (hM : MI now 0 vc (nI ne) F T X Z) (hE : EI cn E (nI ne) F T X Z) {d c : Nat} {wo : Int32} (hw : WO d c wo) (limit fi : Int32) {g : Nat} (hg : g < 6534) : ∀ (m k n n' : Nat) (st qu stp que : Nat → Int32) (q : Nat), k + m = 6534 → d ≤ k → m < n → m < n' → BR d c st qu q stp que → ∃ st' qu' q' stp' que' l', pX4_walk_L6 n limit (-1) (nI k) cn E fi (nI q) st qu = some (nI q', st', qu') ∧ pX6_search_L39 n' wo limit (nI (k - d)) now stp que (nI (q - d)) = some (l', stp', que', nI (q' - d)) ∧ BR d c st' qu' q' stp' que' ∧ PR st st' ∧ ∃ st1 qu1 q1 stp1 que1, pX4_walk_L6 n limit (nI g) (nI k) cn E fi (nI q) st qu = some (nI q1, st1, qu1) ∧ BR d c st1 qu1 q1 stp1 que1 ∧ st1 g = st' g := by
  intro m
  induction m with
  | zero =>
    intro k n n' st qu stp que q hk hd hn hn' hB
    obtain ⟨n, rfl⟩ : ∃ k, n = k + 1 := ⟨n - 1, by omega⟩
    obtain ⟨n', rfl⟩ : ∃ k, n' = k + 1 := ⟨n' - 1, by omega⟩
    have hk : k = 6534 := hk
    have hq := hB.q
    subst hk
    refine ⟨st, qu, q, stp, que, nI (6534 - d), ?_, ?_, hB, PR.rfl, st, qu, q, stp, que, ?_, hB, rfl⟩
    · rw [pX4_walk_L6, if_pos (by decide)]
    · rw [pX6_search_L39, if_pos (nI_le (by omega) (by omega))]
    · rw [pX4_walk_L6, if_pos (by decide)]
  | succ m ih =>
    intro k n n' st qu stp que q hk hd hn hn' hB
    obtain ⟨n, rfl⟩ : ∃ k, n = k + 1 := ⟨n - 1, by omega⟩
    obtain ⟨n', rfl⟩ : ∃ k, n' = k + 1 := ⟨n' - 1, by omega⟩
    have hq := hB.q
    have hk1 : ¬ (6534 : Int32) ≤ nI k := nI_ge (a := k) (b := 6534) (by omega) (by omega)
    by_cases hkq : q ≤ k
    · refine ⟨st, qu, q, stp, que, nI (k - d), ?_, ?_, hB, PR.rfl, st, qu, q, stp, que, ?_, hB, rfl⟩
      · rw [pX4_walk_L6, if_neg hk1, if_pos (nI_le hkq (by omega))]
      · rw [pX6_search_L39, if_pos (nI_le (by omega) (by omega))]
      · rw [pX4_walk_L6, if_neg hk1, if_pos (nI_le hkq (by omega))]
    · obtain ⟨n0, hn0, e1, e2, e3⟩ := hB.2.1 k (by omega)
      obtain ⟨e3, e4⟩ := e3 hd
      have hp := ph_lt hn0
      have e5 := hB.2.2.1 n0 hn0 e4
      have c1 : ∀ gg, pX4_walk_L6 (n + 1) limit gg (nI k) cn E fi (nI q) st qu = (if limit ≤ st n0 then some (nI q, st, qu) else kb (pX4_stepsTo gg st) (fun v6 => (if v6 = ((-1) : Int32) then kb (pX4_leave (nI n0) cn E (nI q) st qu) (fun v9 => pX4_walk_L6 n limit gg (nI (k + 1)) cn E fi v9.1 v9.2.1 v9.2.2) else some (nI q, st, qu)))) := by
        intro gg
        rw [pX4_walk_L6, if_neg hk1, if_neg (nI_ge (by omega) (by omega)), kin_nI (by omega) (by omega), kgd_tt, c_nI (by omega), e1, kin_nI hn0 (by omega), kgd_tt, c_nI (by omega), nI_1]
      have c2 : pX6_search_L39 (n' + 1) wo limit (nI (k - d)) now stp que (nI (q - d)) = (if limit ≤ st n0 then some (nI (k - d), stp, que, nI (q - d)) else kb (pX6_search_L107 KF wo limit (nI (k - d)) (nI (ph n0)) (nI (ph n0) / 1089) ((nI (ph n0) / 33 - nI (ph n0) / 33 / 33 * 33) - 16) ((nI (ph n0) - nI (ph n0) / 33 * 33) - 16) 0 now stp que (nI (q - d))) (fun v49 => pX6_search_L39 n' wo limit (nI (k + 1 - d)) now v49.2.1 v49.2.2.1 v49.2.2.2)) := by
        rw [pX6_search_L39, if_neg (nI_ge (by omega) (by omega)), kin_nI (show k - d < 6534 by omega) (by omega), kgd_tt, c_nI (n := k - d) (by omega), e3, kin_nI hp (by omega), kgd_tt, c_nI (n := ph n0) (by omega), e5, nI_1, show k - d + 1 = k + 1 - d by omega, show decide (¬ (1089 : Int32) = 0) = true by decide, show decide (¬ (33 : Int32) = 0) = true by decide]
        simp only [kgd_tt]
      by_cases hl : limit ≤ st n0
      · refine ⟨st, qu, q, stp, que, nI (k - d), by rw [c1, if_pos hl], by rw [c2, if_pos hl], hB, PR.rfl, st, qu, q, stp, que, by rw [c1, if_pos hl], hB, rfl⟩
      · have hl' := hl
        rw [Int32.le_iff_toInt_le] at hl'
        have hb := limit.toInt_lt
        have hs : (st n0 + 1).toInt = (st n0).toInt + 1 := by rw [i_add] <;> rw [show (1 : Int32).toInt = 1 from rfl] <;> omega
        have hm0 : st n0 ≠ -1 := fun e => by rw [e, i32_m1] at e2; omega
        obtain ⟨st', qu', q', stp', que', r1, r2, r3, r4⟩ := leave_s hG hne hM hE hw hn0 e4 limit (nI (k - d)) hB (by omega) hm0
        obtain ⟨st2, qu2, q2, stp2, que2, l2, s1, s2, s3, s4, st3, qu3, q3, stp3, que3, s5, s6, s7⟩ := ih (k + 1) n n' st' qu' stp' que' q' (by omega) (by omega) (by omega) (by omega) r3
        have w1 : pX4_walk_L6 (n + 1) limit (-1) (nI k) cn E fi (nI q) st qu = some (nI q2, st2, qu2) := by rw [c1, if_neg hl, stepsTo_m1, kb_s, if_pos rfl, r1, kb_s]; exact s1
        have w2 : pX6_search_L39 (n' + 1) wo limit (nI (k - d)) now stp que (nI (q - d)) = some (l2, stp2, que2, nI (q2 - d)) := by rw [c2, if_neg hl, r2, kb_s]; exact s2
        by_cases hgm : st g = -1
        · exact ⟨st2, qu2, q2, stp2, que2, l2, w1, w2, s3, r4.trans s4, st3, qu3, q3, stp3, que3, by rw [c1, if_neg hl, stepsTo_s hg, kb_s, if_pos hgm, r1, kb_s]; exact s5, s6, s7⟩
        · exact ⟨st2, qu2, q2, stp2, que2, l2, w1, w2, s3, r4.trans s4, st, qu, q, stp, que, by rw [c1, if_neg hl, stepsTo_s hg, kb_s, if_neg hgm], hB, ((r4.trans s4) g hg hgm).symm⟩
theorem forget_loop {q : Nat} (hq : q ≤ 6534) (qu : Nat → Int32) (hqu : ∀ k, k < q → 0 ≤ (qu k).toInt ∧ (qu k).toInt < 6534) : ∀ (m k n : Nat) (st : Nat → Int32), k + m = q → m < n → (∀ i, i < 6534 → (∀ j, j < q → qu j ≠ nI i) → st i = -1) → (∀ i, i < 6534 → (∃ j, j < k ∧ qu j = nI i) → st i = -1) → ∃ st', pX4_forget_L2 n (nI k) (nI q) st qu = some (nI q, st') ∧ ∀ i, i < 6534 → st' i = -1 := by
  intro m
  induction m with
  | zero =>
    intro k n st hk hn a b
    obtain ⟨n, rfl⟩ : ∃ k, n = k + 1 := ⟨n - 1, by omega⟩
    have hk : k = q := hk
    subst hk
    refine ⟨st, by rw [pX4_forget_L2, if_pos (nI_le (Nat.le_refl _) (by omega))], fun i hi => ?_⟩
    by_cases z : ∃ j, j < k ∧ qu j = nI i
    · exact b i hi z
    · exact a i hi (fun j hj e => z ⟨j, hj, e⟩)
  | succ m ih =>
    intro k n st hk hn a b
    obtain ⟨n, rfl⟩ : ∃ k, n = k + 1 := ⟨n - 1, by omega⟩
    obtain ⟨c1, c2⟩ := hqu k (by omega)
    rw [pX4_forget_L2, if_neg (nI_ge (by omega) (by omega)), kin_nI (by omega) (by omega), kgd_tt, c_nI (by omega), kin_of c1 c2, kgd_tt, nI_1]
    obtain ⟨l, hl⟩ : ∃ l, l = (qu k).toNatClampNeg := ⟨_, rfl⟩
    have hl2 : qu k = nI l := by rw [hl]; exact i_nat c1
    rw [← hl]
    refine ih (k + 1) n _ (by omega) (by omega) (fun i hi h => ?_) (fun i hi h => ?_)
    · by_cases z : i = l
      · subst z; exact upd_eq2
      · rw [upd_ne2 z]; exact a i hi h
    · by_cases z : i = l
      · subst z; exact upd_eq2
      · rw [upd_ne2 z]
        obtain ⟨j, j1, j2⟩ := h
        refine b i hi ⟨j, ?_, j2⟩
        by_cases y : j = k
        · subst y
          have : l < 6534 := by
            have : l = (qu j).toInt.toNat := hl
            omega
          exact absurd (nI_inj (by omega) (by omega) (hl2.symm.trans j2)).symm z
        · omega
theorem forget_s {ta : Int32} {st qu : Nat → Int32} (fi : Int32) (h : SI ta st qu) : ∃ st', pX4_forget fi ta st qu = some (0, 0, st') ∧ ∀ i, i < 6534 → st' i = -1 := by
  obtain ⟨q, rfl, h1, h2, h3⟩ := h
  obtain ⟨st', a, b⟩ := forget_loop h1 qu h2 q 0 KF st (by omega) (by unfold KF; omega) h3 (fun i hi ⟨j, h, _⟩ => absurd h (Nat.not_lt_zero _))
  exact ⟨st', by unfold pX4_forget; rw [show pX4_forget_L2 KF 0 (nI q) st qu = _ from a, kb_s], b⟩
theorem fill_loop (l1 l2 l3 : Int32) : ∀ (m k n : Nat) (st : Nat → Int32), k + m = 6534 → m < n → (∀ i, i < k → st i = -1) → ∃ st', pX6_search_L3 n l1 l2 l3 (nI k) st = some (6534, st') ∧ ∀ i, i < 6534 → st' i = -1 := by
  intro m
  induction m with
  | zero =>
    intro k n st hk hn a
    obtain ⟨n, rfl⟩ : ∃ k, n = k + 1 := ⟨n - 1, by omega⟩
    have hk : k = 6534 := hk
    subst hk
    exact ⟨st, by rw [pX6_search_L3, if_pos (by decide)]; rfl, a⟩
  | succ m ih =>
    intro k n st hk hn a
    obtain ⟨n, rfl⟩ : ∃ k, n = k + 1 := ⟨n - 1, by omega⟩
    rw [pX6_search_L3, if_neg (show ¬ (6534 : Int32) ≤ nI k from nI_ge (a := k) (b := 6534) (by omega) (by omega)), kin_nI (by omega) (by omega), kgd_tt, c_nI (by omega), nI_1]
    refine ih (k + 1) n _ (by omega) (by omega) (fun i hi => ?_)
    by_cases z : i = k
    · subst z; exact upd_eq2
    · rw [upd_ne2 z]; exact a i (by omega)
theorem BR.SI {d c q : Nat} {st qu stp que : Nat → Int32} (h : BR d c st qu q stp que) : SI (nI q) st qu := by
  have hq := h.q
  obtain ⟨b1, b2, b3, b4, b5, b6⟩ := h
  refine ⟨q, rfl, hq, fun k hk => ?_, fun n hn h => ?_⟩
  · obtain ⟨n, n1, n2, -⟩ := b2 k hk
    rw [n2, nI_toInt (by omega)]
    omega
  · by_cases z : st n = -1
    · exact z
    · obtain ⟨k, k1, k2⟩ := b4 n hn z
      exact absurd k2 (h k k1)
theorem BR.z {st qu stp que : Nat → Int32} (h1 : ∀ i, i < 6534 → st i = -1) (h2 : ∀ i, i < 6534 → stp i = -1) : BR 0 6534 st qu 0 stp que := ⟨by omega, fun k hk => absurd hk (Nat.not_lt_zero _), fun n hn _ => by rw [h1 n hn, h2 _ (ph_lt hn)], fun n hn h => absurd (h1 n hn) h, mc_0 _ h1, fun h => absurd h (by omega)⟩
theorem BR.one {st qu stp que : Nat → Int32} {c : Nat} (hc : c < 6534) (h1 : ∀ i, i < 6534 → st i = -1) (h2 : ∀ i, i < 6534 → stp i = -1) : BR 1 c (upd st c 0) (upd qu 0 (nI c)) 1 stp que := ⟨by omega, fun k hk => ⟨c, hc, by rw [show k = 0 by omega, upd_eq2], by rw [upd_eq2, i32_0]; omega, fun h => by omega⟩, fun n hn h => by rw [upd_ne2 h, h1 n hn, h2 _ (ph_lt hn)], fun n hn h => by
    by_cases z : n = c
    · subst z; exact ⟨0, by omega, upd_eq2⟩
    · rw [upd_ne2 z] at h; exact absurd (h1 n hn) h, by rw [mc_in (h1 c hc) (by decide) _ hc, mc_0 _ h1], fun _ => by rw [upd_eq2]; decide⟩
def cen (v : Nat) : Nat := (16 * 33 + 16) * 6 + v
theorem cen_s {v : Nat} (hv : v < 6) : cen v < 6534 ∧ pX4_nodeAt (nI v) 0 0 = some (nI (cen v)) ∧ pX6_node (nI v) 0 0 = some (nI (ph (cen v))) := by
  have h : cen v < 6534 := by unfold cen; omega
  have := nodeAt_in h
  rw [show cen v % 6 = v by unfold cen; omega, show cen v / 6 / 33 = 16 by unfold cen; omega, show cen v / 6 % 33 = 16 by unfold cen; omega, show nI 16 - 16 = 0 by decide] at this
  exact ⟨h, this⟩
theorem around_s {vc : Int32} {ne : Nat} {F T X Z now cn : Nat → Int32} {E : Nat → Nat → Int32} (hG : GI vc (nI ne) F T X Z) (hne : ne ≤ 12) (hM : MI now 0 vc (nI ne) F T X Z) (hE : EI cn E (nI ne) F T X Z) {ta fi : Int32} {st qu : Nat → Int32} (hS : SI ta st qu) (stp que : Nat → Int32) (qd limit : Int32) {v : Nat} (hv : v < 6) {g : Nat} (hg : g < 6534) : ∃ st' qu' q' stp' que', pX5_walkAround (nI v) limit (-1) cn E fi ta st qu = some (0, nI q', st', qu') ∧ pX6_search (nI (ph (cen v))) (-1) limit now stp que qd = some (stp', que', nI q') ∧ BR 0 6534 st' qu' q' stp' que' ∧ ∃ st1 qu1 q1, pX5_walkAround (nI v) limit (nI g) cn E fi ta st qu = some (0, nI q1, st1, qu1) ∧ SI (nI q1) st1 qu1 ∧ st1 g = st' g := by
  obtain ⟨s0, a1, a2⟩ := forget_s fi hS
  obtain ⟨c1, c2, c3⟩ := cen_s hv
  obtain ⟨t0, b1, b2⟩ := fill_loop (nI (ph (cen v))) (-1) limit 6534 0 KF stp (by omega) (by unfold KF; omega) (fun i h => absurd h (Nat.not_lt_zero _))
  have hw : WO 0 6534 (-1) := Or.inl ⟨rfl, rfl, rfl⟩
  obtain ⟨st', qu', q', stp', que', r1, r2, r3, r4⟩ := (BR.z (qu := qu) (que := que) a2 b2).mark hw (s := 0) (by rw [i32_0]; omega) c1
  have hph := ph_lt c1
  rw [if_neg (nI_m1 (by omega))] at r2
  obtain ⟨st2, qu2, q2, stp2, que2, l', s1, s2, s3, s4, st3, qu3, q3, stp3, que3, s5, s6, s7⟩ := walk_loop hG hne hM hE hw limit 0 hg 6534 0 KF KF st' qu' stp' que' q' (by omega) (by omega) (by unfold KF; omega) (by unfold KF; omega) r3
  refine ⟨st2, qu2, q2, stp2, que2, ?_, ?_, s3, st3, qu3, q3, ?_, s6.SI, s7⟩
  · unfold pX5_walkAround pX4_walk
    rw [a1, kb_s, c2, kb_s]
    simp only []
    rw [show pX4_mark (nI (cen v)) 0 0 s0 qu = _ from r1, kb_s]
    simp only []
    rw [show pX4_walk_L6 KF limit (-1) 0 cn E 0 (nI q') st' qu' = _ from s1, kb_s]
  · unfold pX6_search
    rw [show pX6_search_L3 KF (nI (ph (cen v))) (-1) limit 0 stp = _ from b1, kb_s]
    simp only []
    rw [show pX6_reach (nI (ph (cen v))) 0 t0 que 0 = _ from r2, kb_s]
    simp only []
    rw [show pX6_search_L39 KF (-1) limit 0 now stp' que' (nI (q' - 0)) = _ from s2, kb_s]
    rfl
  · unfold pX5_walkAround pX4_walk
    rw [a1, kb_s, c2, kb_s]
    simp only []
    rw [show pX4_mark (nI (cen v)) 0 0 s0 qu = _ from r1, kb_s]
    simp only []
    rw [show pX4_walk_L6 KF limit (nI g) 0 cn E 0 (nI q') st' qu' = _ from s5, kb_s]
theorem count_loop {q : Nat} {st qu stp que : Nat → Int32} (hB : BR 0 6534 st qu q stp que) (s : Int32) : ∀ (m k n n' : Nat) (r : Int32), k + m = q → m < n → m < n' → ∃ r', pX4_nodesAfter_L7 n s r (nI k) (nI q) st qu = some (r', nI q) ∧ pX6_countAt_L4 n' s r (nI k) stp que (nI q) = some (r', nI q) := by
  have hq := hB.q
  intro m
  induction m with
  | zero =>
    intro k n n' r hk hn hn'
    obtain ⟨n, rfl⟩ : ∃ k, n = k + 1 := ⟨n - 1, by omega⟩
    obtain ⟨n', rfl⟩ : ∃ k, n' = k + 1 := ⟨n' - 1, by omega⟩
    have hk : k = q := hk
    subst hk
    exact ⟨r, by rw [pX4_nodesAfter_L7, if_pos (nI_le (Nat.le_refl _) (by omega))], by rw [pX6_countAt_L4, if_pos (nI_le (Nat.le_refl _) (by omega))]⟩
  | succ m ih =>
    intro k n n' r hk hn hn'
    obtain ⟨n, rfl⟩ : ∃ k, n = k + 1 := ⟨n - 1, by omega⟩
    obtain ⟨n', rfl⟩ : ∃ k, n' = k + 1 := ⟨n' - 1, by omega⟩
    obtain ⟨n0, hn0, e1, e2, e3⟩ := hB.2.1 k (by omega)
    obtain ⟨e3, e4⟩ := e3 (by omega)
    have hp := ph_lt hn0
    have e5 := hB.2.2.1 n0 hn0 e4
    rw [Nat.sub_zero] at e3
    rw [pX4_nodesAfter_L7, if_neg (nI_ge (by omega) (by omega)), kin_nI (by omega) (by omega), kgd_tt, c_nI (n := k) (by omega), e1, kin_nI hn0 (by omega), kgd_tt, c_nI (n := n0) (by omega), pX6_countAt_L4, if_neg (nI_ge (by omega) (by omega)), kin_nI (k := k) (by omega) (by omega), kgd_tt, c_nI (n := k) (by omega), e3, kin_nI hp (by omega), kgd_tt, c_nI (n := ph n0) (by omega), e5, nI_1]
    by_cases z : st n0 = s
    · rw [if_pos z, if_pos z, kb_s, kb_s]
      exact ih (k + 1) n n' (r + 1) (by omega) (by omega) (by omega)
    · rw [if_neg z, if_neg z, kb_s, kb_s, Int32.add_zero]
      exact ih (k + 1) n n' r (by omega) (by omega) (by omega)
theorem count_s {q : Nat} {st qu stp que : Nat → Int32} (hB : BR 0 6534 st qu q stp que) (s : Int32) : ∃ r, pX4_nodesAfter s 0 (nI q) st qu = some r ∧ pX6_countAt s stp que (nI q) = some r := by
  have hq := hB.q
  obtain ⟨r, h1, h2⟩ := count_loop hB s q 0 KF KF 0 (by omega) (by unfold KF; omega) (by unfold KF; omega)
  exact ⟨r, by unfold pX4_nodesAfter; rw [show pX4_nodesAfter_L7 KF s 0 0 (nI q) st qu = _ from h1, kb_s], by unfold pX6_countAt; rw [show pX6_countAt_L4 KF s 0 0 stp que (nI q) = _ from h2, kb_s]⟩
theorem sim_coordination (a1 : Int32) (a2 : Int32) (t_scn : Int32) (r_er : Nat → Int32) (g_vc : Int32) (g_ec : Int32) (g_F : Nat → Int32) (g_T : Nat → Int32) (g_X : Nat → Int32) (g_Z : Nat → Int32) (v_pi : Nat → Nat) (v_vc : Nat → Int32) (v_ec : Nat → Int32) (v_F : Nat → Nat → Int32) (v_T : Nat → Nat → Int32) (v_X : Nat → Nat → Int32) (v_Z : Nat → Nat → Int32) (e_cn : Nat → Int32) (e_M : Nat → Nat → Int32) (s_fi : Int32) (s_ta : Int32) (s_st : Nat → Int32) (s_qu : Nat → Int32) (m_now : Nat → Int32) (m_sav : Nat → Int32) (m_sc : Int32) (m_err : Nat → Int32) (m_stp : Nat → Int32) (m_que : Nat → Int32) (m_qd : Int32) (h : Rel t_scn r_er g_vc g_ec g_F g_T g_X g_Z v_pi v_vc v_ec v_F v_T v_X v_Z e_cn e_M s_fi s_ta s_st s_qu m_now m_sav m_sc m_err) : ∃ (o : Int32 × (Nat → Int32) × Int32 × Int32 × (Nat → Int32) × (Nat → Int32)) (o' : Int32 × (Nat → Int32) × (Nat → Int32) × (Nat → Int32) × Int32), pX5_coordination a1 a2 e_cn e_M r_er g_vc s_fi s_ta s_st s_qu = some o ∧ pX6_coordination a1 a2 m_now m_err m_stp m_que m_qd = some o' ∧ o.1 = o'.1 ∧ Rel t_scn o.2.1 g_vc g_ec g_F g_T g_X g_Z v_pi v_vc v_ec v_F v_T v_X v_Z e_cn e_M o.2.2.1 o.2.2.2.1 o.2.2.2.2.1 o.2.2.2.2.2 m_now m_sav m_sc o'.2.1 := by
  obtain ⟨hG, hM, hE, hS, hR, hV⟩ := h
  obtain ⟨ne, hne, rfl⟩ := hG.ne
  rcases D_isVertex hG hM a1 with ⟨h1, h2⟩ | ⟨k, rfl, hk, hk6, h1, h2⟩
  · refine ⟨(-2, upd r_er 0 (r_er 0 + 1), s_fi, s_ta, s_st, s_qu), (-2, upd m_err 0 (m_err 0 + 1), m_stp, m_que, m_qd), ?_, ?_, rfl, hG, hM, hE, hS, RI_up hR 0 (by omega), hV⟩
    · unfold pX5_coordination; rw [h1, kb_s, if_pos rfl, fail_2, kb_s]
    · unfold pX6_coordination; rw [h2, kb_s, if_pos rfl, error_2, kb_s]
  rcases S_in a2 0 8 with ⟨g1, g2⟩ | ⟨g1, g2, g3⟩
  · rw [i32_0, show (8 : Int32).toInt = 8 from rfl] at g2
    refine ⟨(-2, upd r_er 0 (r_er 0 + 1), s_fi, s_ta, s_st, s_qu), (-2, upd m_err 0 (m_err 0 + 1), m_stp, m_que, m_qd), ?_, ?_, rfl, hG, hM, hE, hS, RI_up hR 0 (by omega), hV⟩
    · unfold pX5_coordination; rw [h1, kb_s, if_neg (by decide)]
      by_cases b : a2 < (0 : Int32)
      · rw [if_pos b, fail_2, kb_s]
      · rw [if_neg b, if_neg, fail_2, kb_s]
        rw [Int32.lt_iff_toInt_lt, i32_0] at b
        rw [Int32.le_iff_toInt_le, show (8 : Int32).toInt = 8 from rfl]; omega
    · unfold pX6_coordination; rw [h2, kb_s, if_neg (by decide), g1, kb_s, if_pos rfl, error_2, kb_s]
  · rw [i32_0] at g2
    rw [show (8 : Int32).toInt = 8 from rfl] at g3
    obtain ⟨st', qu', q', stp', que', w1, w2, w3, -⟩ := around_s (fi := s_fi) hG hne hM hE hS m_stp m_que m_qd a2 hk6 (show 0 < 6534 by omega)
    obtain ⟨r, c1, c2⟩ := count_s w3 a2
    refine ⟨(r, r_er, 0, nI q', st', qu'), (r, m_err, stp', que', nI q'), ?_, ?_, rfl, hG, hM, hE, w3.SI, hR, hV⟩
    · unfold pX5_coordination; rw [h1, kb_s, if_neg (by decide), if_neg (show ¬ a2 < (0 : Int32) by rw [Int32.lt_iff_toInt_lt, i32_0]; omega), if_pos (show a2 ≤ (8 : Int32) by rw [Int32.le_iff_toInt_le, show (8 : Int32).toInt = 8 from rfl]; omega), w1, kb_s, c1, kb_s]
    · unfold pX6_coordination; rw [h2, kb_s, if_neg (by decide), g1, kb_s, if_neg (by decide), (cen_s hk6).2.2, kb_s, w2, kb_s, c2, kb_s]
theorem isCell_s (x : Int32) : (pX5_isCell x = some 0 ∧ pX6_in x (-8) 8 = some 0) ∨ (pX5_isCell x = some 1 ∧ pX6_in x (-8) 8 = some 1 ∧ -8 ≤ x.toInt ∧ x.toInt ≤ 8) := by
  rcases S_in x (-8) 8 with ⟨h1, h2⟩ | ⟨h1, h2, h3⟩
  · rw [show (-8 : Int32).toInt = -8 from rfl, show (8 : Int32).toInt = 8 from rfl] at h2
    refine Or.inl ⟨?_, h1⟩
    unfold pX5_isCell
    by_cases b : x < (-8 : Int32)
    · rw [if_pos b]
    · rw [if_neg b, if_pos]
      rw [Int32.lt_iff_toInt_lt, show (-8 : Int32).toInt = -8 from rfl] at b
      rw [Int32.lt_iff_toInt_lt, show (8 : Int32).toInt = 8 from rfl]; omega
  · rw [show (-8 : Int32).toInt = -8 from rfl] at h2
    rw [show (8 : Int32).toInt = 8 from rfl] at h3
    refine Or.inr ⟨?_, h1, h2, h3⟩
    unfold pX5_isCell
    rw [if_neg (by rw [Int32.lt_iff_toInt_lt, show (-8 : Int32).toInt = -8 from rfl]; omega), if_neg (by rw [Int32.lt_iff_toInt_lt, show (8 : Int32).toInt = 8 from rfl]; omega)]
theorem sim_distance (a1 : Int32) (a2 : Int32) (a3 : Int32) (a4 : Int32) (t_scn : Int32) (r_er : Nat → Int32) (g_vc : Int32) (g_ec : Int32) (g_F : Nat → Int32) (g_T : Nat → Int32) (g_X : Nat → Int32) (g_Z : Nat → Int32) (v_pi : Nat → Nat) (v_vc : Nat → Int32) (v_ec : Nat → Int32) (v_F : Nat → Nat → Int32) (v_T : Nat → Nat → Int32) (v_X : Nat → Nat → Int32) (v_Z : Nat → Nat → Int32) (e_cn : Nat → Int32) (e_M : Nat → Nat → Int32) (s_fi : Int32) (s_ta : Int32) (s_st : Nat → Int32) (s_qu : Nat → Int32) (m_now : Nat → Int32) (m_sav : Nat → Int32) (m_sc : Int32) (m_err : Nat → Int32) (m_stp : Nat → Int32) (m_que : Nat → Int32) (m_qd : Int32) (h : Rel t_scn r_er g_vc g_ec g_F g_T g_X g_Z v_pi v_vc v_ec v_F v_T v_X v_Z e_cn e_M s_fi s_ta s_st s_qu m_now m_sav m_sc m_err) : ∃ (o : Int32 × (Nat → Int32) × Int32 × Int32 × (Nat → Int32) × (Nat → Int32)) (o' : Int32 × (Nat → Int32) × (Nat → Int32) × (Nat → Int32) × Int32), pX5_distance a1 a2 a3 a4 e_cn e_M r_er g_vc s_fi s_ta s_st s_qu = some o ∧ pX6_distance a1 a2 a3 a4 m_now m_err m_stp m_que m_qd = some o' ∧ o.1 = o'.1 ∧ Rel t_scn o.2.1 g_vc g_ec g_F g_T g_X g_Z v_pi v_vc v_ec v_F v_T v_X v_Z e_cn e_M o.2.2.1 o.2.2.2.1 o.2.2.2.2.1 o.2.2.2.2.2 m_now m_sav m_sc o'.2.1 := by
  obtain ⟨hG, hM, hE, hS, hR, hV⟩ := h
  obtain ⟨ne, hne, rfl⟩ := hG.ne
  rcases D_isVertex hG hM a1 with ⟨h1, h2⟩ | ⟨k, rfl, hk, hk6, h1, h2⟩
  · refine ⟨(-2, upd r_er 0 (r_er 0 + 1), s_fi, s_ta, s_st, s_qu), (-2, upd m_err 0 (m_err 0 + 1), m_stp, m_que, m_qd), ?_, ?_, rfl, hG, hM, hE, hS, RI_up hR 0 (by omega), hV⟩
    · unfold pX5_distance; rw [h1, kb_s, if_pos rfl, fail_2, kb_s]
    · unfold pX6_distance; rw [h2, kb_s, if_pos rfl, error_2, kb_s]
  rcases D_isVertex hG hM a2 with ⟨i1, i2⟩ | ⟨l, rfl, hl, hl6, i1, i2⟩
  · refine ⟨(-2, upd r_er 0 (r_er 0 + 1), s_fi, s_ta, s_st, s_qu), (-2, upd m_err 0 (m_err 0 + 1), m_stp, m_que, m_qd), ?_, ?_, rfl, hG, hM, hE, hS, RI_up hR 0 (by omega), hV⟩
    · unfold pX5_distance; rw [h1, kb_s, if_neg (by decide), i1, kb_s, if_pos rfl, fail_2, kb_s]
    · unfold pX6_distance; rw [h2, kb_s, if_neg (by decide), i2, kb_s, if_pos rfl, error_2, kb_s]
  rcases isCell_s a3 with ⟨j1, j2⟩ | ⟨j1, j2, j3, j4⟩
  · refine ⟨(-2, upd r_er 0 (r_er 0 + 1), s_fi, s_ta, s_st, s_qu), (-2, upd m_err 0 (m_err 0 + 1), m_stp, m_que, m_qd), ?_, ?_, rfl, hG, hM, hE, hS, RI_up hR 0 (by omega), hV⟩
    · unfold pX5_distance; rw [h1, kb_s, if_neg (by decide), i1, kb_s, if_neg (by decide), j1, kb_s, if_pos rfl, fail_2, kb_s]
    · unfold pX6_distance; rw [h2, kb_s, if_neg (by decide), i2, kb_s, if_neg (by decide), j2, kb_s, if_pos rfl, error_2, kb_s]
  rcases isCell_s a4 with ⟨l1, l2⟩ | ⟨l1, l2, l3, l4⟩
  · refine ⟨(-2, upd r_er 0 (r_er 0 + 1), s_fi, s_ta, s_st, s_qu), (-2, upd m_err 0 (m_err 0 + 1), m_stp, m_que, m_qd), ?_, ?_, rfl, hG, hM, hE, hS, RI_up hR 0 (by omega), hV⟩
    · unfold pX5_distance; rw [h1, kb_s, if_neg (by decide), i1, kb_s, if_neg (by decide), j1, kb_s, if_neg (by decide), l1, kb_s, if_pos rfl, fail_2, kb_s]
    · unfold pX6_distance; rw [h2, kb_s, if_neg (by decide), i2, kb_s, if_neg (by decide), j2, kb_s, if_neg (by decide), l2, kb_s, if_pos rfl, error_2, kb_s]
  rcases nodeAt_s hl6 a3 a4 with ⟨-, n2⟩ | ⟨n, hn, hn2, hn3, hn4, -⟩
  · omega
  have hp := ph_lt hn
  obtain ⟨st', qu', q', stp', que', w1, w2, w3, st1, qu1, q1, w4, w5, w6⟩ := around_s (fi := s_fi) hG hne hM hE hS m_stp m_que m_qd 8 hk6 hn
  refine ⟨(st1 n, r_er, 0, nI q1, st1, qu1), (stp' (ph n), m_err, stp', que', nI q'), ?_, ?_, ?_, hG, hM, hE, w5, hR, hV⟩
  · unfold pX5_distance; rw [h1, kb_s, if_neg (by decide), i1, kb_s, if_neg (by decide), j1, kb_s, if_neg (by decide), l1, kb_s, if_neg (by decide), hn2, hn3, hn4, (nodeAt_in hn).1, kb_s, w4, kb_s]
    simp only []
    rw [stepsTo_s hn, kb_s]
  · unfold pX6_distance; rw [h2, kb_s, if_neg (by decide), i2, kb_s, if_neg (by decide), j2, kb_s, if_neg (by decide), l2, kb_s, if_neg (by decide), (cen_s hk6).2.2, kb_s, w2, kb_s, hn2, hn3, hn4, (nodeAt_in hn).2, kb_s, kin_nI hp (by omega), kgd_tt, c_nI (by omega)]
  · show st1 n = stp' (ph n)
    rw [w6, w3.2.2.1 n hn (by omega)]
