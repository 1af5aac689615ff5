/-! rounds: the class stops after as many as there are vertices, the model after 6 -/
def fix (F T re : Nat → Int32) (ne : Nat) : Prop := ∀ e, e < ne → re (ix F e) = re (ix T e)
theorem mono6.trans {a b c : Nat → Int32} (h : mono6 a b) (g : mono6 b c) : mono6 a c := fun v hv h1 => g v hv (h v hv h1)
theorem round_loop {now : Nat → Int32} {nv ne : Nat} {F T X Z : Nat → Int32} (hnv : nv ≤ 6) (hG : GI (nI nv) (nI ne) F T X Z) (hM : MI now 0 (nI nv) (nI ne) F T X Z) (hne : ne ≤ 12) : ∀ (m e n n' : Nat) (b : Int) (re cx cy met qx qy : Nat → Int32), e + m = ne → m < n → 2 * m < n' → 0 ≤ b → b + 2 * m ≤ 1000 → CR b nv re cx cy met qx qy → ∃ re' cx' cy' met' qx' qy', pX0_followEdges_L2 n (nI e) (nI ne) F T X Z re cx cy = some (nI ne, re', cx', cy') ∧ (∀ l2, pX6_spread_L54 n' l2 (nI (2 * e)) now qx qy met = some (nI (2 * ne), qx', qy', met')) ∧ CR (b + 2 * m) nv re' cx' cy' met' qx' qy' ∧ mono6 re re' ∧ (∀ f, e ≤ f → f < ne → re (ix F f) = 1 ∨ re (ix T f) = 1 → re' (ix F f) = 1 ∧ re' (ix T f) = 1) ∧ (fix F T re ne → re' = re ∧ cx' = cx ∧ cy' = cy ∧ met' = met ∧ qx' = qx ∧ qy' = qy) ∧ cl F T ne re re' := by
  intro m
  induction m with
  | zero =>
    intro e n n' b re cx cy met qx qy he hn hn' hb0 hb hC
    obtain ⟨n, rfl⟩ : ∃ k, n = k + 1 := ⟨n - 1, by omega⟩
    obtain ⟨n', rfl⟩ : ∃ k, n' = k + 1 := ⟨n' - 1, by omega⟩
    have he : e = ne := he
    subst he
    refine ⟨re, cx, cy, met, qx, qy, ?_, fun l2 => ?_, hC.mono (by omega), fun _ _ h => h, fun f h1 h2 => by omega, fun _ => ⟨rfl, rfl, rfl, rfl, rfl, rfl⟩, cl.rfl⟩
    · rw [pX0_followEdges_L2, if_pos (nI_le (Nat.le_refl _) (by omega))]
    · rw [pX6_spread_L54, show kin 1 50 = true from rfl, kgd_tt, show now (1 : Int32).toNatClampNeg = nI e from hM.2.1, two_mul_I, if_pos (nI_le (Nat.le_refl _) (by omega))]
  | succ m ih =>
    intro e n n' b re cx cy met qx qy he hn hn' hb0 hb hC
    obtain ⟨n, rfl⟩ : ∃ k, n = k + 1 := ⟨n - 1, by omega⟩
    obtain ⟨n', rfl⟩ : ∃ k, n' = k + 2 := ⟨n' - 2, by omega⟩
    obtain ⟨re1, cx1, cy1, met1, qx1, qy1, a1, a2, a3, a4, a5, a6, a7⟩ := edge_s hnv hG hM hne (show e < ne by omega) hb0 (by omega) hC
    obtain ⟨re2, cx2, cy2, met2, qx2, qy2, b1, b2, b3, b4, b5, b6, b7⟩ := ih (e + 1) n n' (b + 2) re1 cx1 cy1 met1 qx1 qy1 (by omega) (by omega) (by omega) (by omega) (by omega) a3
    have hv : ∀ f, f < ne → ix F f < 6 ∧ ix T f < 6 := fun f hf => by
      obtain ⟨-, -, p, q, -⟩ := hG.vt hnv hne hf
      omega
    refine ⟨re2, cx2, cy2, met2, qx2, qy2, by rw [a1, b1], fun l2 => by rw [a2, b2], b3.mono (by omega), a4.trans b4, fun f h1 h2 h3 => ?_, fun hf => ?_, a7.trans b7⟩
    · obtain ⟨p, q⟩ := hv f h2
      by_cases z : f = e
      · subst z
        obtain ⟨c1, c2⟩ := a5 h3
        exact ⟨b4 _ p c1, b4 _ q c2⟩
      · refine b5 f (by omega) h2 ?_
        rcases h3 with h3 | h3
        · exact Or.inl (a4 _ p h3)
        · exact Or.inr (a4 _ q h3)
    · obtain ⟨c1, c2, c3, c4, c5, c6⟩ := a6 (hf e (by omega))
      subst c1 c2 c3 c4 c5 c6
      exact b6 hf
theorem round_s {now : Nat → Int32} {nv ne : Nat} {F T X Z : Nat → Int32} (hnv : nv ≤ 6) (hG : GI (nI nv) (nI ne) F T X Z) (hM : MI now 0 (nI nv) (nI ne) F T X Z) (hne : ne ≤ 12) {b : Int} {re cx cy met qx qy : Nat → Int32} (hb0 : 0 ≤ b) (hb : b ≤ 900) (hC : CR b nv re cx cy met qx qy) : ∃ re' cx' cy' met' qx' qy', pX0_followEdges (nI ne) F T X Z re cx cy = some (re', cx', cy') ∧ (∀ l2, pX6_spread_L54 KF l2 0 now qx qy met = some (nI (2 * ne), qx', qy', met')) ∧ CR (b + 24) nv re' cx' cy' met' qx' qy' ∧ mono6 re re' ∧ (∀ f, f < ne → re (ix F f) = 1 ∨ re (ix T f) = 1 → re' (ix F f) = 1 ∧ re' (ix T f) = 1) ∧ (fix F T re ne → re' = re ∧ cx' = cx ∧ cy' = cy ∧ met' = met ∧ qx' = qx ∧ qy' = qy) ∧ cl F T ne re re' := by
  obtain ⟨re', cx', cy', met', qx', qy', a1, a2, a3, a4, a5, a6⟩ := round_loop hnv hG hM hne ne 0 KF KF b re cx cy met qx qy (by omega) (by unfold KF; omega) (by unfold KF; omega) hb0 (by omega) hC
  refine ⟨re', cx', cy', met', qx', qy', ?_, a2, a3.mono (by omega), a4, fun f hf => a5 f (Nat.zero_le _) hf, a6.1, a6.2⟩
  unfold pX0_followEdges
  rw [show pX0_followEdges_L2 KF 0 (nI ne) F T X Z re cx cy = _ from a1, kb_s]
/-- how many of the first N vertices are reached -/
def rc (re : Nat → Int32) : Nat → Nat
  | 0 => 0
  | N + 1 => if re N = 1 then rc re N + 1 else rc re N
theorem rc_s (re : Nat → Int32) (N : Nat) : rc re (N + 1) = if re N = 1 then rc re N + 1 else rc re N := rfl
theorem rc_le (re : Nat → Int32) : ∀ N, rc re N ≤ N
  | 0 => Nat.le_refl _
  | N + 1 => by
    have := rc_le re N
    rw [rc_s]
    split <;> omega
theorem rc_mono {re re' : Nat → Int32} (h : mono6 re re') : ∀ N, N ≤ 6 → rc re N ≤ rc re' N
  | 0 => fun _ => Nat.le_refl _
  | N + 1 => fun hN => by
    have := rc_mono h N (by omega)
    rw [rc_s, rc_s]
    by_cases p : re N = 1
    · rw [if_pos p, if_pos (h N (by omega) p)]; omega
    · rw [if_neg p]; split <;> omega
theorem rc_lt {re re' : Nat → Int32} (h : mono6 re re') {v : Nat} (h0 : re v ≠ 1) (h1 : re' v = 1) : ∀ N, N ≤ 6 → v < N → rc re N < rc re' N
  | 0 => fun _ h => absurd h (Nat.not_lt_zero _)
  | N + 1 => fun hN hv => by
    rw [rc_s, rc_s]
    by_cases z : v = N
    · subst z
      have := rc_mono h v (by omega)
      rw [if_neg h0, if_pos h1]; omega
    · have := rc_lt h h0 h1 N (by omega) (by omega)
      by_cases p : re N = 1
      · rw [if_pos p, if_pos (h N (by omega) p)]; omega
      · rw [if_neg p]; split <;> omega
theorem rc_all {re : Nat → Int32} : ∀ N, N ≤ rc re N → ∀ v, v < N → re v = 1
  | 0 => fun _ v h => absurd h (Nat.not_lt_zero _)
  | N + 1 => fun h v hv => by
    rw [rc_s] at h
    have := rc_le re N
    by_cases p : re N = 1
    · rw [if_pos p] at h
      by_cases z : v = N
      · rw [z]; exact p
      · exact rc_all N (by omega) v (by omega)
    · rw [if_neg p] at h; omega
theorem rc_pos {re : Nat → Int32} {v : Nat} (h : re v = 1) : ∀ N, v < N → 1 ≤ rc re N
  | 0 => fun h => absurd h (Nat.not_lt_zero _)
  | N + 1 => fun hv => by
    rw [rc_s]
    by_cases z : v = N
    · subst z; rw [if_pos h]; omega
    · have := rc_pos h N (by omega)
      split <;> omega
theorem explore_loop {now : Nat → Int32} {nv ne : Nat} {F T X Z : Nat → Int32} (hnv : nv ≤ 6) (hG : GI (nI nv) (nI ne) F T X Z) (hM : MI now 0 (nI nv) (nI ne) F T X Z) (hne : ne ≤ 12) : ∀ (m k n : Nat) (b : Int) (re cx cy met qx qy : Nat → Int32), k + 1 + m = nv → m < n → 0 ≤ b → b + 24 * m ≤ 900 → CR b nv re cx cy met qx qy → (fix F T re ne ∨ k + 1 ≤ rc re nv) → ∃ re' cx' cy' met' qx' qy', pX0_explore_L30 n (nI (k + 1)) (nI nv) (nI ne) F T X Z re cx cy = some (nI nv, re', cx', cy') ∧ (∀ n', pX6_spread_L46 (n' + m) (nI k) now qx qy met = pX6_spread_L46 n' (nI (k + m)) now qx' qy' met') ∧ CR (b + 24 * m) nv re' cx' cy' met' qx' qy' ∧ mono6 re re' ∧ fix F T re' ne ∧ cl F T ne re re' := by
  intro m
  induction m with
  | zero =>
    intro k n b re cx cy met qx qy hk hn hb0 hb hC hP
    obtain ⟨n, rfl⟩ : ∃ k, n = k + 1 := ⟨n - 1, by omega⟩
    have hk : k + 1 = nv := hk
    subst hk
    refine ⟨re, cx, cy, met, qx, qy, ?_, fun n' => rfl, hC.mono (by omega), fun _ _ h => h, ?_, cl.rfl⟩
    · rw [pX0_explore_L30, if_pos (nI_le (Nat.le_refl _) (by omega))]
    · rcases hP with hP | hP
      · exact hP
      · intro e he
        obtain ⟨-, -, p, q, -⟩ := hG.vt hnv hne he
        rw [rc_all _ hP _ p, rc_all _ hP _ q]
  | succ m ih =>
    intro k n b re cx cy met qx qy hk hn hb0 hb hC hP
    obtain ⟨n, rfl⟩ : ∃ k, n = k + 1 := ⟨n - 1, by omega⟩
    obtain ⟨re1, cx1, cy1, met1, qx1, qy1, a1, a2, a3, a4, a5, a6, a7⟩ := round_s hnv hG hM hne hb0 (by omega) hC
    have hP1 : fix F T re1 ne ∨ k + 1 + 1 ≤ rc re1 nv := by
      by_cases hf : fix F T re ne
      · obtain ⟨c1, -⟩ := a6 hf
        rw [c1]; exact Or.inl hf
      · rcases hP with hP | hP
        · exact absurd hP hf
        · right
          have hex : ∃ e, e < ne ∧ re (ix F e) ≠ re (ix T e) := by
            apply Classical.byContradiction
            intro hx
            exact hf (fun e he => Classical.byContradiction (fun hy => hx ⟨e, he, hy⟩))
          obtain ⟨e, he, hd⟩ := hex
          obtain ⟨-, -, p, q, -⟩ := hG.vt hnv hne he
          rcases (hC (ix F e) (by omega)).1 with h1 | h1 <;> rcases (hC (ix T e) (by omega)).1 with h2 | h2
          · exact absurd (h1.trans h2.symm) hd
          · have := rc_lt a4 (v := ix F e) (by rw [h1]; decide) (a5 e he (Or.inr h2)).1 nv hnv p
            omega
          · have := rc_lt a4 (v := ix T e) (by rw [h2]; decide) (a5 e he (Or.inl h1)).2 nv hnv q
            omega
          · exact absurd (h1.trans h2.symm) hd
    obtain ⟨re2, cx2, cy2, met2, qx2, qy2, b1, b2, b3, b4, b5, b6⟩ := ih (k + 1) n (b + 24) re1 cx1 cy1 met1 qx1 qy1 (by omega) (by omega) (by omega) (by omega) a3 hP1
    refine ⟨re2, cx2, cy2, met2, qx2, qy2, ?_, fun n' => ?_, b3.mono (by omega), a4.trans b4, b5, a7.trans b6⟩
    · rw [pX0_explore_L30, if_neg (nI_ge (by omega) (by omega)), a1, kb_s, nI_1]
      exact b1
    · rw [show n' + (m + 1) = (n' + m) + 1 by omega, pX6_spread_L46, if_neg (show ¬ (6 : Int32) ≤ nI k from nI_ge (a := k) (b := 6) (by omega) (by omega)), a2, kb_s, nI_1]
      simp only []
      rw [b2, show k + 1 + m = k + (m + 1) by omega]
theorem rest_loop {now : Nat → Int32} {nv ne : Nat} {F T X Z : Nat → Int32} (hnv : nv ≤ 6) (hG : GI (nI nv) (nI ne) F T X Z) (hM : MI now 0 (nI nv) (nI ne) F T X Z) (hne : ne ≤ 12) {b : Int} {re cx cy met qx qy : Nat → Int32} (hb0 : 0 ≤ b) (hb : b ≤ 900) (hC : CR b nv re cx cy met qx qy) (hf : fix F T re ne) : ∀ (m k n : Nat), k + m = 6 → m < n → pX6_spread_L46 n (nI k) now qx qy met = some (nI 6, qx, qy, met) := by
  obtain ⟨re1, cx1, cy1, met1, qx1, qy1, a1, a2, a3, a4, a5, a6, -⟩ := round_s hnv hG hM hne hb0 hb hC
  obtain ⟨c1, c2, c3, c4, c5, c6⟩ := a6 hf
  subst c1 c2 c3 c4 c5 c6
  intro m
  induction m with
  | zero =>
    intro k n hk hn
    obtain ⟨n, rfl⟩ : ∃ k, n = k + 1 := ⟨n - 1, by omega⟩
    have hk : k = 6 := hk
    subst hk
    rw [pX6_spread_L46, if_pos (by decide)]
  | succ m ih =>
    intro k n hk hn
    obtain ⟨n, rfl⟩ : ∃ k, n = k + 1 := ⟨n - 1, by omega⟩
    rw [pX6_spread_L46, if_neg (show ¬ (6 : Int32) ≤ nI k from nI_ge (a := k) (b := 6) (by omega) (by omega)), a2, kb_s, nI_1]
    exact ih (k + 1) n (by omega) (by omega)
theorem wipe_loop (l2 : Int32) : ∀ (m k n : Nat) (re : Nat → Int32), k + m = 6 → m < n → (∀ v, v < k → re v = 0) → ∃ re', pX0_explore_L2 n l2 (nI k) re = some (nI 6, re') ∧ ∀ v, v < 6 → re' v = 0 := by
  intro m
  induction m with
  | zero =>
    intro k n re hk hn h
    obtain ⟨n, rfl⟩ : ∃ k, n = k + 1 := ⟨n - 1, by omega⟩
    have hk : k = 6 := hk
    subst hk
    exact ⟨re, by rw [pX0_explore_L2, if_pos (by decide)], h⟩
  | succ m ih =>
    intro k n re hk hn h
    obtain ⟨n, rfl⟩ : ∃ k, n = k + 1 := ⟨n - 1, by omega⟩
    rw [pX0_explore_L2, if_neg (show ¬ (6 : Int32) ≤ nI k from nI_ge (a := k) (b := 6) (by omega) (by omega)), kin_nI (by omega) (by omega), kgd_tt, c_nI (by omega), nI_1, nar0]
    refine ih (k + 1) n _ (by omega) (by omega) (fun v hv => ?_)
    by_cases z : v = k
    · rw [z]; exact upd_eq2
    · rw [upd_ne2 z]; exact h v (by omega)
theorem met_loop {s : Nat} (hs : s < 6) : ∀ (m k n : Nat) (met : Nat → Int32), k + m = 6 → m < n → (∀ v, v < k → met v = if v = s then 1 else 0) → ∃ met', pX6_spread_L2 n (nI s) (nI k) met = some (nI 6, met') ∧ ∀ v, v < 6 → met' v = if v = s then 1 else 0 := by
  intro m
  induction m with
  | zero =>
    intro k n met hk hn h
    obtain ⟨n, rfl⟩ : ∃ k, n = k + 1 := ⟨n - 1, by omega⟩
    have hk : k = 6 := hk
    subst hk
    exact ⟨met, by rw [pX6_spread_L2, if_pos (by decide)], h⟩
  | succ m ih =>
    intro k n met hk hn h
    obtain ⟨n, rfl⟩ : ∃ k, n = k + 1 := ⟨n - 1, by omega⟩
    rw [pX6_spread_L2, if_neg (show ¬ (6 : Int32) ≤ nI k from nI_ge (a := k) (b := 6) (by omega) (by omega)), kin_nI (by omega) (by omega), c_nI (by omega), nI_1]
    by_cases z : k = s
    · rw [if_pos (by rw [z]), kb_s, kgd_tt, nar1]
      refine ih (k + 1) n _ (by omega) (by omega) (fun v hv => ?_)
      by_cases y : v = k
      · rw [y, upd_eq2, if_pos z]
      · rw [upd_ne2 y]; exact h v (by omega)
    · rw [if_neg (fun e => z (nI_inj (by omega) (by omega) e)), kb_s, kgd_tt, nar0]
      refine ih (k + 1) n _ (by omega) (by omega) (fun v hv => ?_)
      by_cases y : v = k
      · rw [y, upd_eq2, if_neg z]
      · rw [upd_ne2 y]; exact h v (by omega)
theorem spread_s {now : Nat → Int32} {nv ne : Nat} {F T X Z : Nat → Int32} (h1 : 1 ≤ nv) (hnv : nv ≤ 6) (hG : GI (nI nv) (nI ne) F T X Z) (hM : MI now 0 (nI nv) (nI ne) F T X Z) (hne : ne ≤ 12) {s : Nat} (hs : s < nv) (re cx cy met qx qy : Nat → Int32) : ∃ re' cx' cy' met' qx' qy', (∀ (px py : Nat → Int32) (pn : Int32), pX0_explore (nI s) (nI nv) (nI ne) F T X Z re cx cy px py pn = kb (pX0_listPeriods (nI ne) F T X Z re' cx' cy' px py pn) (fun v12 => some (re', cx', cy', v12.1, v12.2.1, v12.2.2))) ∧ pX6_spread (nI s) now qx qy met = some (qx', qy', met') ∧ CR 120 nv re' cx' cy' met' qx' qy' ∧ fix F T re' ne ∧ re' s = 1 ∧ ∀ S : Nat → Prop, (∀ e, e < ne → (S (ix F e) ↔ S (ix T e))) → S s → ∀ v, v < 6 → re' v = 1 → S v := by
  obtain ⟨re0, a1, a2⟩ := wipe_loop (nI s) 6 0 KF re (by omega) (by unfold KF; omega) (fun v h => absurd h (Nat.not_lt_zero _))
  obtain ⟨met0, b1, b2⟩ := met_loop (show s < 6 by omega) 6 0 KF met (by omega) (by unfold KF; omega) (fun v h => absurd h (Nat.not_lt_zero _))
  have hC : CR 0 nv (upd re0 s 1) (upd cx s 0) (upd cy s 0) met0 (upd qx s 0) (upd qy s 0) := fun v hv => by
    by_cases z : v = s
    · subst z
      rw [upd_eq2, upd_eq2, upd_eq2, upd_eq2, upd_eq2, b2 v hv, if_pos rfl]
      exact ⟨Or.inr rfl, rfl, fun _ => ⟨hs, rfl, rfl, by rw [i32_0]; omega, by rw [i32_0]; omega⟩⟩
    · rw [upd_ne2 z, b2 v hv, if_neg z, a2 v hv]
      exact ⟨Or.inl rfl, rfl, fun h => absurd h (by decide)⟩
  obtain ⟨re1, cx1, cy1, met1, qx1, qy1, c1, c2, c3, c4, c5, c6⟩ := explore_loop hnv hG hM hne (nv - 1) 0 KF 0 (upd re0 s 1) (upd cx s 0) (upd cy s 0) met0 (upd qx s 0) (upd qy s 0) (by omega) (by unfold KF; omega) (by omega) (by omega) hC (Or.inr (rc_pos upd_eq2 nv hs))
  have c3 : CR 120 nv re1 cx1 cy1 met1 qx1 qy1 := c3.mono (by omega)
  refine ⟨re1, cx1, cy1, met1, qx1, qy1, fun px py pn => ?_, ?_, c3, c5, c4 s (by omega) upd_eq2, fun S h1 h2 => c6 S h1 (fun v hv hv1 => ?_)⟩
  · unfold pX0_explore
    rw [show pX0_explore_L2 KF (nI s) 0 re = _ from a1, kb_s]
    unfold pX0_reach
    rw [kin_nI (show s < 6 by omega) (by omega), kgd_tt, kgd_tt, kgd_tt, kb_s, nar1, c_nI (by omega)]
    simp only []
    rw [show pX0_explore_L30 KF 1 (nI nv) (nI ne) F T X Z (upd re0 s 1) (upd cx s 0) (upd cy s 0) = _ from c1, kb_s]
  · unfold pX6_spread
    rw [show pX6_spread_L2 KF (nI s) 0 met = _ from b1, kb_s, kin_nI (show s < 6 by omega) (by omega), kgd_tt, kgd_tt, c_nI (by omega)]
    simp only []
    have hr := rest_loop hnv hG hM hne (by omega) (by omega) c3 c5 (6 - (nv - 1)) (nv - 1) (KF - (nv - 1)) (by omega) (by unfold KF; omega)
    have hc := c2 (KF - (nv - 1))
    rw [show KF - (nv - 1) + (nv - 1) = KF by unfold KF; omega, Nat.zero_add, hr] at hc
    rw [show pX6_spread_L46 KF 0 now (upd qx s 0) (upd qy s 0) met0 = _ from hc, kb_s]
  · by_cases z : v = s
    · rw [z]; exact h2
    · rw [upd_ne2 z, a2 v hv] at hv1; exact absurd hv1 (by decide)
