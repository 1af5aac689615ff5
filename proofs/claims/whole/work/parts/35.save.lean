/-! the saved states -/
theorem nI_mulc {a : Nat} {c : Int32} (b : Nat) (h : c = nI b) : c * nI a = nI (b * a) := by rw [h, pk_mul]
theorem rot_loop {p : Nat → Nat} (hp : ∀ i, i < 5 → p i < 5) (q : Nat) (vc ec : Nat → Int32) : ∀ (m k n : Nat) (r : Nat → Nat), k + m = 5 → 1 ≤ k → m < n → (∀ i, i + 1 < k → r i = p (i + 1)) → (∀ i, k ≤ i → i < 5 → r i = p i) → ∃ r', pX5_saveGraph_L17 n q (nI k) r vc ec = some (nI 5, r') ∧ ∀ i, i < 4 → r' i = p (i + 1) := by
  intro m
  induction m with
  | zero =>
    intro k n r hk h1 hn ha hb
    obtain ⟨n, rfl⟩ : ∃ k, n = k + 1 := ⟨n - 1, by omega⟩
    have hk : k = 5 := hk
    subst hk
    exact ⟨r, by rw [pX5_saveGraph_L17, if_pos (by decide)], fun i hi => ha i (by omega)⟩
  | succ m ih =>
    intro k n r hk h1 hn ha hb
    obtain ⟨n, rfl⟩ : ∃ k, n = k + 1 := ⟨n - 1, by omega⟩
    obtain ⟨k, rfl⟩ : ∃ j, k = j + 1 := ⟨k - 1, by omega⟩
    rw [pX5_saveGraph_L17, if_neg (show ¬ (5 : Int32) ≤ nI (k + 1) from nI_ge (a := k + 1) (b := 5) (by omega) (by omega)), nI_pred, kin_nI (show k + 1 < 5 by omega) (by omega), kin_nI (show k < 5 by omega) (by omega), c_nI (by omega), c_nI (by omega), hb (k + 1) (Nat.le_refl _) (by omega), decide_eq_true (hp (k + 1) (by omega)), nI_1]
    simp only [kgd_tt]
    refine ih (k + 1 + 1) n _ (by omega) (by omega) (by omega) (fun i hi => ?_) (fun i h1 h2 => ?_)
    · by_cases z : i = k
      · subst z; exact va_up_eq2
      · rw [va_up_ne2 z]; exact ha i (by omega)
    · rw [va_up_ne2 (by omega)]; exact hb i (by omega) h2
theorem shf_loop : ∀ (m k n : Nat) (s0 s : Nat → Int32), k + m = 200 → m < n → (∀ i, i < k → s i = s0 (i + 50)) → (∀ i, k ≤ i → s i = s0 i) → ∃ s', pX6_save_L10 n (nI k) s = some (nI 200, s') ∧ ∀ i, i < 200 → s' i = s0 (i + 50) := by
  intro m
  induction m with
  | zero =>
    intro k n s0 s hk hn ha hb
    obtain ⟨n, rfl⟩ : ∃ k, n = k + 1 := ⟨n - 1, by omega⟩
    have hk : k = 200 := hk
    subst hk
    exact ⟨s, by rw [pX6_save_L10, if_pos (by decide)], ha⟩
  | succ m ih =>
    intro k n s0 s hk hn ha hb
    obtain ⟨n, rfl⟩ : ∃ k, n = k + 1 := ⟨n - 1, by omega⟩
    rw [pX6_save_L10, if_neg (show ¬ (200 : Int32) ≤ nI k from nI_ge (a := k) (b := 200) (by omega) (by omega)), show (50 : Int32) = nI 50 from rfl, nI_add, kin_nI (by omega) (by omega), kin_nI (by omega) (by omega), c_nI (by omega), c_nI (by omega), nI_1]
    simp only [kgd_tt]
    refine ih (k + 1) n s0 _ (by omega) (by omega) (fun i hi => ?_) (fun i h1 => ?_)
    · by_cases z : i = k
      · subst z; rw [show upd s i (s (i + 50)) i = s (i + 50) from if_pos rfl]; exact hb _ (by omega)
      · rw [show upd s k (s (k + 50)) i = s i from if_neg z]; exact ha i (by omega)
    · rw [show upd s k (s (k + 50)) i = s i from if_neg (by omega)]; exact hb i (by omega)
theorem blk_loop {s : Nat} (hs : s < 5) (now : Nat → Int32) : ∀ (m k n : Nat) (s0 t : Nat → Int32), k + m = 50 → m < n → (∀ i, i < k → t (50 * s + i) = now i) → (∀ i, ¬ (50 * s ≤ i ∧ i < 50 * s + 50) → t i = s0 i) → ∃ t', pX6_save_L50 n (nI k) now t (nI s) = some (nI 50, t') ∧ (∀ i, i < 50 → t' (50 * s + i) = now i) ∧ ∀ i, ¬ (50 * s ≤ i ∧ i < 50 * s + 50) → t' i = s0 i := by
  intro m
  induction m with
  | zero =>
    intro k n s0 t hk hn ha hb
    obtain ⟨n, rfl⟩ : ∃ k, n = k + 1 := ⟨n - 1, by omega⟩
    have hk : k = 50 := hk
    subst hk
    exact ⟨t, by rw [pX6_save_L50, if_pos (by decide)], ha, hb⟩
  | succ m ih =>
    intro k n s0 t hk hn ha hb
    obtain ⟨n, rfl⟩ : ∃ k, n = k + 1 := ⟨n - 1, by omega⟩
    rw [pX6_save_L50, if_neg (show ¬ (50 : Int32) ≤ nI k from nI_ge (a := k) (b := 50) (by omega) (by omega)), nI_mulc 50 (show (50 : Int32) = nI 50 from rfl), nI_add, kin_nI (by omega) (by omega), kin_nI (by omega) (by omega), c_nI (by omega), c_nI (by omega), nI_1]
    simp only [kgd_tt]
    refine ih (k + 1) n s0 _ (by omega) (by omega) (fun i hi => ?_) (fun i h1 => ?_)
    · by_cases z : i = k
      · subst z; exact if_pos rfl
      · rw [show upd t (50 * s + k) (now k) (50 * s + i) = t (50 * s + i) from if_neg (by omega)]; exact ha i (by omega)
    · rw [show upd t (50 * s + k) (now k) i = t i from if_neg (by omega)]; exact hb i h1
/-- which of the saved states are kept, at which place of either side -/
def VJ (s : Nat) (pi : Nat → Nat) (vc ec : Nat → Int32) (F T X Z : Nat → Nat → Int32) (sav : Nat → Int32) : Prop := (∀ i, i < 5 → pi i < 5) ∧ (∀ i j, i < 5 → j < 5 → pi i = pi j → i = j) ∧ ∀ i, i < s → GI (vc (pi i)) (ec (pi i)) (F (pi i)) (T (pi i)) (X (pi i)) (Z (pi i)) ∧ MI sav (50 * i) (vc (pi i)) (ec (pi i)) (F (pi i)) (T (pi i)) (X (pi i)) (Z (pi i))
theorem GI.ne {vc ec : Int32} {F T X Z : Nat → Int32} (h : GI vc ec F T X Z) : ∃ ne, ne ≤ 12 ∧ ec = nI ne := by
  obtain ⟨nv, ne, h1, h2, h3, h4, h5, -⟩ := h
  exact ⟨ne, h5, h2⟩
theorem room_s {scn sc : Int32} {pi : Nat → Nat} {vc ec : Nat → Int32} {F T X Z : Nat → Nat → Int32} {sav : Nat → Int32} (h : VI scn pi vc ec F T X Z sav sc) : ∃ s pi' sav', s < 5 ∧ ((if scn = (5 : Int32) then kgd (kin 0 5) (kb (pX5_saveGraph_L17 KF (pi (0 : Int32).toNatClampNeg) 1 pi vc ec) (fun v7 => kgd (kin 4 5) (kgd (decide ((pi (0 : Int32).toNatClampNeg) < 5)) (some ((scn - 1), (va_up v7.2 (4 : Int32).toNatClampNeg (pi (0 : Int32).toNatClampNeg))))))) else some (scn, pi)) : Option (Int32 × (Nat → Nat))) = some (nI s, pi') ∧ ((if sc = (5 : Int32) then kb (pX6_save_L10 KF 0 sav) (fun v5 => some (v5.2, (sc - 1))) else some (sav, sc)) : Option ((Nat → Int32) × Int32)) = some (sav', nI s) ∧ VJ s pi' vc ec F T X Z sav' := by
  obtain ⟨hsc, h1, h2, q, hq, hq2, h3⟩ := h
  subst hsc
  subst hq2
  by_cases hq5 : q = 5
  · subst hq5
    obtain ⟨r, e1, e2⟩ := rot_loop h1 (pi 0) vc ec 4 1 KF pi (by omega) (by omega) (by unfold KF; omega) (fun i hi => by omega) (fun i _ _ => rfl)
    obtain ⟨s', f1, f2⟩ := shf_loop 200 0 KF sav sav (by omega) (by unfold KF; omega) (fun i hi => by omega) (fun i _ => rfl)
    refine ⟨4, va_up r 4 (pi 0), s', by omega, ?_, ?_, ?_, ?_, ?_⟩
    · rw [if_pos (show nI 5 = 5 from rfl), show (0 : Int32).toNatClampNeg = 0 from rfl, show (1 : Int32) = nI 1 from rfl, e1, decide_eq_true (h1 0 (by omega))]
      rfl
    · rw [if_pos (show nI 5 = 5 from rfl), show (0 : Int32) = nI 0 from rfl, f1]
      rfl
    · intro i hi
      by_cases z : i = 4
      · subst z; rw [va_up_eq2]; exact h1 0 (by omega)
      · rw [va_up_ne2 z, e2 i (by omega)]; exact h1 _ (by omega)
    · intro i j hi hj hij
      by_cases z : i = 4
      · by_cases w : j = 4
        · omega
        · rw [z, va_up_eq2, va_up_ne2 w, e2 j (by omega)] at hij
          have := h2 _ _ (by omega) (by omega) hij
          omega
      · by_cases w : j = 4
        · rw [w, va_up_eq2, va_up_ne2 z, e2 i (by omega)] at hij
          have := h2 _ _ (by omega) (by omega) hij
          omega
        · rw [va_up_ne2 z, va_up_ne2 w, e2 i (by omega), e2 j (by omega)] at hij
          have := h2 _ _ (by omega) (by omega) hij
          omega
    · intro i hi
      rw [va_up_ne2 (by omega), e2 i hi]
      obtain ⟨a, b⟩ := h3 (i + 1) (by omega)
      refine ⟨a, ?_⟩
      obtain ⟨ne, hne, hne2⟩ := a.ne
      rw [hne2] at b ⊢
      refine b.move hne (fun l hl => ?_)
      rw [f2 _ (by omega), show 50 * i + l + 50 = 50 * (i + 1) + l by omega]
  · refine ⟨q, pi, sav, by omega, ?_, ?_, h1, h2, h3⟩
    · rw [if_neg (fun e => hq5 (nI_inj (by omega) (by omega) (e.trans (show (5 : Int32) = nI 5 from rfl))))]
    · rw [if_neg (fun e => hq5 (nI_inj (by omega) (by omega) (e.trans (show (5 : Int32) = nI 5 from rfl))))]
theorem save_s {scn sc : Int32} {pi : Nat → Nat} {vc ec : Nat → Int32} {F T X Z : Nat → Nat → Int32} {sav now : Nat → Int32} (h : VI scn pi vc ec F T X Z sav sc) {gvc : Int32} {ne : Nat} {gF gT gX gZ : Nat → Int32} (hne : ne ≤ 12) (hG : GI gvc (nI ne) gF gT gX gZ) (hM : MI now 0 gvc (nI ne) gF gT gX gZ) : ∃ s pi' sav' vc' ec' F' T' X' Z', pX5_saveGraph scn gvc (nI ne) gF gT gX gZ pi vc ec F T X Z = some (s, pi', vc', ec', F', T', X', Z') ∧ pX6_save now sav sc = some (sav', s) ∧ VI s pi' vc' ec' F' T' X' Z' sav' s := by
  obtain ⟨s, pi', s1, hs, e1, e2, h1, h2, h3⟩ := room_s h
  obtain ⟨s2, f1, f2, f3⟩ := blk_loop hs now 50 0 KF s1 s1 (by omega) (by unfold KF; omega) (fun i hi => by omega) (fun i _ => rfl)
  have c := copyFrom_s hne (vc (pi' s)) (ec (pi' s)) (F (pi' s)) (T (pi' s)) (X (pi' s)) (Z (pi' s)) gvc gF gT gX gZ
  refine ⟨nI (s + 1), pi', s2, va_up vc (pi' s) gvc, va_up ec (pi' s) (nI ne), va_up F (pi' s) (cpy gF (F (pi' s)) ne), va_up T (pi' s) (cpy gT (T (pi' s)) ne), va_up X (pi' s) (cpy gX (X (pi' s)) ne), va_up Z (pi' s) (cpy gZ (Z (pi' s)) ne), ?_, ?_, rfl, h1, h2, s + 1, by omega, rfl, fun i hi => ?_⟩
  · unfold pX5_saveGraph
    rw [e1, kb_s]
    show kgd (kin (nI s) 5) (kgd (decide (pi' (nI s).toNatClampNeg < 5)) _) = _
    rw [kin_nI hs (by omega), c_nI (by omega), decide_eq_true (h1 s hs)]
    simp only [kgd_tt, c_nI (show s < 2 ^ 31 by omega)]
    rw [c, kb_s, nI_1]
  · unfold pX6_save
    rw [e2, kb_s]
    show kb (pX6_save_L50 KF 0 now s1 (nI s)) _ = _
    rw [show (0 : Int32) = nI 0 from rfl, f1, kb_s, nI_1]
  · by_cases z : i = s
    · subst z
      rw [va_up_eq2, va_up_eq2, va_up_eq2, va_up_eq2, va_up_eq2, va_up_eq2]
      refine ⟨hG.congr hne (fun e he => cpy_lt he) (fun e he => cpy_lt he) (fun e he => cpy_lt he) (fun e he => cpy_lt he), ?_⟩
      refine MI.congr hne (F := gF) (T := gT) (X := gX) (Z := gZ) ?_ (fun e he => cpy_lt he) (fun e he => cpy_lt he) (fun e he => cpy_lt he) (fun e he => cpy_lt he)
      exact hM.move hne (fun l hl => by rw [f2 l hl, Nat.zero_add])
    · have hne' : pi' i ≠ pi' s := fun e => z (h2 _ _ (by omega) hs e)
      rw [va_up_ne2 hne', va_up_ne2 hne', va_up_ne2 hne', va_up_ne2 hne', va_up_ne2 hne', va_up_ne2 hne']
      obtain ⟨a, b⟩ := h3 i (by omega)
      refine ⟨a, ?_⟩
      obtain ⟨n, hn, hn2⟩ := a.ne
      rw [hn2] at b ⊢
      exact b.move hn (fun l hl => f3 _ (by omega))
/-- a draft becomes the graph -/
theorem commit_s {scn sc : Int32} {pi : Nat → Nat} {vc ec : Nat → Int32} {F T X Z : Nat → Nat → Int32} {sav now : Nat → Int32} (h : VI scn pi vc ec F T X Z sav sc) {gvc : Int32} {ne : Nat} {gF gT gX gZ : Nat → Int32} (hne : ne ≤ 12) (hG : GI gvc (nI ne) gF gT gX gZ) (hM : MI now 0 gvc (nI ne) gF gT gX gZ) {dvc : Int32} {nd : Nat} {dF dT dX dZ : Nat → Int32} (hnd : nd ≤ 12) (hD : GI dvc (nI nd) dF dT dX dZ) (cn : Nat → Int32) (E : Nat → Nat → Int32) : ∃ cn' E' s F1 T1 X1 Z1 pi' vc' ec' F' T' X' Z' sav', pX5_commitDraft cn E scn gvc (nI ne) gF gT gX gZ dvc (nI nd) dF dT dX dZ pi vc ec F T X Z = some (cn', E', s, dvc, nI nd, F1, T1, X1, Z1, pi', vc', ec', F', T', X', Z') ∧ pX6_save now sav sc = some (sav', s) ∧ VI s pi' vc' ec' F' T' X' Z' sav' s ∧ GI dvc (nI nd) F1 T1 X1 Z1 ∧ EI cn' E' (nI nd) F1 T1 X1 Z1 ∧ ∀ m, MI m 0 dvc (nI nd) dF dT dX dZ → MI m 0 dvc (nI nd) F1 T1 X1 Z1 := by
  obtain ⟨s, pi', sav', vc', ec', F', T', X', Z', e1, e2, e3⟩ := save_s h hne hG hM
  have hD' : GI dvc (nI nd) (cpy dF gF nd) (cpy dT gT nd) (cpy dX gX nd) (cpy dZ gZ nd) := hD.congr hnd (fun e he => cpy_lt he) (fun e he => cpy_lt he) (fun e he => cpy_lt he) (fun e he => cpy_lt he)
  obtain ⟨cn', E', f1, f2⟩ := listAll_s hnd hD' cn E
  refine ⟨cn', E', s, cpy dF gF nd, cpy dT gT nd, cpy dX gX nd, cpy dZ gZ nd, pi', vc', ec', F', T', X', Z', sav', ?_, e2, e3, hD', f2, fun m hm => hm.congr hnd (fun e he => cpy_lt he) (fun e he => cpy_lt he) (fun e he => cpy_lt he) (fun e he => cpy_lt he)⟩
  unfold pX5_commitDraft
  rw [e1, kb_s, copyFrom_s hnd, kb_s]
  simp only []
  rw [f1, kb_s]
