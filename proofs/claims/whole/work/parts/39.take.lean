/-! taking the draft's shifts -/
def okp (X Z : Nat → Int32) (e : Nat) : Prop := ∀ f, f < e → (-2 ≤ (X f).toInt ∧ (X f).toInt ≤ 2) ∧ -2 ≤ (Z f).toInt ∧ (Z f).toInt ≤ 2
def ucnt (X Z X' Z' : Nat → Int32) : Nat → Nat
  | 0 => 0
  | e + 1 => if X' e = X e ∧ Z' e = Z e then ucnt X Z X' Z' e else ucnt X Z X' Z' e + 1
theorem okp.up {X Z : Nat → Int32} {e : Nat} (h : okp X Z e) (h1 : -2 ≤ (X e).toInt ∧ (X e).toInt ≤ 2) (h2 : -2 ≤ (Z e).toInt ∧ (Z e).toInt ≤ 2) : okp X Z (e + 1) := fun f hf => by
  by_cases q : f = e
  · subst q; exact ⟨h1, h2⟩
  · exact h f (by omega)
theorem range_loop {ne : Nat} (hne : ne ≤ 12) (X Z : Nat → Int32) : ∀ (m e n : Nat), e + m = ne → m < n → okp X Z e → ∃ r, pX2_hasShiftsInRange_L2 n (nI e) (nI ne) X Z = some r ∧ ((r = 0 ∧ ¬ okp X Z ne) ∨ (r = 1 ∧ okp X Z ne)) := by
  intro m
  induction m with
  | zero =>
    intro e n he hn a
    obtain ⟨n, rfl⟩ : ∃ k, n = k + 1 := ⟨n - 1, by omega⟩
    have he : e = ne := he
    subst he
    exact ⟨1, by rw [pX2_hasShiftsInRange_L2, if_pos (nI_le (Nat.le_refl _) (by omega))], Or.inr ⟨rfl, a⟩⟩
  | succ m ih =>
    intro e n he hn a
    obtain ⟨n, rfl⟩ : ∃ k, n = k + 1 := ⟨n - 1, by omega⟩
    rw [pX2_hasShiftsInRange_L2, if_neg (nI_ge (by omega) (by omega)), kin_nI (show e < 12 by omega) (by omega), c_nI (by omega), nI_1]
    simp only [kgd_tt]
    rcases isShift5_s (X e) with ⟨h1, h2⟩ | ⟨h1, h2⟩
    · exact ⟨0, by rw [h1, kb_s, if_pos rfl], Or.inl ⟨rfl, fun c => h2 (c e (by omega)).1⟩⟩
    · rw [h1, kb_s, if_neg (by decide)]
      rcases isShift5_s (Z e) with ⟨g1, g2⟩ | ⟨g1, g2⟩
      · exact ⟨0, by rw [g1, kb_s, if_pos rfl], Or.inl ⟨rfl, fun c => g2 (c e (by omega)).2⟩⟩
      · rw [g1, kb_s, if_neg (by decide)]
        exact ih (e + 1) n (by omega) (by omega) (a.up h2 g2)
theorem ucnt_le (X Z X' Z' : Nat → Int32) : ∀ e, ucnt X Z X' Z' e ≤ e
  | 0 => Nat.le_refl _
  | e + 1 => by
    have := ucnt_le X Z X' Z' e
    unfold ucnt
    split <;> omega
theorem unlike_loop {ne : Nat} (hne : ne ≤ 12) (X Z X' Z' : Nat → Int32) : ∀ (m e n : Nat), e + m = ne → m < n → pX2_shiftsUnlike_L4 n (nI (ucnt X Z X' Z' e)) (nI e) (nI ne) X' Z' (nI ne) X Z = some (nI (ucnt X Z X' Z' ne), nI ne) := by
  intro m
  induction m with
  | zero =>
    intro e n he hn
    obtain ⟨n, rfl⟩ : ∃ k, n = k + 1 := ⟨n - 1, by omega⟩
    have he : e = ne := he
    subst he
    rw [pX2_shiftsUnlike_L4, if_pos (nI_le (Nat.le_refl _) (by omega))]
  | succ m ih =>
    intro e n he hn
    obtain ⟨n, rfl⟩ : ∃ k, n = k + 1 := ⟨n - 1, by omega⟩
    rw [pX2_shiftsUnlike_L4, if_neg (nI_ge (by omega) (by omega)), if_neg (nI_ge (by omega) (by omega)), kin_nI (show e < 12 by omega) (by omega), c_nI (by omega), nI_1, nI_1]
    simp only [kgd_tt]
    have hj : ((if X' e = X e then (if Z' e = Z e then some (nI (ucnt X Z X' Z' e)) else some (nI (ucnt X Z X' Z' e + 1))) else some (nI (ucnt X Z X' Z' e + 1))) : Option Int32) = some (nI (ucnt X Z X' Z' (e + 1))) := by
      rw [show ucnt X Z X' Z' (e + 1) = if X' e = X e ∧ Z' e = Z e then ucnt X Z X' Z' e else ucnt X Z X' Z' e + 1 from rfl]
      by_cases a : X' e = X e
      · by_cases b : Z' e = Z e
        · rw [if_pos a, if_pos b, if_pos ⟨a, b⟩]
        · rw [if_pos a, if_neg b, if_neg (fun c => b c.2)]
      · rw [if_neg a, if_neg (fun c => a c.1)]
    rw [hj, kb_s]
    exact ih (e + 1) n (by omega) (by omega)
theorem take_loop {now s : Nat → Int32} {nv ne : Nat} {F T X Z X' Z' : Nat → Int32} (hM : MI now 0 (nI nv) (nI ne) F T X Z) (hne : ne ≤ 12) (hs : ∀ f, f < ne → s (2 * f) = X' f ∧ s (2 * f + 1) = Z' f) : ∀ (m e n : Nat) (r : Int32), e + m = ne → m < n → ((r = 0 ∧ ¬ okp X' Z' e) ∨ (r = 1 ∧ okp X' Z' e)) → ∃ r', pX6_take_L6 n r (nI (ucnt X Z X' Z' e)) (nI e) now s = some (r', nI (ucnt X Z X' Z' ne), nI ne) ∧ ((r' = 0 ∧ ¬ okp X' Z' ne) ∨ (r' = 1 ∧ okp X' Z' ne)) := by
  have q1 : now (1 : Int32).toNatClampNeg = nI ne := hM.2.1
  intro m
  induction m with
  | zero =>
    intro e n r he hn a
    obtain ⟨n, rfl⟩ : ∃ k, n = k + 1 := ⟨n - 1, by omega⟩
    have he : e = ne := he
    subst he
    exact ⟨r, by rw [pX6_take_L6, show kin 1 50 = true from rfl, kgd_tt, q1, if_pos (nI_le (Nat.le_refl _) (by omega))], a⟩
  | succ m ih =>
    intro e n r he hn a
    obtain ⟨n, rfl⟩ : ∃ k, n = k + 1 := ⟨n - 1, by omega⟩
    obtain ⟨p1, p2, p3, p4⟩ := hM.2.2 e (by rw [nI_toInt (by omega)]; omega)
    rw [Nat.zero_add] at p3 p4
    have o2 : pX6_of (nI e) 2 now = some (X e) := by rw [← p3]; exact of_k (show e < 12 by omega) (k := 2) (by omega)
    have o3 : pX6_of (nI e) 3 now = some (Z e) := by rw [← p4]; exact of_k (show e < 12 by omega) (k := 3) (by omega)
    obtain ⟨b1, b2⟩ := hs e (by omega)
    have j1 : ∃ r', ((if r = 0 then some 0 else kb (pX6_isShift (X' e) (Z' e)) (fun v6 => (if v6 = 0 then some 0 else some 1))) : Option Int32) = some r' ∧ ((r' = 0 ∧ ¬ okp X' Z' (e + 1)) ∨ (r' = 1 ∧ okp X' Z' (e + 1))) := by
      rcases a with ⟨rfl, a⟩ | ⟨rfl, a⟩
      · exact ⟨0, if_pos rfl, Or.inl ⟨rfl, fun c => a (fun f hf => c f (by omega))⟩⟩
      · rw [if_neg (by decide)]
        rcases isShift6_s (X' e) (Z' e) with ⟨h1, h2⟩ | ⟨h1, h2, h3⟩
        · rw [h1, kb_s, if_pos rfl]
          exact ⟨0, rfl, Or.inl ⟨rfl, fun c => h2 (c e (by omega))⟩⟩
        · rw [h1, kb_s, if_neg (by decide)]
          exact ⟨1, rfl, Or.inr ⟨rfl, a.up h2 h3⟩⟩
    obtain ⟨r', j1, j2⟩ := j1
    have hj : ((if X' e = X e then (if Z' e = Z e then some 0 else some 1) else some 1) : Option Int32) = some (if X' e = X e ∧ Z' e = Z e then 0 else 1) := by
      by_cases a : X' e = X e
      · by_cases b : Z' e = Z e
        · rw [if_pos a, if_pos b, if_pos ⟨a, b⟩]
        · rw [if_pos a, if_neg b, if_neg (fun c => b c.2)]
      · rw [if_neg a, if_neg (fun c => a c.1)]
    have hu : nI (ucnt X Z X' Z' e) + (if X' e = X e ∧ Z' e = Z e then 0 else 1) = nI (ucnt X Z X' Z' (e + 1)) := by
      show _ = nI (if X' e = X e ∧ Z' e = Z e then ucnt X Z X' Z' e else ucnt X Z X' Z' e + 1)
      split
      · exact Int32.add_zero _
      · exact nI_1 _
    rw [pX6_take_L6, show kin 1 50 = true from rfl, kgd_tt, q1, if_neg (nI_ge (by omega) (by omega)), nI_mulc 2 (show (2 : Int32) = nI 2 from rfl), nI_1, kin_nI (show 2 * e < 24 by omega) (by omega), kin_nI (show 2 * e + 1 < 24 by omega) (by omega), c_nI (show 2 * e < 2 ^ 31 by omega), c_nI (show 2 * e + 1 < 2 ^ 31 by omega), b1, b2]
    simp only [kgd_tt]
    rw [j1, kb_s, o2, kb_s, o3]
    simp only [kb_s]
    rw [hj, kb_s, hu, nI_1]
    exact ih (e + 1) n r' (by omega) (by omega) j2
theorem put_loop {now s : Nat → Int32} {ne : Nat} (hne : ne ≤ 12) (h1 : now 1 = nI ne) (c : Int32) : ∀ (m e n : Nat) (t : Nat → Int32), e + m = ne → m < n → t 0 = now 0 → t 1 = now 1 → (∀ f, f < 12 → t (2 + 4 * f) = now (2 + 4 * f) ∧ t (2 + 4 * f + 1) = now (2 + 4 * f + 1)) → (∀ f, f < e → t (2 + 4 * f + 2) = s (2 * f) ∧ t (2 + 4 * f + 3) = s (2 * f + 1)) → ∃ t', pX6_take_L117 n c (nI e) t s = some (nI ne, t') ∧ t' 0 = now 0 ∧ t' 1 = now 1 ∧ (∀ f, f < 12 → t' (2 + 4 * f) = now (2 + 4 * f) ∧ t' (2 + 4 * f + 1) = now (2 + 4 * f + 1)) ∧ ∀ f, f < ne → t' (2 + 4 * f + 2) = s (2 * f) ∧ t' (2 + 4 * f + 3) = s (2 * f + 1) := by
  intro m
  induction m with
  | zero =>
    intro e n t he hn a b c d
    obtain ⟨n, rfl⟩ : ∃ k, n = k + 1 := ⟨n - 1, by omega⟩
    have he : e = ne := he
    subst he
    exact ⟨t, by rw [pX6_take_L117, show kin 1 50 = true from rfl, kgd_tt, show (1 : Int32).toNatClampNeg = 1 from rfl, show t 1 = _ from b.trans h1, if_pos (nI_le (Nat.le_refl _) (by omega))], a, b, c, d⟩
  | succ m ih =>
    intro e n t he hn a b c d
    obtain ⟨n, rfl⟩ : ∃ k, n = k + 1 := ⟨n - 1, by omega⟩
    rw [pX6_take_L117, show kin 1 50 = true from rfl, kgd_tt, show (1 : Int32).toNatClampNeg = 1 from rfl, show t 1 = nI ne from b.trans h1, if_neg (nI_ge (by omega) (by omega)), show (2 : Int32) = nI 2 from rfl, show (4 : Int32) = nI 4 from rfl, show (3 : Int32) = nI 3 from rfl, pk_mul, pk_mul, nI_1, nI_add, nI_add, nI_add, kin_nI (by omega) (by omega), kin_nI (by omega) (by omega), kin_nI (by omega) (by omega), kin_nI (by omega) (by omega), c_nI (by omega), c_nI (by omega), c_nI (by omega), c_nI (by omega), nI_1]
    simp only [kgd_tt]
    refine ih (e + 1) n _ (by omega) (by omega) ?_ ?_ (fun f hf => ?_) (fun f hf => ?_)
    · rw [upd_ne2 (by omega), upd_ne2 (by omega), a]
    · rw [upd_ne2 (by omega), upd_ne2 (by omega), b]
    · rw [upd_ne2 (by omega), upd_ne2 (by omega), upd_ne2 (by omega), upd_ne2 (by omega)]
      exact c f hf
    · by_cases q : f = e
      · subst q
        exact ⟨by rw [upd_ne2 (by omega), upd_eq2], upd_eq2⟩
      · rw [upd_ne2 (by omega), upd_ne2 (by omega), upd_ne2 (by omega), upd_ne2 (by omega)]
        exact d f (by omega)
theorem D_shift {scn sc : Int32} {pi : Nat → Nat} {vc ec : Nat → Int32} {F T X Z : Nat → Nat → Int32} {sav now er err s : Nat → Int32} (hV : VI scn pi vc ec F T X Z sav sc) {gvc : Int32} {ne : Nat} {gF gT gX gZ : Nat → Int32} (hne : ne ≤ 12) (hG : GI gvc (nI ne) gF gT gX gZ) (hM : MI now 0 gvc (nI ne) gF gT gX gZ) {dF dT dX dZ : Nat → Int32} (hF : ∀ e, e < ne → dF e = gF e) (hT : ∀ e, e < ne → dT e = gT e) (hs : ∀ f, f < ne → s (2 * f) = dX f ∧ s (2 * f + 1) = dZ f) (hD : okp dX dZ ne → GI gvc (nI ne) dF dT dX dZ) (cn : Nat → Int32) (E : Nat → Nat → Int32) : (pX5_commitShifts cn E scn er gvc (nI ne) gF gT gX gZ gvc (nI ne) dF dT dX dZ pi vc ec F T X Z = some (-5, cn, E, scn, upd er 3 (er 3 + 1), gvc, nI ne, gF, gT, gX, gZ, pi, vc, ec, F, T, X, Z) ∧ pX6_take now sav sc err s = some (-5, now, sav, sc, upd err 3 (err 3 + 1))) ∨ ∃ c W cn' E' scn' F1 T1 X1 Z1 pi' vc' ec' F' T' X' Z' sav', pX5_commitShifts cn E scn er gvc (nI ne) gF gT gX gZ gvc (nI ne) dF dT dX dZ pi vc ec F T X Z = some (c, cn', E', scn', er, gvc, nI ne, F1, T1, X1, Z1, pi', vc', ec', F', T', X', Z') ∧ pX6_take now sav sc err s = some (c, W, sav', scn', err) ∧ VI scn' pi' vc' ec' F' T' X' Z' sav' scn' ∧ GI gvc (nI ne) F1 T1 X1 Z1 ∧ EI cn' E' (nI ne) F1 T1 X1 Z1 ∧ MI W 0 gvc (nI ne) F1 T1 X1 Z1 := by
  have hv0 := hG
  obtain ⟨nv, ne', rfl, h2, -⟩ := hv0
  obtain ⟨r, a1, a2⟩ := range_loop hne dX dZ ne 0 KF (by omega) (by unfold KF; omega) (fun f hf => absurd hf (Nat.not_lt_zero _))
  obtain ⟨r', b1, b2⟩ := take_loop hM hne hs ne 0 KF 1 (by omega) (by unfold KF; omega) (Or.inr ⟨rfl, fun f hf => absurd hf (Nat.not_lt_zero _)⟩)
  rcases a2 with ⟨rfl, a2⟩ | ⟨rfl, a2⟩
  · rcases b2 with ⟨rfl, b2⟩ | ⟨rfl, b2⟩
    · refine Or.inl ⟨?_, ?_⟩
      · unfold pX5_commitShifts pX2_hasShiftsInRange
        rw [show pX2_hasShiftsInRange_L2 KF 0 (nI ne) dX dZ = _ from a1, kb_s, if_pos rfl, fail_5, kb_s]
      · unfold pX6_take
        rw [show pX6_take_L6 KF 1 0 0 now s = _ from b1, kb_s, if_pos rfl, error_5, kb_s]
    · exact absurd b2 a2
  · rcases b2 with ⟨rfl, b2⟩ | ⟨rfl, b2⟩
    · exact absurd a2 b2
    · have hD := hD a2
      obtain ⟨cn', E', scn', F1, T1, X1, Z1, pi', vc', ec', F', T', X', Z', sav', c1, c2, c3, c4, c5, c6⟩ := commit_s hV hne hG hM hne hD cn E
      obtain ⟨W, d1, d2, d3, d4, d5⟩ := put_loop (s := s) hne hM.2.1 (nI (ucnt gX gZ dX dZ ne)) ne 0 KF now (by omega) (by unfold KF; omega) rfl rfl (fun f hf => ⟨rfl, rfl⟩) (fun f hf => absurd hf (Nat.not_lt_zero _))
      refine Or.inr ⟨nI (ucnt gX gZ dX dZ ne), W, cn', E', scn', F1, T1, X1, Z1, pi', vc', ec', F', T', X', Z', sav', ?_, ?_, c3, c4, c5, c6 _ ⟨d2.trans hM.1, d3.trans hM.2.1, fun e he => ?_⟩⟩
      · unfold pX5_commitShifts pX2_hasShiftsInRange
        rw [show pX2_hasShiftsInRange_L2 KF 0 (nI ne) dX dZ = _ from a1, kb_s, if_neg (by decide)]
        unfold pX2_shiftsUnlike
        rw [show pX2_shiftsUnlike_L4 KF 0 0 (nI ne) dX dZ (nI ne) gX gZ = _ from unlike_loop hne gX gZ dX dZ ne 0 KF (by omega) (by unfold KF; omega), kb_s, kb_s, c1, kb_s]
      · unfold pX6_take
        rw [show pX6_take_L6 KF 1 0 0 now s = _ from b1, kb_s, if_neg (show ¬ (1 : Int32) = 0 by decide), c2, kb_s]
        simp only []
        rw [show pX6_take_L117 KF (nI (ucnt gX gZ dX dZ ne)) 0 now s = _ from d1, kb_s]
      · rw [nI_toInt (by omega)] at he
        have he' : e < ne := by omega
        obtain ⟨p1, p2, p3, p4⟩ := hM.2.2 e (by rw [nI_toInt (by omega)]; omega)
        rw [Nat.zero_add] at *
        obtain ⟨k1, k2⟩ := d4 e (by omega)
        obtain ⟨k3, k4⟩ := d5 e he'
        obtain ⟨k5, k6⟩ := hs e he'
        rw [k1, k2, k3, k4, k5, k6, hF e he', hT e he']
        exact ⟨p1, p2, rfl, rfl⟩
theorem GI.shift {vc : Int32} {ne : Nat} {F T X Z F' T' X' Z' : Nat → Int32} (hne : ne ≤ 12) (h : GI vc (nI ne) F T X Z) (hF : ∀ e, e < ne → F' e = F e) (hT : ∀ e, e < ne → T' e = T e) (hr : okp X' Z' ne) (h1 : ∀ e, e < ne → F e = T e → X' e = 0 → Z' e = 0 → X e = 0 ∧ Z e = 0) (h2 : ∀ e f, e < ne → f < ne → F e = F f → T e = T f → X' e = X' f → Z' e = Z' f → X e = X f ∧ Z e = Z f) (h3 : ∀ e f, e < ne → f < ne → F e = T f → T e = F f → X' e = -X' f → Z' e = -Z' f → X e = -X f ∧ Z e = -Z f) : GI vc (nI ne) F' T' X' Z' := by
  obtain ⟨nv, ne', rfl, g2, g3, g4, g5, g6, g7⟩ := h
  have : ne = ne' := nI_inj (by omega) (by omega) g2
  subst this
  refine ⟨nv, ne, rfl, rfl, g3, g4, g5, fun e he => ?_, fun e f hef hf => ?_⟩
  · rw [hF e he, hT e he]
    obtain ⟨a, b, c, d, z⟩ := g6 e he
    exact ⟨a, b, (hr e he).1, (hr e he).2, fun ⟨q1, q2, q3⟩ => z ⟨q1, h1 e he q1 q2 q3⟩⟩
  · rw [hF e (by omega), hT e (by omega), hF f hf, hT f hf]
    obtain ⟨a, b⟩ := g7 e f hef hf
    exact ⟨fun ⟨q1, q2, q3, q4⟩ => a ⟨q1, q2, h2 e f (by omega) hf q1 q2 q3 q4⟩, fun ⟨q1, q2, q3, q4⟩ => b ⟨q1, q2, h3 e f (by omega) hf q1 q2 q3 q4⟩⟩
theorem add_rc {a b c : Int32} (h : a + c = b + c) : a = b := by
  have := congrArg (fun x => x - c) h
  simp only [Int32.add_sub_cancel] at this
  exact this
theorem neg_ab {a b : Int32} : -(a - b) = -a + b := by rw [Int32.neg_sub, Int32.sub_eq_add_neg, Int32.add_comm]
theorem neg_ap {a b : Int32} : -(a + b) = -a - b := by rw [Int32.neg_add, Int32.sub_eq_add_neg]
theorem mv_self {f v x X : Int32} : mv f f v x X = X := by
  unfold mv
  by_cases a : f = v
  · rw [if_pos a, if_pos a, Int32.sub_add_cancel]
  · rw [if_neg a, if_neg a]
theorem mv_inj {f t v x X Y : Int32} (h : mv f t v x X = mv f t v x Y) : X = Y := by
  unfold mv at h
  by_cases a : t = v
  · by_cases b : f = v
    · rw [if_pos a, if_pos b, if_pos a, if_pos b, Int32.sub_add_cancel, Int32.sub_add_cancel] at h
      exact h
    · rw [if_pos a, if_neg b, if_pos a, if_neg b] at h
      exact add_rc h
  · by_cases b : f = v
    · rw [if_neg a, if_pos b, if_neg a, if_pos b, Int32.sub_eq_add_neg, Int32.sub_eq_add_neg] at h
      exact add_rc h
    · rw [if_neg a, if_neg b, if_neg a, if_neg b] at h
      exact h
theorem mv_neg {f t v x X : Int32} : -mv f t v x X = mv t f v x (-X) := by
  unfold mv
  by_cases a : t = v
  · by_cases b : f = v
    · rw [if_pos a, if_pos b, if_pos b, if_pos a, Int32.sub_add_cancel, Int32.sub_add_cancel]
    · rw [if_pos a, if_neg b, if_neg b, if_pos a, neg_ap]
  · by_cases b : f = v
    · rw [if_neg a, if_pos b, if_pos b, if_neg a, neg_ab]
    · rw [if_neg a, if_neg b, if_neg b, if_neg a]
theorem tX_inj {k x z x' z' : Int32} (h1 : tX k x z = tX k x' z') (h2 : tZ k x z = tZ k x' z') : x = x' ∧ z = z' := by
  unfold tX at h1
  unfold tZ at h2
  by_cases k0 : k = 0
  · rw [if_pos k0, if_pos k0] at h1 h2
    exact ⟨h2, h1⟩
  · rw [if_neg k0, if_neg k0] at h1 h2
    subst h2
    refine ⟨?_, rfl⟩
    by_cases k1 : k = 1
    · rw [if_pos k1, if_pos k1] at h1
      exact add_rc h1
    · rw [if_neg k1, if_neg k1] at h1
      by_cases k2 : k = 2
      · rw [if_pos k2, if_pos k2, Int32.sub_eq_add_neg, Int32.sub_eq_add_neg] at h1
        exact add_rc h1
      · rw [if_neg k2, if_neg k2] at h1
        exact Int32.neg_inj.mp h1
theorem tX_neg (k x z : Int32) : -tX k x z = tX k (-x) (-z) := by
  unfold tX
  split; rfl
  split; exact Int32.neg_add.trans (Int32.sub_eq_add_neg ..)
  split
  · rw [neg_ab, Int32.sub_eq_add_neg, Int32.neg_neg]
  · rfl
theorem tZ_neg (k x z : Int32) : -tZ k x z = tZ k (-x) (-z) := by
  unfold tZ
  split <;> rfl
theorem tXZ_0 (k : Int32) : tX k 0 0 = 0 ∧ tZ k 0 0 = 0 := by
  unfold tX tZ
  refine ⟨?_, by split <;> rfl⟩
  split; rfl
  split; rfl
  split <;> rfl
theorem sim_moveVertex (a1 : Int32) (a2 : Int32) (a3 : Int32) (t_scn : Int32) (r_er : Nat → Int32) (g_vc : Int32) (g_ec : Int32) (g_F : Nat → Int32) (g_T : Nat → Int32) (g_X : Nat → Int32) (g_Z : Nat → Int32) (d_vc : Int32) (d_ec : Int32) (d_F : Nat → Int32) (d_T : Nat → Int32) (d_X : Nat → Int32) (d_Z : Nat → Int32) (v_pi : Nat → Nat) (v_vc : Nat → Int32) (v_ec : Nat → Int32) (v_F : Nat → Nat → Int32) (v_T : Nat → Nat → Int32) (v_X : Nat → Nat → Int32) (v_Z : Nat → Nat → Int32) (e_cn : Nat → Int32) (e_M : Nat → Nat → Int32) (s_fi : Int32) (s_ta : Int32) (s_st : Nat → Int32) (s_qu : Nat → Int32) (m_now : Nat → Int32) (m_sav : Nat → Int32) (m_sc : Int32) (m_err : Nat → Int32) (m_shf : Nat → Int32) (h : Rel t_scn r_er g_vc g_ec g_F g_T g_X g_Z v_pi v_vc v_ec v_F v_T v_X v_Z e_cn e_M s_fi s_ta s_st s_qu m_now m_sav m_sc m_err) : ∃ (o : Int32 × (Nat → Int32) × (Nat → Nat → Int32) × Int32 × (Nat → Int32) × Int32 × Int32 × (Nat → Int32) × (Nat → Int32) × (Nat → Int32) × (Nat → Int32) × Int32 × Int32 × (Nat → Int32) × (Nat → Int32) × (Nat → Int32) × (Nat → Int32) × (Nat → Nat) × (Nat → Int32) × (Nat → Int32) × (Nat → Nat → Int32) × (Nat → Nat → Int32) × (Nat → Nat → Int32) × (Nat → Nat → Int32)) (o' : Int32 × (Nat → Int32) × (Nat → Int32) × Int32 × (Nat → Int32) × (Nat → Int32)), pX5_moveVertex a1 a2 a3 e_cn e_M t_scn r_er g_vc g_ec g_F g_T g_X g_Z d_vc d_ec d_F d_T d_X d_Z v_pi v_vc v_ec v_F v_T v_X v_Z = some o ∧ pX6_moveVertex a1 a2 a3 m_now m_sav m_sc m_err m_shf = some o' ∧ o.1 = o'.1 ∧ Rel o.2.2.2.1 o.2.2.2.2.1 o.2.2.2.2.2.1 o.2.2.2.2.2.2.1 o.2.2.2.2.2.2.2.1 o.2.2.2.2.2.2.2.2.1 o.2.2.2.2.2.2.2.2.2.1 o.2.2.2.2.2.2.2.2.2.2.1 o.2.2.2.2.2.2.2.2.2.2.2.2.2.2.2.2.2.1 o.2.2.2.2.2.2.2.2.2.2.2.2.2.2.2.2.2.2.1 o.2.2.2.2.2.2.2.2.2.2.2.2.2.2.2.2.2.2.2.1 o.2.2.2.2.2.2.2.2.2.2.2.2.2.2.2.2.2.2.2.2.1 o.2.2.2.2.2.2.2.2.2.2.2.2.2.2.2.2.2.2.2.2.2.1 o.2.2.2.2.2.2.2.2.2.2.2.2.2.2.2.2.2.2.2.2.2.2.1 o.2.2.2.2.2.2.2.2.2.2.2.2.2.2.2.2.2.2.2.2.2.2.2 o.2.1 o.2.2.1 s_fi s_ta s_st s_qu o'.2.1 o'.2.2.1 o'.2.2.2.1 o'.2.2.2.2.1 := by
  obtain ⟨hG, hM, hE, hS, hR, hV⟩ := h
  obtain ⟨ne, hne, rfl⟩ := hG.ne
  rcases D_isVertex hG hM a1 with ⟨h1, h2⟩ | ⟨k, rfl, hk, hk6, h1, h2⟩
  · refine ⟨(-2, e_cn, e_M, t_scn, upd r_er 0 (r_er 0 + 1), g_vc, nI ne, g_F, g_T, g_X, g_Z, d_vc, d_ec, d_F, d_T, d_X, d_Z, v_pi, v_vc, v_ec, v_F, v_T, v_X, v_Z), (-2, m_now, m_sav, m_sc, upd m_err 0 (m_err 0 + 1), m_shf), ?_, ?_, rfl, hG, hM, hE, hS, RI_up hR 0 (by omega), hV⟩
    · unfold pX5_moveVertex; rw [h1, kb_s, if_pos rfl, fail_2, kb_s]
    · unfold pX6_moveVertex; rw [h2, kb_s, if_pos rfl, error_2, kb_s]
  rcases D_isShift a2 a3 with ⟨j2, j1⟩ | ⟨j2, j1, j3, j4, j5⟩
  · refine ⟨(-2, e_cn, e_M, t_scn, upd r_er 0 (r_er 0 + 1), g_vc, nI ne, g_F, g_T, g_X, g_Z, d_vc, d_ec, d_F, d_T, d_X, d_Z, v_pi, v_vc, v_ec, v_F, v_T, v_X, v_Z), (-2, m_now, m_sav, m_sc, upd m_err 0 (m_err 0 + 1), m_shf), ?_, ?_, rfl, hG, hM, hE, hS, RI_up hR 0 (by omega), hV⟩
    · unfold pX5_moveVertex; rw [h1, kb_s, if_neg (by decide)]
      rcases j1 with j1 | ⟨j1, j3⟩
      · rw [j1, kb_s, if_pos rfl, fail_2, kb_s]
      · rw [j1, kb_s, if_neg (by decide), j3, kb_s, if_pos rfl, fail_2, kb_s]
    · unfold pX6_moveVertex; rw [h2, kb_s, if_neg (by decide), j2, kb_s, if_pos rfl, error_2, kb_s]
  obtain ⟨X0, Z0, l1, l2, l3⟩ := rename_loop hne (nI k) a2 a3 (cpy g_F d_F ne) (cpy g_T d_T ne) (cpy g_X d_X ne) (cpy g_Z d_Z ne) ne 0 KF (cpy g_X d_X ne) (cpy g_Z d_Z ne) (by omega) (by unfold KF; omega) (SR.z _ _) (SR.z _ _)
  have hv0 := hG
  obtain ⟨nv, ne', rfl, -⟩ := hv0
  obtain ⟨s, m1, m2⟩ := mmove_loop hM hne (nI k) a2 a3 ne 0 KF m_shf (by omega) (by unfold KF; omega) (fun f hf => absurd hf (Nat.not_lt_zero _))
  have b3 : ∀ j, j < ne → X0 j = mv (g_F j) (g_T j) (nI k) a2 (g_X j) := fun j hj => by rw [l2.at hj, cpy_lt hj, cpy_lt hj, cpy_lt hj]
  have b4 : ∀ j, j < ne → Z0 j = mv (g_F j) (g_T j) (nI k) a3 (g_Z j) := fun j hj => by rw [l3.at hj, cpy_lt hj, cpy_lt hj, cpy_lt hj]
  have hD : okp X0 Z0 ne → GI (nI nv) (nI ne) (cpy g_F d_F ne) (cpy g_T d_T ne) X0 Z0 := fun hr => hG.shift hne (fun e he => cpy_lt he) (fun e he => cpy_lt he) hr (fun e he q1 q2 q3 => by
    rw [b3 e he, q1, mv_self] at q2
    rw [b4 e he, q1, mv_self] at q3
    exact ⟨q2, q3⟩) (fun e f he hf q1 q2 q3 q4 => by
    rw [b3 e he, b3 f hf, q1, q2] at q3
    rw [b4 e he, b4 f hf, q1, q2] at q4
    exact ⟨mv_inj q3, mv_inj q4⟩) (fun e f he hf q1 q2 q3 q4 => by
    rw [b3 e he, b3 f hf, mv_neg, q1, q2] at q3
    rw [b4 e he, b4 f hf, mv_neg, q1, q2] at q4
    exact ⟨mv_inj q3, mv_inj q4⟩)
  have cl : ∀ r, pX5_commitShifts e_cn e_M t_scn r_er (nI nv) (nI ne) g_F g_T g_X g_Z (nI nv) (nI ne) (cpy g_F d_F ne) (cpy g_T d_T ne) X0 Z0 v_pi v_vc v_ec v_F v_T v_X v_Z = some r → pX5_moveVertex (nI k) a2 a3 e_cn e_M t_scn r_er (nI nv) (nI ne) g_F g_T g_X g_Z d_vc d_ec d_F d_T d_X d_Z v_pi v_vc v_ec v_F v_T v_X v_Z = some (r.1, r.2.1, r.2.2.1, r.2.2.2.1, r.2.2.2.2.1, r.2.2.2.2.2.1, r.2.2.2.2.2.2.1, r.2.2.2.2.2.2.2.1, r.2.2.2.2.2.2.2.2.1, r.2.2.2.2.2.2.2.2.2.1, r.2.2.2.2.2.2.2.2.2.2.1, nI nv, nI ne, cpy g_F d_F ne, cpy g_T d_T ne, X0, Z0, r.2.2.2.2.2.2.2.2.2.2.2.1, r.2.2.2.2.2.2.2.2.2.2.2.2.1, r.2.2.2.2.2.2.2.2.2.2.2.2.2.1, r.2.2.2.2.2.2.2.2.2.2.2.2.2.2.1, r.2.2.2.2.2.2.2.2.2.2.2.2.2.2.2.1, r.2.2.2.2.2.2.2.2.2.2.2.2.2.2.2.2.1, r.2.2.2.2.2.2.2.2.2.2.2.2.2.2.2.2.2) := by
    intro r hr
    unfold pX5_moveVertex
    rw [h1, kb_s, if_neg (by decide), j1, kb_s, if_neg (by decide), j3, kb_s, if_neg (by decide), copyFrom_s hne, kb_s]
    unfold pX2_renameNodes
    simp only []
    rw [show pX2_renameNodes_L3 KF (nI k) a2 a3 0 (nI ne) (cpy g_F d_F ne) (cpy g_T d_T ne) (cpy g_X d_X ne) (cpy g_Z d_Z ne) = _ from l1, kb_s, kb_s]
    simp only []
    rw [hr, kb_s]
  have ml : ∀ r, pX6_take m_now m_sav m_sc m_err s = some r → pX6_moveVertex (nI k) a2 a3 m_now m_sav m_sc m_err m_shf = some (r.1, r.2.1, r.2.2.1, r.2.2.2.1, r.2.2.2.2, s) := by
    intro r hr
    unfold pX6_moveVertex
    rw [h2, kb_s, if_neg (by decide), j2, kb_s, if_neg (by decide), show pX6_moveVertex_L26 KF (nI k) a2 a3 0 m_now m_shf = _ from m1, kb_s, hr, kb_s]
  rcases D_shift (er := r_er) (err := m_err) (s := s) hV hne hG hM (dF := cpy g_F d_F ne) (dT := cpy g_T d_T ne) (dX := X0) (dZ := Z0) (fun e he => cpy_lt he) (fun e he => cpy_lt he) (fun f hf => by rw [b3 f hf, b4 f hf]; exact m2 f hf) hD e_cn e_M with ⟨c1, c2⟩ | ⟨c, W, cn', E', scn', F1, T1, X1, Z1, pi', vc', ec', F', T', X', Z', sav', c1, c2, c3, c4, c5, c6⟩
  · exact ⟨_, _, cl _ c1, ml _ c2, rfl, hG, hM, hE, hS, RI_up hR 3 (by omega), hV⟩
  · exact ⟨_, _, cl _ c1, ml _ c2, rfl, c4, c6, c5, hS, hR, c3⟩
theorem sim_changeBasis (a1 : Int32) (t_scn : Int32) (r_er : Nat → Int32) (g_vc : Int32) (g_ec : Int32) (g_F : Nat → Int32) (g_T : Nat → Int32) (g_X : Nat → Int32) (g_Z : Nat → Int32) (d_vc : Int32) (d_ec : Int32) (d_F : Nat → Int32) (d_T : Nat → Int32) (d_X : Nat → Int32) (d_Z : Nat → Int32) (v_pi : Nat → Nat) (v_vc : Nat → Int32) (v_ec : Nat → Int32) (v_F : Nat → Nat → Int32) (v_T : Nat → Nat → Int32) (v_X : Nat → Nat → Int32) (v_Z : Nat → Nat → Int32) (e_cn : Nat → Int32) (e_M : Nat → Nat → Int32) (s_fi : Int32) (s_ta : Int32) (s_st : Nat → Int32) (s_qu : Nat → Int32) (m_now : Nat → Int32) (m_sav : Nat → Int32) (m_sc : Int32) (m_err : Nat → Int32) (m_shf : Nat → Int32) (h : Rel t_scn r_er g_vc g_ec g_F g_T g_X g_Z v_pi v_vc v_ec v_F v_T v_X v_Z e_cn e_M s_fi s_ta s_st s_qu m_now m_sav m_sc m_err) : ∃ (o : Int32 × (Nat → Int32) × (Nat → Nat → Int32) × Int32 × (Nat → Int32) × Int32 × Int32 × (Nat → Int32) × (Nat → Int32) × (Nat → Int32) × (Nat → Int32) × Int32 × Int32 × (Nat → Int32) × (Nat → Int32) × (Nat → Int32) × (Nat → Int32) × (Nat → Nat) × (Nat → Int32) × (Nat → Int32) × (Nat → Nat → Int32) × (Nat → Nat → Int32) × (Nat → Nat → Int32) × (Nat → Nat → Int32)) (o' : Int32 × (Nat → Int32) × (Nat → Int32) × Int32 × (Nat → Int32) × (Nat → Int32)), pX5_changeBasis a1 e_cn e_M t_scn r_er g_vc g_ec g_F g_T g_X g_Z d_vc d_ec d_F d_T d_X d_Z v_pi v_vc v_ec v_F v_T v_X v_Z = some o ∧ pX6_changeBasis a1 m_now m_sav m_sc m_err m_shf = some o' ∧ o.1 = o'.1 ∧ Rel o.2.2.2.1 o.2.2.2.2.1 o.2.2.2.2.2.1 o.2.2.2.2.2.2.1 o.2.2.2.2.2.2.2.1 o.2.2.2.2.2.2.2.2.1 o.2.2.2.2.2.2.2.2.2.1 o.2.2.2.2.2.2.2.2.2.2.1 o.2.2.2.2.2.2.2.2.2.2.2.2.2.2.2.2.2.1 o.2.2.2.2.2.2.2.2.2.2.2.2.2.2.2.2.2.2.1 o.2.2.2.2.2.2.2.2.2.2.2.2.2.2.2.2.2.2.2.1 o.2.2.2.2.2.2.2.2.2.2.2.2.2.2.2.2.2.2.2.2.1 o.2.2.2.2.2.2.2.2.2.2.2.2.2.2.2.2.2.2.2.2.2.1 o.2.2.2.2.2.2.2.2.2.2.2.2.2.2.2.2.2.2.2.2.2.2.1 o.2.2.2.2.2.2.2.2.2.2.2.2.2.2.2.2.2.2.2.2.2.2.2 o.2.1 o.2.2.1 s_fi s_ta s_st s_qu o'.2.1 o'.2.2.1 o'.2.2.2.1 o'.2.2.2.2.1 := by
  obtain ⟨hG, hM, hE, hS, hR, hV⟩ := h
  obtain ⟨ne, hne, rfl⟩ := hG.ne
  rcases S_in a1 0 3 with ⟨h1, h2⟩ | ⟨h1, h2, h3⟩
  · rw [i32_0, show (3 : Int32).toInt = 3 from rfl] at h2
    refine ⟨(-2, e_cn, e_M, t_scn, upd r_er 0 (r_er 0 + 1), g_vc, nI ne, g_F, g_T, g_X, g_Z, d_vc, d_ec, d_F, d_T, d_X, d_Z, v_pi, v_vc, v_ec, v_F, v_T, v_X, v_Z), (-2, m_now, m_sav, m_sc, upd m_err 0 (m_err 0 + 1), m_shf), ?_, ?_, rfl, hG, hM, hE, hS, RI_up hR 0 (by omega), hV⟩
    · unfold pX5_changeBasis
      by_cases b : a1 < (0 : Int32)
      · rw [if_pos b, fail_2, kb_s]
      · rw [if_neg b, if_neg, fail_2, kb_s]
        rw [Int32.lt_iff_toInt_lt, i32_0] at b
        rw [Int32.le_iff_toInt_le, show (3 : Int32).toInt = 3 from rfl]; omega
    · unfold pX6_changeBasis; rw [h1, kb_s, if_pos rfl, error_2, kb_s]
  rw [i32_0] at h2
  rw [show (3 : Int32).toInt = 3 from rfl] at h3
  obtain ⟨X0, Z0, l1, l2, l3⟩ := turn_loop hne a1 (cpy g_X d_X ne) (cpy g_Z d_Z ne) ne 0 KF (cpy g_X d_X ne) (cpy g_Z d_Z ne) (by omega) (by unfold KF; omega) (SR.z _ _) (SR.z _ _)
  have hv0 := hG
  obtain ⟨nv, ne', rfl, -⟩ := hv0
  obtain ⟨s, m1, m2⟩ := mturn_loop hM hne a1 ne 0 KF m_shf (by omega) (by unfold KF; omega) (fun f hf => absurd hf (Nat.not_lt_zero _))
  have b3 : ∀ j, j < ne → X0 j = tX a1 (g_X j) (g_Z j) := fun j hj => by rw [l2.at hj, cpy_lt hj, cpy_lt hj]
  have b4 : ∀ j, j < ne → Z0 j = tZ a1 (g_X j) (g_Z j) := fun j hj => by rw [l3.at hj, cpy_lt hj, cpy_lt hj]
  have hD : okp X0 Z0 ne → GI (nI nv) (nI ne) (cpy g_F d_F ne) (cpy g_T d_T ne) X0 Z0 := fun hr => hG.shift hne (fun e he => cpy_lt he) (fun e he => cpy_lt he) hr (fun e he q1 q2 q3 => by
    rw [b3 e he] at q2
    rw [b4 e he] at q3
    exact tX_inj (q2.trans (tXZ_0 a1).1.symm) (q3.trans (tXZ_0 a1).2.symm)) (fun e f he hf q1 q2 q3 q4 => by
    rw [b3 e he, b3 f hf] at q3
    rw [b4 e he, b4 f hf] at q4
    exact tX_inj q3 q4) (fun e f he hf q1 q2 q3 q4 => by
    rw [b3 e he, b3 f hf, tX_neg] at q3
    rw [b4 e he, b4 f hf, tZ_neg] at q4
    exact tX_inj q3 q4)
  have cl : ∀ r, pX5_commitShifts e_cn e_M t_scn r_er (nI nv) (nI ne) g_F g_T g_X g_Z (nI nv) (nI ne) (cpy g_F d_F ne) (cpy g_T d_T ne) X0 Z0 v_pi v_vc v_ec v_F v_T v_X v_Z = some r → pX5_changeBasis a1 e_cn e_M t_scn r_er (nI nv) (nI ne) g_F g_T g_X g_Z d_vc d_ec d_F d_T d_X d_Z v_pi v_vc v_ec v_F v_T v_X v_Z = some (r.1, r.2.1, r.2.2.1, r.2.2.2.1, r.2.2.2.2.1, r.2.2.2.2.2.1, r.2.2.2.2.2.2.1, r.2.2.2.2.2.2.2.1, r.2.2.2.2.2.2.2.2.1, r.2.2.2.2.2.2.2.2.2.1, r.2.2.2.2.2.2.2.2.2.2.1, nI nv, nI ne, cpy g_F d_F ne, cpy g_T d_T ne, X0, Z0, r.2.2.2.2.2.2.2.2.2.2.2.1, r.2.2.2.2.2.2.2.2.2.2.2.2.1, r.2.2.2.2.2.2.2.2.2.2.2.2.2.1, r.2.2.2.2.2.2.2.2.2.2.2.2.2.2.1, r.2.2.2.2.2.2.2.2.2.2.2.2.2.2.2.1, r.2.2.2.2.2.2.2.2.2.2.2.2.2.2.2.2.1, r.2.2.2.2.2.2.2.2.2.2.2.2.2.2.2.2.2) := by
    intro r hr
    unfold pX5_changeBasis
    rw [if_neg (show ¬ a1 < (0 : Int32) by rw [Int32.lt_iff_toInt_lt, i32_0]; omega), if_pos (show a1 ≤ (3 : Int32) by rw [Int32.le_iff_toInt_le, show (3 : Int32).toInt = 3 from rfl]; omega), copyFrom_s hne, kb_s]
    unfold pX2_turnShifts
    simp only []
    rw [show pX2_turnShifts_L2 KF a1 0 (nI ne) (cpy g_X d_X ne) (cpy g_Z d_Z ne) = _ from l1, kb_s, kb_s]
    simp only []
    rw [hr, kb_s]
  have ml : ∀ r, pX6_take m_now m_sav m_sc m_err s = some r → pX6_changeBasis a1 m_now m_sav m_sc m_err m_shf = some (r.1, r.2.1, r.2.2.1, r.2.2.2.1, r.2.2.2.2, s) := by
    intro r hr
    unfold pX6_changeBasis
    rw [h1, kb_s, if_neg (by decide), show pX6_changeBasis_L18 KF a1 0 m_now m_shf = _ from m1, kb_s, hr, kb_s]
  rcases D_shift (er := r_er) (err := m_err) (s := s) hV hne hG hM (dF := cpy g_F d_F ne) (dT := cpy g_T d_T ne) (dX := X0) (dZ := Z0) (fun e he => cpy_lt he) (fun e he => cpy_lt he) (fun f hf => by rw [b3 f hf, b4 f hf]; exact m2 f hf) hD e_cn e_M with ⟨c1, c2⟩ | ⟨c, W, cn', E', scn', F1, T1, X1, Z1, pi', vc', ec', F', T', X', Z', sav', c1, c2, c3, c4, c5, c6⟩
  · exact ⟨_, _, cl _ c1, ml _ c2, rfl, hG, hM, hE, hS, RI_up hR 3 (by omega), hV⟩
  · exact ⟨_, _, cl _ c1, ml _ c2, rfl, c4, c6, c5, hS, hR, c3⟩
