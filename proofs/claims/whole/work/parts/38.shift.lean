/-! moveVertex, changeBasis -/
def SR (X X' g : Nat → Int32) (e : Nat) : Prop := ∀ j, X' j = if j < e then g j else X j
theorem SR.z (X g : Nat → Int32) : SR X X g 0 := fun j => by rw [if_neg (by omega)]
theorem SR.up {X X' X'' g : Nat → Int32} {e : Nat} (h : SR X X' g e) (h1 : X'' e = g e) (h2 : ∀ j, j ≠ e → X'' j = X' j) : SR X X'' g (e + 1) := by
  intro j
  by_cases q : j = e
  · subst q; rw [h1, if_pos (by omega)]
  · rw [h2 j q, h]
    by_cases z : j < e
    · rw [if_pos z, if_pos (by omega)]
    · rw [if_neg z, if_neg (by omega)]
theorem SR.same {X X' g : Nat → Int32} {e : Nat} (h : SR X X' g e) (h1 : g e = X e) : SR X X' g (e + 1) := h.up (by rw [h, if_neg (by omega), h1]) (fun _ _ => rfl)
theorem SR.set {X X' g : Nat → Int32} {e : Nat} {w : Int32} (h : SR X X' g e) (h1 : w = g e) : SR X (upd X' e w) g (e + 1) := h.up (by rw [upd_eq2, h1]) (fun j hj => upd_ne2 hj)
theorem SR.here {X X' g : Nat → Int32} {e : Nat} (h : SR X X' g e) : X' e = X e := by rw [h, if_neg (by omega)]
theorem SR.at {X X' g : Nat → Int32} {ne e : Nat} (h : SR X X' g ne) (he : e < ne) : X' e = g e := by rw [h, if_pos he]
def mv (f t v x X : Int32) : Int32 := if t = v then (if f = v then X - x else X) + x else (if f = v then X - x else X)
theorem mv_s (f t v x X : Int32) : X + ((if t = v then (1 : Int32) else 0) - (if f = v then (1 : Int32) else 0)) * x = mv f t v x X := by
  unfold mv
  by_cases a : t = v
  · by_cases b : f = v
    · rw [if_pos a, if_pos b, if_pos a, if_pos b, Int32.sub_self, Int32.zero_mul, Int32.add_zero, Int32.sub_add_cancel]
    · rw [if_pos a, if_neg b, if_pos a, if_neg b, Int32.sub_zero, Int32.one_mul]
  · by_cases b : f = v
    · rw [if_neg a, if_pos b, if_neg a, if_pos b, Int32.zero_sub, Int32.neg_mul, Int32.one_mul, ← Int32.sub_eq_add_neg]
    · rw [if_neg a, if_neg b, if_neg a, if_neg b, Int32.sub_self, Int32.zero_mul, Int32.add_zero]
theorem rename_loop {ne : Nat} (hne : ne ≤ 12) (v x y : Int32) (F T X Z : Nat → Int32) : ∀ (m e n : Nat) (X' Z' : Nat → Int32), e + m = ne → m < n → SR X X' (fun j => mv (F j) (T j) v x (X j)) e → SR Z Z' (fun j => mv (F j) (T j) v y (Z j)) e → ∃ X1 Z1, pX2_renameNodes_L3 n v x y (nI e) (nI ne) F T X' Z' = some (nI ne, X1, Z1) ∧ SR X X1 (fun j => mv (F j) (T j) v x (X j)) ne ∧ SR Z Z1 (fun j => mv (F j) (T j) v y (Z j)) ne := by
  intro m
  induction m with
  | zero =>
    intro e n X' Z' he hn a b
    obtain ⟨n, rfl⟩ : ∃ k, n = k + 1 := ⟨n - 1, by omega⟩
    have he : e = ne := he
    subst he
    exact ⟨X', Z', by rw [pX2_renameNodes_L3, if_pos (nI_le (Nat.le_refl _) (by omega))], a, b⟩
  | succ m ih =>
    intro e n X' Z' he hn a b
    obtain ⟨n, rfl⟩ : ∃ k, n = k + 1 := ⟨n - 1, by omega⟩
    rw [pX2_renameNodes_L3, if_neg (nI_ge (by omega) (by omega)), kin_nI (show e < 12 by omega) (by omega), c_nI (by omega), nI_1]
    simp only [kgd_tt]
    by_cases q : F e = v
    · rw [if_pos q, kb_s]
      simp only []
      by_cases r : T e = v
      · rw [if_pos r, kb_s]
        simp only []
        refine ih (e + 1) n _ _ (by omega) (by omega) (a.up ?_ ?_) (b.up ?_ ?_)
        · rw [upd_eq2, upd_eq2, a.here]; show _ = mv (F e) (T e) v x (X e); unfold mv; rw [if_pos r, if_pos q]
        · intro j hj; rw [upd_ne2 hj, upd_ne2 hj]
        · rw [upd_eq2, upd_eq2, b.here]; show _ = mv (F e) (T e) v y (Z e); unfold mv; rw [if_pos r, if_pos q]
        · intro j hj; rw [upd_ne2 hj, upd_ne2 hj]
      · rw [if_neg r, kb_s]
        simp only []
        refine ih (e + 1) n _ _ (by omega) (by omega) (a.set ?_) (b.set ?_)
        · rw [a.here]; show _ = mv (F e) (T e) v x (X e); unfold mv; rw [if_neg r, if_pos q]
        · rw [b.here]; show _ = mv (F e) (T e) v y (Z e); unfold mv; rw [if_neg r, if_pos q]
    · rw [if_neg q, kb_s]
      simp only []
      by_cases r : T e = v
      · rw [if_pos r, kb_s]
        simp only []
        refine ih (e + 1) n _ _ (by omega) (by omega) (a.set ?_) (b.set ?_)
        · rw [a.here]; show _ = mv (F e) (T e) v x (X e); unfold mv; rw [if_pos r, if_neg q]
        · rw [b.here]; show _ = mv (F e) (T e) v y (Z e); unfold mv; rw [if_pos r, if_neg q]
      · rw [if_neg r, kb_s]
        simp only []
        refine ih (e + 1) n _ _ (by omega) (by omega) (a.same ?_) (b.same ?_)
        · show mv (F e) (T e) v x (X e) = _; unfold mv; rw [if_neg r, if_neg q]
        · show mv (F e) (T e) v y (Z e) = _; unfold mv; rw [if_neg r, if_neg q]
def tX (k x z : Int32) : Int32 := if k = 0 then z else if k = 1 then x + z else if k = 2 then x - z else -x
def tZ (k x z : Int32) : Int32 := if k = 0 then x else z
theorem turn_loop {ne : Nat} (hne : ne ≤ 12) (k : Int32) (X Z : Nat → Int32) : ∀ (m e n : Nat) (X' Z' : Nat → Int32), e + m = ne → m < n → SR X X' (fun j => tX k (X j) (Z j)) e → SR Z Z' (fun j => tZ k (X j) (Z j)) e → ∃ X1 Z1, pX2_turnShifts_L2 n k (nI e) (nI ne) X' Z' = some (nI ne, X1, Z1) ∧ SR X X1 (fun j => tX k (X j) (Z j)) ne ∧ SR Z Z1 (fun j => tZ k (X j) (Z j)) ne := by
  intro m
  induction m with
  | zero =>
    intro e n X' Z' he hn a b
    obtain ⟨n, rfl⟩ : ∃ k, n = k + 1 := ⟨n - 1, by omega⟩
    have he : e = ne := he
    subst he
    exact ⟨X', Z', by rw [pX2_turnShifts_L2, if_pos (nI_le (Nat.le_refl _) (by omega))], a, b⟩
  | succ m ih =>
    intro e n X' Z' he hn a b
    obtain ⟨n, rfl⟩ : ∃ k, n = k + 1 := ⟨n - 1, by omega⟩
    rw [pX2_turnShifts_L2, if_neg (nI_ge (by omega) (by omega)), kin_nI (show e < 12 by omega) (by omega), c_nI (by omega), nI_1]
    simp only [kgd_tt]
    by_cases k0 : k = 0
    · rw [if_pos k0]
      exact ih (e + 1) n _ _ (by omega) (by omega) (a.set (by rw [b.here]; show _ = tX k (X e) (Z e); unfold tX; rw [if_pos k0])) (b.set (by rw [a.here]; show _ = tZ k (X e) (Z e); unfold tZ; rw [if_pos k0]))
    · rw [if_neg k0]
      by_cases k1 : k = 1
      · rw [if_pos k1]
        exact ih (e + 1) n _ _ (by omega) (by omega) (a.set (by rw [a.here, b.here]; show _ = tX k (X e) (Z e); unfold tX; rw [if_neg k0, if_pos k1])) (b.same (by show tZ k (X e) (Z e) = _; unfold tZ; rw [if_neg k0]))
      · rw [if_neg k1]
        by_cases k2 : k = 2
        · rw [if_pos k2]
          exact ih (e + 1) n _ _ (by omega) (by omega) (a.set (by rw [a.here, b.here]; show _ = tX k (X e) (Z e); unfold tX; rw [if_neg k0, if_neg k1, if_pos k2])) (b.same (by show tZ k (X e) (Z e) = _; unfold tZ; rw [if_neg k0]))
        · rw [if_neg k2]
          exact ih (e + 1) n _ _ (by omega) (by omega) (a.set (by rw [a.here]; show _ = tX k (X e) (Z e); unfold tX; rw [if_neg k0, if_neg k1, if_neg k2])) (b.same (by show tZ k (X e) (Z e) = _; unfold tZ; rw [if_neg k0]))
theorem mmove_loop {now : Nat → Int32} {nv ne : Nat} {F T X Z : Nat → Int32} (hM : MI now 0 (nI nv) (nI ne) F T X Z) (hne : ne ≤ 12) (v x y : Int32) : ∀ (m e n : Nat) (s : Nat → Int32), e + m = ne → m < n → (∀ f, f < e → s (2 * f) = mv (F f) (T f) v x (X f) ∧ s (2 * f + 1) = mv (F f) (T f) v y (Z f)) → ∃ s', pX6_moveVertex_L26 n v x y (nI e) now s = some (nI ne, s') ∧ ∀ f, f < ne → s' (2 * f) = mv (F f) (T f) v x (X f) ∧ s' (2 * f + 1) = mv (F f) (T f) v y (Z f) := by
  have q1 : now (1 : Int32).toNatClampNeg = nI ne := hM.2.1
  intro m
  induction m with
  | zero =>
    intro e n s he hn a
    obtain ⟨n, rfl⟩ : ∃ k, n = k + 1 := ⟨n - 1, by omega⟩
    have he : e = ne := he
    subst he
    exact ⟨s, by rw [pX6_moveVertex_L26, show kin 1 50 = true from rfl, kgd_tt, q1, if_pos (nI_le (Nat.le_refl _) (by omega))], a⟩
  | succ m ih =>
    intro e n s he hn a
    obtain ⟨n, rfl⟩ : ∃ k, n = k + 1 := ⟨n - 1, by omega⟩
    obtain ⟨p1, p2, p3, p4⟩ := hM.2.2 e (by rw [nI_toInt (by omega)]; omega)
    rw [Nat.zero_add] at p1 p2 p3 p4
    have o0 : pX6_of (nI e) 0 now = some (F e) := by rw [← p1]; exact of_k (show e < 12 by omega) (k := 0) (by omega)
    have o1 : pX6_of (nI e) 1 now = some (T e) := by rw [← p2]; exact of_k (show e < 12 by omega) (k := 1) (by omega)
    have o2 : pX6_of (nI e) 2 now = some (X e) := by rw [← p3]; exact of_k (show e < 12 by omega) (k := 2) (by omega)
    have o3 : pX6_of (nI e) 3 now = some (Z e) := by rw [← p4]; exact of_k (show e < 12 by omega) (k := 3) (by omega)
    have j1 : ((if T e = v then some 1 else some 0) : Option Int32) = some (if T e = v then 1 else 0) := by split <;> rfl
    have j2 : ((if F e = v then some 1 else some 0) : Option Int32) = some (if F e = v then 1 else 0) := by split <;> rfl
    rw [pX6_moveVertex_L26, show kin 1 50 = true from rfl, kgd_tt, q1, if_neg (nI_ge (by omega) (by omega)), o1, kb_s, j1, kb_s, o0, kb_s, j2, kb_s, o2, kb_s, o3, kb_s, nI_mulc 2 (show (2 : Int32) = nI 2 from rfl), nI_1, kin_nI (by omega) (by omega), kin_nI (by omega) (by omega), c_nI (by omega), c_nI (by omega), nI_1, mv_s, mv_s]
    simp only [kgd_tt]
    refine ih (e + 1) n _ (by omega) (by omega) (fun f hf => ?_)
    by_cases q : f = e
    · subst q
      exact ⟨by rw [upd_ne2 (by omega), upd_eq2], upd_eq2⟩
    · obtain ⟨b1, b2⟩ := a f (by omega)
      rw [upd_ne2 (by omega), upd_ne2 (by omega), upd_ne2 (by omega), upd_ne2 (by omega)]
      exact ⟨b1, b2⟩
theorem mturn_loop {now : Nat → Int32} {nv ne : Nat} {F T X Z : Nat → Int32} (hM : MI now 0 (nI nv) (nI ne) F T X Z) (hne : ne ≤ 12) (k : Int32) : ∀ (m e n : Nat) (s : Nat → Int32), e + m = ne → m < n → (∀ f, f < e → s (2 * f) = tX k (X f) (Z f) ∧ s (2 * f + 1) = tZ k (X f) (Z f)) → ∃ s', pX6_changeBasis_L18 n k (nI e) now s = some (nI ne, s') ∧ ∀ f, f < ne → s' (2 * f) = tX k (X f) (Z f) ∧ s' (2 * f + 1) = tZ k (X f) (Z f) := by
  have q1 : now (1 : Int32).toNatClampNeg = nI ne := hM.2.1
  intro m
  induction m with
  | zero =>
    intro e n s he hn a
    obtain ⟨n, rfl⟩ : ∃ k, n = k + 1 := ⟨n - 1, by omega⟩
    have he : e = ne := he
    subst he
    exact ⟨s, by rw [pX6_changeBasis_L18, show kin 1 50 = true from rfl, kgd_tt, q1, if_pos (nI_le (Nat.le_refl _) (by omega))], a⟩
  | succ m ih =>
    intro e n s he hn a
    obtain ⟨n, rfl⟩ : ∃ k, n = k + 1 := ⟨n - 1, by omega⟩
    obtain ⟨p1, p2, p3, p4⟩ := hM.2.2 e (by rw [nI_toInt (by omega)]; omega)
    rw [Nat.zero_add] at p3 p4
    have o2 : pX6_of (nI e) 2 now = some (X e) := by rw [← p3]; exact of_k (show e < 12 by omega) (k := 2) (by omega)
    have o3 : pX6_of (nI e) 3 now = some (Z e) := by rw [← p4]; exact of_k (show e < 12 by omega) (k := 3) (by omega)
    have j1 : ((if k = 0 then some (Z e) else (if k = (1 : Int32) then some (X e + Z e) else (if k = (2 : Int32) then some (X e - Z e) else some (-X e)))) : Option Int32) = some (tX k (X e) (Z e)) := by unfold tX; split; rfl; split; rfl; split <;> rfl
    have j2 : ((if k = 0 then some (X e) else some (Z e)) : Option Int32) = some (tZ k (X e) (Z e)) := by unfold tZ; split <;> rfl
    rw [pX6_changeBasis_L18, show kin 1 50 = true from rfl, kgd_tt, q1, if_neg (nI_ge (by omega) (by omega)), o2, kb_s, o3, kb_s, j1, kb_s, j2, kb_s, nI_mulc 2 (show (2 : Int32) = nI 2 from rfl), nI_1, kin_nI (by omega) (by omega), kin_nI (by omega) (by omega), c_nI (by omega), c_nI (by omega), nI_1]
    simp only [kgd_tt]
    refine ih (e + 1) n _ (by omega) (by omega) (fun f hf => ?_)
    by_cases q : f = e
    · subst q
      exact ⟨by rw [upd_ne2 (by omega), upd_eq2], upd_eq2⟩
    · obtain ⟨b1, b2⟩ := a f (by omega)
      rw [upd_ne2 (by omega), upd_ne2 (by omega), upd_ne2 (by omega), upd_ne2 (by omega)]
      exact ⟨b1, b2⟩
