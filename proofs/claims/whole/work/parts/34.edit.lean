/-! copies of graphs, the ends' listing, saved states -/
def cpy (f g : Nat → Int32) (n : Nat) : Nat → Int32 := fun j => if j < n then f j else g j
theorem cpy_lt {f g : Nat → Int32} {n j : Nat} (h : j < n) : cpy f g n j = f j := if_pos h
theorem cpy_0 (f g : Nat → Int32) : cpy f g 0 = g := funext fun j => if_neg (Nat.not_lt_zero j)
theorem cpy_up (f g : Nat → Int32) (n : Nat) : upd (cpy f g n) n (f n) = cpy f g (n + 1) := by
  funext j
  unfold upd cpy
  by_cases h : j = n
  · rw [if_pos h, if_pos (by omega), h]
  · rw [if_neg h]
    by_cases h2 : j < n
    · rw [if_pos h2, if_pos (by omega)]
    · rw [if_neg h2, if_neg (by omega)]
theorem append_s {e : Nat} (he : e < 12) (a b x z : Int32) (F T X Z : Nat → Int32) : pX2_append a b x z (nI e) F T X Z = some (nI (e + 1), upd F e a, upd T e b, upd X e x, upd Z e z) := by
  unfold pX2_append pX2_setEdge
  rw [if_neg (show ¬ (12 : Int32) ≤ nI e from nI_ge (a := e) (b := 12) he (by omega)), kin_nI he (by omega), c_nI (by omega)]
  simp only [kgd_tt, kb_s, nI_1]
theorem copy_loop {ne : Nat} (hne : ne ≤ 12) (F T X Z oF oT oX oZ : Nat → Int32) : ∀ (m e n : Nat), e + m = ne → m < n → pX2_copyFrom_L10 n (nI e) (nI e) (cpy oF F e) (cpy oT T e) (cpy oX X e) (cpy oZ Z e) (nI ne) oF oT oX oZ = some (nI ne, nI ne, cpy oF F ne, cpy oT T ne, cpy oX X ne, cpy oZ Z ne) := by
  intro m
  induction m with
  | zero =>
    intro e n he hn
    obtain ⟨n, rfl⟩ : ∃ k, n = k + 1 := ⟨n - 1, by omega⟩
    have he : e = ne := he
    subst he
    rw [pX2_copyFrom_L10, if_pos (nI_le (Nat.le_refl _) (by omega))]
  | succ m ih =>
    intro e n he hn
    obtain ⟨n, rfl⟩ : ∃ k, n = k + 1 := ⟨n - 1, by omega⟩
    rw [pX2_copyFrom_L10, if_neg (nI_ge (by omega) (by omega)), kin_nI (show e < 12 by omega) (by omega), c_nI (by omega)]
    simp only [kgd_tt]
    rw [append_s (by omega), kb_s, nI_1]
    simp only [cpy_up]
    exact ih (e + 1) n (by omega) (by omega)
theorem copyFrom_s {ne : Nat} (hne : ne ≤ 12) (vc ec : Int32) (F T X Z : Nat → Int32) (ovc : Int32) (oF oT oX oZ : Nat → Int32) : pX2_copyFrom vc ec F T X Z ovc (nI ne) oF oT oX oZ = some (ovc, nI ne, cpy oF F ne, cpy oT T ne, cpy oX X ne, cpy oZ Z ne) := by
  have h := copy_loop hne F T X Z oF oT oX oZ ne 0 KF (by omega) (by unfold KF; omega)
  rw [cpy_0, cpy_0, cpy_0, cpy_0] at h
  unfold pX2_copyFrom pX2_clear
  rw [kb_s, show (0 : Int32) = nI 0 from rfl, h, kb_s]
/-- the same edges below the count: the same invariants -/
theorem GI.congr {vc : Int32} {ne : Nat} {F T X Z F' T' X' Z' : Nat → Int32} (hne : ne ≤ 12) (h : GI vc (nI ne) F T X Z) (hF : ∀ e, e < ne → F' e = F e) (hT : ∀ e, e < ne → T' e = T e) (hX : ∀ e, e < ne → X' e = X e) (hZ : ∀ e, e < ne → Z' e = Z e) : GI vc (nI ne) F' T' X' Z' := by
  obtain ⟨nv, ne', h1, h2, h3, h4, h5, h6, h7⟩ := h
  have : ne = ne' := by
    have := congrArg Int32.toInt h2
    rw [nI_toInt (by omega), nI_toInt (by omega)] at this
    omega
  subst this
  refine ⟨nv, ne, h1, rfl, h3, h4, h5, fun e he => ?_, fun e f hef hf => ?_⟩
  · rw [hF e he, hT e he, hX e he, hZ e he]; exact h6 e he
  · rw [hF e (by omega), hT e (by omega), hX e (by omega), hZ e (by omega), hF f hf, hT f hf, hX f hf, hZ f hf]
    exact h7 e f hef hf
theorem MI.congr {m : Nat → Int32} {k : Nat} {vc : Int32} {ne : Nat} {F T X Z F' T' X' Z' : Nat → Int32} (hne : ne ≤ 12) (h : MI m k vc (nI ne) F T X Z) (hF : ∀ e, e < ne → F' e = F e) (hT : ∀ e, e < ne → T' e = T e) (hX : ∀ e, e < ne → X' e = X e) (hZ : ∀ e, e < ne → Z' e = Z e) : MI m k vc (nI ne) F' T' X' Z' := by
  refine ⟨h.1, h.2.1, fun e he => ?_⟩
  have he' : e < ne := by rw [nI_toInt (by omega)] at he; omega
  rw [hF e he', hT e he', hX e he', hZ e he']
  exact h.2.2 e he
/-- another place for the same block -/
theorem MI.move {m m' : Nat → Int32} {k k' : Nat} {vc : Int32} {ne : Nat} {F T X Z : Nat → Int32} (hne : ne ≤ 12) (h : MI m k vc (nI ne) F T X Z) (hm : ∀ i, i < 50 → m' (k' + i) = m (k + i)) : MI m' k' vc (nI ne) F T X Z := by
  refine ⟨(hm 0 (by omega)).trans h.1, (hm 1 (by omega)).trans h.2.1, fun e he => ?_⟩
  have he' : e < ne := by rw [nI_toInt (by omega)] at he; omega
  obtain ⟨a, b, c, d⟩ := h.2.2 e he
  have q := fun i (hi : i < 50) => hm i hi
  refine ⟨?_, ?_, ?_, ?_⟩
  · rw [show k' + 2 + 4 * e = k' + (2 + 4 * e) by omega, q _ (by omega), ← a, show k + 2 + 4 * e = k + (2 + 4 * e) by omega]
  · rw [show k' + 2 + 4 * e + 1 = k' + (2 + 4 * e + 1) by omega, q _ (by omega), ← b, show k + 2 + 4 * e + 1 = k + (2 + 4 * e + 1) by omega]
  · rw [show k' + 2 + 4 * e + 2 = k' + (2 + 4 * e + 2) by omega, q _ (by omega), ← c, show k + 2 + 4 * e + 2 = k + (2 + 4 * e + 2) by omega]
  · rw [show k' + 2 + 4 * e + 3 = k' + (2 + 4 * e + 3) by omega, q _ (by omega), ← d, show k + 2 + 4 * e + 3 = k + (2 + 4 * e + 3) by omega]
/-! the ends -/
def EJ (cn : Nat → Int32) (E : Nat → Nat → Int32) (F T X Z : Nat → Int32) (J : Nat) : Prop := ∀ v, v < 6 → cn v = nI (ecnt F T (nI v) J) ∧ ∀ j, j < J → eV F T j = nI v → E v (ecnt F T (nI v) j) = eV T F j ∧ E (6 + v) (ecnt F T (nI v) j) = eX X j ∧ E (12 + v) (ecnt F T (nI v) j) = eX Z j
theorem va_up_ne2 {α : Type} {f : Nat → α} {k j : Nat} {v : α} (h : j ≠ k) : va_up f k v j = f j := if_neg h
theorem va_up_eq2 {α : Type} {f : Nat → α} {k : Nat} {v : α} : va_up f k v k = v := if_pos rfl
theorem put_s {v c : Nat} (hv : v < 6) (hc : c < 24) (w x z : Int32) (cn : Nat → Int32) (E : Nat → Nat → Int32) (hcn : cn v = nI c) : ∃ E', pX1_put (nI v) w x z cn E = some (upd cn v (nI (c + 1)), E') ∧ E' v c = w ∧ E' (6 + v) c = x ∧ E' (12 + v) c = z ∧ ∀ r i, ¬ (i = c ∧ (r = v ∨ r = 6 + v ∨ r = 12 + v)) → E' r i = E r i := by
  unfold pX1_put
  rw [kin_nI hv (by omega), kgd_tt, c_nI (n := v) (by omega), hcn, if_neg (show ¬ (24 : Int32) ≤ nI c from nI_ge (a := c) (b := 24) hc (by omega)), kin_nI hc (by omega), show decide (0 + v < 18) = true from decide_eq_true (by omega), show decide (6 + v < 18) = true from decide_eq_true (by omega), show decide (12 + v < 18) = true from decide_eq_true (by omega), c_nI (n := c) (by omega)]
  simp only [kgd_tt, nI_1]
  refine ⟨_, rfl, ?_, ?_, ?_, ?_⟩
  · rw [va_up_ne2 (by omega), va_up_ne2 (by omega), Nat.zero_add, va_up_eq2]; exact if_pos rfl
  · rw [va_up_ne2 (by omega), va_up_eq2]; exact if_pos rfl
  · rw [va_up_eq2]; exact if_pos rfl
  · intro r i h
    by_cases h1 : r = 12 + v
    · subst h1
      have hi : i ≠ c := fun e => h ⟨e, Or.inr (Or.inr rfl)⟩
      rw [va_up_eq2]
      show upd _ _ _ i = _
      rw [show upd (va_up (va_up E (0 + v) (upd (E (0 + v)) c w)) (6 + v) (upd (va_up E (0 + v) (upd (E (0 + v)) c w) (6 + v)) c x) (12 + v)) c z i = _ from if_neg hi, va_up_ne2 (by omega), va_up_ne2 (by omega)]
    · rw [va_up_ne2 h1]
      by_cases h2 : r = 6 + v
      · subst h2
        have hi : i ≠ c := fun e => h ⟨e, Or.inr (Or.inl rfl)⟩
        rw [va_up_eq2, show upd (va_up E (0 + v) (upd (E (0 + v)) c w) (6 + v)) c x i = _ from if_neg hi, va_up_ne2 (by omega)]
      · rw [va_up_ne2 h2]
        by_cases h3 : r = 0 + v
        · subst h3
          have hi : i ≠ c := fun e => h ⟨e, Or.inl (by omega)⟩
          rw [va_up_eq2, show upd (E (0 + v)) c w i = _ from if_neg hi]
        · rw [va_up_ne2 h3]
theorem nI_inj {a b : Nat} (ha : a < 2 ^ 31) (hb : b < 2 ^ 31) (h : nI a = nI b) : a = b := (nI_eq ha hb).mp h
theorem put_EJ {F T X Z : Nat → Int32} {J : Nat} (hJ : J < 24) {cn : Nat → Int32} {E : Nat → Nat → Int32} (h : EJ cn E F T X Z J) {v : Nat} (hv : v < 6) (hV : eV F T J = nI v) : ∃ cn' E', pX1_put (nI v) (eV T F J) (eX X J) (eX Z J) cn E = some (cn', E') ∧ EJ cn' E' F T X Z (J + 1) := by
  have hc := ecnt_le F T (nI v) J
  obtain ⟨E', h1, h2, h3, h4, h5⟩ := put_s hv (c := ecnt F T (nI v) J) (by omega) (eV T F J) (eX X J) (eX Z J) cn E (h v hv).1
  refine ⟨_, E', h1, fun u hu => ?_⟩
  obtain ⟨a1, a2⟩ := h u hu
  by_cases q : u = v
  · subst q
    have e1 : ecnt F T (nI u) (J + 1) = ecnt F T (nI u) J + 1 := if_pos hV
    refine ⟨by rw [e1]; exact if_pos rfl, fun j hj hjv => ?_⟩
    by_cases z : j = J
    · subst z; exact ⟨h2, h3, h4⟩
    · have hlt := ecnt_lt (F := F) (T := T) (v := nI u) (show j < J by omega) hjv
      obtain ⟨b1, b2, b3⟩ := a2 j (by omega) hjv
      rw [h5 _ _ (by omega), h5 _ _ (by omega), h5 _ _ (by omega)]
      exact ⟨b1, b2, b3⟩
  · have e1 : ecnt F T (nI u) (J + 1) = ecnt F T (nI u) J := if_neg (fun e => q (nI_inj (by omega) (by omega) (e.symm.trans hV)))
    refine ⟨by rw [e1, ← a1]; exact if_neg q, fun j hj hjv => ?_⟩
    have z : j ≠ J := fun e => q (nI_inj (by omega) (by omega) (by rw [← hjv, e, hV]))
    obtain ⟨b1, b2, b3⟩ := a2 j (by omega) hjv
    rw [h5 _ _ (by omega), h5 _ _ (by omega), h5 _ _ (by omega)]
    exact ⟨b1, b2, b3⟩
theorem zero_loop : ∀ (m k n : Nat) (cn : Nat → Int32), k + m = 6 → m < n → (∀ i, i < k → cn i = 0) → ∃ cn', pX1_listAll_L2 n (nI k) cn = some (nI 6, cn') ∧ ∀ i, i < 6 → cn' i = 0 := by
  intro m
  induction m with
  | zero =>
    intro k n cn hk hn h
    obtain ⟨n, rfl⟩ : ∃ k, n = k + 1 := ⟨n - 1, by omega⟩
    have hk : k = 6 := hk
    subst hk
    exact ⟨cn, by rw [pX1_listAll_L2, if_pos (by decide)], h⟩
  | succ m ih =>
    intro k n cn hk hn h
    obtain ⟨n, rfl⟩ : ∃ k, n = k + 1 := ⟨n - 1, by omega⟩
    rw [pX1_listAll_L2, if_neg (show ¬ (6 : Int32) ≤ nI k from nI_ge (a := k) (b := 6) (by omega) (by omega)), kin_nI (by omega) (by omega), kgd_tt, c_nI (by omega), nI_1]
    refine ih (k + 1) n _ (by omega) (by omega) (fun i hi => ?_)
    by_cases q : i = k
    · exact if_pos q
    · rw [show upd cn k 0 i = cn i from if_neg q]; exact h i (by omega)
theorem list_loop {ne : Nat} {F T X Z : Nat → Int32} (hne : ne ≤ 12) (hF : ∀ e, e < ne → ∃ v, v < 6 ∧ F e = nI v) (hT : ∀ e, e < ne → ∃ v, v < 6 ∧ T e = nI v) : ∀ (m e n : Nat) (cn : Nat → Int32) (E : Nat → Nat → Int32), e + m = ne → m < n → EJ cn E F T X Z (2 * e) → ∃ cn' E', pX1_listAll_L23 n (nI e) cn E (nI ne) F T X Z = some (nI ne, cn', E') ∧ EJ cn' E' F T X Z (2 * ne) := by
  intro m
  induction m with
  | zero =>
    intro e n cn E he hn h
    obtain ⟨n, rfl⟩ : ∃ k, n = k + 1 := ⟨n - 1, by omega⟩
    have he : e = ne := he
    subst he
    exact ⟨cn, E, by rw [pX1_listAll_L23, if_pos (nI_le (Nat.le_refl _) (by omega))], h⟩
  | succ m ih =>
    intro e n cn E he hn h
    obtain ⟨n, rfl⟩ : ∃ k, n = k + 1 := ⟨n - 1, by omega⟩
    obtain ⟨v, hv, hv2⟩ := hF e (by omega)
    obtain ⟨w, hw, hw2⟩ := hT e (by omega)
    have m0 : 2 * e % 2 = 0 := by omega
    have m1 : ¬ (2 * e + 1) % 2 = 0 := by omega
    have q0 : 2 * e / 2 = e := by omega
    have q1 : (2 * e + 1) / 2 = e := by omega
    have a0 : eV F T (2 * e) = F e := by unfold eV; rw [if_pos m0, q0]
    have a1 : eV T F (2 * e) = T e := by unfold eV; rw [if_pos m0, q0]
    have a2 : eX X (2 * e) = X e := by unfold eX; rw [if_pos m0, q0]
    have a3 : eX Z (2 * e) = Z e := by unfold eX; rw [if_pos m0, q0]
    have b0 : eV F T (2 * e + 1) = T e := by unfold eV; rw [if_neg m1, q1]
    have b1 : eV T F (2 * e + 1) = F e := by unfold eV; rw [if_neg m1, q1]
    have b2 : eX X (2 * e + 1) = -X e := by unfold eX; rw [if_neg m1, q1]
    have b3 : eX Z (2 * e + 1) = -Z e := by unfold eX; rw [if_neg m1, q1]
    obtain ⟨cn1, E1, c1, c2⟩ := put_EJ (J := 2 * e) (by omega) h hv (a0.trans hv2)
    obtain ⟨cn2, E2, d1, d2⟩ := put_EJ (J := 2 * e + 1) (by omega) c2 hw (b0.trans hw2)
    rw [a1, a2, a3, ← hv2] at c1
    rw [b1, b2, b3, ← hw2] at d1
    rw [pX1_listAll_L23, if_neg (nI_ge (by omega) (by omega)), kin_nI (show e < 12 by omega) (by omega), c_nI (by omega)]
    simp only [kgd_tt]
    rw [c1, kb_s]
    simp only [kgd_tt]
    rw [d1, kb_s, nI_1]
    exact ih (e + 1) n cn2 E2 (by omega) (by omega) d2
theorem GI.ends {vc : Int32} {ne : Nat} {F T X Z : Nat → Int32} (hne : ne ≤ 12) (h : GI vc (nI ne) F T X Z) : (∀ e, e < ne → ∃ v, v < 6 ∧ F e = nI v ∧ (v : Int) < vc.toInt) ∧ ∀ e, e < ne → ∃ v, v < 6 ∧ T e = nI v ∧ (v : Int) < vc.toInt := by
  obtain ⟨nv, ne', rfl, h2, h3, h4, h5, h6, -⟩ := h
  have : ne = ne' := nI_inj (by omega) (by omega) h2
  subst this
  refine ⟨fun e he => ?_, fun e he => ?_⟩
  · obtain ⟨a, -⟩ := h6 e he
    exact ⟨(F e).toInt.toNat, by omega, i_nat a.1, by rw [nI_toInt (by omega)]; omega⟩
  · obtain ⟨-, a, -⟩ := h6 e he
    exact ⟨(T e).toInt.toNat, by omega, i_nat a.1, by rw [nI_toInt (by omega)]; omega⟩
theorem listAll_s {vc : Int32} {ne : Nat} {F T X Z : Nat → Int32} (hne : ne ≤ 12) (hG : GI vc (nI ne) F T X Z) (cn : Nat → Int32) (E : Nat → Nat → Int32) : ∃ cn' E', pX1_listAll cn E (nI ne) F T X Z = some (cn', E') ∧ EI cn' E' (nI ne) F T X Z := by
  obtain ⟨hF, hT⟩ := hG.ends hne
  obtain ⟨c0, a1, a2⟩ := zero_loop 6 0 KF cn (by omega) (by unfold KF; omega) (fun i h => absurd h (Nat.not_lt_zero _))
  obtain ⟨c1, E1, b1, b2⟩ := list_loop (X := X) (Z := Z) hne (fun e he => by obtain ⟨v, p, q, -⟩ := hF e he; exact ⟨v, p, q⟩) (fun e he => by obtain ⟨v, p, q, -⟩ := hT e he; exact ⟨v, p, q⟩) ne 0 KF c0 E (by omega) (by unfold KF; omega) (fun v hv => ⟨a2 v hv, fun j hj => absurd hj (Nat.not_lt_zero _)⟩)
  refine ⟨c1, E1, ?_, ?_⟩
  · unfold pX1_listAll; rw [show (0 : Int32) = nI 0 from rfl, a1, kb_s, b1, kb_s]
  · intro v hv
    rw [c_nI (by omega)]
    exact b2 v hv
