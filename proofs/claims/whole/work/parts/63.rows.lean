/-! the rows on either side -/
def aeL (a b u : Nat) (x y : Int64) (R : Nat → Nat → Int64) (r c : Nat) : Int64 := if r + 1 = a then (if c = u then R r c + x else if c = u + 1 then R r c + y else if c + 1 = b then (if c + 1 = a then R r c + 1 - 1 else R r c - 1) else if c + 1 = a then R r c + 1 else R r c) else R r c
theorem addEnd_s {a b u : Nat} (hu : u ≤ 5) (ha : a ≤ u) (hb : b ≤ u) (x y : Int32) (R : Nat → Nat → Int64) : ∃ R', pX3_addEnd (nI a) (nI b) x y R (nI u) = some R' ∧ ∀ r c, R' r c = aeL a b u x.toInt64 y.toInt64 R r c := by
  rcases Nat.eq_zero_or_pos a with h | h
  · subst h
    exact ⟨R, by unfold pX3_addEnd; rw [if_pos (by decide)], fun r c => by unfold aeL; rw [if_neg (by omega)]⟩
  · obtain ⟨a, rfl⟩ : ∃ k, a = k + 1 := ⟨a - 1, by omega⟩
    unfold pX3_addEnd
    rw [if_neg (nI_nle (by omega) (by omega)), nI_pred, kin_nI (show a < 5 by omega) (by omega), kin_nI (show a < 7 by omega) (by omega), c_nI (n := a) (by omega), Nat.zero_add, decide_eq_true (show a < 5 by omega), kin_nI (show u < 7 by omega) (by omega), c_nI (n := u) (by omega), nI_1, kin_nI (show u + 1 < 7 by omega) (by omega), c_nI (n := u + 1) (by omega)]
    simp only [kgd_tt]
    have fin : ∀ R1 : Nat → Nat → Int64, (∀ r c, c < u → R1 r c = aeL (a + 1) b u x.toInt64 y.toInt64 R r c) → (∀ r c, u ≤ c → R1 r c = R r c) → ∀ r c, va_up (va_up R1 a (vp_updL (R1 a) u (R1 a u + x.toInt64))) a (vp_updL (va_up R1 a (vp_updL (R1 a) u (R1 a u + x.toInt64)) a) (u + 1) (va_up R1 a (vp_updL (R1 a) u (R1 a u + x.toInt64)) a (u + 1) + y.toInt64)) r c = aeL (a + 1) b u x.toInt64 y.toInt64 R r c := by
      intro R1 h1 h2 r c
      by_cases hr : r = a
      · subst hr
        by_cases c1 : c = u + 1
        · subst c1
          rw [set2_eq, set2_ne (by omega), h2 _ _ (by omega)]
          unfold aeL
          rw [if_pos rfl, if_neg (by omega), if_pos rfl]
        · rw [set2_ne (by omega)]
          by_cases c2 : c = u
          · subst c2
            rw [set2_eq, h2 _ _ (by omega)]
            unfold aeL
            rw [if_pos rfl, if_pos rfl]
          · rw [set2_ne (by omega)]
            by_cases c3 : c < u
            · exact h1 _ _ c3
            · rw [h2 _ _ (by omega)]
              unfold aeL
              rw [if_pos rfl, if_neg c2, if_neg c1, if_neg (by omega), if_neg (by omega)]
      · rw [set2_ne (fun e => hr e.1), set2_ne (fun e => hr e.1)]
        by_cases c3 : c < u
        · exact h1 _ _ c3
        · rw [h2 _ _ (by omega)]
          unfold aeL
          rw [if_neg (by omega)]
    rcases Nat.eq_zero_or_pos b with hb0 | hb0
    · subst hb0
      rw [if_pos (by decide), kb_s]
      refine ⟨_, rfl, fin _ (fun r c hc => ?_) (fun r c hc => set2_ne (by omega))⟩
      unfold aeL
      by_cases hr : r = a
      · subst hr
        rw [if_pos rfl, if_neg (by omega), if_neg (by omega), if_neg (by omega)]
        by_cases hca : c = r
        · subst hca; rw [set2_eq, if_pos rfl]
        · rw [set2_ne (by omega), if_neg (by omega)]
      · rw [set2_ne (fun e => hr e.1), if_neg (by omega)]
    · obtain ⟨b, rfl⟩ : ∃ k, b = k + 1 := ⟨b - 1, by omega⟩
      rw [if_neg (nI_nle (by omega) (by omega)), nI_pred, kin_nI (show b < 7 by omega) (by omega), c_nI (n := b) (by omega)]
      simp only [kgd_tt]
      rw [kb_s]
      refine ⟨_, rfl, fin _ (fun r c hc => ?_) (fun r c hc => by rw [set2_ne (by omega), set2_ne (by omega)])⟩
      unfold aeL
      by_cases hr : r = a
      · subst hr
        rw [if_pos rfl, if_neg (by omega), if_neg (by omega)]
        by_cases hcb : c = b
        · subst hcb
          rw [set2_eq, if_pos rfl]
          by_cases hca : c = r
          · subst hca; rw [set2_eq, if_pos rfl]
          · rw [set2_ne (by omega), if_neg (by omega)]
        · rw [set2_ne (by omega), if_neg (by omega)]
          by_cases hca : c = r
          · subst hca; rw [set2_eq, if_pos rfl]
          · rw [set2_ne (by omega), if_neg (by omega)]
      · rw [set2_ne (fun e => hr e.1), set2_ne (fun e => hr e.1), if_neg (by omega)]
def av (F T : Nat → Int32) (j : Nat) : Nat := (eV F T j).toNatClampNeg
theorem GI.avs {nv ne : Nat} {F T X Z : Nat → Int32} (hnv : nv ≤ 6) (hne : ne ≤ 12) (h : GI (nI nv) (nI ne) F T X Z) {j : Nat} (hj : j < 2 * ne) : eV F T j = nI (av F T j) ∧ eV T F j = nI (av T F j) ∧ av F T j < nv ∧ av T F j < nv ∧ (av F T j = if j % 2 = 0 then ix F (j / 2) else ix T (j / 2)) ∧ av T F j = if j % 2 = 0 then ix T (j / 2) else ix F (j / 2) := by
  obtain ⟨f1, t1, f2, t2, -⟩ := h.vt hnv hne (e := j / 2) (by omega)
  unfold av eV
  by_cases m : j % 2 = 0
  · rw [if_pos m, if_pos m, if_pos m, if_pos m]
    exact ⟨f1, t1, f2, t2, rfl, rfl⟩
  · rw [if_neg m, if_neg m, if_neg m, if_neg m]
    exact ⟨t1, f1, t2, f2, rfl, rfl⟩
theorem mend_s {now : Nat → Int32} {nv ne : Nat} {F T X Z : Nat → Int32} (hnv : nv ≤ 6) (hG : GI (nI nv) (nI ne) F T X Z) (hM : MI now 0 (nI nv) (nI ne) F T X Z) (hne : ne ≤ 12) {j u : Nat} (hj : j < 2 * ne) (hu : nv = u + 1) {R : Nat → Nat → Int64} {row : Nat → Int64} (hR : RM u R row) : ∃ row', (∀ n, pX6_makeRows_L23 (n + 1) (nI j) now row = pX6_makeRows_L23 n (nI (j + 1)) now row') ∧ RM u (aeL (av F T j) (av T F j) u (eX X j).toInt64 (eX Z j).toInt64 R) row' := by
  obtain ⟨e1, e2, e3, e4, -⟩ := hG.avs hnv hne hj
  have h1 : now (1 : Int32).toNatClampNeg = nI ne := hM.2.1
  obtain ⟨x, hx⟩ : ∃ x, x = (eX X j).toInt64 := ⟨_, rfl⟩
  obtain ⟨y, hy⟩ : ∃ y, y = (eX Z j).toInt64 := ⟨_, rfl⟩
  have start : ∀ n, pX6_makeRows_L23 (n + 1) (nI j) now row = kb ((if (nI (av F T j)) ≤ 0 then some row else kb (pX6_cell ((nI (av F T j)) - 1) ((nI (av F T j)) - 1)) (fun v14 => kgd (kin v14 56) (kgd (kin v14 56) (kb (pX6_cell ((nI (av F T j)) - 1) 5) (fun v18 => kgd (kin v18 56) ((kgd (kin v18 56) (kb (pX6_cell ((nI (av F T j)) - 1) 6) (fun v24 => kgd (kin v24 56) ((kgd (kin v24 56) (some (vp_updL (vp_updL (vp_updL row (v14 : Int32).toNatClampNeg ((row (v14 : Int32).toNatClampNeg) + 1)) (v18 : Int32).toNatClampNeg (((vp_updL row (v14 : Int32).toNatClampNeg ((row (v14 : Int32).toNatClampNeg) + 1)) (v18 : Int32).toNatClampNeg) + x)) (v24 : Int32).toNatClampNeg (((vp_updL (vp_updL row (v14 : Int32).toNatClampNeg ((row (v14 : Int32).toNatClampNeg) + 1)) (v18 : Int32).toNatClampNeg (((vp_updL row (v14 : Int32).toNatClampNeg ((row (v14 : Int32).toNatClampNeg) + 1)) (v18 : Int32).toNatClampNeg) + x)) (v24 : Int32).toNatClampNeg) + y)))))))))))))) : Option ((Nat → Int64))) (fun v30 => kb ((if (nI (av F T j)) ≤ 0 then some v30 else (if (nI (av T F j)) ≤ 0 then some v30 else kb (pX6_cell ((nI (av F T j)) - 1) ((nI (av T F j)) - 1)) (fun v34 => kgd (kin v34 56) (kgd (kin v34 56) (some (vp_updL v30 (v34 : Int32).toNatClampNeg ((v30 (v34 : Int32).toNatClampNeg) - 1))))))) : Option ((Nat → Int64))) (fun v38 => pX6_makeRows_L23 n (nI (j + 1)) now v38)) := by
    intro n
    rw [pX6_makeRows_L23, show kin 1 50 = true from rfl, kgd_tt, h1, two_mul_I, if_neg (nI_ge (by omega) (by omega)), dec20, kgd_tt, kgd_tt, start_s hM hne hj, kb_s, leadsTo_s hM hne hj, kb_s, endX_s hM hne hj, endY_s hM hne hj, e1, e2, nI_1, hx, hy]
    rfl
  rw [← hx, ← hy]
  obtain ⟨a, ha⟩ : ∃ a, a = av F T j := ⟨_, rfl⟩
  obtain ⟨b, hb⟩ : ∃ b, b = av T F j := ⟨_, rfl⟩
  rw [← ha, ← hb] at start ⊢
  have ha2 : a ≤ u := by omega
  have hb2 : b ≤ u := by omega
  have hu5 : u ≤ 5 := by omega
  clear e1 e2 e3 e4 hx hy
  rcases Nat.eq_zero_or_pos a with h | h
  · refine ⟨row, fun n => ?_, fun r hr => ?_⟩
    · rw [start, if_pos (by rw [h]; decide), kb_s, if_pos (by rw [h]; decide), kb_s]
    · obtain ⟨p1, p2, p3⟩ := hR r hr
      unfold aeL
      rw [if_neg (by omega), if_neg (by omega)]
      exact ⟨fun c hc => by rw [if_neg (by omega)]; exact p1 c hc, p2, p3⟩
  · obtain ⟨a, rfl⟩ : ∃ k, a = k + 1 := ⟨a - 1, by omega⟩
    clear ha
    have na : ¬ nI (a + 1) ≤ 0 := nI_nle (by omega) (by omega)
    rw [if_neg na, nI_pred, cell_s, show (5 : Int32) = nI 5 from rfl, cell_s, show (6 : Int32) = nI 6 from rfl, cell_s, kb_s, kin_nI (show 8 * a + a < 56 by omega) (by omega), kgd_tt, kgd_tt, kb_s, kin_nI (show 8 * a + 5 < 56 by omega) (by omega), kgd_tt, kgd_tt, kb_s, kin_nI (show 8 * a + 6 < 56 by omega) (by omega), kgd_tt, kgd_tt, c_nI (n := 8 * a + a) (by omega), c_nI (n := 8 * a + 5) (by omega), c_nI (n := 8 * a + 6) (by omega), updL_ne (show 8 * a + 5 ≠ 8 * a + a by omega), updL_ne (show 8 * a + 6 ≠ 8 * a + 5 by omega), updL_ne (show 8 * a + 6 ≠ 8 * a + a by omega)] at start
    simp only [kb_s, if_neg na] at start
    rcases Nat.eq_zero_or_pos b with hb0 | hb0
    · have nb : nI b ≤ 0 := by rw [hb0]; decide
      simp only [if_pos nb, kb_s] at start
      refine ⟨_, start, fun r hr => ?_⟩
      obtain ⟨p1, p2, p3⟩ := hR r hr
      unfold aeL
      by_cases hra : r = a
      · subst hra
        rw [if_pos rfl, if_pos rfl, if_pos rfl, if_neg (by omega), if_pos rfl]
        refine ⟨fun c hc => ?_, ?_, ?_⟩
        · rw [if_pos rfl, if_neg (by omega), if_neg (by omega), if_neg (by omega), updL_ne (by omega), updL_ne (by omega)]
          by_cases hca : c = r
          · subst hca; rw [if_pos rfl, updL_eq, p1 c hc]
          · rw [if_neg (by omega), updL_ne (by omega), p1 c hc]
        · rw [updL_ne (by omega), updL_eq, p2]
        · rw [updL_eq, p3]
      · rw [if_neg (by omega), if_neg (by omega)]
        refine ⟨fun c hc => ?_, ?_, ?_⟩
        · rw [if_neg (by omega), updL_ne (by omega), updL_ne (by omega), updL_ne (by omega)]; exact p1 c hc
        · rw [updL_ne (by omega), updL_ne (by omega), updL_ne (by omega)]; exact p2
        · rw [updL_ne (by omega), updL_ne (by omega), updL_ne (by omega)]; exact p3
    · obtain ⟨b, rfl⟩ : ∃ k, b = k + 1 := ⟨b - 1, by omega⟩
      have nb : ¬ nI (b + 1) ≤ 0 := nI_nle (by omega) (by omega)
      simp only [if_neg nb, nI_pred, cell_s, kb_s] at start
      rw [kin_nI (show 8 * a + b < 56 by omega) (by omega), kgd_tt, kgd_tt, c_nI (n := 8 * a + b) (by omega), updL_ne (show 8 * a + b ≠ 8 * a + 6 by omega), updL_ne (show 8 * a + b ≠ 8 * a + 5 by omega)] at start
      simp only [kb_s] at start
      refine ⟨_, start, fun r hr => ?_⟩
      obtain ⟨p1, p2, p3⟩ := hR r hr
      unfold aeL
      by_cases hra : r = a
      · subst hra
        rw [if_pos rfl, if_pos rfl, if_pos rfl, if_neg (by omega), if_pos rfl]
        refine ⟨fun c hc => ?_, ?_, ?_⟩
        · rw [if_pos rfl, if_neg (by omega), if_neg (by omega)]
          by_cases hcb : c = b
          · subst hcb
            rw [if_pos rfl, updL_eq]
            by_cases hca : c = r
            · subst hca; rw [if_pos rfl, updL_eq, p1 c hc]
            · rw [if_neg (by omega), updL_ne (by omega), p1 c hc]
          · rw [if_neg (by omega), updL_ne (by omega), updL_ne (by omega), updL_ne (by omega)]
            by_cases hca : c = r
            · subst hca; rw [if_pos rfl, updL_eq, p1 c hc]
            · rw [if_neg (by omega), updL_ne (by omega), p1 c hc]
        · rw [updL_ne (by omega), updL_ne (by omega), updL_eq, p2]
        · rw [updL_ne (by omega), updL_eq, p3]
      · rw [if_neg (by omega), if_neg (by omega)]
        refine ⟨fun c hc => ?_, ?_, ?_⟩
        · rw [if_neg (by omega), updL_ne (by omega), updL_ne (by omega), updL_ne (by omega), updL_ne (by omega)]; exact p1 c hc
        · rw [updL_ne (by omega), updL_ne (by omega), updL_ne (by omega), updL_ne (by omega)]; exact p2
        · rw [updL_ne (by omega), updL_ne (by omega), updL_ne (by omega), updL_ne (by omega)]; exact p3
