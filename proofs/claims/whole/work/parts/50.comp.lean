/-! the component of a vertex -/
def ix (F : Nat → Int32) (e : Nat) : Nat := (F e).toNatClampNeg
def CR (b : Int) (nv : Nat) (re cx cy met qx qy : Nat → Int32) : Prop := ∀ v, v < 6 → (re v = 0 ∨ re v = 1) ∧ met v = re v ∧ (re v = 1 → v < nv ∧ qx v = cx v ∧ qy v = cy v ∧ (-b ≤ (cx v).toInt ∧ (cx v).toInt ≤ b) ∧ -b ≤ (cy v).toInt ∧ (cy v).toInt ≤ b)
theorem CR.mono {b b' : Int} {nv : Nat} {re cx cy met qx qy : Nat → Int32} (h : CR b nv re cx cy met qx qy) (hb : b ≤ b') : CR b' nv re cx cy met qx qy := fun v hv => by
  obtain ⟨h1, h2, h3⟩ := h v hv
  refine ⟨h1, h2, fun h4 => ?_⟩
  obtain ⟨a, b, c, d, e⟩ := h3 h4
  exact ⟨a, b, c, by omega, by omega⟩
theorem CR.set {b b' : Int} {nv w : Nat} {re cx cy met qx qy : Nat → Int32} (h : CR b nv re cx cy met qx qy) (hb : b ≤ b') (hw : w < nv) {x y : Int32} (hx : -b' ≤ x.toInt ∧ x.toInt ≤ b') (hy : -b' ≤ y.toInt ∧ y.toInt ≤ b') : CR b' nv (upd re w 1) (upd cx w x) (upd cy w y) (upd met w 1) (upd qx w x) (upd qy w y) := fun v hv => by
  by_cases q : v = w
  · subst q
    rw [upd_eq2, upd_eq2, upd_eq2, upd_eq2, upd_eq2, upd_eq2]
    exact ⟨Or.inr rfl, rfl, fun _ => ⟨hw, rfl, rfl, hx, hy⟩⟩
  · rw [upd_ne2 q, upd_ne2 q, upd_ne2 q, upd_ne2 q, upd_ne2 q, upd_ne2 q]
    exact h.mono hb v hv
def mono6 (re re' : Nat → Int32) : Prop := ∀ v, v < 6 → re v = 1 → re' v = 1
theorem GI.vt {nv ne : Nat} {F T X Z : Nat → Int32} (hnv : nv ≤ 6) (hne : ne ≤ 12) (h : GI (nI nv) (nI ne) F T X Z) {e : Nat} (he : e < ne) : F e = nI (ix F e) ∧ T e = nI (ix T e) ∧ ix F e < nv ∧ ix T e < nv ∧ (-2 ≤ (X e).toInt ∧ (X e).toInt ≤ 2) ∧ -2 ≤ (Z e).toInt ∧ (Z e).toInt ≤ 2 := by
  obtain ⟨hF, hT⟩ := h.ends hne
  obtain ⟨v, v1, v2, v3⟩ := hF e he
  obtain ⟨w, w1, w2, w3⟩ := hT e he
  obtain ⟨nv', ne', h1, h2, h3, h4, h5, h6, -⟩ := h
  have : ne = ne' := nI_inj (by omega) (by omega) h2
  subst this
  rw [nI_toInt (by omega)] at v3 w3
  have a : ix F e = v := by unfold ix; rw [v2, c_nI (by omega)]
  have b : ix T e = w := by unfold ix; rw [w2, c_nI (by omega)]
  rw [a, b]
  exact ⟨v2, w2, by omega, by omega, (h6 e he).2.2.1, (h6 e he).2.2.2.1⟩
theorem start_s {now : Nat → Int32} {nv ne : Nat} {F T X Z : Nat → Int32} (hM : MI now 0 (nI nv) (nI ne) F T X Z) (hne : ne ≤ 12) {j : Nat} (hj : j < 2 * ne) : pX6_of (nI j / 2) (nI j - nI j / 2 * 2) now = some (eV F T j) := by
  have hm := hM.e hne (e := j / 2) (by omega)
  rw [r2 (by omega), d2 (by omega), of_k (by omega) (by omega)]
  unfold eV
  rcases Nat.mod_two_eq_zero_or_one j with h | h
  · rw [h, if_pos rfl, hm.1]
  · rw [h, if_neg (show ¬ ((1 : Nat) = 0) by decide), hm.2.1]
theorem nar1 : vp_nar .boolean 1 = 1 := by decide
theorem nar0 : vp_nar .boolean 0 = 0 := by decide
theorem end_s {now : Nat → Int32} {nv ne : Nat} {F T X Z : Nat → Int32} (hM : MI now 0 (nI nv) (nI ne) F T X Z) (hne : ne ≤ 12) {j a b : Nat} (hj : j < 2 * ne) (ha : a < 6) (hb : b < 6) (hA : eV F T j = nI a) (hB : eV T F j = nI b) (n : Nat) (l2 : Int32) (qx qy met : Nat → Int32) : pX6_spread_L54 (n + 1) l2 (nI j) now qx qy met = (if met a = 0 then pX6_spread_L54 n l2 (nI (j + 1)) now qx qy met else if met b = 0 then pX6_spread_L54 n l2 (nI (j + 1)) now (upd qx b (qx a + eX X j)) (upd qy b (qy a + eX Z j)) (upd met b 1) else pX6_spread_L54 n l2 (nI (j + 1)) now qx qy met) := by
  have h1 : now (1 : Int32).toNatClampNeg = nI ne := hM.2.1
  rw [pX6_spread_L54, show kin 1 50 = true from rfl, kgd_tt, h1, two_mul_I, if_neg (nI_ge (by omega) (by omega)), dec20, kgd_tt, kgd_tt, start_s hM hne hj, kb_s, leadsTo_s hM hne hj, kb_s, endX_s hM hne hj, kb_s, endY_s hM hne hj, kb_s, hA, hB, kin_nI ha (by omega), kin_nI hb (by omega), c_nI (n := a) (by omega), c_nI (n := b) (by omega), nI_1, nar1]
  simp only [kgd_tt]
  by_cases p : met a = 0
  · rw [if_pos p, if_pos p, kb_s]
  · rw [if_neg p, if_neg p]
    by_cases q : met b = 0
    · rw [if_pos q, if_pos q, kb_s]
    · rw [if_neg q, if_neg q, kb_s]
def cl (F T : Nat → Int32) (ne : Nat) (re re' : Nat → Int32) : Prop := ∀ S : Nat → Prop, (∀ e, e < ne → (S (ix F e) ↔ S (ix T e))) → (∀ v, v < 6 → re v = 1 → S v) → ∀ v, v < 6 → re' v = 1 → S v
theorem cl.rfl {F T : Nat → Int32} {ne : Nat} {re : Nat → Int32} : cl F T ne re re := fun _ _ h => h
theorem cl.trans {F T : Nat → Int32} {ne : Nat} {a b c : Nat → Int32} (h : cl F T ne a b) (g : cl F T ne b c) : cl F T ne a c := fun S h1 h2 => g S h1 (h S h1 h2)
theorem edge_s {now : Nat → Int32} {nv ne : Nat} {F T X Z : Nat → Int32} (hnv : nv ≤ 6) (hG : GI (nI nv) (nI ne) F T X Z) (hM : MI now 0 (nI nv) (nI ne) F T X Z) (hne : ne ≤ 12) {e : Nat} (he : e < ne) {b : Int} (hb0 : 0 ≤ b) (hb : b ≤ 1000) {re cx cy met qx qy : Nat → Int32} (hC : CR b nv re cx cy met qx qy) : ∃ re' cx' cy' met' qx' qy', (∀ n, pX0_followEdges_L2 (n + 1) (nI e) (nI ne) F T X Z re cx cy = pX0_followEdges_L2 n (nI (e + 1)) (nI ne) F T X Z re' cx' cy') ∧ (∀ n l2, pX6_spread_L54 (n + 2) l2 (nI (2 * e)) now qx qy met = pX6_spread_L54 n l2 (nI (2 * (e + 1))) now qx' qy' met') ∧ CR (b + 2) nv re' cx' cy' met' qx' qy' ∧ mono6 re re' ∧ (re (ix F e) = 1 ∨ re (ix T e) = 1 → re' (ix F e) = 1 ∧ re' (ix T e) = 1) ∧ (re (ix F e) = re (ix T e) → re' = re ∧ cx' = cx ∧ cy' = cy ∧ met' = met ∧ qx' = qx ∧ qy' = qy) ∧ cl F T ne re re' := by
  obtain ⟨f1, t1, f2, t2, hx, hz⟩ := hG.vt hnv hne he
  have m0 : 2 * e % 2 = 0 := by omega
  have m1 : ¬ (2 * e + 1) % 2 = 0 := by omega
  have q0 : 2 * e / 2 = e := by omega
  have q1 : (2 * e + 1) / 2 = e := by omega
  have a0 : eV F T (2 * e) = nI (ix F e) := by unfold eV; rw [if_pos m0, q0]; exact f1
  have a1 : eV T F (2 * e) = nI (ix T e) := by unfold eV; rw [if_pos m0, q0]; exact t1
  have a2 : eX X (2 * e) = X e := by unfold eX; rw [if_pos m0, q0]
  have a3 : eX Z (2 * e) = Z e := by unfold eX; rw [if_pos m0, q0]
  have b0 : eV F T (2 * e + 1) = nI (ix T e) := by unfold eV; rw [if_neg m1, q1]; exact t1
  have b1 : eV T F (2 * e + 1) = nI (ix F e) := by unfold eV; rw [if_neg m1, q1]; exact f1
  have b2 : eX X (2 * e + 1) = -X e := by unfold eX; rw [if_neg m1, q1]
  have b3 : eX Z (2 * e + 1) = -Z e := by unfold eX; rw [if_neg m1, q1]
  have M : ∀ n l2 qx qy met, pX6_spread_L54 (n + 2) l2 (nI (2 * e)) now qx qy met = _ := fun n l2 qx qy met => end_s hM hne (j := 2 * e) (by omega) (by omega) (by omega) a0 a1 (n + 1) l2 qx qy met
  have M2 : ∀ n l2 qx qy met, pX6_spread_L54 (n + 1) l2 (nI (2 * e + 1)) now qx qy met = _ := fun n l2 qx qy met => end_s hM hne (j := 2 * e + 1) (by omega) (by omega) (by omega) b0 b1 n l2 qx qy met
  rw [a2, a3] at M
  rw [b2, b3] at M2
  have C : ∀ n, pX0_followEdges_L2 (n + 1) (nI e) (nI ne) F T X Z re cx cy = (if re (ix F e) = 0 then (if re (ix T e) = 0 then pX0_followEdges_L2 n (nI (e + 1)) (nI ne) F T X Z re cx cy else pX0_followEdges_L2 n (nI (e + 1)) (nI ne) F T X Z (upd re (ix F e) 1) (upd cx (ix F e) (cx (ix T e) - X e)) (upd cy (ix F e) (cy (ix T e) - Z e))) else (if re (ix T e) = 0 then pX0_followEdges_L2 n (nI (e + 1)) (nI ne) F T X Z (upd re (ix T e) 1) (upd cx (ix T e) (cx (ix F e) + X e)) (upd cy (ix T e) (cy (ix F e) + Z e)) else pX0_followEdges_L2 n (nI (e + 1)) (nI ne) F T X Z re cx cy)) := fun n => by
    rw [pX0_followEdges_L2, if_neg (nI_ge he (by omega)), kin_nI (show e < 12 by omega) (by omega), c_nI (n := e) (by omega), f1, t1, kin_nI (show ix F e < 6 by omega) (by omega), kin_nI (show ix T e < 6 by omega) (by omega), c_nI (n := ix F e) (by omega), c_nI (n := ix T e) (by omega), nI_1]
    unfold pX0_reach
    rw [kin_nI (show ix F e < 6 by omega) (by omega), kin_nI (show ix T e < 6 by omega) (by omega), c_nI (n := ix F e) (by omega), c_nI (n := ix T e) (by omega), nar1]
    simp only [kgd_tt, kb_s]
    by_cases p : re (ix F e) = 0
    · by_cases q : re (ix T e) = 0
      · rw [if_pos p, if_pos q, if_pos p, if_pos q, kb_s]
      · rw [if_pos p, if_neg q, if_pos p, if_pos p, if_neg q, kb_s]
    · by_cases q : re (ix T e) = 0
      · rw [if_neg p, if_pos q, if_neg p, if_pos q, kb_s]
      · rw [if_neg p, if_neg q, if_neg q, if_neg p, if_neg p, if_neg q, kb_s]
  obtain ⟨rf, mf, hf⟩ := hC (ix F e) (by omega)
  obtain ⟨rt, mt, ht⟩ := hC (ix T e) (by omega)
  have n10 : ¬ (1 : Int32) = 0 := by decide
  have n01 : ¬ (0 : Int32) = 1 := by decide
  rcases rf with rf | rf
  · rcases rt with rt | rt
    · refine ⟨re, cx, cy, met, qx, qy, fun n => ?_, fun n l2 => ?_, hC.mono (by omega), fun _ _ h => h, fun h => ?_, fun _ => ⟨rfl, rfl, rfl, rfl, rfl, rfl⟩, cl.rfl⟩
      · rw [C, if_pos rf, if_pos rt]
      · rw [M, if_pos (mf.trans rf), M2, if_pos (mt.trans rt)]
        rfl
      · rw [rf, rt] at h
        rcases h with h | h <;> exact absurd h n01
    · obtain ⟨-, ex, ey, bx, bz⟩ := ht rt
      have sx : (cx (ix T e) - X e).toInt = (cx (ix T e)).toInt - (X e).toInt := by rw [i_sub] <;> omega
      have sy : (cy (ix T e) - Z e).toInt = (cy (ix T e)).toInt - (Z e).toInt := by rw [i_sub] <;> omega
      refine ⟨upd re (ix F e) 1, upd cx (ix F e) (cx (ix T e) - X e), upd cy (ix F e) (cy (ix T e) - Z e), upd met (ix F e) 1, upd qx (ix F e) (cx (ix T e) - X e), upd qy (ix F e) (cy (ix T e) - Z e), fun n => ?_, fun n l2 => ?_, hC.set (by omega) f2 (by omega) (by omega), fun v _ h => ?_, fun _ => ⟨upd_eq2, ?_⟩, fun h => ?_, fun S h1 h2 v hv hv1 => ?_⟩
      · rw [C, if_pos rf, if_neg (by rw [rt]; exact n10)]
      · rw [M, if_pos (mf.trans rf), M2, if_neg (by rw [mt, rt]; exact n10), if_pos (mf.trans rf), ex, ey, ← Int32.sub_eq_add_neg, ← Int32.sub_eq_add_neg]
        rfl
      · by_cases z : v = ix F e
        · rw [z]; exact upd_eq2
        · rw [upd_ne2 z]; exact h
      · rw [upd_ne2 (fun z => by rw [z, rf] at rt; exact n01 rt)]; exact rt
      · rw [rf, rt] at h; exact absurd h n01
      · by_cases z : v = ix F e
        · rw [z]; exact (h1 e he).mpr (h2 _ (by omega) rt)
        · rw [upd_ne2 z] at hv1; exact h2 v hv hv1
  · rcases rt with rt | rt
    · obtain ⟨-, ex, ey, bx, bz⟩ := hf rf
      have sx : (cx (ix F e) + X e).toInt = (cx (ix F e)).toInt + (X e).toInt := by rw [i_add] <;> omega
      have sy : (cy (ix F e) + Z e).toInt = (cy (ix F e)).toInt + (Z e).toInt := by rw [i_add] <;> omega
      have hft : ix F e ≠ ix T e := fun z => by rw [z, rt] at rf; exact n01 rf
      refine ⟨upd re (ix T e) 1, upd cx (ix T e) (cx (ix F e) + X e), upd cy (ix T e) (cy (ix F e) + Z e), upd met (ix T e) 1, upd qx (ix T e) (cx (ix F e) + X e), upd qy (ix T e) (cy (ix F e) + Z e), fun n => ?_, fun n l2 => ?_, hC.set (by omega) t2 (by omega) (by omega), fun v _ h => ?_, fun _ => ⟨?_, upd_eq2⟩, fun h => ?_, fun S h1 h2 v hv hv1 => ?_⟩
      · rw [C, if_neg (by rw [rf]; exact n10), if_pos rt]
      · rw [M, if_neg (by rw [mf, rf]; exact n10), if_pos (mt.trans rt), M2, if_neg (by rw [upd_eq2]; exact n10), if_neg (by rw [upd_ne2 hft, mf, rf]; exact n10), ex, ey]
        rfl
      · by_cases z : v = ix T e
        · rw [z]; exact upd_eq2
        · rw [upd_ne2 z]; exact h
      · rw [upd_ne2 hft]; exact rf
      · rw [rf, rt] at h; exact absurd h n10
      · by_cases z : v = ix T e
        · rw [z]; exact (h1 e he).mp (h2 _ (by omega) rf)
        · rw [upd_ne2 z] at hv1; exact h2 v hv hv1
    · refine ⟨re, cx, cy, met, qx, qy, fun n => ?_, fun n l2 => ?_, hC.mono (by omega), fun _ _ h => h, fun h => ⟨rf, rt⟩, fun _ => ⟨rfl, rfl, rfl, rfl, rfl, rfl⟩, cl.rfl⟩
      · rw [C, if_neg (by rw [rf]; exact n10), if_neg (by rw [rt]; exact n10)]
      · rw [M, if_neg (by rw [mf, rf]; exact n10), if_neg (by rw [mt, rt]; exact n10), M2, if_neg (by rw [mt, rt]; exact n10), if_neg (by rw [mf, rf]; exact n10)]
        rfl
