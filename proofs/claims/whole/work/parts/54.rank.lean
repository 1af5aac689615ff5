theorem Dx_b {cx X F T : Nat → Int32} {f : Nat} (h1 : -120 ≤ (cx (ix F f)).toInt ∧ (cx (ix F f)).toInt ≤ 120) (h2 : -120 ≤ (cx (ix T f)).toInt ∧ (cx (ix T f)).toInt ≤ 120) (h3 : -2 ≤ (X f).toInt ∧ (X f).toInt ≤ 2) : -300 ≤ (Dx X cx F T f).toInt ∧ (Dx X cx F T f).toInt ≤ 300 := by
  unfold Dx
  have e1 : (cx (ix F f) + X f).toInt = (cx (ix F f)).toInt + (X f).toInt := i_add (by omega) (by omega)
  rw [i_sub] <;> rw [e1] <;> omega
/-- rank and index from either side's list of periods -/
theorem periods_s {now : Nat → Int32} {nv ne : Nat} {F T X Z : Nat → Int32} (hnv : nv ≤ 6) (hG : GI (nI nv) (nI ne) F T X Z) (hM : MI now 0 (nI nv) (nI ne) F T X Z) (hne : ne ≤ 12) {re cx cy met qx qy : Nat → Int32} (hC : CR 120 nv re cx cy met qx qy) (hf : fix F T re ne) (px py per : Nat → Int32) (pn0 : Int32) : ∃ (px' py' : Nat → Int32) (pn : Nat) (per' : Nat → Int32) (g : Nat) (A B : Nat → Int32), pX0_listPeriods (nI ne) F T X Z re cx cy px py pn0 = some (px', py', nI pn) ∧ pX6_findPeriods_L7 KF 0 now qx qy met per = some (nI 12, per') ∧ pX0_commonArea px' py' (nI pn) = some (lN g) ∧ pX6_commonDeterminant now per' = some (nI g) ∧ g ≤ 200000 ∧ pn ≤ 12 ∧ (∀ f, f < ne → per' (2 * f) = A f ∧ per' (2 * f + 1) = B f) ∧ ((∃ k, k < pn ∧ ¬ (px' k = 0 ∧ py' k = 0)) ↔ ∃ f, f < ne ∧ ¬ (A f = 0 ∧ B f = 0)) := by
  obtain ⟨px', py', a1, a2⟩ := list_loop2 hnv hG hne (fun v hv => (hC v hv).1) hf ne 0 KF px py (by omega) (by unfold KF; omega) (fun f h => absurd h (Nat.not_lt_zero _))
  obtain ⟨per', b1, b2⟩ := per_loop hnv hG hM hne hC hf 12 0 KF per (by omega) (by unfold KF; omega) (fun f h => absurd h (Nat.not_lt_zero _))
  have hpn := pc_le F re ne
  have hD : ∀ f, f < ne → re (ix F f) = 1 → (-300 ≤ (Dx X cx F T f).toInt ∧ (Dx X cx F T f).toInt ≤ 300) ∧ -300 ≤ (Dx Z cy F T f).toInt ∧ (Dx Z cy F T f).toInt ≤ 300 := by
    intro f hf1 hf2
    obtain ⟨-, -, f2, t2, hx, hz⟩ := hG.vt hnv hne hf1
    obtain ⟨-, -, -, c1, c2⟩ := (hC (ix F f) (by omega)).2.2 hf2
    obtain ⟨-, -, -, d1, d2⟩ := (hC (ix T f) (by omega)).2.2 ((hf f hf1).symm.trans hf2)
    exact ⟨Dx_b c1 d1 hx, Dx_b c2 d2 hz⟩
  have sx : sml px' (pc F re ne) := fun k hk => by
    obtain ⟨f, f1, f2, f3⟩ := pc_on _ hk
    rw [← f3, (a2 f f1 f2).1]; exact (hD f f1 f2).1
  have sy : sml py' (pc F re ne) := fun k hk => by
    obtain ⟨f, f1, f2, f3⟩ := pc_on _ hk
    rw [← f3, (a2 f f1 f2).2]; exact (hD f f1 f2).2
  have sA : sml (Af ne X cx F T re) ne := fun f hf1 => by
    unfold Af
    split
    · rename_i h; exact (hD f h.1 h.2).1
    · rw [i32_0]; omega
  have sB : sml (Af ne Z cy F T re) ne := fun f hf1 => by
    unfold Af
    split
    · rename_i h; exact (hD f h.1 h.2).2
    · rw [i32_0]; omega
  obtain ⟨g, g1, g2⟩ := area_s (by omega) sx sy
  obtain ⟨g', k1, k2⟩ := det_s hM.2.1 hne sA sB (fun f hf1 => b2 f (by omega))
  have on : ∀ f, f < ne → re (ix F f) = 1 → Af ne X cx F T re f = px' (pc F re f) ∧ Af ne Z cy F T re f = py' (pc F re f) := fun f h1 h2 => by
    obtain ⟨c1, c2⟩ := a2 f h1 h2
    unfold Af
    rw [if_pos ⟨h1, h2⟩, if_pos ⟨h1, h2⟩]
    exact ⟨c1.symm, c2.symm⟩
  have off : ∀ f, ¬ re (ix F f) = 1 → Af ne X cx F T re f = 0 ∧ Af ne Z cy F T re f = 0 := fun f h => by
    unfold Af
    rw [if_neg (fun c => h c.2), if_neg (fun c => h c.2)]
    exact ⟨rfl, rfl⟩
  have hgg : g = g' := by
    have key : ∀ d, d ∣ g ↔ d ∣ g' := by
      intro d
      rw [g2.2, k2.2]
      constructor
      · intro c i j ⟨hji, hi⟩
        by_cases ri : re (ix F i) = 1
        · by_cases rj : re (ix F j) = 1
          · have hlt := pc_lt (F := F) (re := re) hji rj
            have hlt2 := pc_lt (F := F) (re := re) hi ri
            have := c (pc F re j) (pc F re i) ⟨hlt2, hlt⟩
            unfold dt at this
            unfold dt6
            obtain ⟨o1, o2⟩ := on i hi ri
            obtain ⟨o3, o4⟩ := on j (by omega) rj
            rw [o1, o2, o3, o4]
            rw [← Int.natAbs_neg, Int.neg_sub, Int.mul_comm (px' (pc F re j)).toInt, Int.mul_comm (px' (pc F re i)).toInt] at this
            rw [Int.mul_comm (px' (pc F re i)).toInt]
            exact this
          · obtain ⟨o3, o4⟩ := off j rj
            unfold dt6
            rw [o3, o4, i32_0, Int.mul_zero, Int.mul_zero]
            exact Nat.dvd_zero d
        · obtain ⟨o1, o2⟩ := off i ri
          unfold dt6
          rw [o1, o2, i32_0, Int.zero_mul, Int.zero_mul]
          exact Nat.dvd_zero d
      · intro c k m ⟨hm, hkm⟩
        obtain ⟨j, j1, j2, j3⟩ := pc_on (F := F) (re := re) (k := k) ne (by omega)
        obtain ⟨i, i1, i2, i3⟩ := pc_on (F := F) (re := re) (k := m) ne hm
        have hji : j < i := by
          rcases Nat.lt_or_ge j i with h | h
          · exact h
          · have := pc_mono F re (e := i) (j - i)
            rw [show i + (j - i) = j by omega] at this
            omega
        have := c i j ⟨hji, i1⟩
        unfold dt6 at this
        unfold dt
        obtain ⟨o1, o2⟩ := on i i1 i2
        obtain ⟨o3, o4⟩ := on j j1 j2
        rw [o1, o2, o3, o4, i3, j3] at this
        rw [← Int.natAbs_neg, Int.neg_sub, Int.mul_comm (px' k).toInt]
        rw [Int.mul_comm (py' m).toInt] at this
        rw [Int.mul_comm (py' m).toInt]
        exact this
    exact Nat.dvd_antisymm ((key g).mp (Nat.dvd_refl g)) ((key g').mpr (Nat.dvd_refl g'))
  refine ⟨px', py', pc F re ne, per', g, Af ne X cx F T re, Af ne Z cy F T re, ?_, b1, g1, by rw [hgg]; exact k1, g2.1, by omega, fun f hf1 => b2 f (by omega), ?_⟩
  · unfold pX0_listPeriods
    rw [show pX0_listPeriods_L7 KF 0 (nI ne) F T X Z re cx cy px py 0 = _ from a1, kb_s]
  · constructor
    · rintro ⟨k, hk, h⟩
      obtain ⟨f, f1, f2, f3⟩ := pc_on _ hk
      obtain ⟨o1, o2⟩ := on f f1 f2
      exact ⟨f, f1, by rw [o1, o2, f3]; exact h⟩
    · rintro ⟨f, f1, h⟩
      by_cases rf : re (ix F f) = 1
      · obtain ⟨o1, o2⟩ := on f f1 rf
        exact ⟨pc F re f, pc_lt f1 rf, by rw [← o1, ← o2]; exact h⟩
      · exact absurd (off f rf) h
theorem any_loop {px py : Nat → Int32} {pn : Nat} (hp : pn ≤ 12) : ∀ (m k n : Nat), k + m = pn → m < n → (∀ j, j < k → px j = 0 ∧ py j = 0) → ∃ r, pX0_latticeRank_L13 n (nI k) px py (nI pn) = some r ∧ ((r = 0 ∧ ¬ ∃ k, k < pn ∧ ¬ (px k = 0 ∧ py k = 0)) ∨ (r = 1 ∧ ∃ k, k < pn ∧ ¬ (px k = 0 ∧ py k = 0))) := by
  intro m
  induction m with
  | zero =>
    intro k n hk hn h
    obtain ⟨n, rfl⟩ : ∃ k, n = k + 1 := ⟨n - 1, by omega⟩
    have hk : k = pn := hk
    subst hk
    exact ⟨0, by rw [pX0_latticeRank_L13, if_pos (nI_le (Nat.le_refl _) (by omega))], Or.inl ⟨rfl, fun ⟨j, j1, j2⟩ => j2 (h j j1)⟩⟩
  | succ m ih =>
    intro k n hk hn h
    obtain ⟨n, rfl⟩ : ∃ k, n = k + 1 := ⟨n - 1, by omega⟩
    rw [pX0_latticeRank_L13, if_neg (nI_ge (by omega) (by omega)), kin_nI (show k < 12 by omega) (by omega), kgd_tt, kgd_tt, c_nI (by omega), nI_1]
    by_cases p : px k = 0
    · by_cases q : py k = 0
      · rw [if_pos p, if_pos q]
        refine ih (k + 1) n (by omega) (by omega) (fun j hj => ?_)
        by_cases z : j = k
        · rw [z]; exact ⟨p, q⟩
        · exact h j (by omega)
      · rw [if_pos p, if_neg q]
        exact ⟨1, rfl, Or.inr ⟨rfl, k, by omega, fun c => q c.2⟩⟩
    · rw [if_neg p]
      exact ⟨1, rfl, Or.inr ⟨rfl, k, by omega, fun c => p c.1⟩⟩
theorem any6_loop {now A B per : Nat → Int32} {ne : Nat} (h1 : now 1 = nI ne) (hne : ne ≤ 12) (hA : ∀ f, f < ne → per (2 * f) = A f ∧ per (2 * f + 1) = B f) : ∀ (m l n : Nat) (r : Int32), l + m = 2 * ne → m < n → ((r = 0 ∧ ∀ j, j < l → per j = 0) ∨ (r = 1 ∧ ∃ j, j < 2 * ne ∧ per j ≠ 0)) → ∃ r', pX6_rankOf_L9 n r (nI l) now per = some (r', nI (2 * ne)) ∧ ((r' = 0 ∧ ∀ j, j < 2 * ne → per j = 0) ∨ (r' = 1 ∧ ∃ j, j < 2 * ne ∧ per j ≠ 0)) := by
  intro m
  induction m with
  | zero =>
    intro l n r hl hn h
    obtain ⟨n, rfl⟩ : ∃ k, n = k + 1 := ⟨n - 1, by omega⟩
    have hl : l = 2 * ne := hl
    subst hl
    exact ⟨r, by rw [pX6_rankOf_L9, show kin 1 50 = true from rfl, kgd_tt, show now (1 : Int32).toNatClampNeg = _ from h1, two_mul_I, if_pos (nI_le (Nat.le_refl _) (by omega))], h⟩
  | succ m ih =>
    intro l n r hl hn h
    obtain ⟨n, rfl⟩ : ∃ k, n = k + 1 := ⟨n - 1, by omega⟩
    rw [pX6_rankOf_L9, show kin 1 50 = true from rfl, kgd_tt, show now (1 : Int32).toNatClampNeg = _ from h1, two_mul_I, if_neg (nI_ge (by omega) (by omega)), kin_nI (show l < 24 by omega) (by omega), kgd_tt, c_nI (by omega), nI_1]
    rcases h with ⟨rfl, h⟩ | ⟨rfl, h⟩
    · rw [if_pos rfl]
      by_cases p : per l = 0
      · rw [if_pos p, kb_s]
        refine ih (l + 1) n 0 (by omega) (by omega) (Or.inl ⟨rfl, fun j hj => ?_⟩)
        by_cases z : j = l
        · rw [z]; exact p
        · exact h j (by omega)
      · rw [if_neg p, kb_s]
        exact ih (l + 1) n 1 (by omega) (by omega) (Or.inr ⟨rfl, l, by omega, p⟩)
    · rw [if_neg (by decide), kb_s]
      exact ih (l + 1) n 1 (by omega) (by omega) (Or.inr ⟨rfl, h⟩)
/-- rank and index of the component of s -/
theorem lattice_s {now : Nat → Int32} {nv ne : Nat} {F T X Z : Nat → Int32} (h1 : 1 ≤ nv) (hnv : nv ≤ 6) (hG : GI (nI nv) (nI ne) F T X Z) (hM : MI now 0 (nI nv) (nI ne) F T X Z) (hne : ne ≤ 12) {s : Nat} (hs : s < nv) (re cx cy px py met qx qy per : Nat → Int32) (pn : Int32) : ∃ re' cx' cy' px' py' pn' met' qx' qy' per' rk ind, pX0_explore (nI s) (nI nv) (nI ne) F T X Z re cx cy px py pn = some (re', cx', cy', px', py', pn') ∧ pX0_latticeRank px' py' pn' = some rk ∧ pX0_latticeIndex px' py' pn' = some ind ∧ pX6_rankOf (nI s) now qx qy met per = some (rk, qx', qy', met', per') ∧ pX6_indexOf (nI s) now qx qy met per = some (ind, qx', qy', met', per') := by
  obtain ⟨re', cx', cy', met', qx', qy', a1, a2, a3, a4, a5, -⟩ := spread_s h1 hnv hG hM hne hs re cx cy met qx qy
  obtain ⟨px', py', k, per', g, A, B, b1, b2, b3, b4, b5, b6, b7, b8⟩ := periods_s hnv hG hM hne a3 a4 px py per 0
  obtain ⟨r, c1, c2⟩ := any_loop b6 k 0 KF (by omega) (by unfold KF; omega) (fun j h => absurd h (Nat.not_lt_zero _))
  obtain ⟨r', d1, d2⟩ := any6_loop hM.2.1 hne b7 (2 * ne) 0 KF 0 (by omega) (by unfold KF; omega) (Or.inl ⟨rfl, fun j h => absurd h (Nat.not_lt_zero _)⟩)
  have hrr : r' = r := by
    rcases c2 with ⟨e1, e2⟩ | ⟨e1, e2⟩
    · rcases d2 with ⟨f1, f2⟩ | ⟨f1, j, f2, f3⟩
      · rw [e1, f1]
      · exfalso
        refine e2 (b8.mpr ⟨j / 2, by omega, fun ⟨u1, u2⟩ => f3 ?_⟩)
        obtain ⟨w1, w2⟩ := b7 (j / 2) (by omega)
        rcases Nat.mod_two_eq_zero_or_one j with h | h
        · rw [show j = 2 * (j / 2) by omega, w1, u1]
        · rw [show j = 2 * (j / 2) + 1 by omega, w2, u2]
    · rcases d2 with ⟨f1, f2⟩ | ⟨f1, f2⟩
      · exfalso
        obtain ⟨f, u1, u2⟩ := b8.mp e2
        obtain ⟨w1, w2⟩ := b7 f u1
        exact u2 ⟨by rw [← w1]; exact f2 _ (by omega), by rw [← w2]; exact f2 _ (by omega)⟩
      · rw [e1, f1]
  have hfp : pX6_findPeriods (nI s) now qx qy met per = some (qx', qy', met', per') := by
    unfold pX6_findPeriods
    rw [a2, kb_s]
    simp only []
    rw [b2, kb_s]
  have hr01 : r = 0 ∨ r = 1 := by
    rcases c2 with ⟨e, -⟩ | ⟨e, -⟩
    · exact Or.inl e
    · exact Or.inr e
  refine ⟨re', cx', cy', px', py', nI k, met', qx', qy', per', if g = 0 then r else 2, if g = 0 then -1 else nI g, ?_, ?_, ?_, ?_, ?_⟩
  · rw [a1]
    have : pX0_listPeriods (nI ne) F T X Z re' cx' cy' px py pn = pX0_listPeriods (nI ne) F T X Z re' cx' cy' px py 0 := rfl
    rw [this, b1, kb_s]
  · unfold pX0_latticeRank
    rw [b3, kb_s]
    by_cases z : g = 0
    · subst z
      rw [if_pos (by decide), if_pos rfl]; exact c1
    · rw [if_neg (fun e => z ((pk_lEQ (b := 0) (by omega) (by omega)).mp ((cmp_eq _).mp e))), if_neg z]
  · unfold pX0_latticeIndex
    rw [b3, kb_s]
    by_cases z : g = 0
    · subst z
      rw [if_pos (by decide), if_pos rfl]
    · rw [if_neg (fun e => z ((pk_lEQ (b := 0) (by omega) (by omega)).mp ((cmp_eq _).mp e))), if_neg z, lN_i]
  · unfold pX6_rankOf
    rw [hfp, kb_s]
    simp only []
    rw [show pX6_rankOf_L9 KF 0 0 now per' = _ from d1, kb_s, b4, kb_s, hrr]
    by_cases z : g = 0
    · subst z
      rw [if_pos (by decide), if_pos rfl]
      rcases hr01 with e | e
      · subst e; rfl
      · subst e; rfl
    · rw [if_neg (nI_nle (by omega) (by omega)), if_neg z]
  · unfold pX6_indexOf
    rw [hfp, kb_s]
    simp only []
    rw [b4, kb_s]
    by_cases z : g = 0
    · subst z
      rw [if_pos (by decide), if_pos rfl]
    · rw [if_neg (nI_ne0 (by omega) (by omega)), if_neg z]
/-- whether the graph is in one piece -/
theorem piece_s {now : Nat → Int32} {nv ne : Nat} {F T X Z : Nat → Int32} (h1 : 1 ≤ nv) (hnv : nv ≤ 6) (hG : GI (nI nv) (nI ne) F T X Z) (hM : MI now 0 (nI nv) (nI ne) F T X Z) (hne : ne ≤ 12) (re cx cy px py met qx qy : Nat → Int32) (pn : Int32) : ∃ re' cx' cy' px' py' pn' met' qx' qy' r, pX5_isOnePiece (nI nv) (nI ne) F T X Z re cx cy px py pn = some (r, re', cx', cy', px', py', pn') ∧ pX6_connected now qx qy met = some (r, qx', qy', met') ∧ (r = 0 ∨ (r = 1 ∧ ∀ S : Nat → Prop, (∀ e, e < ne → (S (ix F e) ↔ S (ix T e))) → S 0 → ∀ v, v < nv → S v)) := by
  obtain ⟨re', cx', cy', met', qx', qy', a1, a2, a3, a4, a5, a6⟩ := spread_s h1 hnv hG hM hne (s := 0) (by omega) re cx cy met qx qy
  obtain ⟨px', py', k, per', g, A, B, b1, -⟩ := periods_s hnv hG hM hne a3 a4 px py (fun _ => 0) 0
  obtain ⟨r, c1, ⟨l, c2⟩, c3⟩ := whole_loop hM.1 hnv (fun v hv => ⟨(a3 v hv).1, (a3 v hv).2.1⟩) nv 0 KF KF (by omega) (by unfold KF; omega) (by unfold KF; omega) (fun v h => absurd h (Nat.not_lt_zero _))
  have hz : kzb r = true := decide_eq_true (by rcases c3 with ⟨h, -⟩ | ⟨h, -⟩; exact Or.inl h; exact Or.inr h)
  refine ⟨re', cx', cy', px', py', nI k, met', qx', qy', r, ?_, ?_, ?_⟩
  · unfold pX5_isOnePiece
    rw [show pX0_explore 0 (nI nv) (nI ne) F T X Z re cx cy px py pn = _ from a1 px py pn]
    have : pX0_listPeriods (nI ne) F T X Z re' cx' cy' px py pn = pX0_listPeriods (nI ne) F T X Z re' cx' cy' px py 0 := rfl
    rw [this, b1, kb_s, kb_s]
    unfold pX0_isWhole
    simp only []
    rw [show pX0_isWhole_L2 KF 0 (nI nv) re' = _ from c1, kb_s, hz, kgd_tt]
  · unfold pX6_connected
    rw [show pX6_spread 0 now qx qy met = _ from a2, kb_s]
    simp only []
    rw [show pX6_connected_L9 KF 1 0 now met' = _ from c2, kb_s]
    simp only []
    rw [hz, kgd_tt]
  · rcases c3 with ⟨h, -⟩ | ⟨h, h2⟩
    · exact Or.inl h
    · exact Or.inr ⟨h, fun S s1 s2 v hv => a6 S s1 s2 v (by omega) (h2 v hv)⟩
theorem sim_isConnected  (t_scn : Int32) (r_er : Nat → Int32) (g_vc : Int32) (g_ec : Int32) (g_F : Nat → Int32) (g_T : Nat → Int32) (g_X : Nat → Int32) (g_Z : Nat → Int32) (v_pi : Nat → Nat) (v_vc : Nat → Int32) (v_ec : Nat → Int32) (v_F : Nat → Nat → Int32) (v_T : Nat → Nat → Int32) (v_X : Nat → Nat → Int32) (v_Z : Nat → Nat → Int32) (e_cn : Nat → Int32) (e_M : Nat → Nat → Int32) (s_fi : Int32) (s_ta : Int32) (s_st : Nat → Int32) (s_qu : Nat → Int32) (c_re : Nat → Int32) (c_cx : Nat → Int32) (c_cy : Nat → Int32) (c_px : Nat → Int32) (c_py : Nat → Int32) (c_pn : Int32) (m_now : Nat → Int32) (m_sav : Nat → Int32) (m_sc : Int32) (m_err : Nat → Int32) (m_qx : Nat → Int32) (m_qy : Nat → Int32) (m_met : Nat → Int32) (h : Rel t_scn r_er g_vc g_ec g_F g_T g_X g_Z v_pi v_vc v_ec v_F v_T v_X v_Z e_cn e_M s_fi s_ta s_st s_qu m_now m_sav m_sc m_err) : ∃ (o : Int32 × (Nat → Int32) × (Nat → Int32) × (Nat → Int32) × (Nat → Int32) × (Nat → Int32) × Int32) (o' : Int32 × (Nat → Int32) × (Nat → Int32) × (Nat → Int32)), pX5_isConnected g_vc g_ec g_F g_T g_X g_Z c_re c_cx c_cy c_px c_py c_pn = some o ∧ pX6_isConnected m_now m_qx m_qy m_met = some o' ∧ o.1 = o'.1 ∧ Rel t_scn r_er g_vc g_ec g_F g_T g_X g_Z v_pi v_vc v_ec v_F v_T v_X v_Z e_cn e_M s_fi s_ta s_st s_qu m_now m_sav m_sc m_err := by
  obtain ⟨hG, hM, hE, hS, hR, hV⟩ := h
  obtain ⟨nv, ne, rfl, rfl, h1, hnv, hne⟩ := hG.n
  obtain ⟨re', cx', cy', px', py', pn', met', qx', qy', r, a1, a2, -⟩ := piece_s h1 hnv hG hM hne c_re c_cx c_cy c_px c_py m_met m_qx m_qy c_pn
  by_cases z : r = 0
  · refine ⟨(0, re', cx', cy', px', py', pn'), (0, qx', qy', met'), ?_, ?_, rfl, hG, hM, hE, hS, hR, hV⟩
    · unfold pX5_isConnected; rw [a1, kb_s, if_pos z]
    · unfold pX6_isConnected; rw [a2, kb_s, if_pos z]
  · refine ⟨(1, re', cx', cy', px', py', pn'), (1, qx', qy', met'), ?_, ?_, rfl, hG, hM, hE, hS, hR, hV⟩
    · unfold pX5_isConnected; rw [a1, kb_s, if_neg z]
    · unfold pX6_isConnected; rw [a2, kb_s, if_neg z]
theorem sim_rank (a1 : Int32) (t_scn : Int32) (r_er : Nat → Int32) (g_vc : Int32) (g_ec : Int32) (g_F : Nat → Int32) (g_T : Nat → Int32) (g_X : Nat → Int32) (g_Z : Nat → Int32) (v_pi : Nat → Nat) (v_vc : Nat → Int32) (v_ec : Nat → Int32) (v_F : Nat → Nat → Int32) (v_T : Nat → Nat → Int32) (v_X : Nat → Nat → Int32) (v_Z : Nat → Nat → Int32) (e_cn : Nat → Int32) (e_M : Nat → Nat → Int32) (s_fi : Int32) (s_ta : Int32) (s_st : Nat → Int32) (s_qu : Nat → Int32) (c_re : Nat → Int32) (c_cx : Nat → Int32) (c_cy : Nat → Int32) (c_px : Nat → Int32) (c_py : Nat → Int32) (c_pn : Int32) (m_now : Nat → Int32) (m_sav : Nat → Int32) (m_sc : Int32) (m_err : Nat → Int32) (m_qx : Nat → Int32) (m_qy : Nat → Int32) (m_met : Nat → Int32) (m_per : Nat → Int32) (h : Rel t_scn r_er g_vc g_ec g_F g_T g_X g_Z v_pi v_vc v_ec v_F v_T v_X v_Z e_cn e_M s_fi s_ta s_st s_qu m_now m_sav m_sc m_err) : ∃ (o : Int32 × (Nat → Int32) × (Nat → Int32) × (Nat → Int32) × (Nat → Int32) × (Nat → Int32) × (Nat → Int32) × Int32) (o' : Int32 × (Nat → Int32) × (Nat → Int32) × (Nat → Int32) × (Nat → Int32) × (Nat → Int32)), pX5_rank a1 r_er g_vc g_ec g_F g_T g_X g_Z c_re c_cx c_cy c_px c_py c_pn = some o ∧ pX6_rank a1 m_now m_err m_qx m_qy m_met m_per = some o' ∧ o.1 = o'.1 ∧ Rel t_scn o.2.1 g_vc g_ec g_F g_T g_X g_Z v_pi v_vc v_ec v_F v_T v_X v_Z e_cn e_M s_fi s_ta s_st s_qu m_now m_sav m_sc o'.2.1 := by
  obtain ⟨hG, hM, hE, hS, hR, hV⟩ := h
  obtain ⟨nv, ne, rfl, rfl, h1, hnv, hne⟩ := hG.n
  rcases D_isVertex hG hM a1 with ⟨k1, k2⟩ | ⟨k, rfl, hk, hk6, k1, k2⟩
  · refine ⟨(-2, upd r_er 0 (r_er 0 + 1), c_re, c_cx, c_cy, c_px, c_py, c_pn), (-2, upd m_err 0 (m_err 0 + 1), m_qx, m_qy, m_met, m_per), ?_, ?_, rfl, hG, hM, hE, hS, RI_up hR 0 (by omega), hV⟩
    · unfold pX5_rank; rw [k1, kb_s, if_pos rfl, fail_2, kb_s]
    · unfold pX6_rank; rw [k2, kb_s, if_pos rfl, error_2, kb_s]
  · rw [nI_toInt (by omega)] at hk
    obtain ⟨re', cx', cy', px', py', pn', met', qx', qy', per', rk, ind, b1, b2, b3, b4, b5⟩ := lattice_s h1 hnv hG hM hne (show k < nv by omega) c_re c_cx c_cy c_px c_py m_met m_qx m_qy m_per c_pn
    refine ⟨(rk, r_er, re', cx', cy', px', py', pn'), (rk, m_err, qx', qy', met', per'), ?_, ?_, rfl, hG, hM, hE, hS, hR, hV⟩
    · unfold pX5_rank; rw [k1, kb_s, if_neg (by decide), b1, kb_s, b2, kb_s]
    · unfold pX6_rank; rw [k2, kb_s, if_neg (by decide), b4, kb_s]
theorem sim_index (a1 : Int32) (t_scn : Int32) (r_er : Nat → Int32) (g_vc : Int32) (g_ec : Int32) (g_F : Nat → Int32) (g_T : Nat → Int32) (g_X : Nat → Int32) (g_Z : Nat → Int32) (v_pi : Nat → Nat) (v_vc : Nat → Int32) (v_ec : Nat → Int32) (v_F : Nat → Nat → Int32) (v_T : Nat → Nat → Int32) (v_X : Nat → Nat → Int32) (v_Z : Nat → Nat → Int32) (e_cn : Nat → Int32) (e_M : Nat → Nat → Int32) (s_fi : Int32) (s_ta : Int32) (s_st : Nat → Int32) (s_qu : Nat → Int32) (c_re : Nat → Int32) (c_cx : Nat → Int32) (c_cy : Nat → Int32) (c_px : Nat → Int32) (c_py : Nat → Int32) (c_pn : Int32) (m_now : Nat → Int32) (m_sav : Nat → Int32) (m_sc : Int32) (m_err : Nat → Int32) (m_qx : Nat → Int32) (m_qy : Nat → Int32) (m_met : Nat → Int32) (m_per : Nat → Int32) (h : Rel t_scn r_er g_vc g_ec g_F g_T g_X g_Z v_pi v_vc v_ec v_F v_T v_X v_Z e_cn e_M s_fi s_ta s_st s_qu m_now m_sav m_sc m_err) : ∃ (o : Int32 × (Nat → Int32) × (Nat → Int32) × (Nat → Int32) × (Nat → Int32) × (Nat → Int32) × (Nat → Int32) × Int32) (o' : Int32 × (Nat → Int32) × (Nat → Int32) × (Nat → Int32) × (Nat → Int32) × (Nat → Int32)), pX5_index a1 r_er g_vc g_ec g_F g_T g_X g_Z c_re c_cx c_cy c_px c_py c_pn = some o ∧ pX6_index a1 m_now m_err m_qx m_qy m_met m_per = some o' ∧ o.1 = o'.1 ∧ Rel t_scn o.2.1 g_vc g_ec g_F g_T g_X g_Z v_pi v_vc v_ec v_F v_T v_X v_Z e_cn e_M s_fi s_ta s_st s_qu m_now m_sav m_sc o'.2.1 := by
  obtain ⟨hG, hM, hE, hS, hR, hV⟩ := h
  obtain ⟨nv, ne, rfl, rfl, h1, hnv, hne⟩ := hG.n
  rcases D_isVertex hG hM a1 with ⟨k1, k2⟩ | ⟨k, rfl, hk, hk6, k1, k2⟩
  · refine ⟨(-2, upd r_er 0 (r_er 0 + 1), c_re, c_cx, c_cy, c_px, c_py, c_pn), (-2, upd m_err 0 (m_err 0 + 1), m_qx, m_qy, m_met, m_per), ?_, ?_, rfl, hG, hM, hE, hS, RI_up hR 0 (by omega), hV⟩
    · unfold pX5_index; rw [k1, kb_s, if_pos rfl, fail_2, kb_s]
    · unfold pX6_index; rw [k2, kb_s, if_pos rfl, error_2, kb_s]
  · rw [nI_toInt (by omega)] at hk
    obtain ⟨re', cx', cy', px', py', pn', met', qx', qy', per', rk, ind, b1, b2, b3, b4, b5⟩ := lattice_s h1 hnv hG hM hne (show k < nv by omega) c_re c_cx c_cy c_px c_py m_met m_qx m_qy m_per c_pn
    refine ⟨(ind, r_er, re', cx', cy', px', py', pn'), (ind, m_err, qx', qy', met', per'), ?_, ?_, rfl, hG, hM, hE, hS, hR, hV⟩
    · unfold pX5_index; rw [k1, kb_s, if_neg (by decide), b1, kb_s, b3, kb_s]
    · unfold pX6_index; rw [k2, kb_s, if_neg (by decide), b5, kb_s]
