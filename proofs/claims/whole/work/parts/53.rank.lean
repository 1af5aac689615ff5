/-! isConnected, rank, index -/
theorem whole_loop {now : Nat → Int32} {nv : Nat} (h0 : now 0 = nI nv) (hnv : nv ≤ 6) {re met : Nat → Int32} (hm : ∀ v, v < 6 → (re v = 0 ∨ re v = 1) ∧ met v = re v) : ∀ (m k n n' : Nat), k + m = nv → m < n → m < n' → (∀ v, v < k → re v = 1) → ∃ r, pX0_isWhole_L2 n (nI k) (nI nv) re = some r ∧ (∃ l, pX6_connected_L9 n' 1 (nI k) now met = some (r, l)) ∧ ((r = 0 ∧ ¬ ∀ v, v < nv → re v = 1) ∨ (r = 1 ∧ ∀ v, v < nv → re v = 1)) := by
  have z : ∀ (m k n' : Nat), k + m = nv → m < n' → ∃ l, pX6_connected_L9 n' 0 (nI k) now met = some (0, l) := by
    intro m
    induction m with
    | zero =>
      intro k n' hk hn'
      obtain ⟨n', rfl⟩ : ∃ k, n' = k + 1 := ⟨n' - 1, by omega⟩
      have hk : k = nv := hk
      subst hk
      exact ⟨_, by rw [pX6_connected_L9, show kin 0 50 = true from rfl, kgd_tt, show now (0 : Int32).toNatClampNeg = nI k from h0, if_pos (nI_le (Nat.le_refl _) (by omega))]⟩
    | succ m ih =>
      intro k n' hk hn'
      obtain ⟨n', rfl⟩ : ∃ k, n' = k + 1 := ⟨n' - 1, by omega⟩
      rw [pX6_connected_L9, show kin 0 50 = true from rfl, kgd_tt, show now (0 : Int32).toNatClampNeg = nI nv from h0, if_neg (nI_ge (by omega) (by omega)), if_pos (show (0 : Int32) = 0 from rfl), kb_s, nI_1]
      exact ih (k + 1) n' (by omega) (by omega)
  intro m
  induction m with
  | zero =>
    intro k n n' hk hn hn' h
    obtain ⟨n, rfl⟩ : ∃ k, n = k + 1 := ⟨n - 1, by omega⟩
    obtain ⟨n', rfl⟩ : ∃ k, n' = k + 1 := ⟨n' - 1, by omega⟩
    have hk : k = nv := hk
    subst hk
    refine ⟨1, ?_, ⟨nI k, ?_⟩, Or.inr ⟨rfl, h⟩⟩
    · rw [pX0_isWhole_L2, if_pos (nI_le (Nat.le_refl _) (by omega))]
    · rw [pX6_connected_L9, show kin 0 50 = true from rfl, kgd_tt, show now (0 : Int32).toNatClampNeg = nI k from h0, if_pos (nI_le (Nat.le_refl _) (by omega))]
  | succ m ih =>
    intro k n n' hk hn hn' h
    obtain ⟨n, rfl⟩ : ∃ k, n = k + 1 := ⟨n - 1, by omega⟩
    obtain ⟨n', rfl⟩ : ∃ k, n' = k + 1 := ⟨n' - 1, by omega⟩
    rw [pX0_isWhole_L2, if_neg (nI_ge (by omega) (by omega)), kin_nI (show k < 6 by omega) (by omega), kgd_tt, c_nI (by omega), pX6_connected_L9, show kin 0 50 = true from rfl, kgd_tt, show now (0 : Int32).toNatClampNeg = nI nv from h0, if_neg (nI_ge (by omega) (by omega)), if_neg (show ¬ (1 : Int32) = 0 by decide), kin_nI (show k < 6 by omega) (by omega), kgd_tt, c_nI (by omega), nI_1, (hm k (by omega)).2]
    rcases (hm k (by omega)).1 with q | q
    · rw [if_pos q, if_pos q, kb_s]
      refine ⟨0, rfl, z m (k + 1) n' (by omega) (by omega), Or.inl ⟨rfl, fun c => ?_⟩⟩
      rw [c k (by omega)] at q
      exact absurd q (by decide)
    · rw [if_neg (by rw [q]; decide), if_neg (by rw [q]; decide), kb_s]
      refine ih (k + 1) n n' (by omega) (by omega) (by omega) (fun v hv => ?_)
      by_cases y : v = k
      · rw [y]; exact q
      · exact h v (by omega)
/-- how many of the first e edges are reached -/
def pc (F re : Nat → Int32) : Nat → Nat
  | 0 => 0
  | e + 1 => if re (ix F e) = 1 then pc F re e + 1 else pc F re e
theorem pc_s (F re : Nat → Int32) (e : Nat) : pc F re (e + 1) = if re (ix F e) = 1 then pc F re e + 1 else pc F re e := rfl
theorem pc_le (F re : Nat → Int32) : ∀ e, pc F re e ≤ e
  | 0 => Nat.le_refl _
  | e + 1 => by
    have := pc_le F re e
    rw [pc_s]
    split <;> omega
theorem pc_mono (F re : Nat → Int32) {e : Nat} : ∀ k, pc F re e ≤ pc F re (e + k)
  | 0 => Nat.le_refl _
  | k + 1 => by
    have := pc_mono F re (e := e) k
    rw [← Nat.add_assoc, pc_s]
    split <;> omega
theorem pc_lt {F re : Nat → Int32} {e f : Nat} (h : e < f) (he : re (ix F e) = 1) : pc F re e < pc F re f := by
  have := pc_mono F re (e := e + 1) (f - (e + 1))
  rw [show e + 1 + (f - (e + 1)) = f by omega, pc_s, if_pos he] at this
  omega
theorem pc_on {F re : Nat → Int32} {k : Nat} : ∀ e, k < pc F re e → ∃ f, f < e ∧ re (ix F f) = 1 ∧ pc F re f = k
  | 0 => fun h => absurd h (Nat.not_lt_zero _)
  | e + 1 => fun h => by
    rw [pc_s] at h
    by_cases q : re (ix F e) = 1
    · rw [if_pos q] at h
      by_cases z : k = pc F re e
      · exact ⟨e, by omega, q, z.symm⟩
      · obtain ⟨f, f1, f2, f3⟩ := pc_on (F := F) (re := re) (k := k) e (by omega)
        exact ⟨f, by omega, f2, f3⟩
    · rw [if_neg q] at h
      obtain ⟨f, f1, f2, f3⟩ := pc_on e h
      exact ⟨f, by omega, f2, f3⟩
def Dx (X cx F T : Nat → Int32) (f : Nat) : Int32 := cx (ix F f) + X f - cx (ix T f)
theorem list_loop2 {nv ne : Nat} {F T X Z : Nat → Int32} (hnv : nv ≤ 6) (hG : GI (nI nv) (nI ne) F T X Z) (hne : ne ≤ 12) {re cx cy : Nat → Int32} (h01 : ∀ v, v < 6 → re v = 0 ∨ re v = 1) (hf : fix F T re ne) : ∀ (m e n : Nat) (px py : Nat → Int32), e + m = ne → m < n → (∀ f, f < e → re (ix F f) = 1 → px (pc F re f) = Dx X cx F T f ∧ py (pc F re f) = Dx Z cy F T f) → ∃ px' py', pX0_listPeriods_L7 n (nI e) (nI ne) F T X Z re cx cy px py (nI (pc F re e)) = some (nI ne, px', py', nI (pc F re ne)) ∧ ∀ f, f < ne → re (ix F f) = 1 → px' (pc F re f) = Dx X cx F T f ∧ py' (pc F re f) = Dx Z cy F T f := by
  intro m
  induction m with
  | zero =>
    intro e n px py he hn h
    obtain ⟨n, rfl⟩ : ∃ k, n = k + 1 := ⟨n - 1, by omega⟩
    have he : e = ne := he
    subst he
    exact ⟨px, py, by rw [pX0_listPeriods_L7, if_pos (nI_le (Nat.le_refl _) (by omega))], h⟩
  | succ m ih =>
    intro e n px py he hn h
    obtain ⟨n, rfl⟩ : ∃ k, n = k + 1 := ⟨n - 1, by omega⟩
    obtain ⟨f1, t1, f2, t2, hx, hz⟩ := hG.vt hnv hne (show e < ne by omega)
    have hpc := pc_le F re e
    have hfe := hf e (by omega)
    rw [pX0_listPeriods_L7, if_neg (nI_ge (by omega) (by omega)), kin_nI (show e < 12 by omega) (by omega), c_nI (n := e) (by omega), f1, t1, kin_nI (show ix F e < 6 by omega) (by omega), kin_nI (show ix T e < 6 by omega) (by omega), c_nI (n := ix F e) (by omega), c_nI (n := ix T e) (by omega), kin_nI (show pc F re e < 12 by omega) (by omega), c_nI (n := pc F re e) (by omega), nI_1, nI_1]
    simp only [kgd_tt]
    rcases h01 (ix F e) (by omega) with q | q
    · have hs : pc F re (e + 1) = pc F re e := by rw [pc_s, if_neg (by rw [q]; decide)]
      rw [if_pos q, kb_s]
      simp only []
      rw [← hs]
      refine ih (e + 1) n px py (by omega) (by omega) (fun f hf1 hf2 => h f ?_ hf2)
      by_cases z : f = e
      · rw [z, q] at hf2; exact absurd hf2 (by decide)
      · omega
    · have hs : pc F re (e + 1) = pc F re e + 1 := by rw [pc_s, if_pos q]
      rw [if_neg (by rw [q]; decide), if_neg (by rw [← hfe, q]; decide), kb_s]
      simp only []
      rw [← hs]
      refine ih (e + 1) n _ _ (by omega) (by omega) (fun f hf1 hf2 => ?_)
      by_cases z : f = e
      · subst z; exact ⟨upd_eq2, upd_eq2⟩
      · have := pc_lt (F := F) (re := re) (show f < e by omega) hf2
        rw [upd_ne2 (by omega), upd_ne2 (by omega)]
        exact h f (by omega) hf2
def Af (ne : Nat) (X cx F T re : Nat → Int32) (f : Nat) : Int32 := if f < ne ∧ re (ix F f) = 1 then Dx X cx F T f else 0
theorem per_loop {now : Nat → Int32} {nv ne : Nat} {F T X Z : Nat → Int32} (hnv : nv ≤ 6) (hG : GI (nI nv) (nI ne) F T X Z) (hM : MI now 0 (nI nv) (nI ne) F T X Z) (hne : ne ≤ 12) {b : Int} {re cx cy met qx qy : Nat → Int32} (hC : CR b nv re cx cy met qx qy) (hf : fix F T re ne) : ∀ (m e n : Nat) (per : Nat → Int32), e + m = 12 → m < n → (∀ f, f < e → per (2 * f) = Af ne X cx F T re f ∧ per (2 * f + 1) = Af ne Z cy F T re f) → ∃ per', pX6_findPeriods_L7 n (nI e) now qx qy met per = some (nI 12, per') ∧ ∀ f, f < 12 → per' (2 * f) = Af ne X cx F T re f ∧ per' (2 * f + 1) = Af ne Z cy F T re f := by
  have h1 : now (1 : Int32).toNatClampNeg = nI ne := hM.2.1
  intro m
  induction m with
  | zero =>
    intro e n per he hn h
    obtain ⟨n, rfl⟩ : ∃ k, n = k + 1 := ⟨n - 1, by omega⟩
    have he : e = 12 := he
    subst he
    exact ⟨per, by rw [pX6_findPeriods_L7, if_pos (by decide)], h⟩
  | succ m ih =>
    intro e n per he hn h
    obtain ⟨n, rfl⟩ : ∃ k, n = k + 1 := ⟨n - 1, by omega⟩
    have step : ∀ x y, (x = Af ne X cx F T re e ∧ y = Af ne Z cy F T re e) → ∃ per', pX6_findPeriods_L7 n (nI (e + 1)) now qx qy met (upd (upd per (2 * e) x) (2 * e + 1) y) = some (nI 12, per') ∧ ∀ f, f < 12 → per' (2 * f) = Af ne X cx F T re f ∧ per' (2 * f + 1) = Af ne Z cy F T re f := by
      intro x y hxy
      refine ih (e + 1) n _ (by omega) (by omega) (fun f hf => ?_)
      by_cases z : f = e
      · subst z; exact ⟨by rw [upd_ne2 (by omega), upd_eq2]; exact hxy.1, by rw [upd_eq2]; exact hxy.2⟩
      · rw [upd_ne2 (by omega), upd_ne2 (by omega), upd_ne2 (by omega), upd_ne2 (by omega)]
        exact h f (by omega)
    rw [pX6_findPeriods_L7, if_neg (show ¬ (12 : Int32) ≤ nI e from nI_ge (a := e) (b := 12) (by omega) (by omega)), show kin 1 50 = true from rfl, kgd_tt, h1, nI_mulc 2 (show (2 : Int32) = nI 2 from rfl), nI_1, kin_nI (show 2 * e < 24 by omega) (by omega), kin_nI (show 2 * e + 1 < 24 by omega) (by omega), c_nI (n := 2 * e) (by omega), c_nI (n := 2 * e + 1) (by omega), nI_1]
    simp only [kgd_tt]
    by_cases hlt : e < ne
    · obtain ⟨f1, t1, f2, t2, hx, hz⟩ := hG.vt hnv hne hlt
      obtain ⟨p1, p2, p3, p4⟩ := hM.e hne hlt
      have o0 : pX6_of (nI e) 0 now = some (nI (ix F e)) := by rw [← f1, ← p1]; exact of_k (show e < 12 by omega) (k := 0) (by omega)
      have o1 : pX6_of (nI e) 1 now = some (nI (ix T e)) := by rw [← t1, ← p2]; exact of_k (show e < 12 by omega) (k := 1) (by omega)
      have o2 : pX6_of (nI e) 2 now = some (X e) := by rw [← p3]; exact of_k (show e < 12 by omega) (k := 2) (by omega)
      have o3 : pX6_of (nI e) 3 now = some (Z e) := by rw [← p4]; exact of_k (show e < 12 by omega) (k := 3) (by omega)
      obtain ⟨rf, mf, ef⟩ := hC (ix F e) (by omega)
      obtain ⟨rt, mt, et⟩ := hC (ix T e) (by omega)
      have hfe := hf e hlt
      rw [if_neg (nI_ge hlt (by omega)), o0, o1, o2, o3]
      simp only [kb_s]
      rw [kin_nI (show ix F e < 6 by omega) (by omega), kin_nI (show ix T e < 6 by omega) (by omega), c_nI (n := ix F e) (by omega), c_nI (n := ix T e) (by omega)]
      simp only [kgd_tt]
      rcases rf with q | q
      · rw [if_pos (mf.trans q), kb_s, if_pos rfl, if_pos rfl, kb_s, kb_s]
        have hn1 : ¬ (e < ne ∧ re (ix F e) = 1) := fun c => by rw [q] at c; exact absurd c.2 (by decide)
        exact step 0 0 ⟨by unfold Af; rw [if_neg hn1], by unfold Af; rw [if_neg hn1]⟩
      · obtain ⟨-, ex, ey, -⟩ := ef q
        obtain ⟨-, gx, gy, -⟩ := et (hfe.symm.trans q)
        rw [if_neg (by rw [mf, q]; decide), kb_s, if_neg (by decide), if_neg (by decide), kb_s, kb_s, ex, ey, gx, gy]
        exact step _ _ ⟨by unfold Af; rw [if_pos ⟨hlt, q⟩]; rfl, by unfold Af; rw [if_pos ⟨hlt, q⟩]; rfl⟩
    · rw [if_pos (nI_le (by omega) (by omega)), kb_s, if_pos rfl, if_pos rfl, kb_s, kb_s]
      have hn1 : ¬ (e < ne ∧ re (ix F e) = 1) := fun c => hlt c.1
      exact step 0 0 ⟨by unfold Af; rw [if_neg hn1], by unfold Af; rw [if_neg hn1]⟩
/-- the greatest divisor of a set of pairs' numbers -/
def GD (D : Nat → Nat → Nat) (g : Nat) (S : Nat → Nat → Prop) : Prop := g ≤ 200000 ∧ ∀ d, d ∣ g ↔ ∀ k m, S k m → d ∣ D k m
theorem GD.z (D : Nat → Nat → Nat) {S : Nat → Nat → Prop} (h : ∀ k m, ¬ S k m) : GD D 0 S := ⟨by omega, fun d => ⟨fun _ k m c => absurd c (h k m), fun _ => Nat.dvd_zero d⟩⟩
theorem GD.step {D : Nat → Nat → Nat} {g : Nat} {S S' : Nat → Nat → Prop} (h : GD D g S) {a b : Nat} (hD : D a b ≤ 200000) (hS : ∀ k m, S' k m ↔ (S k m ∨ (k = a ∧ m = b))) : GD D (Nat.gcd g (D a b)) S' := by
  obtain ⟨h1, h2⟩ := h
  refine ⟨?_, fun d => ?_⟩
  · rcases Nat.eq_zero_or_pos g with z | z
    · rw [z, Nat.gcd_zero_left]; exact hD
    · exact Nat.le_trans (Nat.gcd_le_left _ z) h1
  · rw [Nat.dvd_gcd_iff, h2]
    refine ⟨fun ⟨c1, c2⟩ k m hk => ?_, fun c => ⟨fun k m hk => c k m ((hS k m).mpr (Or.inl hk)), c a b ((hS a b).mpr (Or.inr ⟨rfl, rfl⟩))⟩⟩
    rcases (hS k m).mp hk with hk | ⟨rfl, rfl⟩
    · exact c1 k m hk
    · exact c2
theorem GD.iff {D : Nat → Nat → Nat} {g : Nat} {S S' : Nat → Nat → Prop} (h : GD D g S) (hS : ∀ k m, S' k m ↔ S k m) : GD D g S' := ⟨h.1, fun d => (h.2 d).trans ⟨fun c k m hk => c k m ((hS k m).mp hk), fun c k m hk => c k m ((hS k m).mpr hk)⟩⟩
def dt (x y : Nat → Int32) (k m : Nat) : Nat := ((x k).toInt * (y m).toInt - (x m).toInt * (y k).toInt).natAbs
def sml (x : Nat → Int32) (n : Nat) : Prop := ∀ k, k < n → -300 ≤ (x k).toInt ∧ (x k).toInt ≤ 300
theorem mul_b {a b : Int} (ha : -300 ≤ a ∧ a ≤ 300) (hb : -300 ≤ b ∧ b ≤ 300) : -90000 ≤ a * b ∧ a * b ≤ 90000 := by
  have h : (a * b).natAbs ≤ 300 * 300 := by
    rw [Int.natAbs_mul]
    exact Nat.mul_le_mul (by omega) (by omega)
  omega
theorem area_in {px py : Nat → Int32} {pn : Nat} (hp : pn ≤ 12) (sx : sml px pn) (sy : sml py pn) {k : Nat} (hk : k < pn) : ∀ (j m n g : Nat), m + j = pn → k < m → j < n → GD (dt px py) g (fun a b => b < pn ∧ a < b ∧ (a < k ∨ (a = k ∧ b < m))) → ∃ g', pX0_commonArea_L17 n (lN g) (nI k) (nI m) px py (nI pn) = some (lN g', nI pn) ∧ GD (dt px py) g' (fun a b => b < pn ∧ a < b ∧ a < k + 1) := by
  intro j
  induction j with
  | zero =>
    intro m n g hm hkm hn h
    obtain ⟨n, rfl⟩ : ∃ k, n = k + 1 := ⟨n - 1, by omega⟩
    have hm : m = pn := hm
    subst hm
    exact ⟨g, by rw [pX0_commonArea_L17, if_pos (nI_le (Nat.le_refl _) (by omega))], h.iff (fun a b => by omega)⟩
  | succ j ih =>
    intro m n g hm hkm hn h
    obtain ⟨n, rfl⟩ : ∃ k, n = k + 1 := ⟨n - 1, by omega⟩
    obtain ⟨b1, b2⟩ := mul_b (sx k hk) (sy m (by omega))
    obtain ⟨b3, b4⟩ := mul_b (sx m (by omega)) (sy k hk)
    have e1 : ((px k).toInt64 * (py m).toInt64).toInt = (px k).toInt * (py m).toInt := by rw [l_mul] <;> rw [Int32.toInt_toInt64, Int32.toInt_toInt64] <;> omega
    have e2 : ((px m).toInt64 * (py k).toInt64).toInt = (px m).toInt * (py k).toInt := by rw [l_mul] <;> rw [Int32.toInt_toInt64, Int32.toInt_toInt64] <;> omega
    have e3 : ((px k).toInt64 * (py m).toInt64 - (px m).toInt64 * (py k).toInt64).toInt = (px k).toInt * (py m).toInt - (px m).toInt * (py k).toInt := by rw [l_sub] <;> rw [e1, e2] <;> omega
    have hg := h.1
    have e4 : (lN g).toInt.natAbs = g := by rw [pk_lT (by omega)]; rfl
    have hd : dt px py k m ≤ 200000 := by unfold dt; omega
    rw [pX0_commonArea_L17, if_neg (nI_ge (by omega) (by omega)), kin_nI (show k < 12 by omega) (by omega), kin_nI (show m < 12 by omega) (by omega), c_nI (n := k) (by omega), c_nI (n := m) (by omega)]
    simp only [kgd_tt]
    rw [gd5_s (by rw [e4]; omega) (by rw [e3]; omega), e3, e4, kb_s, nI_1]
    exact ih (m + 1) n (Nat.gcd g (dt px py k m)) (by omega) (by omega) (by omega) (h.step hd (fun a b => by omega))
theorem area_out {px py : Nat → Int32} {pn : Nat} (hp : pn ≤ 12) (sx : sml px pn) (sy : sml py pn) : ∀ (j k n g : Nat), k + j = pn → j < n → GD (dt px py) g (fun a b => b < pn ∧ a < b ∧ a < k) → ∃ g', pX0_commonArea_L4 n (lN g) (nI k) px py (nI pn) = some (lN g', nI pn) ∧ GD (dt px py) g' (fun a b => b < pn ∧ a < b) := by
  intro j
  induction j with
  | zero =>
    intro k n g hk hn h
    obtain ⟨n, rfl⟩ : ∃ k, n = k + 1 := ⟨n - 1, by omega⟩
    have hk : k = pn := hk
    subst hk
    exact ⟨g, by rw [pX0_commonArea_L4, if_pos (nI_le (Nat.le_refl _) (by omega))], h.iff (fun a b => by omega)⟩
  | succ j ih =>
    intro k n g hk hn h
    obtain ⟨n, rfl⟩ : ∃ k, n = k + 1 := ⟨n - 1, by omega⟩
    obtain ⟨g', h1, h2⟩ := area_in hp sx sy (show k < pn by omega) (pn - (k + 1)) (k + 1) KF g (by omega) (by omega) (by unfold KF; omega) (h.iff (fun a b => by omega))
    rw [pX0_commonArea_L4, if_neg (nI_ge (by omega) (by omega)), nI_1, h1, kb_s]
    exact ih (k + 1) n g' (by omega) (by omega) h2
theorem area_s {px py : Nat → Int32} {pn : Nat} (hp : pn ≤ 12) (sx : sml px pn) (sy : sml py pn) : ∃ g, pX0_commonArea px py (nI pn) = some (lN g) ∧ GD (dt px py) g (fun a b => b < pn ∧ a < b) := by
  obtain ⟨g, h1, h2⟩ := area_out hp sx sy pn 0 KF 0 (by omega) (by unfold KF; omega) (GD.z _ (fun a b h => by omega))
  refine ⟨g, ?_, h2⟩
  unfold pX0_commonArea
  rw [show pX0_commonArea_L4 KF 0 0 px py (nI pn) = _ from h1, kb_s]
def dt6 (x y : Nat → Int32) (i j : Nat) : Nat := ((x i).toInt * (y j).toInt - (y i).toInt * (x j).toInt).natAbs
theorem det_in {A B per : Nat → Int32} {ne : Nat} (hne : ne ≤ 12) (sx : sml A ne) (sy : sml B ne) (hA : ∀ f, f < ne → per (2 * f) = A f ∧ per (2 * f + 1) = B f) {i : Nat} (hi : i < ne) : ∀ (m j n g : Nat), j + m = i → m < n → GD (dt6 A B) g (fun a b => b < a ∧ (a < i ∨ (a = i ∧ b < j))) → ∃ g', pX6_commonDeterminant_L16 n (nI g) (nI i) (nI j) per = some (nI g', nI i) ∧ GD (dt6 A B) g' (fun a b => b < a ∧ a < i + 1) := by
  intro m
  induction m with
  | zero =>
    intro j n g hj hn h
    obtain ⟨n, rfl⟩ : ∃ k, n = k + 1 := ⟨n - 1, by omega⟩
    have hj : j = i := hj
    subst hj
    exact ⟨g, by rw [pX6_commonDeterminant_L16, if_pos (nI_le (Nat.le_refl _) (by omega))], h.iff (fun a b => by omega)⟩
  | succ m ih =>
    intro j n g hj hn h
    obtain ⟨n, rfl⟩ : ∃ k, n = k + 1 := ⟨n - 1, by omega⟩
    obtain ⟨b1, b2⟩ := mul_b (sx i hi) (sy j (by omega))
    obtain ⟨b3, b4⟩ := mul_b (sy i hi) (sx j (by omega))
    have e1 : (A i * B j).toInt = (A i).toInt * (B j).toInt := i_mul (by omega) (by omega)
    have e2 : (B i * A j).toInt = (B i).toInt * (A j).toInt := i_mul (by omega) (by omega)
    have e3 : (A i * B j - B i * A j).toInt = (A i).toInt * (B j).toInt - (B i).toInt * (A j).toInt := by rw [i_sub] <;> rw [e1, e2] <;> omega
    have hg := h.1
    have e4 : (nI g).toInt.natAbs = g := by rw [nI_toInt (by omega)]; rfl
    have hd : dt6 A B i j ≤ 200000 := by unfold dt6; omega
    rw [pX6_commonDeterminant_L16, if_neg (nI_ge (by omega) (by omega)), nI_mulc 2 (show (2 : Int32) = nI 2 from rfl), nI_mulc 2 (show (2 : Int32) = nI 2 from rfl), nI_1, nI_1, kin_nI (by omega) (by omega), kin_nI (by omega) (by omega), kin_nI (by omega) (by omega), kin_nI (by omega) (by omega), c_nI (n := 2 * i) (by omega), c_nI (n := 2 * j) (by omega), c_nI (n := 2 * i + 1) (by omega), c_nI (n := 2 * j + 1) (by omega), (hA i hi).1, (hA i hi).2, (hA j (by omega)).1, (hA j (by omega)).2]
    simp only [kgd_tt]
    rw [gd6_s (by rw [nI_toInt (by omega)]; omega) (by rw [e3]; omega), e3, e4, kb_s, nI_1]
    exact ih (j + 1) n (Nat.gcd g (dt6 A B i j)) (by omega) (by omega) (h.step hd (fun a b => by omega))
theorem det_out {now A B per : Nat → Int32} {ne : Nat} (h1 : now 1 = nI ne) (hne : ne ≤ 12) (sx : sml A ne) (sy : sml B ne) (hA : ∀ f, f < ne → per (2 * f) = A f ∧ per (2 * f + 1) = B f) : ∀ (m i n g : Nat), i + m = ne → m < n → GD (dt6 A B) g (fun a b => b < a ∧ a < i) → ∃ g', pX6_commonDeterminant_L4 n (nI g) (nI i) now per = some (nI g', nI ne) ∧ GD (dt6 A B) g' (fun a b => b < a ∧ a < ne) := by
  intro m
  induction m with
  | zero =>
    intro i n g hi hn h
    obtain ⟨n, rfl⟩ : ∃ k, n = k + 1 := ⟨n - 1, by omega⟩
    have hi : i = ne := hi
    subst hi
    exact ⟨g, by rw [pX6_commonDeterminant_L4, show kin 1 50 = true from rfl, kgd_tt, show now (1 : Int32).toNatClampNeg = _ from h1, if_pos (nI_le (Nat.le_refl _) (by omega))], h⟩
  | succ m ih =>
    intro i n g hi hn h
    obtain ⟨n, rfl⟩ : ∃ k, n = k + 1 := ⟨n - 1, by omega⟩
    obtain ⟨g', k1, k2⟩ := det_in hne sx sy hA (show i < ne by omega) i 0 KF g (by omega) (by unfold KF; omega) (h.iff (fun a b => by omega))
    rw [pX6_commonDeterminant_L4, show kin 1 50 = true from rfl, kgd_tt, show now (1 : Int32).toNatClampNeg = _ from h1, if_neg (nI_ge (by omega) (by omega)), show pX6_commonDeterminant_L16 KF (nI g) (nI i) 0 per = _ from k1, kb_s, nI_1]
    exact ih (i + 1) n g' (by omega) (by omega) k2
theorem det_s {now A B per : Nat → Int32} {ne : Nat} (h1 : now 1 = nI ne) (hne : ne ≤ 12) (sx : sml A ne) (sy : sml B ne) (hA : ∀ f, f < ne → per (2 * f) = A f ∧ per (2 * f + 1) = B f) : ∃ g, pX6_commonDeterminant now per = some (nI g) ∧ GD (dt6 A B) g (fun a b => b < a ∧ a < ne) := by
  obtain ⟨g, k1, k2⟩ := det_out h1 hne sx sy hA ne 0 KF 0 (by omega) (by unfold KF; omega) (GD.z _ (fun a b h => by omega))
  refine ⟨g, ?_, k2⟩
  unfold pX6_commonDeterminant
  rw [show pX6_commonDeterminant_L4 KF 0 0 now per = _ from k1, kb_s]
