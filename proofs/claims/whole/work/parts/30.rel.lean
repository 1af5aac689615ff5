/-! what binds a net of the class to one of the model -/
def GI (vc ec : Int32) (F T X Z : Nat → Int32) : Prop := ∃ nv ne : Nat, vc = nI nv ∧ ec = nI ne ∧ 1 ≤ nv ∧ nv ≤ 6 ∧ ne ≤ 12 ∧ (∀ e, e < ne → (0 ≤ (F e).toInt ∧ (F e).toInt < nv) ∧ (0 ≤ (T e).toInt ∧ (T e).toInt < nv) ∧ (-2 ≤ (X e).toInt ∧ (X e).toInt ≤ 2) ∧ (-2 ≤ (Z e).toInt ∧ (Z e).toInt ≤ 2) ∧ ¬ (F e = T e ∧ X e = 0 ∧ Z e = 0)) ∧ ∀ e f, e < f → f < ne → ¬ (F e = F f ∧ T e = T f ∧ X e = X f ∧ Z e = Z f) ∧ ¬ (F e = T f ∧ T e = F f ∧ X e = -X f ∧ Z e = -Z f)
def MI (m : Nat → Int32) (k : Nat) (vc ec : Int32) (F T X Z : Nat → Int32) : Prop := m k = vc ∧ m (k + 1) = ec ∧ ∀ e : Nat, (e : Int) < ec.toInt → m (k + 2 + 4 * e) = F e ∧ m (k + 2 + 4 * e + 1) = T e ∧ m (k + 2 + 4 * e + 2) = X e ∧ m (k + 2 + 4 * e + 3) = Z e
/-- the ends: an even one at its edge's start, an odd one at its end -/
def eV (F T : Nat → Int32) (j : Nat) : Int32 := if j % 2 = 0 then F (j / 2) else T (j / 2)
def eX (X : Nat → Int32) (j : Nat) : Int32 := if j % 2 = 0 then X (j / 2) else -X (j / 2)
/-- how many of the first j ends are the vertex v's -/
def ecnt (F T : Nat → Int32) (v : Int32) : Nat → Nat
  | 0 => 0
  | j + 1 => if eV F T j = v then ecnt F T v j + 1 else ecnt F T v j
def EI (cn : Nat → Int32) (E : Nat → Nat → Int32) (ec : Int32) (F T X Z : Nat → Int32) : Prop := ∀ v, v < 6 → cn v = nI (ecnt F T (nI v) (2 * ec.toNatClampNeg)) ∧ ∀ j, j < 2 * ec.toNatClampNeg → eV F T j = nI v → E v (ecnt F T (nI v) j) = eV T F j ∧ E (6 + v) (ecnt F T (nI v) j) = eX X j ∧ E (12 + v) (ecnt F T (nI v) j) = eX Z j
def SI (ta : Int32) (st qu : Nat → Int32) : Prop := ∃ q : Nat, ta = nI q ∧ q ≤ 6534 ∧ (∀ k, k < q → 0 ≤ (qu k).toInt ∧ (qu k).toInt < 6534) ∧ ∀ n, n < 6534 → (∀ k, k < q → qu k ≠ nI n) → st n = -1
def VI (scn : Int32) (pi : Nat → Nat) (vc ec : Nat → Int32) (F T X Z : Nat → Nat → Int32) (sav : Nat → Int32) (sc : Int32) : Prop := scn = sc ∧ (∀ i, i < 5 → pi i < 5) ∧ (∀ i j, i < 5 → j < 5 → pi i = pi j → i = j) ∧ ∃ q : Nat, q ≤ 5 ∧ scn = nI q ∧ ∀ i, i < q → GI (vc (pi i)) (ec (pi i)) (F (pi i)) (T (pi i)) (X (pi i)) (Z (pi i)) ∧ MI sav (50 * i) (vc (pi i)) (ec (pi i)) (F (pi i)) (T (pi i)) (X (pi i)) (Z (pi i))
def Rel (t_scn : Int32) (r_er : Nat → Int32) (g_vc g_ec : Int32) (g_F g_T g_X g_Z : Nat → Int32) (v_pi : Nat → Nat) (v_vc v_ec : Nat → Int32) (v_F v_T v_X v_Z : Nat → Nat → Int32) (e_cn : Nat → Int32) (e_M : Nat → Nat → Int32) (s_fi s_ta : Int32) (s_st s_qu : Nat → Int32) (m_now m_sav : Nat → Int32) (m_sc : Int32) (m_err : Nat → Int32) : Prop :=
  GI g_vc g_ec g_F g_T g_X g_Z ∧ MI m_now 0 g_vc g_ec g_F g_T g_X g_Z ∧ EI e_cn e_M g_ec g_F g_T g_X g_Z ∧ SI s_ta s_st s_qu ∧ (∀ k, k < 6 → r_er k = m_err k) ∧ VI t_scn v_pi v_vc v_ec v_F v_T v_X v_Z m_sav m_sc
theorem law_gt {L j : Nat} (hL : L ≤ 2560) (hj : j ≤ 2560) (h : L < j + 5) : nI L - 5 < nI j := by
  rw [Int32.lt_iff_toInt_lt, Int32.toInt_sub, nI_toInt (by omega), nI_toInt (by omega), show (5 : Int32).toInt = 5 from rfl, Int.bmod_eq_of_le (by omega) (by omega)]
  omega
