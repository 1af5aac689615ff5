/-! ring -/
theorem neg0 {x : Int32} (h1 : -2 ≤ x.toInt) (h2 : x.toInt ≤ 2) (h : x = -x) : x = 0 := by
  have := congrArg Int32.toInt h
  rw [i_neg (by omega)] at this
  apply Int32.toInt_inj.mp
  rw [i32_0]
  omega
theorem neg_z {x : Int32} (h : -x = 0) : x = 0 := Int32.neg_inj.mp (h.trans (show (0 : Int32) = -0 from rfl))
theorem neg_neg_eq {x y : Int32} (h : x = -y) : y = -x := by rw [h, Int32.neg_neg]
theorem GI.ne_ends {vc : Int32} {ne : Nat} {F T X Z : Nat → Int32} (hne : ne ≤ 12) (h : GI vc (nI ne) F T X Z) {i j : Nat} (hi : i < 2 * ne) (hj : j < 2 * ne) (hij : i ≠ j) (hv : eV F T i = eV F T j) : ¬ (eV T F i = eV T F j ∧ eX X i = eX X j ∧ eX Z i = eX Z j) := by
  obtain ⟨nv, ne', rfl, h2, h3, h4, h5, h6, h7⟩ := h
  have : ne = ne' := nI_inj (by omega) (by omega) h2
  subst this
  intro ⟨c1, c2, c3⟩
  unfold eV at hv c1
  unfold eX at c2 c3
  have un : ∀ e f, e < ne → f < ne → e ≠ f → ¬ (F e = F f ∧ T e = T f ∧ X e = X f ∧ Z e = Z f) ∧ ¬ (F e = T f ∧ T e = F f ∧ X e = -X f ∧ Z e = -Z f) := by
    intro e f he hf hef
    rcases Nat.lt_or_gt_of_ne hef with q | q
    · exact h7 e f q hf
    · obtain ⟨a, b⟩ := h7 f e q he
      exact ⟨fun ⟨a1, a2, a3, a4⟩ => a ⟨a1.symm, a2.symm, a3.symm, a4.symm⟩, fun ⟨a1, a2, a3, a4⟩ => b ⟨a2.symm, a1.symm, neg_neg_eq a3, neg_neg_eq a4⟩⟩
  have lp : ∀ e, e < ne → ¬ (F e = T e ∧ X e = -X e ∧ Z e = -Z e) := by
    intro e he ⟨a1, a2, a3⟩
    obtain ⟨-, -, hx, hz, hl⟩ := h6 e he
    exact hl ⟨a1, neg0 hx.1 hx.2 a2, neg0 hz.1 hz.2 a3⟩
  by_cases mi : i % 2 = 0
  · rw [if_pos mi] at hv c1 c2 c3
    by_cases mj : j % 2 = 0
    · rw [if_pos mj] at hv c1 c2 c3
      exact (un (i / 2) (j / 2) (by omega) (by omega) (by omega)).1 ⟨hv, c1, c2, c3⟩
    · rw [if_neg mj] at hv c1 c2 c3
      by_cases q : i / 2 = j / 2
      · rw [q] at hv c2 c3
        exact lp (j / 2) (by omega) ⟨hv, c2, c3⟩
      · exact (un (i / 2) (j / 2) (by omega) (by omega) q).2 ⟨hv, c1, c2, c3⟩
  · rw [if_neg mi] at hv c1 c2 c3
    by_cases mj : j % 2 = 0
    · rw [if_pos mj] at hv c1 c2 c3
      by_cases q : i / 2 = j / 2
      · rw [q] at c1 c2 c3
        exact lp (j / 2) (by omega) ⟨c1, c2.symm, c3.symm⟩
      · exact (un (i / 2) (j / 2) (by omega) (by omega) q).2 ⟨c1, hv, neg_neg_eq c2.symm, neg_neg_eq c3.symm⟩
    · rw [if_neg mj] at hv c1 c2 c3
      exact (un (i / 2) (j / 2) (by omega) (by omega) (by omega)).1 ⟨c1, hv, Int32.neg_inj.mp c2, Int32.neg_inj.mp c3⟩
theorem GI.no_self {vc : Int32} {ne : Nat} {F T X Z : Nat → Int32} (hne : ne ≤ 12) (h : GI vc (nI ne) F T X Z) {j : Nat} (hj : j < 2 * ne) : ¬ (eV T F j = eV F T j ∧ eX X j = 0 ∧ eX Z j = 0) := by
  obtain ⟨nv, ne', rfl, h2, h3, h4, h5, h6, h7⟩ := h
  have : ne = ne' := nI_inj (by omega) (by omega) h2
  subst this
  obtain ⟨-, -, hx, hz, hl⟩ := h6 (j / 2) (by omega)
  unfold eV eX
  by_cases m : j % 2 = 0
  · rw [if_pos m, if_pos m, if_pos m, if_pos m]
    exact fun ⟨a, b, c⟩ => hl ⟨a.symm, b, c⟩
  · rw [if_neg m, if_neg m, if_neg m, if_neg m]
    exact fun ⟨a, b, c⟩ => hl ⟨a, neg_z b, neg_z c⟩
theorem near_s {w : Nat} (hw : w < 6) {a b : Int32} (ha : -2 ≤ a.toInt ∧ a.toInt ≤ 2) (hb : -2 ≤ b.toInt ∧ b.toInt ≤ 2) : ∃ n, n < 6534 ∧ w = n % 6 ∧ a = nI (n / 6 / 33) - 16 ∧ b = nI (n / 6 % 33) - 16 ∧ pX4_nodeAt (nI w) a b = some (nI n) ∧ pX6_node (nI w) a b = some (nI (ph n)) := by
  rcases nodeAt_s hw a b with ⟨-, n2⟩ | ⟨n, hn, hn2, hn3, hn4, -⟩
  · omega
  · have := nodeAt_in hn
    rw [← hn2, ← hn3, ← hn4] at this
    exact ⟨n, hn, hn2, hn3, hn4, this⟩
theorem sim_ring (a1 : Int32) (a2 : Int32) (a3 : Int32) (t_scn : Int32) (r_er : Nat → Int32) (g_vc : Int32) (g_ec : Int32) (g_F : Nat → Int32) (g_T : Nat → Int32) (g_X : Nat → Int32) (g_Z : Nat → Int32) (v_pi : Nat → Nat) (v_vc : Nat → Int32) (v_ec : Nat → Int32) (v_F : Nat → Nat → Int32) (v_T : Nat → Nat → Int32) (v_X : Nat → Nat → Int32) (v_Z : Nat → Nat → Int32) (e_cn : Nat → Int32) (e_M : Nat → Nat → Int32) (s_fi : Int32) (s_ta : Int32) (s_st : Nat → Int32) (s_qu : Nat → Int32) (m_now : Nat → Int32) (m_sav : Nat → Int32) (m_sc : Int32) (m_err : Nat → Int32) (m_stp : Nat → Int32) (m_que : Nat → Int32) (m_qd : Int32) (h : Rel t_scn r_er g_vc g_ec g_F g_T g_X g_Z v_pi v_vc v_ec v_F v_T v_X v_Z e_cn e_M s_fi s_ta s_st s_qu m_now m_sav m_sc m_err) : ∃ (o : Int32 × (Nat → Int32) × Int32 × Int32 × (Nat → Int32) × (Nat → Int32)) (o' : Int32 × (Nat → Int32) × (Nat → Int32) × (Nat → Int32) × Int32), pX5_ring a1 a2 a3 e_cn e_M r_er g_vc s_fi s_ta s_st s_qu = some o ∧ pX6_ring a1 a2 a3 m_now m_err m_stp m_que m_qd = some o' ∧ o.1 = o'.1 ∧ Rel t_scn o.2.1 g_vc g_ec g_F g_T g_X g_Z v_pi v_vc v_ec v_F v_T v_X v_Z e_cn e_M o.2.2.1 o.2.2.2.1 o.2.2.2.2.1 o.2.2.2.2.2 m_now m_sav m_sc o'.2.1 := by
  obtain ⟨hG, hM, hE, hS, hR, hV⟩ := h
  obtain ⟨ne, hne, rfl⟩ := hG.ne
  obtain ⟨nv, _, rfl, -⟩ := id hG
  rcases D_isEnd hG hne hM hE a1 a2 with ⟨h1, h2⟩ | ⟨k, i, j, rfl, hk, hk6, rfl, hi, hj, hjv, hji, h1, h2, h3, h4, h5, h6⟩
  · refine ⟨(-2, upd r_er 0 (r_er 0 + 1), s_fi, s_ta, s_st, s_qu), (-2, upd m_err 0 (m_err 0 + 1), m_stp, m_que, m_qd), ?_, ?_, rfl, hG, hM, hE, hS, RI_up hR 0 (by omega), hV⟩
    · unfold pX5_ring; rw [h1, kb_s, if_pos rfl, fail_2, kb_s]
    · unfold pX6_ring; rw [h2, kb_s, if_pos rfl, error_2, kb_s]
  rcases D_isEnd hG hne hM hE (nI k) a3 with ⟨g1, g2⟩ | ⟨k', i', j', hkk, -, hk6', rfl, hi', hj', hjv', hji', g1, g2, g3, g4, g5, g6⟩
  · refine ⟨(-2, upd r_er 0 (r_er 0 + 1), s_fi, s_ta, s_st, s_qu), (-2, upd m_err 0 (m_err 0 + 1), m_stp, m_que, m_qd), ?_, ?_, rfl, hG, hM, hE, hS, RI_up hR 0 (by omega), hV⟩
    · unfold pX5_ring; rw [h1, kb_s, if_neg (by decide), g1, kb_s, if_pos rfl, fail_2, kb_s]
    · unfold pX6_ring; rw [h2, kb_s, if_neg (by decide), g2, kb_s, if_pos rfl, error_2, kb_s]
  have hkk := nI_inj (by omega) (by omega) hkk
  subst hkk
  by_cases hpq : nI i = nI i'
  · refine ⟨(-2, upd r_er 0 (r_er 0 + 1), s_fi, s_ta, s_st, s_qu), (-2, upd m_err 0 (m_err 0 + 1), m_stp, m_que, m_qd), ?_, ?_, rfl, hG, hM, hE, hS, RI_up hR 0 (by omega), hV⟩
    · unfold pX5_ring; rw [h1, kb_s, if_neg (by decide), g1, kb_s, if_neg (by decide), if_pos hpq, fail_2, kb_s]
    · unfold pX6_ring; rw [h2, kb_s, if_neg (by decide), g2, kb_s, if_neg (by decide), if_pos hpq, error_2, kb_s]
  have hjj : j ≠ j' := fun e => hpq (by rw [← hji, ← hji', e])
  obtain ⟨⟨w, w1, w2⟩, hx, hz⟩ := hG.end hne hj
  obtain ⟨⟨w', w1', w2'⟩, hx', hz'⟩ := hG.end hne hj'
  obtain ⟨n, hn, n2, n3, n4, n5, n6⟩ := near_s w1 hx hz
  obtain ⟨n', hn', n2', n3', n4', n5', n6'⟩ := near_s w1' hx' hz'
  obtain ⟨c1, c2, c3⟩ := cen_s hk6
  have z16 : nI 16 - 16 = 0 := by decide
  have d1 : n ≠ n' := fun e => hG.ne_ends hne hj hj' hjj (hjv.trans hjv'.symm) ⟨by rw [w2, w2', n2, n2', e], by rw [n3, n3', e], by rw [n4, n4', e]⟩
  have q1 : cen k % 6 = k := by unfold cen; omega
  have q2 : cen k / 6 / 33 = 16 := by unfold cen; omega
  have q3 : cen k / 6 % 33 = 16 := by unfold cen; omega
  have d2 : n ≠ cen k := fun e => hG.no_self hne hj ⟨by rw [w2, hjv, n2, e, q1], by rw [n3, e, q2, z16], by rw [n4, e, q3, z16]⟩
  have d3 : n' ≠ cen k := fun e => hG.no_self hne hj' ⟨by rw [w2', hjv', n2', e, q1], by rw [n3', e, q2, z16], by rw [n4', e, q3, z16]⟩
  have p1 := ph_lt c1
  have p2 := ph_lt hn
  have p3 := ph_lt hn'
  obtain ⟨s0, a1, a2⟩ := forget_s s_fi hS
  obtain ⟨t0, b1, b2⟩ := fill_loop (nI (ph n)) (nI (ph (cen k))) 10 6534 0 KF m_stp (by omega) (by unfold KF; omega) (fun i h => absurd h (Nat.not_lt_zero _))
  have hw : WO 1 (cen k) (nI (ph (cen k))) := Or.inr ⟨rfl, c1, rfl⟩
  have hcl : pX4_mark (nI (cen k)) 0 0 s0 s_qu = some (1, upd s0 (cen k) 0, upd s_qu 0 (nI (cen k))) := by
    unfold pX4_mark
    rw [if_neg (nI_pos (by omega)), if_neg (show ¬ (6534 : Int32) ≤ nI (cen k) from nI_ge (a := cen k) (b := 6534) c1 (by omega)), kin_nI c1 (by omega), kgd_tt, c_nI (by omega), a2 _ c1, if_pos rfl, if_neg (by decide)]
    rfl
  obtain ⟨st', qu', q', stp', que', r1, r2, r3, r4⟩ := (BR.one (qu := s_qu) (que := m_que) c1 a2 b2).mark hw (s := 0) (by rw [i32_0]; omega) hn
  rw [if_neg (fun e => d2 (ph_inj hn c1 (nI_inj (by omega) (by omega) e)))] at r2
  obtain ⟨st2, qu2, qq2, stp2, que2, l', s1, s2, s3, s4, st3, qu3, qq3, stp3, que3, s5, s6, s7⟩ := walk_loop hG hne hM hE hw 10 1 hn' 6533 1 KF KF st' qu' stp' que' q' (by omega) (by omega) (by unfold KF; omega) (by unfold KF; omega) r3
  have hfin : stp2 (ph n') = st3 n' := (s3.2.2.1 n' hn' d3).trans s7.symm
  have hcls : pX5_ring (nI k) (nI i) (nI i') e_cn e_M r_er (nI nv) s_fi s_ta s_st s_qu = (if st3 n' = (-1 : Int32) then some (-1, r_er, 1, nI qq3, st3, qu3) else some (st3 n' + 2, r_er, 1, nI qq3, st3, qu3)) := by
    unfold pX5_ring
    rw [h1, kb_s, if_neg (by decide), g1, kb_s, if_neg (by decide), if_neg hpq, c_nI (n := k) (by omega), c_nI (n := i) (by omega), c_nI (n := i') (by omega), kin_nI (show k < 6 by omega) (by omega), decide_eq_true (show 0 + k < 18 by omega), decide_eq_true (show 6 + k < 18 by omega), decide_eq_true (show 12 + k < 18 by omega), kin_nI (show i < 24 by omega) (by omega), kin_nI (show i' < 24 by omega) (by omega), Nat.zero_add]
    simp only [kgd_tt]
    rw [h4, h5, h6, g4, g5, g6, w2, w2', n5, kb_s, n5', kb_s, a1, kb_s, c2, kb_s]
    unfold pX4_close pX4_walk
    simp only []
    rw [hcl, kb_s, kb_s]
    simp only []
    rw [show pX4_mark (nI n) 0 1 (upd s0 (cen k) 0) (upd s_qu 0 (nI (cen k))) = _ from r1, kb_s]
    simp only []
    rw [show pX4_walk_L6 KF 10 (nI n') 1 e_cn e_M 1 (nI q') st' qu' = _ from s5, kb_s]
    simp only []
    rw [stepsTo_s hn', kb_s]
  have hmod : pX6_ring (nI k) (nI i) (nI i') m_now m_err m_stp m_que m_qd = (if st3 n' = (-1 : Int32) then some (-1, m_err, stp2, que2, nI (qq2 - 1)) else some (st3 n' + 2, m_err, stp2, que2, nI (qq2 - 1))) := by
    unfold pX6_ring
    rw [h2, kb_s, if_neg (by decide), g2, kb_s, if_neg (by decide), if_neg hpq, h3, kb_s, g3, kb_s, leadsTo_s hM hne hj, kb_s, endX_s hM hne hj, kb_s, endY_s hM hne hj, kb_s, w2, n6, kb_s, leadsTo_s hM hne hj', kb_s, endX_s hM hne hj', kb_s, endY_s hM hne hj', kb_s, w2', n6', kb_s, if_neg (fun e => d1 (ph_inj hn hn' (nI_inj (by omega) (by omega) e))), c3, kb_s]
    unfold pX6_search
    rw [show pX6_search_L3 KF (nI (ph n)) (nI (ph (cen k))) 10 0 m_stp = _ from b1, kb_s]
    simp only []
    rw [show pX6_reach (nI (ph n)) 0 t0 m_que 0 = _ from r2, kb_s]
    simp only []
    rw [show pX6_search_L39 KF (nI (ph (cen k))) 10 0 m_now stp' que' (nI (q' - 1)) = _ from s2, kb_s, kb_s]
    simp only []
    rw [kin_nI p3 (by omega), c_nI (n := ph n') (by omega), hfin]
    simp only [kgd_tt]
  by_cases hf : st3 n' = -1
  · rw [if_pos hf] at hcls hmod
    exact ⟨_, _, hcls, hmod, rfl, hG, hM, hE, s6.SI, hR, hV⟩
  · rw [if_neg hf] at hcls hmod
    exact ⟨_, _, hcls, hmod, rfl, hG, hM, hE, s6.SI, hR, hV⟩
