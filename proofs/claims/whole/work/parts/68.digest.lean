/-! digest -/
theorem derr_loop {er err : Nat → Int32} (hR : ∀ k, k < 6 → er k = err k) : ∀ (m k n n' : Nat) (h : Int64), k + m = 6 → m < n → m < n' → ∃ h', pX5_digest_L6 n h (nI k) er = some (h', nI 6) ∧ pX6_digest_L9 n' (nI k) err h = some (nI 6, h') := by
  intro m
  induction m with
  | zero =>
    intro k n n' h hk hn hn'
    obtain ⟨n, rfl⟩ : ∃ k, n = k + 1 := ⟨n - 1, by omega⟩
    obtain ⟨n', rfl⟩ : ∃ k, n' = k + 1 := ⟨n' - 1, by omega⟩
    have hk : k = 6 := hk
    subst hk
    exact ⟨h, by rw [pX5_digest_L6, if_pos (by decide)], by rw [pX6_digest_L9, if_pos (by decide)]⟩
  | succ m ih =>
    intro k n n' h hk hn hn'
    obtain ⟨n, rfl⟩ : ∃ k, n = k + 1 := ⟨n - 1, by omega⟩
    obtain ⟨n', rfl⟩ : ∃ k, n' = k + 1 := ⟨n' - 1, by omega⟩
    obtain ⟨h', a, b⟩ := ih (k + 1) n n' (31 * h + (err k).toInt64) (by omega) (by omega) (by omega)
    refine ⟨h', ?_, ?_⟩
    · rw [pX5_digest_L6, if_neg (show ¬ (6 : Int32) ≤ nI k from nI_ge (a := k) (b := 6) (by omega) (by omega)), kin_nI (by omega) (by omega), kgd_tt, c_nI (by omega), hR k (by omega), nI_1]
      exact a
    · rw [pX6_digest_L9, if_neg (show ¬ (6 : Int32) ≤ nI k from nI_ge (a := k) (b := 6) (by omega) (by omega)), kin_nI (by omega) (by omega), kgd_tt, c_nI (by omega), nI_1]
      exact b
theorem mix1 {now : Nat → Int32} {ne l : Nat} (h1 : now 1 = nI ne) (hne : ne ≤ 12) (hl : l < 2 + 4 * ne) (n : Nat) (h : Int64) : pX6_digest_L34 (n + 1) (nI l) now h = pX6_digest_L34 n (nI (l + 1)) now (31 * h + (now l).toInt64) := by
  rw [pX6_digest_L34, show kin 1 50 = true from rfl, kgd_tt, show now (1 : Int32).toNatClampNeg = _ from h1, show (2 : Int32) = nI 2 from rfl, show (4 : Int32) = nI 4 from rfl, pk_mul, nI_add, if_neg (nI_ge (by omega) (by omega)), kin_nI (by omega) (by omega), kgd_tt, c_nI (by omega), nI_1]
  rfl
theorem dgraph_loop {now : Nat → Int32} {nv ne : Nat} {F T X Z : Nat → Int32} (hM : MI now 0 (nI nv) (nI ne) F T X Z) (hne : ne ≤ 12) : ∀ (m e n n' : Nat) (h : Int64), e + m = ne → m < n → 4 * m < n' → ∃ h', pX5_mixGraph_L29 n h (nI e) (nI ne) F T X Z = some (h', nI ne) ∧ pX6_digest_L34 n' (nI (2 + 4 * e)) now h = some (nI (2 + 4 * ne), h') := by
  intro m
  induction m with
  | zero =>
    intro e n n' h he hn hn'
    obtain ⟨n, rfl⟩ : ∃ k, n = k + 1 := ⟨n - 1, by omega⟩
    obtain ⟨n', rfl⟩ : ∃ k, n' = k + 1 := ⟨n' - 1, by omega⟩
    have he : e = ne := he
    subst he
    refine ⟨h, by rw [pX5_mixGraph_L29, if_pos (nI_le (Nat.le_refl _) (by omega))], ?_⟩
    rw [pX6_digest_L34, show kin 1 50 = true from rfl, kgd_tt, show now (1 : Int32).toNatClampNeg = _ from hM.2.1, show (2 : Int32) = nI 2 from rfl, show (4 : Int32) = nI 4 from rfl, pk_mul, nI_add, if_pos (nI_le (Nat.le_refl _) (by omega))]
  | succ m ih =>
    intro e n n' h he hn hn'
    obtain ⟨n, rfl⟩ : ∃ k, n = k + 1 := ⟨n - 1, by omega⟩
    obtain ⟨n', rfl⟩ : ∃ k, n' = k + 4 := ⟨n' - 4, by omega⟩
    obtain ⟨p1, p2, p3, p4⟩ := hM.e hne (show e < ne by omega)
    rw [Nat.add_zero] at p1
    obtain ⟨h', a, b⟩ := ih (e + 1) n n' (31 * (31 * (31 * (31 * h + (F e).toInt64) + (T e).toInt64) + (X e).toInt64) + (Z e).toInt64) (by omega) (by omega) (by omega)
    refine ⟨h', ?_, ?_⟩
    · rw [pX5_mixGraph_L29, if_neg (nI_ge (by omega) (by omega)), kin_nI (show e < 12 by omega) (by omega), c_nI (by omega), nI_1]
      exact a
    · rw [mix1 hM.2.1 hne (by omega), mix1 hM.2.1 hne (by omega), mix1 hM.2.1 hne (by omega), mix1 hM.2.1 hne (by omega), p1, p2, p3, p4]
      exact b
theorem dgraph_s {now : Nat → Int32} {nv ne : Nat} {F T X Z : Nat → Int32} (hM : MI now 0 (nI nv) (nI ne) F T X Z) (hne : ne ≤ 12) (h : Int64) : ∃ h' l, pX5_mixGraph h (nI nv) (nI ne) F T X Z = some h' ∧ pX6_digest_L34 KF 0 now h = some (l, h') := by
  obtain ⟨h', a, b⟩ := dgraph_loop hM hne ne 0 KF 6998 (31 * (31 * h + (nI nv).toInt64) + (nI ne).toInt64) (by omega) (by unfold KF; omega) (by omega)
  refine ⟨h', nI (2 + 4 * ne), ?_, ?_⟩
  · unfold pX5_mixGraph pX5_mix
    rw [kb_s, kb_s, show pX5_mixGraph_L29 KF (31 * (31 * h + (nI nv).toInt64) + (nI ne).toInt64) 0 (nI ne) F T X Z = _ from a, kb_s]
  · rw [show KF = 6998 + 1 + 1 from rfl, show (0 : Int32) = nI 0 from rfl, mix1 hM.2.1 hne (by omega), mix1 hM.2.1 hne (by omega), show now 0 = nI nv from hM.1, show now (0 + 1) = nI ne from hM.2.1]
    exact b
theorem dnodes_loop {q : Nat} {st qu stp que : Nat → Int32} (hB : BR 0 6534 st qu q stp que) (l3 l1 : Int32) : ∀ (m k n n' : Nat) (h : Int64), k + m = 5 → m < n → m < n' → ∃ h' l l', pX5_mixSurroundings_L26 n l3 h (nI k) 0 (nI q) st qu = some (h', l) ∧ pX6_digest_L101 n' l1 (nI k) stp que (nI q) h = some (l', h') := by
  intro m
  induction m with
  | zero =>
    intro k n n' h hk hn hn'
    obtain ⟨n, rfl⟩ : ∃ k, n = k + 1 := ⟨n - 1, by omega⟩
    obtain ⟨n', rfl⟩ : ∃ k, n' = k + 1 := ⟨n' - 1, by omega⟩
    have hk : k = 5 := hk
    subst hk
    exact ⟨h, nI 5, nI 5, by rw [pX5_mixSurroundings_L26, if_pos (by decide)], by rw [pX6_digest_L101, if_pos (by decide)]⟩
  | succ m ih =>
    intro k n n' h hk hn hn'
    obtain ⟨n, rfl⟩ : ∃ k, n = k + 1 := ⟨n - 1, by omega⟩
    obtain ⟨n', rfl⟩ : ∃ k, n' = k + 1 := ⟨n' - 1, by omega⟩
    obtain ⟨r, c1, c2⟩ := count_s hB (nI k)
    obtain ⟨h', l, l', a, b⟩ := ih (k + 1) n n' (31 * h + r.toInt64) (by omega) (by omega) (by omega)
    refine ⟨h', l, l', ?_, ?_⟩
    · rw [pX5_mixSurroundings_L26, if_neg (show ¬ (4 : Int32) < nI k from nI_nlt (a := 4) (by omega) (by omega)), c1, kb_s, nI_1]
      exact a
    · rw [pX6_digest_L101, if_neg (show ¬ (5 : Int32) ≤ nI k from nI_ge (a := k) (b := 5) (by omega) (by omega)), c2, kb_s, nI_1]
      exact b
theorem dsur_loop {now cn : Nat → Int32} {E : Nat → Nat → Int32} {nv ne : Nat} {F T X Z : Nat → Int32} (h1 : 1 ≤ nv) (hnv : nv ≤ 6) (hG : GI (nI nv) (nI ne) F T X Z) (hM : MI now 0 (nI nv) (nI ne) F T X Z) (hE : EI cn E (nI ne) F T X Z) (hne : ne ≤ 12) : ∀ (m v n n' : Nat) (h : Int64) (fi ta : Int32) (st qu re cx cy px py stp que qx qy met per : Nat → Int32) (pn qd : Int32), v + m = nv → m < n → m < n' → SI ta st qu → ∃ h' fi' ta' st' qu' re' cx' cy' px' py' pn' stp' que' qd' qx' qy' met' per', pX5_digest_L38 n h (nI v) cn E (nI nv) (nI ne) F T X Z fi ta st qu re cx cy px py pn = some (h', nI nv, fi', ta', st', qu', re', cx', cy', px', py', pn') ∧ pX6_digest_L67 n' (nI v) now stp que qd qx qy met per h = some (nI nv, stp', que', qd', qx', qy', met', per', h') ∧ SI ta' st' qu' := by
  intro m
  induction m with
  | zero =>
    intro v n n' h fi ta st qu re cx cy px py stp que qx qy met per pn qd hv hn hn' hS
    obtain ⟨n, rfl⟩ : ∃ k, n = k + 1 := ⟨n - 1, by omega⟩
    obtain ⟨n', rfl⟩ : ∃ k, n' = k + 1 := ⟨n' - 1, by omega⟩
    have hv : v = nv := hv
    subst hv
    exact ⟨h, fi, ta, st, qu, re, cx, cy, px, py, pn, stp, que, qd, qx, qy, met, per, by rw [pX5_digest_L38, if_pos (nI_le (Nat.le_refl _) (by omega))], by rw [pX6_digest_L67, show kin 0 50 = true from rfl, kgd_tt, show now (0 : Int32).toNatClampNeg = _ from hM.1, if_pos (nI_le (Nat.le_refl _) (by omega))], hS⟩
  | succ m ih =>
    intro v n n' h fi ta st qu re cx cy px py stp que qx qy met per pn qd hv hn hn' hS
    obtain ⟨n, rfl⟩ : ∃ k, n = k + 1 := ⟨n - 1, by omega⟩
    obtain ⟨n', rfl⟩ : ∃ k, n' = k + 1 := ⟨n' - 1, by omega⟩
    have hv6 : v < 6 := by omega
    obtain ⟨st', qu', q', stp', que', w1, w2, w3, -⟩ := around_s (fi := fi) hG hne hM hE hS stp que qd 4 hv6 (show 0 < 6534 by omega)
    have hdeg : cn v = nI (ecnt F T (nI v) (2 * ne)) := by
      have := (hE v hv6).1
      rw [c_nI (by omega)] at this
      exact this
    obtain ⟨h2, l, l', d1, d2⟩ := dnodes_loop w3 (nI v) (nI v) 4 1 KF KF (31 * h + (cn v).toInt64) (by omega) (by unfold KF; omega) (by unfold KF; omega)
    obtain ⟨re', cx', cy', px', py', pn', met', qx', qy', per', rk, ind, b1, b2, b3, b4, b5⟩ := lattice_s h1 hnv hG hM hne (show v < nv by omega) re cx cy px py met qx qy per pn
    obtain ⟨re2, cx2, cy2, px2, py2, pn2, met2, qx2, qy2, per2, rk2, ind2, c1, c2, c3, c4, c5⟩ := lattice_s h1 hnv hG hM hne (show v < nv by omega) re cx cy px py met' qx' qy' per' pn
    have hind : ind2 = ind := by
      have ee := Option.some.inj (b1.symm.trans c1)
      have e4 : px' = px2 := congrArg (fun o => o.2.2.2.1) ee
      have e5 : py' = py2 := congrArg (fun o => o.2.2.2.2.1) ee
      have e6 : pn' = pn2 := congrArg (fun o => o.2.2.2.2.2) ee
      rw [← e4, ← e5, ← e6, b3] at c3
      exact (Option.some.inj c3).symm
    rw [hind] at c5
    obtain ⟨h3, fi3, ta3, st3, qu3, re3, cx3, cy3, px3, py3, pn3, stp3, que3, qd3, qx3, qy3, met3, per3, f1, f2, f3⟩ := ih (v + 1) n n' (31 * (31 * h2 + rk.toInt64) + ind.toInt64) 0 (nI q') st' qu' re' cx' cy' px' py' stp' que' qx2 qy2 met2 per2 pn' (nI q') (by omega) (by omega) (by omega) w3.SI
    refine ⟨h3, fi3, ta3, st3, qu3, re3, cx3, cy3, px3, py3, pn3, stp3, que3, qd3, qx3, qy3, met3, per3, ?_, ?_, f3⟩
    · rw [pX5_digest_L38, if_neg (nI_ge (by omega) (by omega))]
      unfold pX5_mixSurroundings pX5_mix
      rw [kin_nI hv6 (by omega), kgd_tt, c_nI (n := v) (by omega), kb_s, w1, kb_s]
      simp only []
      rw [show pX5_mixSurroundings_L26 KF (nI v) (31 * h + (cn v).toInt64) 1 0 (nI q') st' qu' = _ from d1, kb_s, b1, kb_s]
      simp only []
      rw [b2, kb_s, kb_s, b3, kb_s, kb_s, kb_s, nI_1]
      exact f1
    · rw [pX6_digest_L67, show kin 0 50 = true from rfl, kgd_tt, show now (0 : Int32).toNatClampNeg = _ from hM.1, if_neg (nI_ge (by omega) (by omega)), degreeOf_s hM hne, kb_s, ← hdeg]
      unfold pX6_mix
      rw [kb_s, (cen_s hv6).2.2, kb_s, w2, kb_s]
      simp only []
      rw [show pX6_digest_L101 KF (nI v) 1 stp' que' (nI q') (31 * h + (cn v).toInt64) = _ from d2, kb_s, b4, kb_s]
      simp only []
      rw [kb_s, c5, kb_s, kb_s, nI_1]
      exact f2
theorem dpos_in {u : Nat} {R : Nat → Nat → Int64} {row : Nat → Int64} {s : Int64} (hu : u ≤ 5) (h : PS u R row s) {v : Nat} (hv : v ≤ u) : ∀ (m k n n' : Nat) (g : Int64), k + m = 2 → m < n → m < n' → ∃ g', pX5_mixPositions_L31 n g (nI v) (nI k) R (nI u) s = some (g', nI 2) ∧ pX6_mixPositions_L18 n' (nI v) (nI k) row s g = some (nI 2, g') := by
  intro m
  induction m with
  | zero =>
    intro k n n' g hk hn hn'
    obtain ⟨n, rfl⟩ : ∃ k, n = k + 1 := ⟨n - 1, by omega⟩
    obtain ⟨n', rfl⟩ : ∃ k, n' = k + 1 := ⟨n' - 1, by omega⟩
    have hk : k = 2 := hk
    subst hk
    exact ⟨g, by rw [pX5_mixPositions_L31, if_pos (by decide)], by rw [pX6_mixPositions_L18, if_pos (by decide)]⟩
  | succ m ih =>
    intro k n n' g hk hn hn'
    obtain ⟨n, rfl⟩ : ∃ k, n = k + 1 := ⟨n - 1, by omega⟩
    obtain ⟨n', rfl⟩ : ∃ k, n' = k + 1 := ⟨n' - 1, by omega⟩
    obtain ⟨gg, t, b, t1, t2, t3, t4, -⟩ := ratio_s hu h hv (ax := k) (by omega)
    obtain ⟨g', a1, a2⟩ := ih (k + 1) n n' (31 * (31 * g + t) + b) (by omega) (by omega) (by omega)
    refine ⟨g', ?_, ?_⟩
    · rw [pX5_mixPositions_L31, if_neg (show ¬ (2 : Int32) ≤ nI k from nI_ge (a := k) (b := 2) (by omega) (by omega)), t1, kb_s, t2]
      unfold pX5_mix
      rw [kb_s, kb_s, kb_s, nI_1]
      exact a1
    · rw [pX6_mixPositions_L18, if_neg (show ¬ (2 : Int32) ≤ nI k from nI_ge (a := k) (b := 2) (by omega) (by omega)), t3, kb_s, t4]
      unfold pX6_mix
      rw [kb_s, kb_s, kb_s, nI_1]
      exact a2
theorem dpos_out {u : Nat} {R : Nat → Nat → Int64} {row : Nat → Int64} {s : Int64} {now : Nat → Int32} (h0 : now 0 = nI (u + 1)) (hu : u ≤ 5) (h : PS u R row s) : ∀ (m v n n' : Nat) (g : Int64), v + m = u + 1 → m < n → m < n' → ∃ g', pX5_mixPositions_L16 n g (nI v) R (nI u) s (nI (u + 1)) = some (g', nI (u + 1)) ∧ pX6_mixPositions_L6 n' (nI v) now row s g = some (nI (u + 1), g') := by
  intro m
  induction m with
  | zero =>
    intro v n n' g hv hn hn'
    obtain ⟨n, rfl⟩ : ∃ k, n = k + 1 := ⟨n - 1, by omega⟩
    obtain ⟨n', rfl⟩ : ∃ k, n' = k + 1 := ⟨n' - 1, by omega⟩
    have hv : v = u + 1 := hv
    subst hv
    exact ⟨g, by rw [pX5_mixPositions_L16, if_pos (nI_le (Nat.le_refl _) (by omega))], by rw [pX6_mixPositions_L6, show kin 0 50 = true from rfl, kgd_tt, show now (0 : Int32).toNatClampNeg = _ from h0, if_pos (nI_le (Nat.le_refl _) (by omega))]⟩
  | succ m ih =>
    intro v n n' g hv hn hn'
    obtain ⟨n, rfl⟩ : ∃ k, n = k + 1 := ⟨n - 1, by omega⟩
    obtain ⟨n', rfl⟩ : ∃ k, n' = k + 1 := ⟨n' - 1, by omega⟩
    obtain ⟨g1, a1, a2⟩ := dpos_in hu h (show v ≤ u by omega) 2 0 KF KF g (by omega) (by unfold KF; omega) (by unfold KF; omega)
    obtain ⟨g2, b1, b2⟩ := ih (v + 1) n n' g1 (by omega) (by omega) (by omega)
    refine ⟨g2, ?_, ?_⟩
    · rw [pX5_mixPositions_L16, if_neg (nI_ge (by omega) (by omega)), show pX5_mixPositions_L31 KF g (nI v) 0 R (nI u) s = _ from a1, kb_s, nI_1]
      exact b1
    · rw [pX6_mixPositions_L6, show kin 0 50 = true from rfl, kgd_tt, show now (0 : Int32).toNatClampNeg = _ from h0, if_neg (nI_ge (by omega) (by omega)), show pX6_mixPositions_L18 KF (nI v) 0 row s g = _ from a2, kb_s, nI_1]
      exact b2
theorem sim_digest  (t_scn : Int32) (r_er : Nat → Int32) (g_vc : Int32) (g_ec : Int32) (g_F : Nat → Int32) (g_T : Nat → Int32) (g_X : Nat → Int32) (g_Z : Nat → Int32) (v_pi : Nat → Nat) (v_vc : Nat → Int32) (v_ec : Nat → Int32) (v_F : Nat → Nat → Int32) (v_T : Nat → Nat → Int32) (v_X : Nat → Nat → Int32) (v_Z : Nat → Nat → Int32) (e_cn : Nat → Int32) (e_M : Nat → Nat → Int32) (s_fi : Int32) (s_ta : Int32) (s_st : Nat → Int32) (s_qu : Nat → Int32) (c_re : Nat → Int32) (c_cx : Nat → Int32) (c_cy : Nat → Int32) (c_px : Nat → Int32) (c_py : Nat → Int32) (c_pn : Int32) (p_R : Nat → Nat → Int64) (p_un : Int32) (p_sc : Int64) (m_now : Nat → Int32) (m_sav : Nat → Int32) (m_sc : Int32) (m_err : Nat → Int32) (m_stp : Nat → Int32) (m_que : Nat → Int32) (m_qd : Int32) (m_qx : Nat → Int32) (m_qy : Nat → Int32) (m_met : Nat → Int32) (m_per : Nat → Int32) (m_row : Nat → Int64) (m_det : Int64) (m_h : Int64) (h : Rel t_scn r_er g_vc g_ec g_F g_T g_X g_Z v_pi v_vc v_ec v_F v_T v_X v_Z e_cn e_M s_fi s_ta s_st s_qu m_now m_sav m_sc m_err) : ∃ (o : Int64 × (Nat → Nat → Int64) × Int32 × Int64 × Int32 × Int32 × (Nat → Int32) × (Nat → Int32) × (Nat → Int32) × (Nat → Int32) × (Nat → Int32) × (Nat → Int32) × (Nat → Int32) × Int32) (o' : Int64 × (Nat → Int32) × (Nat → Int32) × Int32 × (Nat → Int32) × (Nat → Int32) × (Nat → Int32) × (Nat → Int32) × (Nat → Int64) × Int64 × Int64), pX5_digest e_cn e_M p_R p_un p_sc t_scn r_er g_vc g_ec g_F g_T g_X g_Z s_fi s_ta s_st s_qu c_re c_cx c_cy c_px c_py c_pn = some o ∧ pX6_digest m_now m_sc m_err m_stp m_que m_qd m_qx m_qy m_met m_per m_row m_det m_h = some o' ∧ o.1 = o'.1 ∧ Rel t_scn r_er g_vc g_ec g_F g_T g_X g_Z v_pi v_vc v_ec v_F v_T v_X v_Z e_cn e_M o.2.2.2.2.1 o.2.2.2.2.2.1 o.2.2.2.2.2.2.1 o.2.2.2.2.2.2.2.1 m_now m_sav m_sc m_err := by
  obtain ⟨hG, hM, hE, hS, hR, hV⟩ := h
  obtain ⟨nv, ne, rfl, rfl, h1, hnv, hne⟩ := hG.n
  obtain ⟨g0, a1, a2⟩ := derr_loop hR 6 0 KF KF 2699 (by omega) (by unfold KF; omega) (by unfold KF; omega)
  obtain ⟨g1, l1, b1, b2⟩ := dgraph_s hM hne g0
  obtain ⟨g2, fi', ta', st', qu', re', cx', cy', px', py', pn', stp', que', qd', qx', qy', met', per', c1, c2, c3⟩ := dsur_loop h1 hnv hG hM hE hne nv 0 KF KF g1 s_fi s_ta s_st s_qu c_re c_cx c_cy c_px c_py m_stp m_que m_qx m_qy m_met m_per c_pn m_qd (by omega) (by unfold KF; omega) (by unfold KF; omega) hS
  obtain ⟨re2, cx2, cy2, px2, py2, pn2, met2, qx2, qy2, r, d1, d2, d3⟩ := piece_s h1 hnv hG hM hne re' cx' cy' px' py' met' qx' qy' pn'
  have hsc : t_scn = m_sc := hV.1
  have cls : ∀ (hf : Int64) (Rf : Nat → Nat → Int64) (unf : Int32) (scf : Int64), kb ((if r = 0 then some (31 * g2 + (if r = 0 then 0 else 1), p_R, p_un, p_sc) else kb (pX5_mixPositions (31 * g2 + (if r = 0 then 0 else 1)) p_R p_un p_sc (nI nv) (nI ne) g_F g_T g_X g_Z) (fun v22 => some (v22.1, v22.2.1, v22.2.2.1, v22.2.2.2))) : Option (Int64 × (Nat → Nat → Int64) × Int32 × Int64)) (fun v => some v) = some (hf, Rf, unf, scf) → pX5_digest e_cn e_M p_R p_un p_sc t_scn r_er (nI nv) (nI ne) g_F g_T g_X g_Z s_fi s_ta s_st s_qu c_re c_cx c_cy c_px c_py c_pn = some (31 * hf + t_scn.toInt64, Rf, unf, scf, fi', ta', st', qu', re2, cx2, cy2, px2, py2, pn2) := by
    intro hf Rf unf scf hh
    have key2 : ∀ (o : Option (Int64 × (Nat → Nat → Int64) × Int32 × Int64)) a, kb o (fun v => some v) = some a → o = some a := fun o a h => by cases o <;> exact h
    have hh := key2 _ _ hh
    have hb : ((if r = 0 then some 0 else some 1) : Option Int64) = some (if r = 0 then 0 else 1) := by split <;> rfl
    unfold pX5_digest
    rw [show pX5_digest_L6 KF 2699 0 r_er = _ from a1, kb_s]
    simp only []
    rw [b1, kb_s, show pX5_digest_L38 KF g1 0 e_cn e_M (nI nv) (nI ne) g_F g_T g_X g_Z s_fi s_ta s_st s_qu c_re c_cx c_cy c_px c_py c_pn = _ from c1, kb_s]
    simp only []
    rw [d1, kb_s]
    simp only []
    rw [hb, kb_s]
    unfold pX5_mix
    rw [kb_s, hh, kb_s, kb_s]
  have mdl : ∀ (hf : Int64) (rowf : Nat → Int64) (detf : Int64), kb ((if r = 0 then some (m_row, m_det, 31 * g2 + (if r = 0 then 0 else 1)) else kb (pX6_mixPositions m_now m_row m_det (31 * g2 + (if r = 0 then 0 else 1))) (fun v49 => some (v49.1, v49.2.1, v49.2.2))) : Option ((Nat → Int64) × Int64 × Int64)) (fun v => some v) = some (rowf, detf, hf) → pX6_digest m_now m_sc m_err m_stp m_que m_qd m_qx m_qy m_met m_per m_row m_det m_h = some (31 * hf + m_sc.toInt64, stp', que', qd', qx2, qy2, met2, per', rowf, detf, 31 * hf + m_sc.toInt64) := by
    intro hf rowf detf hh
    have key2 : ∀ (o : Option ((Nat → Int64) × Int64 × Int64)) a, kb o (fun v => some v) = some a → o = some a := fun o a h => by cases o <;> exact h
    have hh := key2 _ _ hh
    have hb : ((if r = 0 then some 0 else some 1) : Option Int64) = some (if r = 0 then 0 else 1) := by split <;> rfl
    unfold pX6_digest
    rw [show pX6_digest_L9 KF 0 m_err 2699 = _ from a2, kb_s]
    simp only []
    rw [b2, kb_s]
    simp only []
    rw [show pX6_digest_L67 KF 0 m_now m_stp m_que m_qd m_qx m_qy m_met m_per g1 = _ from c2, kb_s]
    simp only []
    rw [d2, kb_s]
    simp only []
    rw [hb, kb_s]
    unfold pX6_mix
    rw [kb_s, hh, kb_s, kb_s]
  rcases d3 with d3 | ⟨d3, d4⟩
  · have e1 := cls (31 * g2 + (if r = 0 then 0 else 1)) p_R p_un p_sc (by rw [if_pos d3, kb_s])
    have e2 := mdl (31 * g2 + (if r = 0 then 0 else 1)) m_row m_det (by rw [if_pos d3, kb_s])
    exact ⟨_, _, e1, e2, by rw [hsc], hG, hM, hE, c3, hR, hV⟩
  · have hr0 : ¬ r = 0 := by rw [d3]; decide
    obtain ⟨u, rfl⟩ : ∃ u, nv = u + 1 := ⟨nv - 1, by omega⟩
    obtain ⟨R, row', s, f1, f2, f3, f4, f5, f6⟩ := place_s hnv (u := u) rfl hG hM hne d4 p_R p_un p_sc m_row m_det
    obtain ⟨g3, k1, k2⟩ := dpos_out hM.1 (show u ≤ 5 by omega) ⟨f3, f4, f5, f6⟩ (u + 1) 0 KF KF (31 * g2 + (if r = 0 then 0 else 1)) (by omega) (by unfold KF; omega) (by unfold KF; omega)
    have e1 := cls g3 R (nI u) s (by
      rw [if_neg hr0]
      unfold pX5_mixPositions
      rw [f1, kb_s]
      simp only []
      rw [show pX5_mixPositions_L16 KF (31 * g2 + (if r = 0 then 0 else 1)) 0 R (nI u) s (nI (u + 1)) = _ from k1, kb_s, kb_s, kb_s])
    have e2 := mdl g3 row' s (by
      rw [if_neg hr0]
      unfold pX6_mixPositions
      rw [f2, kb_s]
      simp only []
      rw [show pX6_mixPositions_L6 KF 0 m_now row' s (31 * g2 + (if r = 0 then 0 else 1)) = _ from k2, kb_s, kb_s, kb_s])
    exact ⟨_, _, e1, e2, by rw [hsc], hG, hM, hE, c3, hR, hV⟩
