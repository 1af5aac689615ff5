def pX0_reach (a1 : Int32) (a2 : Int32) (a3 : Int32) (c_re : Nat → Int32) (c_cx : Nat → Int32) (c_cy : Nat → Int32) : Option ((Nat → Int32) × (Nat → Int32) × (Nat → Int32)) := kgd (kin a1 6) (kgd (kin a1 6) (kgd (kin a1 6) (some ((upd c_re (a1 : Int32).toNatClampNeg (vp_nar .boolean 1)), (upd c_cx (a1 : Int32).toNatClampNeg a2), (upd c_cy (a1 : Int32).toNatClampNeg a3)))))
def rmX0_reach : Room := { frames := 0, cells := 0, slots := 0, locals := 0 }
theorem hdV_X0_reach : yX0_reach.cls = RX0 ∧ yX0_reach.cls ≠ "java/lang/invoke/MethodHandle" ∧ yX0_reach.cls ≠ "java/lang/invoke/VarHandle" ∧ (parseMethodDescriptor yX0_reach.desc).map (fun d => d.parameters.length) = some 3 := ⟨rfl, by decide +kernel, by decide +kernel, by decide +kernel⟩
set_option maxHeartbeats 4000000 in
set_option maxRecDepth 100000 in
theorem kX0_reach (l : Launch) (Y : KY) (ca : Nat → Nat) (c_re : Nat → Int32) (c_cx : Nat → Int32) (c_cy : Nat → Int32) (c_px : Nat → Int32) (c_py : Nat → Int32) (c_pn : Int32) (a1 : Int32) (a2 : Int32) (a3 : Int32) {o : (Nat → Int32) × (Nat → Int32) × (Nat → Int32)} (h : pX0_reach a1 a2 a3 c_re c_cx c_cy = some o) : CtV l yX0_reach wsX0_reach rmX0_reach Y [.ref (ca 0), .int a1, .int a2, .int a3] (kfl [gC Y ca c_re c_cx c_cy c_px c_py c_pn]) (kfl [gC Y ca o.1 o.2.1 o.2.2 c_px c_py c_pn]) := by
  refine ctV_intro (cc := cX0_reach) (maxL := 4) (own := RX0) (by decide +kernel) rfl rfl (Nat.le_of_ble_eq_true rfl) rfl ?_
  intro X A hX _ hret
  have hin0 : ∀ w ∈ u_ws RX0 TX0 6, w ∈ wsX0_reach := by decide +kernel
  have f0 := hX.w (Cond.fieldLink RX0 9 "PeriodicNet$Component" "reached" "[Z") (by decide +kernel)
  have f1 := hX.w (Cond.fieldLink RX0 15 "PeriodicNet$Component" "cellX" "[I") (by decide +kernel)
  have f2 := hX.w (Cond.fieldLink RX0 19 "PeriodicNet$Component" "cellY" "[I") (by decide +kernel)
  unfold pX0_reach at h
  refine kw_lv (lv' := [(0, .ref (ca 0)), (1, .int a1), (2, .int a2), (3, .int a3)]) [0, 1, 2, 3] rfl ?_
  refine kw_aload_n hX 0 dX0_reach_0 rfl 0 rfl ?_
  refine kw_get hX 1 (C := RX0) (T := TX0) (N := 6) hin0 0 f0 (fun _ h => h) 0 rfl rfl (by decide) rfl dX0_reach_1 ?_
  refine kw_iload_n hX 4 dX0_reach_4 rfl 1 rfl ?_
  refine kw_iconst hX 5 dX0_reach_5 kci_1 ?_
  obtain ⟨g1, h⟩ := kgd_some h
  refine kw_zast hX 6 (ws' := (kfl [gC Y ca (upd c_re (a1 : Int32).toNatClampNeg (vp_nar .boolean 1)) c_cx c_cy c_px c_py c_pn])) 1 rfl g1 rfl dX0_reach_6 ?_
  refine kw_aload_n hX 7 dX0_reach_7 rfl 0 rfl ?_
  refine kw_get hX 8 (C := RX0) (T := TX0) (N := 6) hin0 1 f1 (fun _ h => h) 0 rfl rfl (by decide) rfl dX0_reach_8 ?_
  refine kw_iload_n hX 11 dX0_reach_11 rfl 1 rfl ?_
  refine kw_iload_n hX 12 dX0_reach_12 rfl 2 rfl ?_
  obtain ⟨g2, h⟩ := kgd_some h
  refine kw_iast hX 13 (ws' := (kfl [gC Y ca (upd c_re (a1 : Int32).toNatClampNeg (vp_nar .boolean 1)) (upd c_cx (a1 : Int32).toNatClampNeg a2) c_cy c_px c_py c_pn])) 2 rfl g2 rfl dX0_reach_13 ?_
  refine kw_aload_n hX 14 dX0_reach_14 rfl 0 rfl ?_
  refine kw_get hX 15 (C := RX0) (T := TX0) (N := 6) hin0 2 f2 (fun _ h => h) 0 rfl rfl (by decide) rfl dX0_reach_15 ?_
  refine kw_iload_n hX 18 dX0_reach_18 rfl 1 rfl ?_
  refine kw_iload_n hX 19 dX0_reach_19 rfl 3 rfl ?_
  obtain ⟨g3, h⟩ := kgd_some h
  refine kw_iast hX 20 (ws' := (kfl [gC Y ca (upd c_re (a1 : Int32).toNatClampNeg (vp_nar .boolean 1)) (upd c_cx (a1 : Int32).toNatClampNeg a2) (upd c_cy (a1 : Int32).toNatClampNeg a3) c_px c_py c_pn])) 3 rfl g3 rfl dX0_reach_20 ?_
  obtain rfl := Option.some.inj h
  exact hret _ _ dX0_reach_21
def pX0_followEdges_L2 : Nat → Int32 → Int32 → (Nat → Int32) → (Nat → Int32) → (Nat → Int32) → (Nat → Int32) → (Nat → Int32) → (Nat → Int32) → (Nat → Int32) → Option (Int32 × (Nat → Int32) × (Nat → Int32) × (Nat → Int32))
  | 0, _, _, _, _, _, _, _, _, _ => none
  | n + 1, l2, z_g_ec, z_g_F, z_g_T, z_g_X, z_g_Z, z_c_re, z_c_cx, z_c_cy => (if z_g_ec ≤ l2 then some (l2, z_c_re, z_c_cx, z_c_cy) else kgd (kin l2 12) (kgd (kin l2 12) (kgd (kin (z_g_F (l2 : Int32).toNatClampNeg) 6) (kb ((if (z_c_re ((z_g_F (l2 : Int32).toNatClampNeg) : Int32).toNatClampNeg) = 0 then kgd (kin (z_g_T (l2 : Int32).toNatClampNeg) 6) ((if (z_c_re ((z_g_T (l2 : Int32).toNatClampNeg) : Int32).toNatClampNeg) = 0 then some (z_c_re, z_c_cx, z_c_cy) else kgd (kin (z_g_F (l2 : Int32).toNatClampNeg) 6) ((if (z_c_re ((z_g_F (l2 : Int32).toNatClampNeg) : Int32).toNatClampNeg) = 0 then kgd (kin (z_g_T (l2 : Int32).toNatClampNeg) 6) (kgd (kin l2 12) (kgd (kin (z_g_T (l2 : Int32).toNatClampNeg) 6) (kgd (kin l2 12) (kb (pX0_reach (z_g_F (l2 : Int32).toNatClampNeg) ((z_c_cx ((z_g_T (l2 : Int32).toNatClampNeg) : Int32).toNatClampNeg) - (z_g_X (l2 : Int32).toNatClampNeg)) ((z_c_cy ((z_g_T (l2 : Int32).toNatClampNeg) : Int32).toNatClampNeg) - (z_g_Z (l2 : Int32).toNatClampNeg)) z_c_re z_c_cx z_c_cy) (fun v14 => some (v14.1, v14.2.1, v14.2.2)))))) else some (z_c_re, z_c_cx, z_c_cy))))) else kgd (kin (z_g_T (l2 : Int32).toNatClampNeg) 6) ((if (z_c_re ((z_g_T (l2 : Int32).toNatClampNeg) : Int32).toNatClampNeg) = 0 then kgd (kin (z_g_F (l2 : Int32).toNatClampNeg) 6) (kgd (kin l2 12) (kgd (kin (z_g_F (l2 : Int32).toNatClampNeg) 6) (kgd (kin l2 12) (kb (pX0_reach (z_g_T (l2 : Int32).toNatClampNeg) ((z_c_cx ((z_g_F (l2 : Int32).toNatClampNeg) : Int32).toNatClampNeg) + (z_g_X (l2 : Int32).toNatClampNeg)) ((z_c_cy ((z_g_F (l2 : Int32).toNatClampNeg) : Int32).toNatClampNeg) + (z_g_Z (l2 : Int32).toNatClampNeg)) z_c_re z_c_cx z_c_cy) (fun v32 => some (v32.1, v32.2.1, v32.2.2)))))) else kgd (kin (z_g_T (l2 : Int32).toNatClampNeg) 6) ((if (z_c_re ((z_g_T (l2 : Int32).toNatClampNeg) : Int32).toNatClampNeg) = 0 then some (z_c_re, z_c_cx, z_c_cy) else kgd (kin (z_g_F (l2 : Int32).toNatClampNeg) 6) ((if (z_c_re ((z_g_F (l2 : Int32).toNatClampNeg) : Int32).toNatClampNeg) = 0 then kgd (kin (z_g_T (l2 : Int32).toNatClampNeg) 6) (kgd (kin l2 12) (kgd (kin (z_g_T (l2 : Int32).toNatClampNeg) 6) (kgd (kin l2 12) (kb (pX0_reach (z_g_F (l2 : Int32).toNatClampNeg) ((z_c_cx ((z_g_T (l2 : Int32).toNatClampNeg) : Int32).toNatClampNeg) - (z_g_X (l2 : Int32).toNatClampNeg)) ((z_c_cy ((z_g_T (l2 : Int32).toNatClampNeg) : Int32).toNatClampNeg) - (z_g_Z (l2 : Int32).toNatClampNeg)) z_c_re z_c_cx z_c_cy) (fun v26 => some (v26.1, v26.2.1, v26.2.2)))))) else some (z_c_re, z_c_cx, z_c_cy)))))))) : Option ((Nat → Int32) × (Nat → Int32) × (Nat → Int32))) (fun v34 => pX0_followEdges_L2 n (l2 + 1) z_g_ec z_g_F z_g_T z_g_X z_g_Z v34.1 v34.2.1 v34.2.2)))))
def pX0_followEdges  (g_ec : Int32) (g_F : Nat → Int32) (g_T : Nat → Int32) (g_X : Nat → Int32) (g_Z : Nat → Int32) (c_re : Nat → Int32) (c_cx : Nat → Int32) (c_cy : Nat → Int32) : Option ((Nat → Int32) × (Nat → Int32) × (Nat → Int32)) := kb (pX0_followEdges_L2 KF 0 g_ec g_F g_T g_X g_Z c_re c_cx c_cy) (fun v37 => some (v37.2.1, v37.2.2.1, v37.2.2.2))
def rmX0_followEdges : Room := { frames := 1, cells := 0, slots := 0, locals := 23 }
theorem hdV_X0_followEdges : yX0_followEdges.cls = RX0 ∧ yX0_followEdges.cls ≠ "java/lang/invoke/MethodHandle" ∧ yX0_followEdges.cls ≠ "java/lang/invoke/VarHandle" ∧ (parseMethodDescriptor yX0_followEdges.desc).map (fun d => d.parameters.length) = some 1 := ⟨rfl, by decide +kernel, by decide +kernel, by decide +kernel⟩
set_option maxHeartbeats 4000000 in
set_option maxRecDepth 100000 in
theorem kX0_followEdges (l : Launch) (Y : KY) (ga : Nat → Nat) (ca : Nat → Nat) (g_vc : Int32) (g_ec : Int32) (g_F : Nat → Int32) (g_T : Nat → Int32) (g_X : Nat → Int32) (g_Z : Nat → Int32) (c_re : Nat → Int32) (c_cx : Nat → Int32) (c_cy : Nat → Int32) (c_px : Nat → Int32) (c_py : Nat → Int32) (c_pn : Int32)  {o : (Nat → Int32) × (Nat → Int32) × (Nat → Int32)} (h : pX0_followEdges g_ec g_F g_T g_X g_Z c_re c_cx c_cy = some o) : CtV l yX0_followEdges wsX0_followEdges rmX0_followEdges Y [.ref (ca 0), .ref (ga 0)] (kfl [gG Y ga g_vc g_ec g_F g_T g_X g_Z, gC Y ca c_re c_cx c_cy c_px c_py c_pn]) (kfl [gG Y ga g_vc g_ec g_F g_T g_X g_Z, gC Y ca o.1 o.2.1 o.2.2 c_px c_py c_pn]) := by
  refine ctV_intro (cc := cX0_followEdges) (maxL := 5) (own := RX0) (by decide +kernel) rfl rfl (Nat.le_of_ble_eq_true rfl) rfl ?_
  intro X A hX _ hret
  have hin0 : ∀ w ∈ u_ws RX0 TX0 6, w ∈ wsX0_followEdges := by decide +kernel
  have hin2 : ∀ w ∈ u_ws RX2 TX2 6, w ∈ wsX0_followEdges := by decide +kernel
  have f0 := hX.w (Cond.fieldLink RX0 48 "PeriodicNet$Graph" "edgeCount" "I") (by decide +kernel)
  have f1 := hX.w (Cond.fieldLink RX0 51 "PeriodicNet$Graph" "from" "[I") (by decide +kernel)
  have f2 := hX.w (Cond.fieldLink RX0 54 "PeriodicNet$Graph" "to" "[I") (by decide +kernel)
  have f3 := hX.w (Cond.fieldLink RX0 9 "PeriodicNet$Component" "reached" "[Z") (by decide +kernel)
  have f4 := hX.w (Cond.fieldLink RX0 15 "PeriodicNet$Component" "cellX" "[I") (by decide +kernel)
  have f5 := hX.w (Cond.fieldLink RX0 57 "PeriodicNet$Graph" "shiftX" "[I") (by decide +kernel)
  have f6 := hX.w (Cond.fieldLink RX0 19 "PeriodicNet$Component" "cellY" "[I") (by decide +kernel)
  have f7 := hX.w (Cond.fieldLink RX0 60 "PeriodicNet$Graph" "shiftY" "[I") (by decide +kernel)
  have L2 : ∀ (n : Nat) (l2 : Int32) (z_g_vc : Int32) (z_g_ec : Int32) (z_g_F : Nat → Int32) (z_g_T : Nat → Int32) (z_g_X : Nat → Int32) (z_g_Z : Nat → Int32) (z_c_re : Nat → Int32) (z_c_cx : Nat → Int32) (z_c_cy : Nat → Int32) (z_c_px : Nat → Int32) (z_c_py : Nat → Int32) (z_c_pn : Int32) (o : Int32 × (Nat → Int32) × (Nat → Int32) × (Nat → Int32)), pX0_followEdges_L2 n l2 z_g_ec z_g_F z_g_T z_g_X z_g_Z z_c_re z_c_cx z_c_cy = some o → KW X Y A 5 0 0 (kfl [gG Y ga z_g_vc z_g_ec z_g_F z_g_T z_g_X z_g_Z, gC Y ca o.2.1 o.2.2.1 o.2.2.2 z_c_px z_c_py z_c_pn]) [(0, .ref (ca 0)), (1, .ref (ga 0)), (2, .int o.1)] 137 [] → KW X Y A 5 0 0 (kfl [gG Y ga z_g_vc z_g_ec z_g_F z_g_T z_g_X z_g_Z, gC Y ca z_c_re z_c_cx z_c_cy z_c_px z_c_py z_c_pn]) [(0, .ref (ca 0)), (1, .ref (ga 0)), (2, .int l2)] 2 [] := by
    intro n
    induction n with
    | zero => intro l2 z_g_vc z_g_ec z_g_F z_g_T z_g_X z_g_Z z_c_re z_c_cx z_c_cy z_c_px z_c_py z_c_pn o h; cases h
    | succ n ih =>
      intro l2 z_g_vc z_g_ec z_g_F z_g_T z_g_X z_g_Z z_c_re z_c_cx z_c_cy z_c_px z_c_py z_c_pn o h hK
      rw [pX0_followEdges_L2] at h
      refine kw_iload_n hX 2 dX0_followEdges_2 rfl 2 rfl ?_
      refine kw_aload_n hX 3 dX0_followEdges_3 rfl 1 rfl ?_
      refine kw_get hX 4 (C := RX2) (T := TX2) (N := 6) hin2 1 f0 (fun _ h => h) 0 rfl rfl (by decide) rfl dX0_followEdges_4 ?_
      refine kw_icmp_ge hX 7 137 dX0_followEdges_7 (by decide) (fun c1 => ?_) (fun c1 => ?_)
      · have h := kif_t c1 h
        obtain rfl := Option.some.inj h
        refine kw_lv (lv' := [(0, .ref (ca 0)), (1, .ref (ga 0)), (2, .int l2)]) [0, 1, 2] rfl ?_
        exact hK
      · have h := kif_f c1 h
        refine kw_aload_n hX 10 dX0_followEdges_10 rfl 1 rfl ?_
        refine kw_get hX 11 (C := RX2) (T := TX2) (N := 6) hin2 2 f1 (fun _ h => h) 0 rfl rfl (by decide) rfl dX0_followEdges_11 ?_
        refine kw_iload_n hX 14 dX0_followEdges_14 rfl 2 rfl ?_
        obtain ⟨g2, h⟩ := kgd_some h
        refine kw_iald hX 15 1 rfl g2 dX0_followEdges_15 ?_
        refine kw_istore_n (lv' := [(3, .int (z_g_F (l2 : Int32).toNatClampNeg)), (0, .ref (ca 0)), (1, .ref (ga 0)), (2, .int l2)]) hX 16 dX0_followEdges_16 rfl (by decide) rfl ?_
        refine kw_aload_n hX 17 dX0_followEdges_17 rfl 2 rfl ?_
        refine kw_get hX 18 (C := RX2) (T := TX2) (N := 6) hin2 3 f2 (fun _ h => h) 0 rfl rfl (by decide) rfl dX0_followEdges_18 ?_
        refine kw_iload_n hX 21 dX0_followEdges_21 rfl 3 rfl ?_
        obtain ⟨g3, h⟩ := kgd_some h
        refine kw_iald hX 22 2 rfl g3 dX0_followEdges_22 ?_
        refine kw_istore (lv' := [(4, .int (z_g_T (l2 : Int32).toNatClampNeg)), (3, .int (z_g_F (l2 : Int32).toNatClampNeg)), (0, .ref (ca 0)), (1, .ref (ga 0)), (2, .int l2)]) hX 23 dX0_followEdges_23 (by decide) rfl ?_
        refine kw_aload_n hX 25 dX0_followEdges_25 rfl 2 rfl ?_
        refine kw_get hX 26 (C := RX0) (T := TX0) (N := 6) hin0 0 f3 (fun _ h => h) 5 rfl rfl (by decide) rfl dX0_followEdges_26 ?_
        refine kw_iload_n hX 29 dX0_followEdges_29 rfl 1 rfl ?_
        obtain ⟨g4, h⟩ := kgd_some h
        refine kw_zald hX 30 6 rfl g4 dX0_followEdges_30 ?_
        obtain ⟨v34, hj36, h⟩ := kb_some h
        have J35 : KW X Y A 5 0 0 (kfl [gG Y ga z_g_vc z_g_ec z_g_F z_g_T z_g_X z_g_Z, gC Y ca v34.1 v34.2.1 v34.2.2 z_c_px z_c_py z_c_pn]) [(0, .ref (ca 0)), (1, .ref (ga 0)), (2, .int l2)] 131 [] := by
          refine kw_iinc (v := (l2 + 1)) (lv' := [(2, .int (l2 + 1)), (0, .ref (ca 0)), (1, .ref (ga 0))]) hX 131 dX0_followEdges_131 2 rfl (kinc_1 _) (by decide) rfl ?_
          refine kw_goto hX 134 2 dX0_followEdges_134 (by decide) ?_
          refine kw_lv (lv' := [(0, .ref (ca 0)), (1, .ref (ga 0)), (2, .int (l2 + 1))]) [1, 2, 0] rfl ?_
          exact ih (l2 + 1) z_g_vc z_g_ec z_g_F z_g_T z_g_X z_g_Z v34.1 v34.2.1 v34.2.2 z_c_px z_c_py z_c_pn o h hK
        have h := hj36
        refine kw_if_eq hX 31 79 dX0_followEdges_31 (by decide) (fun c5 => ?_) (fun c5 => ?_)
        · have h := kif_t c5 h
          refine kw_aload_n hX 79 dX0_followEdges_79 rfl 2 rfl ?_
          refine kw_get hX 80 (C := RX0) (T := TX0) (N := 6) hin0 0 f3 (fun _ h => h) 5 rfl rfl (by decide) rfl dX0_followEdges_80 ?_
          refine kw_iload hX 83 dX0_followEdges_83 0 rfl ?_
          obtain ⟨g6, h⟩ := kgd_some h
          refine kw_zald hX 85 6 rfl g6 dX0_followEdges_85 ?_
          refine kw_if_eq hX 86 131 dX0_followEdges_86 (by decide) (fun c7 => ?_) (fun c7 => ?_)
          · have h := kif_t c7 h
            obtain rfl := Option.some.inj h
            refine kw_lv (lv' := [(0, .ref (ca 0)), (1, .ref (ga 0)), (2, .int l2)]) [2, 3, 4] rfl ?_
            exact J35
          · have h := kif_f c7 h
            refine kw_aload_n hX 89 dX0_followEdges_89 rfl 2 rfl ?_
            refine kw_get hX 90 (C := RX0) (T := TX0) (N := 6) hin0 0 f3 (fun _ h => h) 5 rfl rfl (by decide) rfl dX0_followEdges_90 ?_
            refine kw_iload_n hX 93 dX0_followEdges_93 rfl 1 rfl ?_
            obtain ⟨g8, h⟩ := kgd_some h
            refine kw_zald hX 94 6 rfl g8 dX0_followEdges_94 ?_
            refine kw_if_ne hX 95 131 dX0_followEdges_95 (by decide) (fun c9 => ?_) (fun c9 => ?_)
            · have h := kif_f c9 h
              obtain rfl := Option.some.inj h
              refine kw_lv (lv' := [(0, .ref (ca 0)), (1, .ref (ga 0)), (2, .int l2)]) [2, 3, 4] rfl ?_
              exact J35
            · have h := kif_t c9 h
              refine kw_aload_n hX 98 dX0_followEdges_98 rfl 2 rfl ?_
              refine kw_iload_n hX 99 dX0_followEdges_99 rfl 1 rfl ?_
              refine kw_aload_n hX 100 dX0_followEdges_100 rfl 2 rfl ?_
              refine kw_get hX 101 (C := RX0) (T := TX0) (N := 6) hin0 1 f4 (fun _ h => h) 5 rfl rfl (by decide) rfl dX0_followEdges_101 ?_
              refine kw_iload hX 104 dX0_followEdges_104 0 rfl ?_
              obtain ⟨g10, h⟩ := kgd_some h
              refine kw_iald hX 106 7 rfl g10 dX0_followEdges_106 ?_
              refine kw_aload_n hX 107 dX0_followEdges_107 rfl 3 rfl ?_
              refine kw_get hX 108 (C := RX2) (T := TX2) (N := 6) hin2 4 f5 (fun _ h => h) 0 rfl rfl (by decide) rfl dX0_followEdges_108 ?_
              refine kw_iload_n hX 111 dX0_followEdges_111 rfl 4 rfl ?_
              obtain ⟨g11, h⟩ := kgd_some h
              refine kw_iald hX 112 3 rfl g11 dX0_followEdges_112 ?_
              refine kw_isub hX 113 dX0_followEdges_113 ?_
              refine kw_aload_n hX 114 dX0_followEdges_114 rfl 2 rfl ?_
              refine kw_get hX 115 (C := RX0) (T := TX0) (N := 6) hin0 2 f6 (fun _ h => h) 5 rfl rfl (by decide) rfl dX0_followEdges_115 ?_
              refine kw_iload hX 118 dX0_followEdges_118 0 rfl ?_
              obtain ⟨g12, h⟩ := kgd_some h
              refine kw_iald hX 120 8 rfl g12 dX0_followEdges_120 ?_
              refine kw_aload_n hX 121 dX0_followEdges_121 rfl 3 rfl ?_
              refine kw_get hX 122 (C := RX2) (T := TX2) (N := 6) hin2 5 f7 (fun _ h => h) 0 rfl rfl (by decide) rfl dX0_followEdges_122 ?_
              refine kw_iload_n hX 125 dX0_followEdges_125 rfl 4 rfl ?_
              obtain ⟨g13, h⟩ := kgd_some h
              refine kw_iald hX 126 4 rfl g13 dX0_followEdges_126 ?_
              refine kw_isub hX 127 dX0_followEdges_127 ?_
              obtain ⟨v14, hc15, h⟩ := kb_some h
              refine kw_callV_V hX 128 (As := [.int (z_g_F (l2 : Int32).toNatClampNeg), .int ((z_c_cx ((z_g_T (l2 : Int32).toNatClampNeg) : Int32).toNatClampNeg) - (z_g_X (l2 : Int32).toNatClampNeg)), .int ((z_c_cy ((z_g_T (l2 : Int32).toNatClampNeg) : Int32).toNatClampNeg) - (z_g_Z (l2 : Int32).toNatClampNeg))]) (rest := []) (kX0_reach (kx_l X) Y ca z_c_re z_c_cx z_c_cy z_c_px z_c_py z_c_pn (z_g_F (l2 : Int32).toNatClampNeg) ((z_c_cx ((z_g_T (l2 : Int32).toNatClampNeg) : Int32).toNatClampNeg) - (z_g_X (l2 : Int32).toNatClampNeg)) ((z_c_cy ((z_g_T (l2 : Int32).toNatClampNeg) : Int32).toNatClampNeg) - (z_g_Z (l2 : Int32).toNatClampNeg)) hc15) gX0_followEdges_X0_reach rfl 3 rfl hdV_X0_reach ⟨rfl, rfl⟩ ⟨by decide, by decide⟩ ⟨Nat.zero_le _, Nat.zero_le _⟩ rfl (Nat.le_of_ble_eq_true rfl) [1] (by decide) rfl (kfc gC_f kfn0) (gs1 := [gG Y ga z_g_vc z_g_ec z_g_F z_g_T z_g_X z_g_Z, gC Y ca v14.1 v14.2.1 v14.2.2 z_c_px z_c_py z_c_pn]) rfl 5 0 rfl rfl rfl dX0_followEdges_128 ?_
              obtain rfl := Option.some.inj h
              refine kw_lv (lv' := [(0, .ref (ca 0)), (1, .ref (ga 0)), (2, .int l2)]) [2, 3, 4] rfl ?_
              exact J35
        · have h := kif_f c5 h
          refine kw_aload_n hX 34 dX0_followEdges_34 rfl 2 rfl ?_
          refine kw_get hX 35 (C := RX0) (T := TX0) (N := 6) hin0 0 f3 (fun _ h => h) 5 rfl rfl (by decide) rfl dX0_followEdges_35 ?_
          refine kw_iload hX 38 dX0_followEdges_38 0 rfl ?_
          obtain ⟨g16, h⟩ := kgd_some h
          refine kw_zald hX 40 6 rfl g16 dX0_followEdges_40 ?_
          refine kw_if_ne hX 41 79 dX0_followEdges_41 (by decide) (fun c17 => ?_) (fun c17 => ?_)
          · have h := kif_f c17 h
            refine kw_aload_n hX 79 dX0_followEdges_79 rfl 2 rfl ?_
            refine kw_get hX 80 (C := RX0) (T := TX0) (N := 6) hin0 0 f3 (fun _ h => h) 5 rfl rfl (by decide) rfl dX0_followEdges_80 ?_
            refine kw_iload hX 83 dX0_followEdges_83 0 rfl ?_
            obtain ⟨g18, h⟩ := kgd_some h
            refine kw_zald hX 85 6 rfl g18 dX0_followEdges_85 ?_
            refine kw_if_eq hX 86 131 dX0_followEdges_86 (by decide) (fun c19 => ?_) (fun c19 => ?_)
            · have h := kif_t c19 h
              obtain rfl := Option.some.inj h
              refine kw_lv (lv' := [(0, .ref (ca 0)), (1, .ref (ga 0)), (2, .int l2)]) [2, 3, 4] rfl ?_
              exact J35
            · have h := kif_f c19 h
              refine kw_aload_n hX 89 dX0_followEdges_89 rfl 2 rfl ?_
              refine kw_get hX 90 (C := RX0) (T := TX0) (N := 6) hin0 0 f3 (fun _ h => h) 5 rfl rfl (by decide) rfl dX0_followEdges_90 ?_
              refine kw_iload_n hX 93 dX0_followEdges_93 rfl 1 rfl ?_
              obtain ⟨g20, h⟩ := kgd_some h
              refine kw_zald hX 94 6 rfl g20 dX0_followEdges_94 ?_
              refine kw_if_ne hX 95 131 dX0_followEdges_95 (by decide) (fun c21 => ?_) (fun c21 => ?_)
              · have h := kif_f c21 h
                obtain rfl := Option.some.inj h
                refine kw_lv (lv' := [(0, .ref (ca 0)), (1, .ref (ga 0)), (2, .int l2)]) [2, 3, 4] rfl ?_
                exact J35
              · have h := kif_t c21 h
                refine kw_aload_n hX 98 dX0_followEdges_98 rfl 2 rfl ?_
                refine kw_iload_n hX 99 dX0_followEdges_99 rfl 1 rfl ?_
                refine kw_aload_n hX 100 dX0_followEdges_100 rfl 2 rfl ?_
                refine kw_get hX 101 (C := RX0) (T := TX0) (N := 6) hin0 1 f4 (fun _ h => h) 5 rfl rfl (by decide) rfl dX0_followEdges_101 ?_
                refine kw_iload hX 104 dX0_followEdges_104 0 rfl ?_
                obtain ⟨g22, h⟩ := kgd_some h
                refine kw_iald hX 106 7 rfl g22 dX0_followEdges_106 ?_
                refine kw_aload_n hX 107 dX0_followEdges_107 rfl 3 rfl ?_
                refine kw_get hX 108 (C := RX2) (T := TX2) (N := 6) hin2 4 f5 (fun _ h => h) 0 rfl rfl (by decide) rfl dX0_followEdges_108 ?_
                refine kw_iload_n hX 111 dX0_followEdges_111 rfl 4 rfl ?_
                obtain ⟨g23, h⟩ := kgd_some h
                refine kw_iald hX 112 3 rfl g23 dX0_followEdges_112 ?_
                refine kw_isub hX 113 dX0_followEdges_113 ?_
                refine kw_aload_n hX 114 dX0_followEdges_114 rfl 2 rfl ?_
                refine kw_get hX 115 (C := RX0) (T := TX0) (N := 6) hin0 2 f6 (fun _ h => h) 5 rfl rfl (by decide) rfl dX0_followEdges_115 ?_
                refine kw_iload hX 118 dX0_followEdges_118 0 rfl ?_
                obtain ⟨g24, h⟩ := kgd_some h
                refine kw_iald hX 120 8 rfl g24 dX0_followEdges_120 ?_
                refine kw_aload_n hX 121 dX0_followEdges_121 rfl 3 rfl ?_
                refine kw_get hX 122 (C := RX2) (T := TX2) (N := 6) hin2 5 f7 (fun _ h => h) 0 rfl rfl (by decide) rfl dX0_followEdges_122 ?_
                refine kw_iload_n hX 125 dX0_followEdges_125 rfl 4 rfl ?_
                obtain ⟨g25, h⟩ := kgd_some h
                refine kw_iald hX 126 4 rfl g25 dX0_followEdges_126 ?_
                refine kw_isub hX 127 dX0_followEdges_127 ?_
                obtain ⟨v26, hc27, h⟩ := kb_some h
                refine kw_callV_V hX 128 (As := [.int (z_g_F (l2 : Int32).toNatClampNeg), .int ((z_c_cx ((z_g_T (l2 : Int32).toNatClampNeg) : Int32).toNatClampNeg) - (z_g_X (l2 : Int32).toNatClampNeg)), .int ((z_c_cy ((z_g_T (l2 : Int32).toNatClampNeg) : Int32).toNatClampNeg) - (z_g_Z (l2 : Int32).toNatClampNeg))]) (rest := []) (kX0_reach (kx_l X) Y ca z_c_re z_c_cx z_c_cy z_c_px z_c_py z_c_pn (z_g_F (l2 : Int32).toNatClampNeg) ((z_c_cx ((z_g_T (l2 : Int32).toNatClampNeg) : Int32).toNatClampNeg) - (z_g_X (l2 : Int32).toNatClampNeg)) ((z_c_cy ((z_g_T (l2 : Int32).toNatClampNeg) : Int32).toNatClampNeg) - (z_g_Z (l2 : Int32).toNatClampNeg)) hc27) gX0_followEdges_X0_reach rfl 3 rfl hdV_X0_reach ⟨rfl, rfl⟩ ⟨by decide, by decide⟩ ⟨Nat.zero_le _, Nat.zero_le _⟩ rfl (Nat.le_of_ble_eq_true rfl) [1] (by decide) rfl (kfc gC_f kfn0) (gs1 := [gG Y ga z_g_vc z_g_ec z_g_F z_g_T z_g_X z_g_Z, gC Y ca v26.1 v26.2.1 v26.2.2 z_c_px z_c_py z_c_pn]) rfl 5 0 rfl rfl rfl dX0_followEdges_128 ?_
                obtain rfl := Option.some.inj h
                refine kw_lv (lv' := [(0, .ref (ca 0)), (1, .ref (ga 0)), (2, .int l2)]) [2, 3, 4] rfl ?_
                exact J35
          · have h := kif_t c17 h
            refine kw_aload_n hX 44 dX0_followEdges_44 rfl 2 rfl ?_
            refine kw_iload hX 45 dX0_followEdges_45 0 rfl ?_
            refine kw_aload_n hX 47 dX0_followEdges_47 rfl 2 rfl ?_
            refine kw_get hX 48 (C := RX0) (T := TX0) (N := 6) hin0 1 f4 (fun _ h => h) 5 rfl rfl (by decide) rfl dX0_followEdges_48 ?_
            refine kw_iload_n hX 51 dX0_followEdges_51 rfl 1 rfl ?_
            obtain ⟨g28, h⟩ := kgd_some h
            refine kw_iald hX 52 7 rfl g28 dX0_followEdges_52 ?_
            refine kw_aload_n hX 53 dX0_followEdges_53 rfl 3 rfl ?_
            refine kw_get hX 54 (C := RX2) (T := TX2) (N := 6) hin2 4 f5 (fun _ h => h) 0 rfl rfl (by decide) rfl dX0_followEdges_54 ?_
            refine kw_iload_n hX 57 dX0_followEdges_57 rfl 4 rfl ?_
            obtain ⟨g29, h⟩ := kgd_some h
            refine kw_iald hX 58 3 rfl g29 dX0_followEdges_58 ?_
            refine kw_iadd hX 59 dX0_followEdges_59 ?_
            refine kw_aload_n hX 60 dX0_followEdges_60 rfl 2 rfl ?_
            refine kw_get hX 61 (C := RX0) (T := TX0) (N := 6) hin0 2 f6 (fun _ h => h) 5 rfl rfl (by decide) rfl dX0_followEdges_61 ?_
            refine kw_iload_n hX 64 dX0_followEdges_64 rfl 1 rfl ?_
            obtain ⟨g30, h⟩ := kgd_some h
            refine kw_iald hX 65 8 rfl g30 dX0_followEdges_65 ?_
            refine kw_aload_n hX 66 dX0_followEdges_66 rfl 3 rfl ?_
            refine kw_get hX 67 (C := RX2) (T := TX2) (N := 6) hin2 5 f7 (fun _ h => h) 0 rfl rfl (by decide) rfl dX0_followEdges_67 ?_
            refine kw_iload_n hX 70 dX0_followEdges_70 rfl 4 rfl ?_
            obtain ⟨g31, h⟩ := kgd_some h
            refine kw_iald hX 71 4 rfl g31 dX0_followEdges_71 ?_
            refine kw_iadd hX 72 dX0_followEdges_72 ?_
            obtain ⟨v32, hc33, h⟩ := kb_some h
            refine kw_callV_V hX 73 (As := [.int (z_g_T (l2 : Int32).toNatClampNeg), .int ((z_c_cx ((z_g_F (l2 : Int32).toNatClampNeg) : Int32).toNatClampNeg) + (z_g_X (l2 : Int32).toNatClampNeg)), .int ((z_c_cy ((z_g_F (l2 : Int32).toNatClampNeg) : Int32).toNatClampNeg) + (z_g_Z (l2 : Int32).toNatClampNeg))]) (rest := []) (kX0_reach (kx_l X) Y ca z_c_re z_c_cx z_c_cy z_c_px z_c_py z_c_pn (z_g_T (l2 : Int32).toNatClampNeg) ((z_c_cx ((z_g_F (l2 : Int32).toNatClampNeg) : Int32).toNatClampNeg) + (z_g_X (l2 : Int32).toNatClampNeg)) ((z_c_cy ((z_g_F (l2 : Int32).toNatClampNeg) : Int32).toNatClampNeg) + (z_g_Z (l2 : Int32).toNatClampNeg)) hc33) gX0_followEdges_X0_reach rfl 3 rfl hdV_X0_reach ⟨rfl, rfl⟩ ⟨by decide, by decide⟩ ⟨Nat.zero_le _, Nat.zero_le _⟩ rfl (Nat.le_of_ble_eq_true rfl) [1] (by decide) rfl (kfc gC_f kfn0) (gs1 := [gG Y ga z_g_vc z_g_ec z_g_F z_g_T z_g_X z_g_Z, gC Y ca v32.1 v32.2.1 v32.2.2 z_c_px z_c_py z_c_pn]) rfl 5 0 rfl rfl rfl dX0_followEdges_73 ?_
            refine kw_goto hX 76 131 dX0_followEdges_76 (by decide) ?_
            obtain rfl := Option.some.inj h
            refine kw_lv (lv' := [(0, .ref (ca 0)), (1, .ref (ga 0)), (2, .int l2)]) [2, 3, 4] rfl ?_
            exact J35
  unfold pX0_followEdges at h
  refine kw_lv (lv' := [(0, .ref (ca 0)), (1, .ref (ga 0))]) [0, 1] rfl ?_
  refine kw_iconst hX 0 dX0_followEdges_0 kci_0 ?_
  refine kw_istore_n (lv' := [(2, .int 0), (0, .ref (ca 0)), (1, .ref (ga 0))]) hX 1 dX0_followEdges_1 rfl (by decide) rfl ?_
  obtain ⟨v37, hl38, h⟩ := kb_some h
  refine kw_lv (lv' := [(0, .ref (ca 0)), (1, .ref (ga 0)), (2, .int 0)]) [1, 2, 0] rfl ?_
  refine L2 KF 0 g_vc g_ec g_F g_T g_X g_Z c_re c_cx c_cy c_px c_py c_pn v37 hl38 ?_
  obtain rfl := Option.some.inj h
  exact hret _ _ dX0_followEdges_137
def pX0_listPeriods_L7 : Nat → Int32 → Int32 → (Nat → Int32) → (Nat → Int32) → (Nat → Int32) → (Nat → Int32) → (Nat → Int32) → (Nat → Int32) → (Nat → Int32) → (Nat → Int32) → (Nat → Int32) → Int32 → Option (Int32 × (Nat → Int32) × (Nat → Int32) × Int32)
  | 0, _, _, _, _, _, _, _, _, _, _, _, _ => none
  | n + 1, l2, z_g_ec, z_g_F, z_g_T, z_g_X, z_g_Z, z_c_re, z_c_cx, z_c_cy, z_c_px, z_c_py, z_c_pn => (if z_g_ec ≤ l2 then some (l2, z_c_px, z_c_py, z_c_pn) else kgd (kin l2 12) (kgd (kin l2 12) (kgd (kin (z_g_F (l2 : Int32).toNatClampNeg) 6) (kb ((if (z_c_re ((z_g_F (l2 : Int32).toNatClampNeg) : Int32).toNatClampNeg) = 0 then some (z_c_px, z_c_py, z_c_pn) else kgd (kin (z_g_T (l2 : Int32).toNatClampNeg) 6) ((if (z_c_re ((z_g_T (l2 : Int32).toNatClampNeg) : Int32).toNatClampNeg) = 0 then some (z_c_px, z_c_py, z_c_pn) else kgd (kin (z_g_F (l2 : Int32).toNatClampNeg) 6) (kgd (kin l2 12) (kgd (kin (z_g_T (l2 : Int32).toNatClampNeg) 6) (kgd (kin z_c_pn 12) (kgd (kin (z_g_F (l2 : Int32).toNatClampNeg) 6) (kgd (kin l2 12) (kgd (kin (z_g_T (l2 : Int32).toNatClampNeg) 6) (kgd (kin z_c_pn 12) (some ((upd z_c_px (z_c_pn : Int32).toNatClampNeg (((z_c_cx ((z_g_F (l2 : Int32).toNatClampNeg) : Int32).toNatClampNeg) + (z_g_X (l2 : Int32).toNatClampNeg)) - (z_c_cx ((z_g_T (l2 : Int32).toNatClampNeg) : Int32).toNatClampNeg))), (upd z_c_py (z_c_pn : Int32).toNatClampNeg (((z_c_cy ((z_g_F (l2 : Int32).toNatClampNeg) : Int32).toNatClampNeg) + (z_g_Z (l2 : Int32).toNatClampNeg)) - (z_c_cy ((z_g_T (l2 : Int32).toNatClampNeg) : Int32).toNatClampNeg))), (z_c_pn + 1))))))))))))) : Option ((Nat → Int32) × (Nat → Int32) × Int32)) (fun v16 => pX0_listPeriods_L7 n (l2 + 1) z_g_ec z_g_F z_g_T z_g_X z_g_Z z_c_re z_c_cx z_c_cy v16.1 v16.2.1 v16.2.2)))))
def pX0_listPeriods  (g_ec : Int32) (g_F : Nat → Int32) (g_T : Nat → Int32) (g_X : Nat → Int32) (g_Z : Nat → Int32) (c_re : Nat → Int32) (c_cx : Nat → Int32) (c_cy : Nat → Int32) (c_px : Nat → Int32) (c_py : Nat → Int32) (c_pn : Int32) : Option ((Nat → Int32) × (Nat → Int32) × Int32) := kb (pX0_listPeriods_L7 KF 0 g_ec g_F g_T g_X g_Z c_re c_cx c_cy c_px c_py 0) (fun v19 => some (v19.2.1, v19.2.2.1, v19.2.2.2))
def rmX0_listPeriods : Room := { frames := 0, cells := 0, slots := 0, locals := 0 }
theorem hdV_X0_listPeriods : yX0_listPeriods.cls = RX0 ∧ yX0_listPeriods.cls ≠ "java/lang/invoke/MethodHandle" ∧ yX0_listPeriods.cls ≠ "java/lang/invoke/VarHandle" ∧ (parseMethodDescriptor yX0_listPeriods.desc).map (fun d => d.parameters.length) = some 1 := ⟨rfl, by decide +kernel, by decide +kernel, by decide +kernel⟩
set_option maxHeartbeats 4000000 in
set_option maxRecDepth 100000 in
theorem kX0_listPeriods (l : Launch) (Y : KY) (ga : Nat → Nat) (ca : Nat → Nat) (g_vc : Int32) (g_ec : Int32) (g_F : Nat → Int32) (g_T : Nat → Int32) (g_X : Nat → Int32) (g_Z : Nat → Int32) (c_re : Nat → Int32) (c_cx : Nat → Int32) (c_cy : Nat → Int32) (c_px : Nat → Int32) (c_py : Nat → Int32) (c_pn : Int32)  {o : (Nat → Int32) × (Nat → Int32) × Int32} (h : pX0_listPeriods g_ec g_F g_T g_X g_Z c_re c_cx c_cy c_px c_py c_pn = some o) : CtV l yX0_listPeriods wsX0_listPeriods rmX0_listPeriods Y [.ref (ca 0), .ref (ga 0)] (kfl [gG Y ga g_vc g_ec g_F g_T g_X g_Z, gC Y ca c_re c_cx c_cy c_px c_py c_pn]) (kfl [gG Y ga g_vc g_ec g_F g_T g_X g_Z, gC Y ca c_re c_cx c_cy o.1 o.2.1 o.2.2]) := by
  refine ctV_intro (cc := cX0_listPeriods) (maxL := 5) (own := RX0) (by decide +kernel) rfl rfl (Nat.le_of_ble_eq_true rfl) rfl ?_
  intro X A hX _ hret
  have hin0 : ∀ w ∈ u_ws RX0 TX0 6, w ∈ wsX0_listPeriods := by decide +kernel
  have hin2 : ∀ w ∈ u_ws RX2 TX2 6, w ∈ wsX0_listPeriods := by decide +kernel
  have f0 := hX.w (Cond.fieldLink RX0 28 "PeriodicNet$Component" "periods" "I") (by decide +kernel)
  have f1 := hX.w (Cond.fieldLink RX0 48 "PeriodicNet$Graph" "edgeCount" "I") (by decide +kernel)
  have f2 := hX.w (Cond.fieldLink RX0 51 "PeriodicNet$Graph" "from" "[I") (by decide +kernel)
  have f3 := hX.w (Cond.fieldLink RX0 54 "PeriodicNet$Graph" "to" "[I") (by decide +kernel)
  have f4 := hX.w (Cond.fieldLink RX0 9 "PeriodicNet$Component" "reached" "[Z") (by decide +kernel)
  have f5 := hX.w (Cond.fieldLink RX0 22 "PeriodicNet$Component" "periodX" "[I") (by decide +kernel)
  have f6 := hX.w (Cond.fieldLink RX0 15 "PeriodicNet$Component" "cellX" "[I") (by decide +kernel)
  have f7 := hX.w (Cond.fieldLink RX0 57 "PeriodicNet$Graph" "shiftX" "[I") (by decide +kernel)
  have f8 := hX.w (Cond.fieldLink RX0 25 "PeriodicNet$Component" "periodY" "[I") (by decide +kernel)
  have f9 := hX.w (Cond.fieldLink RX0 19 "PeriodicNet$Component" "cellY" "[I") (by decide +kernel)
  have f10 := hX.w (Cond.fieldLink RX0 60 "PeriodicNet$Graph" "shiftY" "[I") (by decide +kernel)
  have L7 : ∀ (n : Nat) (l2 : Int32) (z_g_vc : Int32) (z_g_ec : Int32) (z_g_F : Nat → Int32) (z_g_T : Nat → Int32) (z_g_X : Nat → Int32) (z_g_Z : Nat → Int32) (z_c_re : Nat → Int32) (z_c_cx : Nat → Int32) (z_c_cy : Nat → Int32) (z_c_px : Nat → Int32) (z_c_py : Nat → Int32) (z_c_pn : Int32) (o : Int32 × (Nat → Int32) × (Nat → Int32) × Int32), pX0_listPeriods_L7 n l2 z_g_ec z_g_F z_g_T z_g_X z_g_Z z_c_re z_c_cx z_c_cy z_c_px z_c_py z_c_pn = some o → KW X Y A 5 0 0 (kfl [gG Y ga z_g_vc z_g_ec z_g_F z_g_T z_g_X z_g_Z, gC Y ca z_c_re z_c_cx z_c_cy o.2.1 o.2.2.1 o.2.2.2]) [(0, .ref (ca 0)), (1, .ref (ga 0)), (2, .int o.1)] 125 [] → KW X Y A 5 0 0 (kfl [gG Y ga z_g_vc z_g_ec z_g_F z_g_T z_g_X z_g_Z, gC Y ca z_c_re z_c_cx z_c_cy z_c_px z_c_py z_c_pn]) [(0, .ref (ca 0)), (1, .ref (ga 0)), (2, .int l2)] 7 [] := by
    intro n
    induction n with
    | zero => intro l2 z_g_vc z_g_ec z_g_F z_g_T z_g_X z_g_Z z_c_re z_c_cx z_c_cy z_c_px z_c_py z_c_pn o h; cases h
    | succ n ih =>
      intro l2 z_g_vc z_g_ec z_g_F z_g_T z_g_X z_g_Z z_c_re z_c_cx z_c_cy z_c_px z_c_py z_c_pn o h hK
      rw [pX0_listPeriods_L7] at h
      refine kw_iload_n hX 7 dX0_listPeriods_7 rfl 2 rfl ?_
      refine kw_aload_n hX 8 dX0_listPeriods_8 rfl 1 rfl ?_
      refine kw_get hX 9 (C := RX2) (T := TX2) (N := 6) hin2 1 f1 (fun _ h => h) 0 rfl rfl (by decide) rfl dX0_listPeriods_9 ?_
      refine kw_icmp_ge hX 12 125 dX0_listPeriods_12 (by decide) (fun c1 => ?_) (fun c1 => ?_)
      · have h := kif_t c1 h
        obtain rfl := Option.some.inj h
        refine kw_lv (lv' := [(0, .ref (ca 0)), (1, .ref (ga 0)), (2, .int l2)]) [0, 1, 2] rfl ?_
        exact hK
      · have h := kif_f c1 h
        refine kw_aload_n hX 15 dX0_listPeriods_15 rfl 1 rfl ?_
        refine kw_get hX 16 (C := RX2) (T := TX2) (N := 6) hin2 2 f2 (fun _ h => h) 0 rfl rfl (by decide) rfl dX0_listPeriods_16 ?_
        refine kw_iload_n hX 19 dX0_listPeriods_19 rfl 2 rfl ?_
        obtain ⟨g2, h⟩ := kgd_some h
        refine kw_iald hX 20 1 rfl g2 dX0_listPeriods_20 ?_
        refine kw_istore_n (lv' := [(3, .int (z_g_F (l2 : Int32).toNatClampNeg)), (0, .ref (ca 0)), (1, .ref (ga 0)), (2, .int l2)]) hX 21 dX0_listPeriods_21 rfl (by decide) rfl ?_
        refine kw_aload_n hX 22 dX0_listPeriods_22 rfl 2 rfl ?_
        refine kw_get hX 23 (C := RX2) (T := TX2) (N := 6) hin2 3 f3 (fun _ h => h) 0 rfl rfl (by decide) rfl dX0_listPeriods_23 ?_
        refine kw_iload_n hX 26 dX0_listPeriods_26 rfl 3 rfl ?_
        obtain ⟨g3, h⟩ := kgd_some h
        refine kw_iald hX 27 2 rfl g3 dX0_listPeriods_27 ?_
        refine kw_istore (lv' := [(4, .int (z_g_T (l2 : Int32).toNatClampNeg)), (3, .int (z_g_F (l2 : Int32).toNatClampNeg)), (0, .ref (ca 0)), (1, .ref (ga 0)), (2, .int l2)]) hX 28 dX0_listPeriods_28 (by decide) rfl ?_
        refine kw_aload_n hX 30 dX0_listPeriods_30 rfl 2 rfl ?_
        refine kw_get hX 31 (C := RX0) (T := TX0) (N := 6) hin0 0 f4 (fun _ h => h) 5 rfl rfl (by decide) rfl dX0_listPeriods_31 ?_
        refine kw_iload_n hX 34 dX0_listPeriods_34 rfl 1 rfl ?_
        obtain ⟨g4, h⟩ := kgd_some h
        refine kw_zald hX 35 6 rfl g4 dX0_listPeriods_35 ?_
        obtain ⟨v16, hj18, h⟩ := kb_some h
        have J17 : KW X Y A 5 0 0 (kfl [gG Y ga z_g_vc z_g_ec z_g_F z_g_T z_g_X z_g_Z, gC Y ca z_c_re z_c_cx z_c_cy v16.1 v16.2.1 v16.2.2]) [(0, .ref (ca 0)), (1, .ref (ga 0)), (2, .int l2)] 119 [] := by
          refine kw_iinc (v := (l2 + 1)) (lv' := [(2, .int (l2 + 1)), (0, .ref (ca 0)), (1, .ref (ga 0))]) hX 119 dX0_listPeriods_119 2 rfl (kinc_1 _) (by decide) rfl ?_
          refine kw_goto hX 122 7 dX0_listPeriods_122 (by decide) ?_
          refine kw_lv (lv' := [(0, .ref (ca 0)), (1, .ref (ga 0)), (2, .int (l2 + 1))]) [1, 2, 0] rfl ?_
          exact ih (l2 + 1) z_g_vc z_g_ec z_g_F z_g_T z_g_X z_g_Z z_c_re z_c_cx z_c_cy v16.1 v16.2.1 v16.2.2 o h hK
        have h := hj18
        refine kw_if_eq hX 36 119 dX0_listPeriods_36 (by decide) (fun c5 => ?_) (fun c5 => ?_)
        · have h := kif_t c5 h
          obtain rfl := Option.some.inj h
          refine kw_lv (lv' := [(0, .ref (ca 0)), (1, .ref (ga 0)), (2, .int l2)]) [2, 3, 4] rfl ?_
          exact J17
        · have h := kif_f c5 h
          refine kw_aload_n hX 39 dX0_listPeriods_39 rfl 2 rfl ?_
          refine kw_get hX 40 (C := RX0) (T := TX0) (N := 6) hin0 0 f4 (fun _ h => h) 5 rfl rfl (by decide) rfl dX0_listPeriods_40 ?_
          refine kw_iload hX 43 dX0_listPeriods_43 0 rfl ?_
          obtain ⟨g6, h⟩ := kgd_some h
          refine kw_zald hX 45 6 rfl g6 dX0_listPeriods_45 ?_
          refine kw_if_eq hX 46 119 dX0_listPeriods_46 (by decide) (fun c7 => ?_) (fun c7 => ?_)
          · have h := kif_t c7 h
            obtain rfl := Option.some.inj h
            refine kw_lv (lv' := [(0, .ref (ca 0)), (1, .ref (ga 0)), (2, .int l2)]) [2, 3, 4] rfl ?_
            exact J17
          · have h := kif_f c7 h
            refine kw_aload_n hX 49 dX0_listPeriods_49 rfl 2 rfl ?_
            refine kw_get hX 50 (C := RX0) (T := TX0) (N := 6) hin0 3 f5 (fun _ h => h) 5 rfl rfl (by decide) rfl dX0_listPeriods_50 ?_
            refine kw_aload_n hX 53 dX0_listPeriods_53 rfl 2 rfl ?_
            refine kw_get hX 54 (C := RX0) (T := TX0) (N := 6) hin0 5 f0 (fun _ h => h) 5 rfl rfl (by decide) rfl dX0_listPeriods_54 ?_
            refine kw_aload_n hX 57 dX0_listPeriods_57 rfl 2 rfl ?_
            refine kw_get hX 58 (C := RX0) (T := TX0) (N := 6) hin0 1 f6 (fun _ h => h) 5 rfl rfl (by decide) rfl dX0_listPeriods_58 ?_
            refine kw_iload_n hX 61 dX0_listPeriods_61 rfl 1 rfl ?_
            obtain ⟨g8, h⟩ := kgd_some h
            refine kw_iald hX 62 7 rfl g8 dX0_listPeriods_62 ?_
            refine kw_aload_n hX 63 dX0_listPeriods_63 rfl 3 rfl ?_
            refine kw_get hX 64 (C := RX2) (T := TX2) (N := 6) hin2 4 f7 (fun _ h => h) 0 rfl rfl (by decide) rfl dX0_listPeriods_64 ?_
            refine kw_iload_n hX 67 dX0_listPeriods_67 rfl 4 rfl ?_
            obtain ⟨g9, h⟩ := kgd_some h
            refine kw_iald hX 68 3 rfl g9 dX0_listPeriods_68 ?_
            refine kw_iadd hX 69 dX0_listPeriods_69 ?_
            refine kw_aload_n hX 70 dX0_listPeriods_70 rfl 2 rfl ?_
            refine kw_get hX 71 (C := RX0) (T := TX0) (N := 6) hin0 1 f6 (fun _ h => h) 5 rfl rfl (by decide) rfl dX0_listPeriods_71 ?_
            refine kw_iload hX 74 dX0_listPeriods_74 0 rfl ?_
            obtain ⟨g10, h⟩ := kgd_some h
            refine kw_iald hX 76 7 rfl g10 dX0_listPeriods_76 ?_
            refine kw_isub hX 77 dX0_listPeriods_77 ?_
            obtain ⟨g11, h⟩ := kgd_some h
            refine kw_iast hX 78 (ws' := (kfl [gG Y ga z_g_vc z_g_ec z_g_F z_g_T z_g_X z_g_Z, gC Y ca z_c_re z_c_cx z_c_cy (upd z_c_px (z_c_pn : Int32).toNatClampNeg (((z_c_cx ((z_g_F (l2 : Int32).toNatClampNeg) : Int32).toNatClampNeg) + (z_g_X (l2 : Int32).toNatClampNeg)) - (z_c_cx ((z_g_T (l2 : Int32).toNatClampNeg) : Int32).toNatClampNeg))) z_c_py z_c_pn])) 9 rfl g11 rfl dX0_listPeriods_78 ?_
            refine kw_aload_n hX 79 dX0_listPeriods_79 rfl 2 rfl ?_
            refine kw_get hX 80 (C := RX0) (T := TX0) (N := 6) hin0 4 f8 (fun _ h => h) 5 rfl rfl (by decide) rfl dX0_listPeriods_80 ?_
            refine kw_aload_n hX 83 dX0_listPeriods_83 rfl 2 rfl ?_
            refine kw_get hX 84 (C := RX0) (T := TX0) (N := 6) hin0 5 f0 (fun _ h => h) 5 rfl rfl (by decide) rfl dX0_listPeriods_84 ?_
            refine kw_aload_n hX 87 dX0_listPeriods_87 rfl 2 rfl ?_
            refine kw_get hX 88 (C := RX0) (T := TX0) (N := 6) hin0 2 f9 (fun _ h => h) 5 rfl rfl (by decide) rfl dX0_listPeriods_88 ?_
            refine kw_iload_n hX 91 dX0_listPeriods_91 rfl 1 rfl ?_
            obtain ⟨g12, h⟩ := kgd_some h
            refine kw_iald hX 92 8 rfl g12 dX0_listPeriods_92 ?_
            refine kw_aload_n hX 93 dX0_listPeriods_93 rfl 3 rfl ?_
            refine kw_get hX 94 (C := RX2) (T := TX2) (N := 6) hin2 5 f10 (fun _ h => h) 0 rfl rfl (by decide) rfl dX0_listPeriods_94 ?_
            refine kw_iload_n hX 97 dX0_listPeriods_97 rfl 4 rfl ?_
            obtain ⟨g13, h⟩ := kgd_some h
            refine kw_iald hX 98 4 rfl g13 dX0_listPeriods_98 ?_
            refine kw_iadd hX 99 dX0_listPeriods_99 ?_
            refine kw_aload_n hX 100 dX0_listPeriods_100 rfl 2 rfl ?_
            refine kw_get hX 101 (C := RX0) (T := TX0) (N := 6) hin0 2 f9 (fun _ h => h) 5 rfl rfl (by decide) rfl dX0_listPeriods_101 ?_
            refine kw_iload hX 104 dX0_listPeriods_104 0 rfl ?_
            obtain ⟨g14, h⟩ := kgd_some h
            refine kw_iald hX 106 8 rfl g14 dX0_listPeriods_106 ?_
            refine kw_isub hX 107 dX0_listPeriods_107 ?_
            obtain ⟨g15, h⟩ := kgd_some h
            refine kw_iast hX 108 (ws' := (kfl [gG Y ga z_g_vc z_g_ec z_g_F z_g_T z_g_X z_g_Z, gC Y ca z_c_re z_c_cx z_c_cy (upd z_c_px (z_c_pn : Int32).toNatClampNeg (((z_c_cx ((z_g_F (l2 : Int32).toNatClampNeg) : Int32).toNatClampNeg) + (z_g_X (l2 : Int32).toNatClampNeg)) - (z_c_cx ((z_g_T (l2 : Int32).toNatClampNeg) : Int32).toNatClampNeg))) (upd z_c_py (z_c_pn : Int32).toNatClampNeg (((z_c_cy ((z_g_F (l2 : Int32).toNatClampNeg) : Int32).toNatClampNeg) + (z_g_Z (l2 : Int32).toNatClampNeg)) - (z_c_cy ((z_g_T (l2 : Int32).toNatClampNeg) : Int32).toNatClampNeg))) z_c_pn])) 10 rfl g15 rfl dX0_listPeriods_108 ?_
            refine kw_aload_n hX 109 dX0_listPeriods_109 rfl 2 rfl ?_
            refine kw_dup hX 110 dX0_listPeriods_110 rfl ?_
            refine kw_get hX 111 (C := RX0) (T := TX0) (N := 6) hin0 5 f0 (fun _ h => h) 5 rfl rfl (by decide) rfl dX0_listPeriods_111 ?_
            refine kw_iconst hX 114 dX0_listPeriods_114 kci_1 ?_
            refine kw_iadd hX 115 dX0_listPeriods_115 ?_
            refine kw_put hX 116 (C := RX0) (T := TX0) (N := 6) (ws' := (kfl [gG Y ga z_g_vc z_g_ec z_g_F z_g_T z_g_X z_g_Z, gC Y ca z_c_re z_c_cx z_c_cy (upd z_c_px (z_c_pn : Int32).toNatClampNeg (((z_c_cx ((z_g_F (l2 : Int32).toNatClampNeg) : Int32).toNatClampNeg) + (z_g_X (l2 : Int32).toNatClampNeg)) - (z_c_cx ((z_g_T (l2 : Int32).toNatClampNeg) : Int32).toNatClampNeg))) (upd z_c_py (z_c_pn : Int32).toNatClampNeg (((z_c_cy ((z_g_F (l2 : Int32).toNatClampNeg) : Int32).toNatClampNeg) + (z_g_Z (l2 : Int32).toNatClampNeg)) - (z_c_cy ((z_g_T (l2 : Int32).toNatClampNeg) : Int32).toNatClampNeg))) (z_c_pn + 1)])) hin0 tyX0 tyX0_ok nmX0 5 f0 (fun _ h => h) 5 rfl rfl (by decide) rfl (ty := .int) (tyX0_ok 5 (by decide)) rfl rfl (Nat.le_of_ble_eq_true rfl) rfl dX0_listPeriods_116 ?_
            obtain rfl := Option.some.inj h
            refine kw_lv (lv' := [(0, .ref (ca 0)), (1, .ref (ga 0)), (2, .int l2)]) [2, 3, 4] rfl ?_
            exact J17
  unfold pX0_listPeriods at h
  refine kw_lv (lv' := [(0, .ref (ca 0)), (1, .ref (ga 0))]) [0, 1] rfl ?_
  refine kw_aload_n hX 0 dX0_listPeriods_0 rfl 0 rfl ?_
  refine kw_iconst hX 1 dX0_listPeriods_1 kci_0 ?_
  refine kw_put hX 2 (C := RX0) (T := TX0) (N := 6) (ws' := (kfl [gG Y ga g_vc g_ec g_F g_T g_X g_Z, gC Y ca c_re c_cx c_cy c_px c_py 0])) hin0 tyX0 tyX0_ok nmX0 5 f0 (fun _ h => h) 5 rfl rfl (by decide) rfl (ty := .int) (tyX0_ok 5 (by decide)) rfl rfl (Nat.le_of_ble_eq_true rfl) rfl dX0_listPeriods_2 ?_
  refine kw_iconst hX 5 dX0_listPeriods_5 kci_0 ?_
  refine kw_istore_n (lv' := [(2, .int 0), (0, .ref (ca 0)), (1, .ref (ga 0))]) hX 6 dX0_listPeriods_6 rfl (by decide) rfl ?_
  obtain ⟨v19, hl20, h⟩ := kb_some h
  refine kw_lv (lv' := [(0, .ref (ca 0)), (1, .ref (ga 0)), (2, .int 0)]) [1, 2, 0] rfl ?_
  refine L7 KF 0 g_vc g_ec g_F g_T g_X g_Z c_re c_cx c_cy c_px c_py 0 v19 hl20 ?_
  obtain rfl := Option.some.inj h
  exact hret _ _ dX0_listPeriods_125
def pX0_explore_L2 : Nat → Int32 → Int32 → (Nat → Int32) → Option (Int32 × (Nat → Int32))
  | 0, _, _, _ => none
  | n + 1, l2, l3, z_c_re => (if (6 : Int32) ≤ l3 then some (l3, z_c_re) else kgd (kin l3 6) (pX0_explore_L2 n l2 (l3 + 1) (upd z_c_re (l3 : Int32).toNatClampNeg (vp_nar .boolean 0))))
def pX0_explore_L30 : Nat → Int32 → Int32 → Int32 → (Nat → Int32) → (Nat → Int32) → (Nat → Int32) → (Nat → Int32) → (Nat → Int32) → (Nat → Int32) → (Nat → Int32) → Option (Int32 × (Nat → Int32) × (Nat → Int32) × (Nat → Int32))
  | 0, _, _, _, _, _, _, _, _, _, _ => none
  | n + 1, l3, z_g_vc, z_g_ec, z_g_F, z_g_T, z_g_X, z_g_Z, z_c_re, z_c_cx, z_c_cy => (if z_g_vc ≤ l3 then some (l3, z_c_re, z_c_cx, z_c_cy) else kb (pX0_followEdges z_g_ec z_g_F z_g_T z_g_X z_g_Z z_c_re z_c_cx z_c_cy) (fun v8 => pX0_explore_L30 n (l3 + 1) z_g_vc z_g_ec z_g_F z_g_T z_g_X z_g_Z v8.1 v8.2.1 v8.2.2))
def pX0_explore (a2 : Int32) (g_vc : Int32) (g_ec : Int32) (g_F : Nat → Int32) (g_T : Nat → Int32) (g_X : Nat → Int32) (g_Z : Nat → Int32) (c_re : Nat → Int32) (c_cx : Nat → Int32) (c_cy : Nat → Int32) (c_px : Nat → Int32) (c_py : Nat → Int32) (c_pn : Int32) : Option ((Nat → Int32) × (Nat → Int32) × (Nat → Int32) × (Nat → Int32) × (Nat → Int32) × Int32) := kb (pX0_explore_L2 KF a2 0 c_re) (fun v3 => kb (pX0_reach a2 0 0 v3.2 c_cx c_cy) (fun v5 => kb (pX0_explore_L30 KF 1 g_vc g_ec g_F g_T g_X g_Z v5.1 v5.2.1 v5.2.2) (fun v10 => kb (pX0_listPeriods g_ec g_F g_T g_X g_Z v10.2.1 v10.2.2.1 v10.2.2.2 c_px c_py c_pn) (fun v12 => some (v10.2.1, v10.2.2.1, v10.2.2.2, v12.1, v12.2.1, v12.2.2)))))
def rmX0_explore : Room := { frames := 2, cells := 0, slots := 0, locals := 47 }
theorem hdV_X0_explore : yX0_explore.cls = RX0 ∧ yX0_explore.cls ≠ "java/lang/invoke/MethodHandle" ∧ yX0_explore.cls ≠ "java/lang/invoke/VarHandle" ∧ (parseMethodDescriptor yX0_explore.desc).map (fun d => d.parameters.length) = some 2 := ⟨rfl, by decide +kernel, by decide +kernel, by decide +kernel⟩
set_option maxHeartbeats 4000000 in
set_option maxRecDepth 100000 in
theorem kX0_explore (l : Launch) (Y : KY) (ga : Nat → Nat) (ca : Nat → Nat) (g_vc : Int32) (g_ec : Int32) (g_F : Nat → Int32) (g_T : Nat → Int32) (g_X : Nat → Int32) (g_Z : Nat → Int32) (c_re : Nat → Int32) (c_cx : Nat → Int32) (c_cy : Nat → Int32) (c_px : Nat → Int32) (c_py : Nat → Int32) (c_pn : Int32) (a2 : Int32) {o : (Nat → Int32) × (Nat → Int32) × (Nat → Int32) × (Nat → Int32) × (Nat → Int32) × Int32} (h : pX0_explore a2 g_vc g_ec g_F g_T g_X g_Z c_re c_cx c_cy c_px c_py c_pn = some o) : CtV l yX0_explore wsX0_explore rmX0_explore Y [.ref (ca 0), .ref (ga 0), .int a2] (kfl [gG Y ga g_vc g_ec g_F g_T g_X g_Z, gC Y ca c_re c_cx c_cy c_px c_py c_pn]) (kfl [gG Y ga g_vc g_ec g_F g_T g_X g_Z, gC Y ca o.1 o.2.1 o.2.2.1 o.2.2.2.1 o.2.2.2.2.1 o.2.2.2.2.2]) := by
  refine ctV_intro (cc := cX0_explore) (maxL := 4) (own := RX0) (by decide +kernel) rfl rfl (Nat.le_of_ble_eq_true rfl) rfl ?_
  intro X A hX _ hret
  have hin0 : ∀ w ∈ u_ws RX0 TX0 6, w ∈ wsX0_explore := by decide +kernel
  have hin2 : ∀ w ∈ u_ws RX2 TX2 6, w ∈ wsX0_explore := by decide +kernel
  have f0 := hX.w (Cond.fieldLink RX0 9 "PeriodicNet$Component" "reached" "[Z") (by decide +kernel)
  have f1 := hX.w (Cond.fieldLink RX0 36 "PeriodicNet$Graph" "vertexCount" "I") (by decide +kernel)
  have L2 : ∀ (n : Nat) (l2 : Int32) (l3 : Int32) (z_g_vc : Int32) (z_g_ec : Int32) (z_g_F : Nat → Int32) (z_g_T : Nat → Int32) (z_g_X : Nat → Int32) (z_g_Z : Nat → Int32) (z_c_re : Nat → Int32) (z_c_cx : Nat → Int32) (z_c_cy : Nat → Int32) (z_c_px : Nat → Int32) (z_c_py : Nat → Int32) (z_c_pn : Int32) (o : Int32 × (Nat → Int32)), pX0_explore_L2 n l2 l3 z_c_re = some o → KW X Y A 4 0 0 (kfl [gG Y ga z_g_vc z_g_ec z_g_F z_g_T z_g_X z_g_Z, gC Y ca o.2 z_c_cx z_c_cy z_c_px z_c_py z_c_pn]) [(0, .ref (ca 0)), (1, .ref (ga 0)), (2, .int l2), (3, .int o.1)] 21 [] → KW X Y A 4 0 0 (kfl [gG Y ga z_g_vc z_g_ec z_g_F z_g_T z_g_X z_g_Z, gC Y ca z_c_re z_c_cx z_c_cy z_c_px z_c_py z_c_pn]) [(0, .ref (ca 0)), (1, .ref (ga 0)), (2, .int l2), (3, .int l3)] 2 [] := by
    intro n
    induction n with
    | zero => intro l2 l3 z_g_vc z_g_ec z_g_F z_g_T z_g_X z_g_Z z_c_re z_c_cx z_c_cy z_c_px z_c_py z_c_pn o h; cases h
    | succ n ih =>
      intro l2 l3 z_g_vc z_g_ec z_g_F z_g_T z_g_X z_g_Z z_c_re z_c_cx z_c_cy z_c_px z_c_py z_c_pn o h hK
      rw [pX0_explore_L2] at h
      refine kw_iload_n hX 2 dX0_explore_2 rfl 3 rfl ?_
      refine kw_bipush hX 3 dX0_explore_3 kcb_6 ?_
      refine kw_icmp_ge hX 5 21 dX0_explore_5 (by decide) (fun c1 => ?_) (fun c1 => ?_)
      · have h := kif_t c1 h
        obtain rfl := Option.some.inj h
        refine kw_lv (lv' := [(0, .ref (ca 0)), (1, .ref (ga 0)), (2, .int l2), (3, .int l3)]) [0, 1, 2, 3] rfl ?_
        exact hK
      · have h := kif_f c1 h
        refine kw_aload_n hX 8 dX0_explore_8 rfl 0 rfl ?_
        refine kw_get hX 9 (C := RX0) (T := TX0) (N := 6) hin0 0 f0 (fun _ h => h) 5 rfl rfl (by decide) rfl dX0_explore_9 ?_
        refine kw_iload_n hX 12 dX0_explore_12 rfl 3 rfl ?_
        refine kw_iconst hX 13 dX0_explore_13 kci_0 ?_
        obtain ⟨g2, h⟩ := kgd_some h
        refine kw_zast hX 14 (ws' := (kfl [gG Y ga z_g_vc z_g_ec z_g_F z_g_T z_g_X z_g_Z, gC Y ca (upd z_c_re (l3 : Int32).toNatClampNeg (vp_nar .boolean 0)) z_c_cx z_c_cy z_c_px z_c_py z_c_pn])) 6 rfl g2 rfl dX0_explore_14 ?_
        refine kw_iinc (v := (l3 + 1)) (lv' := [(3, .int (l3 + 1)), (0, .ref (ca 0)), (1, .ref (ga 0)), (2, .int l2)]) hX 15 dX0_explore_15 3 rfl (kinc_1 _) (by decide) rfl ?_
        refine kw_goto hX 18 2 dX0_explore_18 (by decide) ?_
        refine kw_lv (lv' := [(0, .ref (ca 0)), (1, .ref (ga 0)), (2, .int l2), (3, .int (l3 + 1))]) [1, 2, 3, 0] rfl ?_
        exact ih l2 (l3 + 1) z_g_vc z_g_ec z_g_F z_g_T z_g_X z_g_Z (upd z_c_re (l3 : Int32).toNatClampNeg (vp_nar .boolean 0)) z_c_cx z_c_cy z_c_px z_c_py z_c_pn o h hK
  have L30 : ∀ (n : Nat) (l3 : Int32) (z_g_vc : Int32) (z_g_ec : Int32) (z_g_F : Nat → Int32) (z_g_T : Nat → Int32) (z_g_X : Nat → Int32) (z_g_Z : Nat → Int32) (z_c_re : Nat → Int32) (z_c_cx : Nat → Int32) (z_c_cy : Nat → Int32) (z_c_px : Nat → Int32) (z_c_py : Nat → Int32) (z_c_pn : Int32) (o : Int32 × (Nat → Int32) × (Nat → Int32) × (Nat → Int32)), pX0_explore_L30 n l3 z_g_vc z_g_ec z_g_F z_g_T z_g_X z_g_Z z_c_re z_c_cx z_c_cy = some o → KW X Y A 4 0 0 (kfl [gG Y ga z_g_vc z_g_ec z_g_F z_g_T z_g_X z_g_Z, gC Y ca o.2.1 o.2.2.1 o.2.2.2 z_c_px z_c_py z_c_pn]) [(0, .ref (ca 0)), (1, .ref (ga 0)), (3, .int o.1)] 49 [] → KW X Y A 4 0 0 (kfl [gG Y ga z_g_vc z_g_ec z_g_F z_g_T z_g_X z_g_Z, gC Y ca z_c_re z_c_cx z_c_cy z_c_px z_c_py z_c_pn]) [(0, .ref (ca 0)), (1, .ref (ga 0)), (3, .int l3)] 30 [] := by
    intro n
    induction n with
    | zero => intro l3 z_g_vc z_g_ec z_g_F z_g_T z_g_X z_g_Z z_c_re z_c_cx z_c_cy z_c_px z_c_py z_c_pn o h; cases h
    | succ n ih =>
      intro l3 z_g_vc z_g_ec z_g_F z_g_T z_g_X z_g_Z z_c_re z_c_cx z_c_cy z_c_px z_c_py z_c_pn o h hK
      rw [pX0_explore_L30] at h
      refine kw_iload_n hX 30 dX0_explore_30 rfl 2 rfl ?_
      refine kw_aload_n hX 31 dX0_explore_31 rfl 1 rfl ?_
      refine kw_get hX 32 (C := RX2) (T := TX2) (N := 6) hin2 0 f1 (fun _ h => h) 0 rfl rfl (by decide) rfl dX0_explore_32 ?_
      refine kw_icmp_ge hX 35 49 dX0_explore_35 (by decide) (fun c7 => ?_) (fun c7 => ?_)
      · have h := kif_t c7 h
        obtain rfl := Option.some.inj h
        refine kw_lv (lv' := [(0, .ref (ca 0)), (1, .ref (ga 0)), (3, .int l3)]) [0, 1, 2] rfl ?_
        exact hK
      · have h := kif_f c7 h
        refine kw_aload_n hX 38 dX0_explore_38 rfl 0 rfl ?_
        refine kw_aload_n hX 39 dX0_explore_39 rfl 1 rfl ?_
        obtain ⟨v8, hc9, h⟩ := kb_some h
        refine kw_callV_V hX 40 (As := [.ref (ga 0)]) (rest := []) (kX0_followEdges (kx_l X) Y ga ca z_g_vc z_g_ec z_g_F z_g_T z_g_X z_g_Z z_c_re z_c_cx z_c_cy z_c_px z_c_py z_c_pn hc9) gX0_explore_X0_followEdges rfl 1 rfl hdV_X0_followEdges ⟨rfl, rfl⟩ ⟨by decide, by decide⟩ ⟨Nat.zero_le _, Nat.zero_le _⟩ rfl (Nat.le_of_ble_eq_true rfl) [0, 1] (by decide) rfl (kfc rfl (kfc gC_f kfn0)) (gs1 := [gG Y ga z_g_vc z_g_ec z_g_F z_g_T z_g_X z_g_Z, gC Y ca v8.1 v8.2.1 v8.2.2 z_c_px z_c_py z_c_pn]) rfl 5 0 rfl rfl rfl dX0_explore_40 ?_
        refine kw_iinc (v := (l3 + 1)) (lv' := [(3, .int (l3 + 1)), (0, .ref (ca 0)), (1, .ref (ga 0))]) hX 43 dX0_explore_43 2 rfl (kinc_1 _) (by decide) rfl ?_
        refine kw_goto hX 46 30 dX0_explore_46 (by decide) ?_
        refine kw_lv (lv' := [(0, .ref (ca 0)), (1, .ref (ga 0)), (3, .int (l3 + 1))]) [1, 2, 0] rfl ?_
        exact ih (l3 + 1) z_g_vc z_g_ec z_g_F z_g_T z_g_X z_g_Z v8.1 v8.2.1 v8.2.2 z_c_px z_c_py z_c_pn o h hK
  unfold pX0_explore at h
  refine kw_lv (lv' := [(0, .ref (ca 0)), (1, .ref (ga 0)), (2, .int a2)]) [0, 1, 2] rfl ?_
  refine kw_iconst hX 0 dX0_explore_0 kci_0 ?_
  refine kw_istore_n (lv' := [(3, .int 0), (0, .ref (ca 0)), (1, .ref (ga 0)), (2, .int a2)]) hX 1 dX0_explore_1 rfl (by decide) rfl ?_
  obtain ⟨v3, hl4, h⟩ := kb_some h
  refine kw_lv (lv' := [(0, .ref (ca 0)), (1, .ref (ga 0)), (2, .int a2), (3, .int 0)]) [1, 2, 3, 0] rfl ?_
  refine L2 KF a2 0 g_vc g_ec g_F g_T g_X g_Z c_re c_cx c_cy c_px c_py c_pn v3 hl4 ?_
  refine kw_aload_n hX 21 dX0_explore_21 rfl 0 rfl ?_
  refine kw_iload_n hX 22 dX0_explore_22 rfl 2 rfl ?_
  refine kw_iconst hX 23 dX0_explore_23 kci_0 ?_
  refine kw_iconst hX 24 dX0_explore_24 kci_0 ?_
  obtain ⟨v5, hc6, h⟩ := kb_some h
  refine kw_callV_V hX 25 (As := [.int a2, .int 0, .int 0]) (rest := []) (kX0_reach (kx_l X) Y ca v3.2 c_cx c_cy c_px c_py c_pn a2 0 0 hc6) gX0_explore_X0_reach rfl 3 rfl hdV_X0_reach ⟨rfl, rfl⟩ ⟨by decide, by decide⟩ ⟨Nat.zero_le _, Nat.zero_le _⟩ rfl (Nat.le_of_ble_eq_true rfl) [1] (by decide) rfl (kfc gC_f kfn0) (gs1 := [gG Y ga g_vc g_ec g_F g_T g_X g_Z, gC Y ca v5.1 v5.2.1 v5.2.2 c_px c_py c_pn]) rfl 5 0 rfl rfl rfl dX0_explore_25 ?_
  refine kw_iconst hX 28 dX0_explore_28 kci_1 ?_
  refine kw_istore_n (lv' := [(3, .int 1), (0, .ref (ca 0)), (1, .ref (ga 0)), (2, .int a2)]) hX 29 dX0_explore_29 rfl (by decide) rfl ?_
  obtain ⟨v10, hl11, h⟩ := kb_some h
  refine kw_lv (lv' := [(0, .ref (ca 0)), (1, .ref (ga 0)), (3, .int 1)]) [1, 2, 0] rfl ?_
  refine L30 KF 1 g_vc g_ec g_F g_T g_X g_Z v5.1 v5.2.1 v5.2.2 c_px c_py c_pn v10 hl11 ?_
  refine kw_aload_n hX 49 dX0_explore_49 rfl 0 rfl ?_
  refine kw_aload_n hX 50 dX0_explore_50 rfl 1 rfl ?_
  obtain ⟨v12, hc13, h⟩ := kb_some h
  refine kw_callV_V hX 51 (As := [.ref (ga 0)]) (rest := []) (kX0_listPeriods (kx_l X) Y ga ca g_vc g_ec g_F g_T g_X g_Z v10.2.1 v10.2.2.1 v10.2.2.2 c_px c_py c_pn hc13) gX0_explore_X0_listPeriods rfl 1 rfl hdV_X0_listPeriods ⟨rfl, rfl⟩ ⟨by decide, by decide⟩ ⟨Nat.zero_le _, Nat.zero_le _⟩ rfl (Nat.le_of_ble_eq_true rfl) [0, 1] (by decide) rfl (kfc rfl (kfc gC_f kfn0)) (gs1 := [gG Y ga g_vc g_ec g_F g_T g_X g_Z, gC Y ca v10.2.1 v10.2.2.1 v10.2.2.2 v12.1 v12.2.1 v12.2.2]) rfl 5 0 rfl rfl rfl dX0_explore_51 ?_
  obtain rfl := Option.some.inj h
  exact hret _ _ dX0_explore_54
def pX0_isWhole_L2 : Nat → Int32 → Int32 → (Nat → Int32) → Option (Int32)
  | 0, _, _, _ => none
  | n + 1, l2, g_vc, c_re => (if g_vc ≤ l2 then some 1 else kgd (kin l2 6) ((if (c_re (l2 : Int32).toNatClampNeg) = 0 then some 0 else pX0_isWhole_L2 n (l2 + 1) g_vc c_re)))
def pX0_isWhole  (g_vc : Int32) (c_re : Nat → Int32) : Option (Int32) := pX0_isWhole_L2 KF 0 g_vc c_re
def rmX0_isWhole : Room := { frames := 0, cells := 0, slots := 0, locals := 0 }
theorem hdV_X0_isWhole : yX0_isWhole.cls = RX0 ∧ yX0_isWhole.cls ≠ "java/lang/invoke/MethodHandle" ∧ yX0_isWhole.cls ≠ "java/lang/invoke/VarHandle" ∧ (parseMethodDescriptor yX0_isWhole.desc).map (fun d => d.parameters.length) = some 1 := ⟨rfl, by decide +kernel, by decide +kernel, by decide +kernel⟩
set_option maxHeartbeats 4000000 in
set_option maxRecDepth 100000 in
theorem kX0_isWhole (l : Launch) (Y : KY) (ga : Nat → Nat) (ca : Nat → Nat) (g_vc : Int32) (g_ec : Int32) (g_F : Nat → Int32) (g_T : Nat → Int32) (g_X : Nat → Int32) (g_Z : Nat → Int32) (c_re : Nat → Int32) (c_cx : Nat → Int32) (c_cy : Nat → Int32) (c_px : Nat → Int32) (c_py : Nat → Int32) (c_pn : Int32)  {o : Int32} (h : pX0_isWhole g_vc c_re = some o) : CtI l yX0_isWhole wsX0_isWhole rmX0_isWhole Y [.ref (ca 0), .ref (ga 0)] (kfl [gG Y ga g_vc g_ec g_F g_T g_X g_Z, gC Y ca c_re c_cx c_cy c_px c_py c_pn]) o (kfl [gG Y ga g_vc g_ec g_F g_T g_X g_Z, gC Y ca c_re c_cx c_cy c_px c_py c_pn]) := by
  refine ctI_intro (cc := cX0_isWhole) (maxL := 3) (own := RX0) (by decide +kernel) rfl rfl (Nat.le_of_ble_eq_true rfl) rfl ?_
  intro X A hX _ hret
  have hin0 : ∀ w ∈ u_ws RX0 TX0 6, w ∈ wsX0_isWhole := by decide +kernel
  have hin2 : ∀ w ∈ u_ws RX2 TX2 6, w ∈ wsX0_isWhole := by decide +kernel
  have f0 := hX.w (Cond.fieldLink RX0 36 "PeriodicNet$Graph" "vertexCount" "I") (by decide +kernel)
  have f1 := hX.w (Cond.fieldLink RX0 9 "PeriodicNet$Component" "reached" "[Z") (by decide +kernel)
  have L2 : ∀ (n : Nat) (l2 : Int32) , pX0_isWhole_L2 n l2 g_vc c_re = some o → KW X Y A 3 0 0 (kfl [gG Y ga g_vc g_ec g_F g_T g_X g_Z, gC Y ca c_re c_cx c_cy c_px c_py c_pn]) [(0, .ref (ca 0)), (1, .ref (ga 0)), (2, .int l2)] 2 [] := by
    intro n
    induction n with
    | zero => intro l2 h; cases h
    | succ n ih =>
      intro l2 h
      rw [pX0_isWhole_L2] at h
      refine kw_iload_n hX 2 dX0_isWhole_2 rfl 2 rfl ?_
      refine kw_aload_n hX 3 dX0_isWhole_3 rfl 1 rfl ?_
      refine kw_get hX 4 (C := RX2) (T := TX2) (N := 6) hin2 0 f0 (fun _ h => h) 0 rfl rfl (by decide) rfl dX0_isWhole_4 ?_
      refine kw_icmp_ge hX 7 27 dX0_isWhole_7 (by decide) (fun c1 => ?_) (fun c1 => ?_)
      · have h := kif_t c1 h
        refine kw_iconst hX 27 dX0_isWhole_27 kci_1 ?_
        obtain rfl := Option.some.inj h
        exact hret _ _ dX0_isWhole_28 rfl
      · have h := kif_f c1 h
        refine kw_aload_n hX 10 dX0_isWhole_10 rfl 0 rfl ?_
        refine kw_get hX 11 (C := RX0) (T := TX0) (N := 6) hin0 0 f1 (fun _ h => h) 5 rfl rfl (by decide) rfl dX0_isWhole_11 ?_
        refine kw_iload_n hX 14 dX0_isWhole_14 rfl 2 rfl ?_
        obtain ⟨g2, h⟩ := kgd_some h
        refine kw_zald hX 15 6 rfl g2 dX0_isWhole_15 ?_
        refine kw_if_ne hX 16 21 dX0_isWhole_16 (by decide) (fun c3 => ?_) (fun c3 => ?_)
        · have h := kif_f c3 h
          refine kw_iinc (v := (l2 + 1)) (lv' := [(2, .int (l2 + 1)), (0, .ref (ca 0)), (1, .ref (ga 0))]) hX 21 dX0_isWhole_21 2 rfl (kinc_1 _) (by decide) rfl ?_
          refine kw_goto hX 24 2 dX0_isWhole_24 (by decide) ?_
          refine kw_lv (lv' := [(0, .ref (ca 0)), (1, .ref (ga 0)), (2, .int (l2 + 1))]) [1, 2, 0] rfl ?_
          exact ih (l2 + 1) h
        · have h := kif_t c3 h
          refine kw_iconst hX 19 dX0_isWhole_19 kci_0 ?_
          obtain rfl := Option.some.inj h
          exact hret _ _ dX0_isWhole_20 rfl
  unfold pX0_isWhole at h
  refine kw_lv (lv' := [(0, .ref (ca 0)), (1, .ref (ga 0))]) [0, 1] rfl ?_
  refine kw_iconst hX 0 dX0_isWhole_0 kci_0 ?_
  refine kw_istore_n (lv' := [(2, .int 0), (0, .ref (ca 0)), (1, .ref (ga 0))]) hX 1 dX0_isWhole_1 rfl (by decide) rfl ?_
  refine kw_lv (lv' := [(0, .ref (ca 0)), (1, .ref (ga 0)), (2, .int 0)]) [1, 2, 0] rfl ?_
  exact L2 KF 0 h
def pX0_commonArea_L17 : Nat → Int64 → Int32 → Int32 → (Nat → Int32) → (Nat → Int32) → Int32 → Option (Int64 × Int32)
  | 0, _, _, _, _, _, _ => none
  | n + 1, l1, l3, l4, z_c_px, z_c_py, z_c_pn => (if z_c_pn ≤ l4 then some (l1, l4) else kgd (kin l3 12) (kgd (kin l4 12) (kgd (kin l4 12) (kgd (kin l3 12) (kb (pX5_greatestDivisor l1 ((((z_c_px (l3 : Int32).toNatClampNeg) : Int32).toInt64 * ((z_c_py (l4 : Int32).toNatClampNeg) : Int32).toInt64) - (((z_c_px (l4 : Int32).toNatClampNeg) : Int32).toInt64 * ((z_c_py (l3 : Int32).toNatClampNeg) : Int32).toInt64))) (fun v7 => pX0_commonArea_L17 n v7 l3 (l4 + 1) z_c_px z_c_py z_c_pn))))))
def pX0_commonArea_L4 : Nat → Int64 → Int32 → (Nat → Int32) → (Nat → Int32) → Int32 → Option (Int64 × Int32)
  | 0, _, _, _, _, _ => none
  | n + 1, l1, l3, z_c_px, z_c_py, z_c_pn => (if z_c_pn ≤ l3 then some (l1, l3) else kb (pX0_commonArea_L17 KF l1 l3 (l3 + 1) z_c_px z_c_py z_c_pn) (fun v9 => pX0_commonArea_L4 n v9.1 (l3 + 1) z_c_px z_c_py z_c_pn))
def pX0_commonArea  (c_px : Nat → Int32) (c_py : Nat → Int32) (c_pn : Int32) : Option (Int64) := kb (pX0_commonArea_L4 KF 0 0 c_px c_py c_pn) (fun v11 => some v11.1)
def rmX0_commonArea : Room := { frames := 1, cells := 0, slots := 0, locals := 30 }
theorem hdV_X0_commonArea : yX0_commonArea.cls = RX0 ∧ yX0_commonArea.cls ≠ "java/lang/invoke/MethodHandle" ∧ yX0_commonArea.cls ≠ "java/lang/invoke/VarHandle" ∧ (parseMethodDescriptor yX0_commonArea.desc).map (fun d => d.parameters.length) = some 0 := ⟨rfl, by decide +kernel, by decide +kernel, by decide +kernel⟩
set_option maxHeartbeats 4000000 in
set_option maxRecDepth 100000 in
theorem kX0_commonArea (l : Launch) (Y : KY) (ca : Nat → Nat) (c_re : Nat → Int32) (c_cx : Nat → Int32) (c_cy : Nat → Int32) (c_px : Nat → Int32) (c_py : Nat → Int32) (c_pn : Int32)  {o : Int64} (h : pX0_commonArea c_px c_py c_pn = some o) : CtL l yX0_commonArea wsX0_commonArea rmX0_commonArea Y [.ref (ca 0)] (kfl [gC Y ca c_re c_cx c_cy c_px c_py c_pn]) o (kfl [gC Y ca c_re c_cx c_cy c_px c_py c_pn]) := by
  refine ctL_intro (cc := cX0_commonArea) (maxL := 7) (own := RX0) (by decide +kernel) rfl rfl (Nat.le_of_ble_eq_true rfl) rfl ?_
  intro X A hX _ hret
  have hin0 : ∀ w ∈ u_ws RX0 TX0 6, w ∈ wsX0_commonArea := by decide +kernel
  have f0 := hX.w (Cond.fieldLink RX0 28 "PeriodicNet$Component" "periods" "I") (by decide +kernel)
  have f1 := hX.w (Cond.fieldLink RX0 22 "PeriodicNet$Component" "periodX" "[I") (by decide +kernel)
  have f2 := hX.w (Cond.fieldLink RX0 25 "PeriodicNet$Component" "periodY" "[I") (by decide +kernel)
  have iniX5 := hX.w (Cond.initialized yX5_greatestDivisor.cls) (by decide +kernel)
  have staX5_greatestDivisor := hX.w (Cond.static yX5_greatestDivisor) (by decide +kernel)
  have L17 : ∀ (n : Nat) (l1 : Int64) (l3 : Int32) (l4 : Int32) (z_c_re : Nat → Int32) (z_c_cx : Nat → Int32) (z_c_cy : Nat → Int32) (z_c_px : Nat → Int32) (z_c_py : Nat → Int32) (z_c_pn : Int32) (o : Int64 × Int32), pX0_commonArea_L17 n l1 l3 l4 z_c_px z_c_py z_c_pn = some o → KW X Y A 7 0 0 (kfl [gC Y ca z_c_re z_c_cx z_c_cy z_c_px z_c_py z_c_pn]) [(0, .ref (ca 0)), (1, .long o.1), (3, .int l3), (4, .int o.2)] 74 [] → KW X Y A 7 0 0 (kfl [gC Y ca z_c_re z_c_cx z_c_cy z_c_px z_c_py z_c_pn]) [(0, .ref (ca 0)), (1, .long l1), (3, .int l3), (4, .int l4)] 17 [] := by
    intro n
    induction n with
    | zero => intro l1 l3 l4 z_c_re z_c_cx z_c_cy z_c_px z_c_py z_c_pn o h; cases h
    | succ n ih =>
      intro l1 l3 l4 z_c_re z_c_cx z_c_cy z_c_px z_c_py z_c_pn o h hK
      rw [pX0_commonArea_L17] at h
      refine kw_iload hX 17 dX0_commonArea_17 3 rfl ?_
      refine kw_aload_n hX 19 dX0_commonArea_19 rfl 0 rfl ?_
      refine kw_get hX 20 (C := RX0) (T := TX0) (N := 6) hin0 5 f0 (fun _ h => h) 0 rfl rfl (by decide) rfl dX0_commonArea_20 ?_
      refine kw_icmp_ge hX 23 74 dX0_commonArea_23 (by decide) (fun c2 => ?_) (fun c2 => ?_)
      · have h := kif_t c2 h
        obtain rfl := Option.some.inj h
        refine kw_lv (lv' := [(0, .ref (ca 0)), (1, .long l1), (3, .int l3), (4, .int l4)]) [0, 1, 2, 3] rfl ?_
        exact hK
      · have h := kif_f c2 h
        refine kw_aload_n hX 26 dX0_commonArea_26 rfl 0 rfl ?_
        refine kw_get hX 27 (C := RX0) (T := TX0) (N := 6) hin0 3 f1 (fun _ h => h) 0 rfl rfl (by decide) rfl dX0_commonArea_27 ?_
        refine kw_iload_n hX 30 dX0_commonArea_30 rfl 2 rfl ?_
        obtain ⟨g3, h⟩ := kgd_some h
        refine kw_iald hX 31 4 rfl g3 dX0_commonArea_31 ?_
        refine kw_i2l hX 32 dX0_commonArea_32 ?_
        refine kw_aload_n hX 33 dX0_commonArea_33 rfl 0 rfl ?_
        refine kw_get hX 34 (C := RX0) (T := TX0) (N := 6) hin0 4 f2 (fun _ h => h) 0 rfl rfl (by decide) rfl dX0_commonArea_34 ?_
        refine kw_iload hX 37 dX0_commonArea_37 3 rfl ?_
        obtain ⟨g4, h⟩ := kgd_some h
        refine kw_iald hX 39 5 rfl g4 dX0_commonArea_39 ?_
        refine kw_i2l hX 40 dX0_commonArea_40 ?_
        refine kw_lmul hX 41 dX0_commonArea_41 ?_
        refine kw_aload_n hX 42 dX0_commonArea_42 rfl 0 rfl ?_
        refine kw_get hX 43 (C := RX0) (T := TX0) (N := 6) hin0 3 f1 (fun _ h => h) 0 rfl rfl (by decide) rfl dX0_commonArea_43 ?_
        refine kw_iload hX 46 dX0_commonArea_46 3 rfl ?_
        obtain ⟨g5, h⟩ := kgd_some h
        refine kw_iald hX 48 4 rfl g5 dX0_commonArea_48 ?_
        refine kw_i2l hX 49 dX0_commonArea_49 ?_
        refine kw_aload_n hX 50 dX0_commonArea_50 rfl 0 rfl ?_
        refine kw_get hX 51 (C := RX0) (T := TX0) (N := 6) hin0 4 f2 (fun _ h => h) 0 rfl rfl (by decide) rfl dX0_commonArea_51 ?_
        refine kw_iload_n hX 54 dX0_commonArea_54 rfl 2 rfl ?_
        obtain ⟨g6, h⟩ := kgd_some h
        refine kw_iald hX 55 5 rfl g6 dX0_commonArea_55 ?_
        refine kw_i2l hX 56 dX0_commonArea_56 ?_
        refine kw_lmul hX 57 dX0_commonArea_57 ?_
        refine kw_lsub hX 58 dX0_commonArea_58 ?_
        refine kw_lstore (lv' := [(5, .long ((((z_c_px (l3 : Int32).toNatClampNeg) : Int32).toInt64 * ((z_c_py (l4 : Int32).toNatClampNeg) : Int32).toInt64) - (((z_c_px (l4 : Int32).toNatClampNeg) : Int32).toInt64 * ((z_c_py (l3 : Int32).toNatClampNeg) : Int32).toInt64))), (0, .ref (ca 0)), (1, .long l1), (3, .int l3), (4, .int l4)]) hX 59 dX0_commonArea_59 (by decide) rfl ?_
        refine kw_lload_n hX 61 dX0_commonArea_61 rfl 2 rfl ?_
        refine kw_lload hX 62 dX0_commonArea_62 0 rfl ?_
        obtain ⟨v7, hc8, h⟩ := kb_some h
        refine kw_callSN_L hX 64 (As := [.long l1, .long ((((z_c_px (l3 : Int32).toNatClampNeg) : Int32).toInt64 * ((z_c_py (l4 : Int32).toNatClampNeg) : Int32).toInt64) - (((z_c_px (l4 : Int32).toNatClampNeg) : Int32).toInt64 * ((z_c_py (l3 : Int32).toNatClampNeg) : Int32).toInt64))]) (rest := []) (kX5_greatestDivisor (kx_l X) Y l1 ((((z_c_px (l3 : Int32).toNatClampNeg) : Int32).toInt64 * ((z_c_py (l4 : Int32).toNatClampNeg) : Int32).toInt64) - (((z_c_px (l4 : Int32).toNatClampNeg) : Int32).toInt64 * ((z_c_py (l3 : Int32).toNatClampNeg) : Int32).toInt64)) hc8) gX0_commonArea_X5_greatestDivisor_n67 (kn1 hX) iniX5 staX5_greatestDivisor rfl 2 rfl hdS_X5_greatestDivisor ⟨rfl, rfl⟩ ⟨by decide, by decide⟩ ⟨Nat.zero_le _, Nat.zero_le _⟩ rfl (Nat.le_of_ble_eq_true rfl) [] (by decide) rfl kfn0 (gs1 := [gC Y ca z_c_re z_c_cx z_c_cy z_c_px z_c_py z_c_pn]) rfl dX0_commonArea_64 ?_
        refine kw_lstore_n (lv' := [(1, .long v7), (5, .long ((((z_c_px (l3 : Int32).toNatClampNeg) : Int32).toInt64 * ((z_c_py (l4 : Int32).toNatClampNeg) : Int32).toInt64) - (((z_c_px (l4 : Int32).toNatClampNeg) : Int32).toInt64 * ((z_c_py (l3 : Int32).toNatClampNeg) : Int32).toInt64))), (0, .ref (ca 0)), (3, .int l3), (4, .int l4)]) hX 67 dX0_commonArea_67 rfl (by decide) rfl ?_
        refine kw_iinc (v := (l4 + 1)) (lv' := [(4, .int (l4 + 1)), (1, .long v7), (5, .long ((((z_c_px (l3 : Int32).toNatClampNeg) : Int32).toInt64 * ((z_c_py (l4 : Int32).toNatClampNeg) : Int32).toInt64) - (((z_c_px (l4 : Int32).toNatClampNeg) : Int32).toInt64 * ((z_c_py (l3 : Int32).toNatClampNeg) : Int32).toInt64))), (0, .ref (ca 0)), (3, .int l3)]) hX 68 dX0_commonArea_68 4 rfl (kinc_1 _) (by decide) rfl ?_
        refine kw_goto hX 71 17 dX0_commonArea_71 (by decide) ?_
        refine kw_lv (lv' := [(0, .ref (ca 0)), (1, .long v7), (3, .int l3), (4, .int (l4 + 1))]) [3, 1, 4, 0] rfl ?_
        exact ih v7 l3 (l4 + 1) z_c_re z_c_cx z_c_cy z_c_px z_c_py z_c_pn o h hK
  have L4 : ∀ (n : Nat) (l1 : Int64) (l3 : Int32) (z_c_re : Nat → Int32) (z_c_cx : Nat → Int32) (z_c_cy : Nat → Int32) (z_c_px : Nat → Int32) (z_c_py : Nat → Int32) (z_c_pn : Int32) (o : Int64 × Int32), pX0_commonArea_L4 n l1 l3 z_c_px z_c_py z_c_pn = some o → KW X Y A 7 0 0 (kfl [gC Y ca z_c_re z_c_cx z_c_cy z_c_px z_c_py z_c_pn]) [(0, .ref (ca 0)), (1, .long o.1), (3, .int o.2)] 80 [] → KW X Y A 7 0 0 (kfl [gC Y ca z_c_re z_c_cx z_c_cy z_c_px z_c_py z_c_pn]) [(0, .ref (ca 0)), (1, .long l1), (3, .int l3)] 4 [] := by
    intro n
    induction n with
    | zero => intro l1 l3 z_c_re z_c_cx z_c_cy z_c_px z_c_py z_c_pn o h; cases h
    | succ n ih =>
      intro l1 l3 z_c_re z_c_cx z_c_cy z_c_px z_c_py z_c_pn o h hK
      rw [pX0_commonArea_L4] at h
      refine kw_iload_n hX 4 dX0_commonArea_4 rfl 2 rfl ?_
      refine kw_aload_n hX 5 dX0_commonArea_5 rfl 0 rfl ?_
      refine kw_get hX 6 (C := RX0) (T := TX0) (N := 6) hin0 5 f0 (fun _ h => h) 0 rfl rfl (by decide) rfl dX0_commonArea_6 ?_
      refine kw_icmp_ge hX 9 80 dX0_commonArea_9 (by decide) (fun c1 => ?_) (fun c1 => ?_)
      · have h := kif_t c1 h
        obtain rfl := Option.some.inj h
        refine kw_lv (lv' := [(0, .ref (ca 0)), (1, .long l1), (3, .int l3)]) [0, 1, 2] rfl ?_
        exact hK
      · have h := kif_f c1 h
        refine kw_iload_n hX 12 dX0_commonArea_12 rfl 2 rfl ?_
        refine kw_iconst hX 13 dX0_commonArea_13 kci_1 ?_
        refine kw_iadd hX 14 dX0_commonArea_14 ?_
        refine kw_istore (lv' := [(4, .int (l3 + 1)), (0, .ref (ca 0)), (1, .long l1), (3, .int l3)]) hX 15 dX0_commonArea_15 (by decide) rfl ?_
        obtain ⟨v9, hl10, h⟩ := kb_some h
        refine kw_lv (lv' := [(0, .ref (ca 0)), (1, .long l1), (3, .int l3), (4, .int (l3 + 1))]) [1, 2, 3, 0] rfl ?_
        refine L17 KF l1 l3 (l3 + 1) z_c_re z_c_cx z_c_cy z_c_px z_c_py z_c_pn v9 hl10 ?_
        refine kw_iinc (v := (l3 + 1)) (lv' := [(3, .int (l3 + 1)), (0, .ref (ca 0)), (1, .long v9.1), (4, .int v9.2)]) hX 74 dX0_commonArea_74 2 rfl (kinc_1 _) (by decide) rfl ?_
        refine kw_goto hX 77 4 dX0_commonArea_77 (by decide) ?_
        refine kw_lv (lv' := [(0, .ref (ca 0)), (1, .long v9.1), (3, .int (l3 + 1))]) [1, 2, 0] rfl ?_
        exact ih v9.1 (l3 + 1) z_c_re z_c_cx z_c_cy z_c_px z_c_py z_c_pn o h hK
  unfold pX0_commonArea at h
  refine kw_lv (lv' := [(0, .ref (ca 0))]) [0] rfl ?_
  refine kw_lconst hX 0 dX0_commonArea_0 kcl_0 ?_
  refine kw_lstore_n (lv' := [(1, .long 0), (0, .ref (ca 0))]) hX 1 dX0_commonArea_1 rfl (by decide) rfl ?_
  refine kw_iconst hX 2 dX0_commonArea_2 kci_0 ?_
  refine kw_istore_n (lv' := [(3, .int 0), (1, .long 0), (0, .ref (ca 0))]) hX 3 dX0_commonArea_3 rfl (by decide) rfl ?_
  obtain ⟨v11, hl12, h⟩ := kb_some h
  refine kw_lv (lv' := [(0, .ref (ca 0)), (1, .long 0), (3, .int 0)]) [2, 1, 0] rfl ?_
  refine L4 KF 0 0 c_re c_cx c_cy c_px c_py c_pn v11 hl12 ?_
  refine kw_lload_n hX 80 dX0_commonArea_80 rfl 1 rfl ?_
  obtain rfl := Option.some.inj h
  exact hret _ _ dX0_commonArea_81
def pX0_latticeRank_L13 : Nat → Int32 → (Nat → Int32) → (Nat → Int32) → Int32 → Option (Int32)
  | 0, _, _, _, _ => none
  | n + 1, l1, c_px, c_py, c_pn => (if c_pn ≤ l1 then some 0 else kgd (kin l1 12) ((if (c_px (l1 : Int32).toNatClampNeg) = 0 then kgd (kin l1 12) ((if (c_py (l1 : Int32).toNatClampNeg) = 0 then pX0_latticeRank_L13 n (l1 + 1) c_px c_py c_pn else some 1)) else some 1)))
def pX0_latticeRank  (c_px : Nat → Int32) (c_py : Nat → Int32) (c_pn : Int32) : Option (Int32) := kb (pX0_commonArea c_px c_py c_pn) (fun v1 => (if (lg_cmp v1 0) = 0 then pX0_latticeRank_L13 KF 0 c_px c_py c_pn else some 2))
def rmX0_latticeRank : Room := { frames := 2, cells := 0, slots := 0, locals := 56 }
theorem hdV_X0_latticeRank : yX0_latticeRank.cls = RX0 ∧ yX0_latticeRank.cls ≠ "java/lang/invoke/MethodHandle" ∧ yX0_latticeRank.cls ≠ "java/lang/invoke/VarHandle" ∧ (parseMethodDescriptor yX0_latticeRank.desc).map (fun d => d.parameters.length) = some 0 := ⟨rfl, by decide +kernel, by decide +kernel, by decide +kernel⟩
set_option maxHeartbeats 4000000 in
set_option maxRecDepth 100000 in
theorem kX0_latticeRank (l : Launch) (Y : KY) (ca : Nat → Nat) (c_re : Nat → Int32) (c_cx : Nat → Int32) (c_cy : Nat → Int32) (c_px : Nat → Int32) (c_py : Nat → Int32) (c_pn : Int32)  {o : Int32} (h : pX0_latticeRank c_px c_py c_pn = some o) : CtI l yX0_latticeRank wsX0_latticeRank rmX0_latticeRank Y [.ref (ca 0)] (kfl [gC Y ca c_re c_cx c_cy c_px c_py c_pn]) o (kfl [gC Y ca c_re c_cx c_cy c_px c_py c_pn]) := by
  refine ctI_intro (cc := cX0_latticeRank) (maxL := 2) (own := RX0) (by decide +kernel) rfl rfl (Nat.le_of_ble_eq_true rfl) rfl ?_
  intro X A hX _ hret
  have hin0 : ∀ w ∈ u_ws RX0 TX0 6, w ∈ wsX0_latticeRank := by decide +kernel
  have f0 := hX.w (Cond.fieldLink RX0 28 "PeriodicNet$Component" "periods" "I") (by decide +kernel)
  have f1 := hX.w (Cond.fieldLink RX0 22 "PeriodicNet$Component" "periodX" "[I") (by decide +kernel)
  have f2 := hX.w (Cond.fieldLink RX0 25 "PeriodicNet$Component" "periodY" "[I") (by decide +kernel)
  have L13 : ∀ (n : Nat) (l1 : Int32) , pX0_latticeRank_L13 n l1 c_px c_py c_pn = some o → KW X Y A 2 0 0 (kfl [gC Y ca c_re c_cx c_cy c_px c_py c_pn]) [(0, .ref (ca 0)), (1, .int l1)] 13 [] := by
    intro n
    induction n with
    | zero => intro l1 h; cases h
    | succ n ih =>
      intro l1 h
      rw [pX0_latticeRank_L13] at h
      refine kw_iload_n hX 13 dX0_latticeRank_13 rfl 1 rfl ?_
      refine kw_aload_n hX 14 dX0_latticeRank_14 rfl 0 rfl ?_
      refine kw_get hX 15 (C := RX0) (T := TX0) (N := 6) hin0 5 f0 (fun _ h => h) 0 rfl rfl (by decide) rfl dX0_latticeRank_15 ?_
      refine kw_icmp_ge hX 18 47 dX0_latticeRank_18 (by decide) (fun c4 => ?_) (fun c4 => ?_)
      · have h := kif_t c4 h
        refine kw_iconst hX 47 dX0_latticeRank_47 kci_0 ?_
        obtain rfl := Option.some.inj h
        exact hret _ _ dX0_latticeRank_48 rfl
      · have h := kif_f c4 h
        refine kw_aload_n hX 21 dX0_latticeRank_21 rfl 0 rfl ?_
        refine kw_get hX 22 (C := RX0) (T := TX0) (N := 6) hin0 3 f1 (fun _ h => h) 0 rfl rfl (by decide) rfl dX0_latticeRank_22 ?_
        refine kw_iload_n hX 25 dX0_latticeRank_25 rfl 1 rfl ?_
        obtain ⟨g5, h⟩ := kgd_some h
        refine kw_iald hX 26 4 rfl g5 dX0_latticeRank_26 ?_
        refine kw_if_ne hX 27 39 dX0_latticeRank_27 (by decide) (fun c6 => ?_) (fun c6 => ?_)
        · have h := kif_f c6 h
          refine kw_iconst hX 39 dX0_latticeRank_39 kci_1 ?_
          obtain rfl := Option.some.inj h
          exact hret _ _ dX0_latticeRank_40 rfl
        · have h := kif_t c6 h
          refine kw_aload_n hX 30 dX0_latticeRank_30 rfl 0 rfl ?_
          refine kw_get hX 31 (C := RX0) (T := TX0) (N := 6) hin0 4 f2 (fun _ h => h) 0 rfl rfl (by decide) rfl dX0_latticeRank_31 ?_
          refine kw_iload_n hX 34 dX0_latticeRank_34 rfl 1 rfl ?_
          obtain ⟨g7, h⟩ := kgd_some h
          refine kw_iald hX 35 5 rfl g7 dX0_latticeRank_35 ?_
          refine kw_if_eq hX 36 41 dX0_latticeRank_36 (by decide) (fun c8 => ?_) (fun c8 => ?_)
          · have h := kif_t c8 h
            refine kw_iinc (v := (l1 + 1)) (lv' := [(1, .int (l1 + 1)), (0, .ref (ca 0))]) hX 41 dX0_latticeRank_41 1 rfl (kinc_1 _) (by decide) rfl ?_
            refine kw_goto hX 44 13 dX0_latticeRank_44 (by decide) ?_
            refine kw_lv (lv' := [(0, .ref (ca 0)), (1, .int (l1 + 1))]) [1, 0] rfl ?_
            exact ih (l1 + 1) h
          · have h := kif_f c8 h
            refine kw_iconst hX 39 dX0_latticeRank_39 kci_1 ?_
            obtain rfl := Option.some.inj h
            exact hret _ _ dX0_latticeRank_40 rfl
  unfold pX0_latticeRank at h
  refine kw_lv (lv' := [(0, .ref (ca 0))]) [0] rfl ?_
  refine kw_aload_n hX 0 dX0_latticeRank_0 rfl 0 rfl ?_
  obtain ⟨v1, hc2, h⟩ := kb_some h
  refine kw_callV_L hX 1 (As := []) (rest := []) (kX0_commonArea (kx_l X) Y ca c_re c_cx c_cy c_px c_py c_pn hc2) gX0_latticeRank_X0_commonArea rfl 0 rfl hdV_X0_commonArea ⟨rfl, rfl⟩ ⟨by decide, by decide⟩ ⟨Nat.zero_le _, Nat.zero_le _⟩ rfl (Nat.le_of_ble_eq_true rfl) [0] (by decide) rfl (kfc rfl kfn0) (gs1 := [gC Y ca c_re c_cx c_cy c_px c_py c_pn]) rfl 0 0 rfl rfl rfl dX0_latticeRank_1 ?_
  refine kw_lconst hX 4 dX0_latticeRank_4 kcl_0 ?_
  refine kw_lcmp hX 5 dX0_latticeRank_5 ?_
  refine kw_if_eq hX 6 11 dX0_latticeRank_6 (by decide) (fun c3 => ?_) (fun c3 => ?_)
  · have h := kif_t c3 h
    refine kw_iconst hX 11 dX0_latticeRank_11 kci_0 ?_
    refine kw_istore_n (lv' := [(1, .int 0), (0, .ref (ca 0))]) hX 12 dX0_latticeRank_12 rfl (by decide) rfl ?_
    refine kw_lv (lv' := [(0, .ref (ca 0)), (1, .int 0)]) [1, 0] rfl ?_
    exact L13 KF 0 h
  · have h := kif_f c3 h
    refine kw_iconst hX 9 dX0_latticeRank_9 kci_2 ?_
    obtain rfl := Option.some.inj h
    exact hret _ _ dX0_latticeRank_10 rfl
def pX0_latticeIndex  (c_px : Nat → Int32) (c_py : Nat → Int32) (c_pn : Int32) : Option (Int32) := kb (pX0_commonArea c_px c_py c_pn) (fun v1 => (if (lg_cmp v1 0) = 0 then some (-1) else some ((v1 : Int64).toInt32)))
def rmX0_latticeIndex : Room := { frames := 2, cells := 0, slots := 0, locals := 56 }
theorem hdV_X0_latticeIndex : yX0_latticeIndex.cls = RX0 ∧ yX0_latticeIndex.cls ≠ "java/lang/invoke/MethodHandle" ∧ yX0_latticeIndex.cls ≠ "java/lang/invoke/VarHandle" ∧ (parseMethodDescriptor yX0_latticeIndex.desc).map (fun d => d.parameters.length) = some 0 := ⟨rfl, by decide +kernel, by decide +kernel, by decide +kernel⟩
set_option maxHeartbeats 4000000 in
set_option maxRecDepth 100000 in
theorem kX0_latticeIndex (l : Launch) (Y : KY) (ca : Nat → Nat) (c_re : Nat → Int32) (c_cx : Nat → Int32) (c_cy : Nat → Int32) (c_px : Nat → Int32) (c_py : Nat → Int32) (c_pn : Int32)  {o : Int32} (h : pX0_latticeIndex c_px c_py c_pn = some o) : CtI l yX0_latticeIndex wsX0_latticeIndex rmX0_latticeIndex Y [.ref (ca 0)] (kfl [gC Y ca c_re c_cx c_cy c_px c_py c_pn]) o (kfl [gC Y ca c_re c_cx c_cy c_px c_py c_pn]) := by
  refine ctI_intro (cc := cX0_latticeIndex) (maxL := 3) (own := RX0) (by decide +kernel) rfl rfl (Nat.le_of_ble_eq_true rfl) rfl ?_
  intro X A hX _ hret
  unfold pX0_latticeIndex at h
  refine kw_lv (lv' := [(0, .ref (ca 0))]) [0] rfl ?_
  refine kw_aload_n hX 0 dX0_latticeIndex_0 rfl 0 rfl ?_
  obtain ⟨v1, hc2, h⟩ := kb_some h
  refine kw_callV_L hX 1 (As := []) (rest := []) (kX0_commonArea (kx_l X) Y ca c_re c_cx c_cy c_px c_py c_pn hc2) gX0_latticeIndex_X0_commonArea rfl 0 rfl hdV_X0_commonArea ⟨rfl, rfl⟩ ⟨by decide, by decide⟩ ⟨Nat.zero_le _, Nat.zero_le _⟩ rfl (Nat.le_of_ble_eq_true rfl) [0] (by decide) rfl (kfc rfl kfn0) (gs1 := [gC Y ca c_re c_cx c_cy c_px c_py c_pn]) rfl 0 0 rfl rfl rfl dX0_latticeIndex_1 ?_
  refine kw_lstore_n (lv' := [(1, .long v1), (0, .ref (ca 0))]) hX 4 dX0_latticeIndex_4 rfl (by decide) rfl ?_
  refine kw_lload_n hX 5 dX0_latticeIndex_5 rfl 0 rfl ?_
  refine kw_lconst hX 6 dX0_latticeIndex_6 kcl_0 ?_
  refine kw_lcmp hX 7 dX0_latticeIndex_7 ?_
  refine kw_if_ne hX 8 15 dX0_latticeIndex_8 (by decide) (fun c3 => ?_) (fun c3 => ?_)
  · have h := kif_f c3 h
    refine kw_lload_n hX 15 dX0_latticeIndex_15 rfl 0 rfl ?_
    refine kw_l2i hX 16 dX0_latticeIndex_16 ?_
    obtain rfl := Option.some.inj h
    exact hret _ _ dX0_latticeIndex_17 rfl
  · have h := kif_t c3 h
    refine kw_iconst hX 11 dX0_latticeIndex_11 kci_m1 ?_
    refine kw_goto hX 12 17 dX0_latticeIndex_12 (by decide) ?_
    obtain rfl := Option.some.inj h
    exact hret _ _ dX0_latticeIndex_17 rfl
