def pX1_put (a1 : Int32) (a2 : Int32) (a3 : Int32) (a4 : Int32) (e_cn : Nat → Int32) (e_M : Nat → Nat → Int32) : Option ((Nat → Int32) × (Nat → Nat → Int32)) := kgd (kin a1 6) ((if (24 : Int32) ≤ (e_cn (a1 : Int32).toNatClampNeg) then some (e_cn, e_M) else kgd (kin a1 6) (kgd (decide ((0 + (a1 : Int32).toNatClampNeg) < 18)) (kgd (kin (e_cn (a1 : Int32).toNatClampNeg) 24) (kgd (kin a1 6) (kgd (decide ((6 + (a1 : Int32).toNatClampNeg) < 18)) (kgd (kin (e_cn (a1 : Int32).toNatClampNeg) 24) (kgd (kin a1 6) (kgd (decide ((12 + (a1 : Int32).toNatClampNeg) < 18)) (kgd (kin (e_cn (a1 : Int32).toNatClampNeg) 24) (kgd (kin a1 6) (kgd (kin a1 6) (some ((upd e_cn (a1 : Int32).toNatClampNeg ((e_cn (a1 : Int32).toNatClampNeg) + 1)), (va_up (va_up (va_up e_M (0 + (a1 : Int32).toNatClampNeg) (upd (e_M (0 + (a1 : Int32).toNatClampNeg)) ((e_cn (a1 : Int32).toNatClampNeg)).toNatClampNeg a2)) (6 + (a1 : Int32).toNatClampNeg) (upd ((va_up e_M (0 + (a1 : Int32).toNatClampNeg) (upd (e_M (0 + (a1 : Int32).toNatClampNeg)) ((e_cn (a1 : Int32).toNatClampNeg)).toNatClampNeg a2)) (6 + (a1 : Int32).toNatClampNeg)) ((e_cn (a1 : Int32).toNatClampNeg)).toNatClampNeg a3)) (12 + (a1 : Int32).toNatClampNeg) (upd ((va_up (va_up e_M (0 + (a1 : Int32).toNatClampNeg) (upd (e_M (0 + (a1 : Int32).toNatClampNeg)) ((e_cn (a1 : Int32).toNatClampNeg)).toNatClampNeg a2)) (6 + (a1 : Int32).toNatClampNeg) (upd ((va_up e_M (0 + (a1 : Int32).toNatClampNeg) (upd (e_M (0 + (a1 : Int32).toNatClampNeg)) ((e_cn (a1 : Int32).toNatClampNeg)).toNatClampNeg a2)) (6 + (a1 : Int32).toNatClampNeg)) ((e_cn (a1 : Int32).toNatClampNeg)).toNatClampNeg a3)) (12 + (a1 : Int32).toNatClampNeg)) ((e_cn (a1 : Int32).toNatClampNeg)).toNatClampNeg a4))))))))))))))))
def rmX1_put : Room := { frames := 0, cells := 0, slots := 0, locals := 0 }
theorem hdV_X1_put : yX1_put.cls = RX1 ∧ yX1_put.cls ≠ "java/lang/invoke/MethodHandle" ∧ yX1_put.cls ≠ "java/lang/invoke/VarHandle" ∧ (parseMethodDescriptor yX1_put.desc).map (fun d => d.parameters.length) = some 4 := ⟨rfl, by decide +kernel, by decide +kernel, by decide +kernel⟩
set_option maxHeartbeats 4000000 in
set_option maxRecDepth 100000 in
theorem kX1_put (l : Launch) (Y : KY) (ea : Nat → Nat) (er : Nat → Nat) (e_cn : Nat → Int32) (e_M : Nat → Nat → Int32) (a1 : Int32) (a2 : Int32) (a3 : Int32) (a4 : Int32) {o : (Nat → Int32) × (Nat → Nat → Int32)} (h : pX1_put a1 a2 a3 a4 e_cn e_M = some o) : CtV l yX1_put wsX1_put rmX1_put Y [.ref (ea 0), .int a1, .int a2, .int a3, .int a4] (kfl [gE Y ea er e_cn e_M]) (kfl [gE Y ea er o.1 o.2]) := by
  refine ctV_intro (cc := cX1_put) (maxL := 6) (own := RX1) (by decide +kernel) rfl rfl (Nat.le_of_ble_eq_true rfl) rfl ?_
  intro X A hX _ hret
  have hin1 : ∀ w ∈ u_ws RX1 TX1 4, w ∈ wsX1_put := by decide +kernel
  have f0 := hX.w (Cond.fieldLink RX1 9 "PeriodicNet$Ends" "count" "[I") (by decide +kernel)
  have f1 := hX.w (Cond.fieldLink RX1 17 "PeriodicNet$Ends" "target" "[[I") (by decide +kernel)
  have f2 := hX.w (Cond.fieldLink RX1 20 "PeriodicNet$Ends" "stepX" "[[I") (by decide +kernel)
  have f3 := hX.w (Cond.fieldLink RX1 23 "PeriodicNet$Ends" "stepY" "[[I") (by decide +kernel)
  unfold pX1_put at h
  refine kw_lv (lv' := [(0, .ref (ea 0)), (1, .int a1), (2, .int a2), (3, .int a3), (4, .int a4)]) [0, 1, 2, 3, 4] rfl ?_
  refine kw_aload_n hX 0 dX1_put_0 rfl 0 rfl ?_
  refine kw_get hX 1 (C := RX1) (T := TX1) (N := 4) hin1 0 f0 (fun _ h => h) 0 rfl rfl (by decide) rfl dX1_put_1 ?_
  refine kw_iload_n hX 4 dX1_put_4 rfl 1 rfl ?_
  obtain ⟨g1, h⟩ := kgd_some h
  refine kw_iald hX 5 1 rfl g1 dX1_put_5 ?_
  refine kw_istore (lv' := [(5, .int (e_cn (a1 : Int32).toNatClampNeg)), (0, .ref (ea 0)), (1, .int a1), (2, .int a2), (3, .int a3), (4, .int a4)]) hX 6 dX1_put_6 (by decide) rfl ?_
  refine kw_iload hX 8 dX1_put_8 0 rfl ?_
  refine kw_bipush hX 10 dX1_put_10 kcb_24 ?_
  refine kw_icmp_ge hX 12 56 dX1_put_12 (by decide) (fun c2 => ?_) (fun c2 => ?_)
  · have h := kif_t c2 h
    obtain rfl := Option.some.inj h
    exact hret _ _ dX1_put_56
  · have h := kif_f c2 h
    refine kw_aload_n hX 15 dX1_put_15 rfl 1 rfl ?_
    refine kw_get hX 16 (C := RX1) (T := TX1) (N := 4) hin1 1 f1 (fun _ h => h) 0 rfl rfl (by decide) rfl dX1_put_16 ?_
    refine kw_iload_n hX 19 dX1_put_19 rfl 2 rfl ?_
    obtain ⟨g3, h⟩ := kgd_some h
    refine kw_aald4 hX 20 2 rfl g3 rfl dX1_put_20 ?_
    refine kw_iload hX 21 dX1_put_21 0 rfl ?_
    refine kw_iload_n hX 23 dX1_put_23 rfl 3 rfl ?_
    obtain ⟨g4, h⟩ := kgd_some h
    obtain ⟨g5, h⟩ := kgd_some h
    refine kw_iast hX 24 (ws' := (kfl [gE Y ea er e_cn (va_up e_M (0 + (a1 : Int32).toNatClampNeg) (upd (e_M (0 + (a1 : Int32).toNatClampNeg)) ((e_cn (a1 : Int32).toNatClampNeg)).toNatClampNeg a2))])) (5 + (0 + (a1 : Int32).toNatClampNeg)) (gE_row (of_decide_eq_true g4)) g5 (gE_set (of_decide_eq_true g4)) dX1_put_24 ?_
    refine kw_aload_n hX 25 dX1_put_25 rfl 1 rfl ?_
    refine kw_get hX 26 (C := RX1) (T := TX1) (N := 4) hin1 2 f2 (fun _ h => h) 0 rfl rfl (by decide) rfl dX1_put_26 ?_
    refine kw_iload_n hX 29 dX1_put_29 rfl 2 rfl ?_
    obtain ⟨g6, h⟩ := kgd_some h
    refine kw_aald4 hX 30 3 rfl g6 rfl dX1_put_30 ?_
    refine kw_iload hX 31 dX1_put_31 0 rfl ?_
    refine kw_iload_n hX 33 dX1_put_33 rfl 4 rfl ?_
    obtain ⟨g7, h⟩ := kgd_some h
    obtain ⟨g8, h⟩ := kgd_some h
    refine kw_iast hX 34 (ws' := (kfl [gE Y ea er e_cn (va_up (va_up e_M (0 + (a1 : Int32).toNatClampNeg) (upd (e_M (0 + (a1 : Int32).toNatClampNeg)) ((e_cn (a1 : Int32).toNatClampNeg)).toNatClampNeg a2)) (6 + (a1 : Int32).toNatClampNeg) (upd ((va_up e_M (0 + (a1 : Int32).toNatClampNeg) (upd (e_M (0 + (a1 : Int32).toNatClampNeg)) ((e_cn (a1 : Int32).toNatClampNeg)).toNatClampNeg a2)) (6 + (a1 : Int32).toNatClampNeg)) ((e_cn (a1 : Int32).toNatClampNeg)).toNatClampNeg a3))])) (5 + (6 + (a1 : Int32).toNatClampNeg)) (gE_row (of_decide_eq_true g7)) g8 (gE_set (of_decide_eq_true g7)) dX1_put_34 ?_
    refine kw_aload_n hX 35 dX1_put_35 rfl 1 rfl ?_
    refine kw_get hX 36 (C := RX1) (T := TX1) (N := 4) hin1 3 f3 (fun _ h => h) 0 rfl rfl (by decide) rfl dX1_put_36 ?_
    refine kw_iload_n hX 39 dX1_put_39 rfl 2 rfl ?_
    obtain ⟨g9, h⟩ := kgd_some h
    refine kw_aald4 hX 40 4 rfl g9 rfl dX1_put_40 ?_
    refine kw_iload hX 41 dX1_put_41 0 rfl ?_
    refine kw_iload hX 43 dX1_put_43 5 rfl ?_
    obtain ⟨g10, h⟩ := kgd_some h
    obtain ⟨g11, h⟩ := kgd_some h
    refine kw_iast hX 45 (ws' := (kfl [gE Y ea er e_cn (va_up (va_up (va_up e_M (0 + (a1 : Int32).toNatClampNeg) (upd (e_M (0 + (a1 : Int32).toNatClampNeg)) ((e_cn (a1 : Int32).toNatClampNeg)).toNatClampNeg a2)) (6 + (a1 : Int32).toNatClampNeg) (upd ((va_up e_M (0 + (a1 : Int32).toNatClampNeg) (upd (e_M (0 + (a1 : Int32).toNatClampNeg)) ((e_cn (a1 : Int32).toNatClampNeg)).toNatClampNeg a2)) (6 + (a1 : Int32).toNatClampNeg)) ((e_cn (a1 : Int32).toNatClampNeg)).toNatClampNeg a3)) (12 + (a1 : Int32).toNatClampNeg) (upd ((va_up (va_up e_M (0 + (a1 : Int32).toNatClampNeg) (upd (e_M (0 + (a1 : Int32).toNatClampNeg)) ((e_cn (a1 : Int32).toNatClampNeg)).toNatClampNeg a2)) (6 + (a1 : Int32).toNatClampNeg) (upd ((va_up e_M (0 + (a1 : Int32).toNatClampNeg) (upd (e_M (0 + (a1 : Int32).toNatClampNeg)) ((e_cn (a1 : Int32).toNatClampNeg)).toNatClampNeg a2)) (6 + (a1 : Int32).toNatClampNeg)) ((e_cn (a1 : Int32).toNatClampNeg)).toNatClampNeg a3)) (12 + (a1 : Int32).toNatClampNeg)) ((e_cn (a1 : Int32).toNatClampNeg)).toNatClampNeg a4))])) (5 + (12 + (a1 : Int32).toNatClampNeg)) (gE_row (of_decide_eq_true g10)) g11 (gE_set (of_decide_eq_true g10)) dX1_put_45 ?_
    refine kw_aload_n hX 46 dX1_put_46 rfl 1 rfl ?_
    refine kw_get hX 47 (C := RX1) (T := TX1) (N := 4) hin1 0 f0 (fun _ h => h) 0 rfl rfl (by decide) rfl dX1_put_47 ?_
    refine kw_iload_n hX 50 dX1_put_50 rfl 2 rfl ?_
    refine kw_dup2 hX 51 dX1_put_51 rfl rfl ?_
    obtain ⟨g12, h⟩ := kgd_some h
    refine kw_iald hX 52 1 rfl g12 dX1_put_52 ?_
    refine kw_iconst hX 53 dX1_put_53 kci_1 ?_
    refine kw_iadd hX 54 dX1_put_54 ?_
    obtain ⟨g13, h⟩ := kgd_some h
    refine kw_iast hX 55 (ws' := (kfl [gE Y ea er (upd e_cn (a1 : Int32).toNatClampNeg ((e_cn (a1 : Int32).toNatClampNeg) + 1)) (va_up (va_up (va_up e_M (0 + (a1 : Int32).toNatClampNeg) (upd (e_M (0 + (a1 : Int32).toNatClampNeg)) ((e_cn (a1 : Int32).toNatClampNeg)).toNatClampNeg a2)) (6 + (a1 : Int32).toNatClampNeg) (upd ((va_up e_M (0 + (a1 : Int32).toNatClampNeg) (upd (e_M (0 + (a1 : Int32).toNatClampNeg)) ((e_cn (a1 : Int32).toNatClampNeg)).toNatClampNeg a2)) (6 + (a1 : Int32).toNatClampNeg)) ((e_cn (a1 : Int32).toNatClampNeg)).toNatClampNeg a3)) (12 + (a1 : Int32).toNatClampNeg) (upd ((va_up (va_up e_M (0 + (a1 : Int32).toNatClampNeg) (upd (e_M (0 + (a1 : Int32).toNatClampNeg)) ((e_cn (a1 : Int32).toNatClampNeg)).toNatClampNeg a2)) (6 + (a1 : Int32).toNatClampNeg) (upd ((va_up e_M (0 + (a1 : Int32).toNatClampNeg) (upd (e_M (0 + (a1 : Int32).toNatClampNeg)) ((e_cn (a1 : Int32).toNatClampNeg)).toNatClampNeg a2)) (6 + (a1 : Int32).toNatClampNeg)) ((e_cn (a1 : Int32).toNatClampNeg)).toNatClampNeg a3)) (12 + (a1 : Int32).toNatClampNeg)) ((e_cn (a1 : Int32).toNatClampNeg)).toNatClampNeg a4))])) 1 rfl g13 rfl dX1_put_55 ?_
    obtain rfl := Option.some.inj h
    exact hret _ _ dX1_put_56
def pX1_listAll_L2 : Nat → Int32 → (Nat → Int32) → Option (Int32 × (Nat → Int32))
  | 0, _, _ => none
  | n + 1, l2, z_e_cn => (if (6 : Int32) ≤ l2 then some (l2, z_e_cn) else kgd (kin l2 6) (pX1_listAll_L2 n (l2 + 1) (upd z_e_cn (l2 : Int32).toNatClampNeg 0)))
def pX1_listAll_L23 : Nat → Int32 → (Nat → Int32) → (Nat → Nat → Int32) → Int32 → (Nat → Int32) → (Nat → Int32) → (Nat → Int32) → (Nat → Int32) → Option (Int32 × (Nat → Int32) × (Nat → Nat → Int32))
  | 0, _, _, _, _, _, _, _, _ => none
  | n + 1, l2, z_e_cn, z_e_M, z_g_ec, z_g_F, z_g_T, z_g_X, z_g_Z => (if z_g_ec ≤ l2 then some (l2, z_e_cn, z_e_M) else kgd (kin l2 12) (kgd (kin l2 12) (kgd (kin l2 12) (kgd (kin l2 12) (kb (pX1_put (z_g_F (l2 : Int32).toNatClampNeg) (z_g_T (l2 : Int32).toNatClampNeg) (z_g_X (l2 : Int32).toNatClampNeg) (z_g_Z (l2 : Int32).toNatClampNeg) z_e_cn z_e_M) (fun v10 => kgd (kin l2 12) (kgd (kin l2 12) (kgd (kin l2 12) (kgd (kin l2 12) (kb (pX1_put (z_g_T (l2 : Int32).toNatClampNeg) (z_g_F (l2 : Int32).toNatClampNeg) (-(z_g_X (l2 : Int32).toNatClampNeg)) (-(z_g_Z (l2 : Int32).toNatClampNeg)) v10.1 v10.2) (fun v16 => pX1_listAll_L23 n (l2 + 1) v16.1 v16.2 z_g_ec z_g_F z_g_T z_g_X z_g_Z)))))))))))
def pX1_listAll  (e_cn : Nat → Int32) (e_M : Nat → Nat → Int32) (g_ec : Int32) (g_F : Nat → Int32) (g_T : Nat → Int32) (g_X : Nat → Int32) (g_Z : Nat → Int32) : Option ((Nat → Int32) × (Nat → Nat → Int32)) := kb (pX1_listAll_L2 KF 0 e_cn) (fun v3 => kb (pX1_listAll_L23 KF 0 v3.2 e_M g_ec g_F g_T g_X g_Z) (fun v18 => some (v18.2.1, v18.2.2)))
def rmX1_listAll : Room := { frames := 1, cells := 0, slots := 0, locals := 25 }
theorem hdV_X1_listAll : yX1_listAll.cls = RX1 ∧ yX1_listAll.cls ≠ "java/lang/invoke/MethodHandle" ∧ yX1_listAll.cls ≠ "java/lang/invoke/VarHandle" ∧ (parseMethodDescriptor yX1_listAll.desc).map (fun d => d.parameters.length) = some 1 := ⟨rfl, by decide +kernel, by decide +kernel, by decide +kernel⟩
set_option maxHeartbeats 4000000 in
set_option maxRecDepth 100000 in
theorem kX1_listAll (l : Launch) (Y : KY) (ea : Nat → Nat) (er : Nat → Nat) (ga : Nat → Nat) (e_cn : Nat → Int32) (e_M : Nat → Nat → Int32) (g_vc : Int32) (g_ec : Int32) (g_F : Nat → Int32) (g_T : Nat → Int32) (g_X : Nat → Int32) (g_Z : Nat → Int32)  {o : (Nat → Int32) × (Nat → Nat → Int32)} (h : pX1_listAll e_cn e_M g_ec g_F g_T g_X g_Z = some o) : CtV l yX1_listAll wsX1_listAll rmX1_listAll Y [.ref (ea 0), .ref (ga 0)] (kfl [gE Y ea er e_cn e_M, gG Y ga g_vc g_ec g_F g_T g_X g_Z]) (kfl [gE Y ea er o.1 o.2, gG Y ga g_vc g_ec g_F g_T g_X g_Z]) := by
  refine ctV_intro (cc := cX1_listAll) (maxL := 3) (own := RX1) (by decide +kernel) rfl rfl (Nat.le_of_ble_eq_true rfl) rfl ?_
  intro X A hX _ hret
  have hin1 : ∀ w ∈ u_ws RX1 TX1 4, w ∈ wsX1_listAll := by decide +kernel
  have hin2 : ∀ w ∈ u_ws RX2 TX2 6, w ∈ wsX1_listAll := by decide +kernel
  have f0 := hX.w (Cond.fieldLink RX1 9 "PeriodicNet$Ends" "count" "[I") (by decide +kernel)
  have f1 := hX.w (Cond.fieldLink RX1 26 "PeriodicNet$Graph" "edgeCount" "I") (by decide +kernel)
  have f2 := hX.w (Cond.fieldLink RX1 32 "PeriodicNet$Graph" "from" "[I") (by decide +kernel)
  have f3 := hX.w (Cond.fieldLink RX1 35 "PeriodicNet$Graph" "to" "[I") (by decide +kernel)
  have f4 := hX.w (Cond.fieldLink RX1 38 "PeriodicNet$Graph" "shiftX" "[I") (by decide +kernel)
  have f5 := hX.w (Cond.fieldLink RX1 41 "PeriodicNet$Graph" "shiftY" "[I") (by decide +kernel)
  have L2 : ∀ (n : Nat) (l2 : Int32) (z_e_cn : Nat → Int32) (z_e_M : Nat → Nat → Int32) (z_g_vc : Int32) (z_g_ec : Int32) (z_g_F : Nat → Int32) (z_g_T : Nat → Int32) (z_g_X : Nat → Int32) (z_g_Z : Nat → Int32) (o : Int32 × (Nat → Int32)), pX1_listAll_L2 n l2 z_e_cn = some o → KW X Y A 3 0 0 (kfl [gE Y ea er o.2 z_e_M, gG Y ga z_g_vc z_g_ec z_g_F z_g_T z_g_X z_g_Z]) [(0, .ref (ea 0)), (1, .ref (ga 0)), (2, .int o.1)] 21 [] → KW X Y A 3 0 0 (kfl [gE Y ea er z_e_cn z_e_M, gG Y ga z_g_vc z_g_ec z_g_F z_g_T z_g_X z_g_Z]) [(0, .ref (ea 0)), (1, .ref (ga 0)), (2, .int l2)] 2 [] := by
    intro n
    induction n with
    | zero => intro l2 z_e_cn z_e_M z_g_vc z_g_ec z_g_F z_g_T z_g_X z_g_Z o h; cases h
    | succ n ih =>
      intro l2 z_e_cn z_e_M z_g_vc z_g_ec z_g_F z_g_T z_g_X z_g_Z o h hK
      rw [pX1_listAll_L2] at h
      refine kw_iload_n hX 2 dX1_listAll_2 rfl 2 rfl ?_
      refine kw_bipush hX 3 dX1_listAll_3 kcb_6 ?_
      refine kw_icmp_ge hX 5 21 dX1_listAll_5 (by decide) (fun c1 => ?_) (fun c1 => ?_)
      · have h := kif_t c1 h
        obtain rfl := Option.some.inj h
        refine kw_lv (lv' := [(0, .ref (ea 0)), (1, .ref (ga 0)), (2, .int l2)]) [0, 1, 2] rfl ?_
        exact hK
      · have h := kif_f c1 h
        refine kw_aload_n hX 8 dX1_listAll_8 rfl 0 rfl ?_
        refine kw_get hX 9 (C := RX1) (T := TX1) (N := 4) hin1 0 f0 (fun _ h => h) 0 rfl rfl (by decide) rfl dX1_listAll_9 ?_
        refine kw_iload_n hX 12 dX1_listAll_12 rfl 2 rfl ?_
        refine kw_iconst hX 13 dX1_listAll_13 kci_0 ?_
        obtain ⟨g2, h⟩ := kgd_some h
        refine kw_iast hX 14 (ws' := (kfl [gE Y ea er (upd z_e_cn (l2 : Int32).toNatClampNeg 0) z_e_M, gG Y ga z_g_vc z_g_ec z_g_F z_g_T z_g_X z_g_Z])) 1 rfl g2 rfl dX1_listAll_14 ?_
        refine kw_iinc (v := (l2 + 1)) (lv' := [(2, .int (l2 + 1)), (0, .ref (ea 0)), (1, .ref (ga 0))]) hX 15 dX1_listAll_15 2 rfl (kinc_1 _) (by decide) rfl ?_
        refine kw_goto hX 18 2 dX1_listAll_18 (by decide) ?_
        refine kw_lv (lv' := [(0, .ref (ea 0)), (1, .ref (ga 0)), (2, .int (l2 + 1))]) [1, 2, 0] rfl ?_
        exact ih (l2 + 1) (upd z_e_cn (l2 : Int32).toNatClampNeg 0) z_e_M z_g_vc z_g_ec z_g_F z_g_T z_g_X z_g_Z o h hK
  have L23 : ∀ (n : Nat) (l2 : Int32) (z_e_cn : Nat → Int32) (z_e_M : Nat → Nat → Int32) (z_g_vc : Int32) (z_g_ec : Int32) (z_g_F : Nat → Int32) (z_g_T : Nat → Int32) (z_g_X : Nat → Int32) (z_g_Z : Nat → Int32) (o : Int32 × (Nat → Int32) × (Nat → Nat → Int32)), pX1_listAll_L23 n l2 z_e_cn z_e_M z_g_ec z_g_F z_g_T z_g_X z_g_Z = some o → KW X Y A 3 0 0 (kfl [gE Y ea er o.2.1 o.2.2, gG Y ga z_g_vc z_g_ec z_g_F z_g_T z_g_X z_g_Z]) [(0, .ref (ea 0)), (1, .ref (ga 0)), (2, .int o.1)] 95 [] → KW X Y A 3 0 0 (kfl [gE Y ea er z_e_cn z_e_M, gG Y ga z_g_vc z_g_ec z_g_F z_g_T z_g_X z_g_Z]) [(0, .ref (ea 0)), (1, .ref (ga 0)), (2, .int l2)] 23 [] := by
    intro n
    induction n with
    | zero => intro l2 z_e_cn z_e_M z_g_vc z_g_ec z_g_F z_g_T z_g_X z_g_Z o h; cases h
    | succ n ih =>
      intro l2 z_e_cn z_e_M z_g_vc z_g_ec z_g_F z_g_T z_g_X z_g_Z o h hK
      rw [pX1_listAll_L23] at h
      refine kw_iload_n hX 23 dX1_listAll_23 rfl 2 rfl ?_
      refine kw_aload_n hX 24 dX1_listAll_24 rfl 1 rfl ?_
      refine kw_get hX 25 (C := RX2) (T := TX2) (N := 6) hin2 1 f1 (fun _ h => h) 23 rfl rfl (by decide) rfl dX1_listAll_25 ?_
      refine kw_icmp_ge hX 28 95 dX1_listAll_28 (by decide) (fun c5 => ?_) (fun c5 => ?_)
      · have h := kif_t c5 h
        obtain rfl := Option.some.inj h
        refine kw_lv (lv' := [(0, .ref (ea 0)), (1, .ref (ga 0)), (2, .int l2)]) [0, 1, 2] rfl ?_
        exact hK
      · have h := kif_f c5 h
        refine kw_aload_n hX 31 dX1_listAll_31 rfl 0 rfl ?_
        refine kw_aload_n hX 32 dX1_listAll_32 rfl 1 rfl ?_
        refine kw_get hX 33 (C := RX2) (T := TX2) (N := 6) hin2 2 f2 (fun _ h => h) 23 rfl rfl (by decide) rfl dX1_listAll_33 ?_
        refine kw_iload_n hX 36 dX1_listAll_36 rfl 2 rfl ?_
        obtain ⟨g6, h⟩ := kgd_some h
        refine kw_iald hX 37 24 rfl g6 dX1_listAll_37 ?_
        refine kw_aload_n hX 38 dX1_listAll_38 rfl 1 rfl ?_
        refine kw_get hX 39 (C := RX2) (T := TX2) (N := 6) hin2 3 f3 (fun _ h => h) 23 rfl rfl (by decide) rfl dX1_listAll_39 ?_
        refine kw_iload_n hX 42 dX1_listAll_42 rfl 2 rfl ?_
        obtain ⟨g7, h⟩ := kgd_some h
        refine kw_iald hX 43 25 rfl g7 dX1_listAll_43 ?_
        refine kw_aload_n hX 44 dX1_listAll_44 rfl 1 rfl ?_
        refine kw_get hX 45 (C := RX2) (T := TX2) (N := 6) hin2 4 f4 (fun _ h => h) 23 rfl rfl (by decide) rfl dX1_listAll_45 ?_
        refine kw_iload_n hX 48 dX1_listAll_48 rfl 2 rfl ?_
        obtain ⟨g8, h⟩ := kgd_some h
        refine kw_iald hX 49 26 rfl g8 dX1_listAll_49 ?_
        refine kw_aload_n hX 50 dX1_listAll_50 rfl 1 rfl ?_
        refine kw_get hX 51 (C := RX2) (T := TX2) (N := 6) hin2 5 f5 (fun _ h => h) 23 rfl rfl (by decide) rfl dX1_listAll_51 ?_
        refine kw_iload_n hX 54 dX1_listAll_54 rfl 2 rfl ?_
        obtain ⟨g9, h⟩ := kgd_some h
        refine kw_iald hX 55 27 rfl g9 dX1_listAll_55 ?_
        obtain ⟨v10, hc11, h⟩ := kb_some h
        refine kw_callV_V hX 56 (As := [.int (z_g_F (l2 : Int32).toNatClampNeg), .int (z_g_T (l2 : Int32).toNatClampNeg), .int (z_g_X (l2 : Int32).toNatClampNeg), .int (z_g_Z (l2 : Int32).toNatClampNeg)]) (rest := []) (kX1_put (kx_l X) Y ea er z_e_cn z_e_M (z_g_F (l2 : Int32).toNatClampNeg) (z_g_T (l2 : Int32).toNatClampNeg) (z_g_X (l2 : Int32).toNatClampNeg) (z_g_Z (l2 : Int32).toNatClampNeg) hc11) gX1_listAll_X1_put rfl 4 rfl hdV_X1_put ⟨rfl, rfl⟩ ⟨by decide, by decide⟩ ⟨Nat.zero_le _, Nat.zero_le _⟩ rfl (Nat.le_of_ble_eq_true rfl) [0] (by decide) rfl (kfc gE_f kfn0) (gs1 := [gE Y ea er v10.1 v10.2, gG Y ga z_g_vc z_g_ec z_g_F z_g_T z_g_X z_g_Z]) rfl 0 1 rfl rfl rfl dX1_listAll_56 ?_
        refine kw_aload_n hX 59 dX1_listAll_59 rfl 0 rfl ?_
        refine kw_aload_n hX 60 dX1_listAll_60 rfl 1 rfl ?_
        refine kw_get hX 61 (C := RX2) (T := TX2) (N := 6) hin2 3 f3 (fun _ h => h) 23 rfl rfl (by decide) rfl dX1_listAll_61 ?_
        refine kw_iload_n hX 64 dX1_listAll_64 rfl 2 rfl ?_
        obtain ⟨g12, h⟩ := kgd_some h
        refine kw_iald hX 65 25 rfl g12 dX1_listAll_65 ?_
        refine kw_aload_n hX 66 dX1_listAll_66 rfl 1 rfl ?_
        refine kw_get hX 67 (C := RX2) (T := TX2) (N := 6) hin2 2 f2 (fun _ h => h) 23 rfl rfl (by decide) rfl dX1_listAll_67 ?_
        refine kw_iload_n hX 70 dX1_listAll_70 rfl 2 rfl ?_
        obtain ⟨g13, h⟩ := kgd_some h
        refine kw_iald hX 71 24 rfl g13 dX1_listAll_71 ?_
        refine kw_aload_n hX 72 dX1_listAll_72 rfl 1 rfl ?_
        refine kw_get hX 73 (C := RX2) (T := TX2) (N := 6) hin2 4 f4 (fun _ h => h) 23 rfl rfl (by decide) rfl dX1_listAll_73 ?_
        refine kw_iload_n hX 76 dX1_listAll_76 rfl 2 rfl ?_
        obtain ⟨g14, h⟩ := kgd_some h
        refine kw_iald hX 77 26 rfl g14 dX1_listAll_77 ?_
        refine kw_ineg hX 78 dX1_listAll_78 ?_
        refine kw_aload_n hX 79 dX1_listAll_79 rfl 1 rfl ?_
        refine kw_get hX 80 (C := RX2) (T := TX2) (N := 6) hin2 5 f5 (fun _ h => h) 23 rfl rfl (by decide) rfl dX1_listAll_80 ?_
        refine kw_iload_n hX 83 dX1_listAll_83 rfl 2 rfl ?_
        obtain ⟨g15, h⟩ := kgd_some h
        refine kw_iald hX 84 27 rfl g15 dX1_listAll_84 ?_
        refine kw_ineg hX 85 dX1_listAll_85 ?_
        obtain ⟨v16, hc17, h⟩ := kb_some h
        refine kw_callV_V hX 86 (As := [.int (z_g_T (l2 : Int32).toNatClampNeg), .int (z_g_F (l2 : Int32).toNatClampNeg), .int (-(z_g_X (l2 : Int32).toNatClampNeg)), .int (-(z_g_Z (l2 : Int32).toNatClampNeg))]) (rest := []) (kX1_put (kx_l X) Y ea er v10.1 v10.2 (z_g_T (l2 : Int32).toNatClampNeg) (z_g_F (l2 : Int32).toNatClampNeg) (-(z_g_X (l2 : Int32).toNatClampNeg)) (-(z_g_Z (l2 : Int32).toNatClampNeg)) hc17) gX1_listAll_X1_put rfl 4 rfl hdV_X1_put ⟨rfl, rfl⟩ ⟨by decide, by decide⟩ ⟨Nat.zero_le _, Nat.zero_le _⟩ rfl (Nat.le_of_ble_eq_true rfl) [0] (by decide) rfl (kfc gE_f kfn0) (gs1 := [gE Y ea er v16.1 v16.2, gG Y ga z_g_vc z_g_ec z_g_F z_g_T z_g_X z_g_Z]) rfl 0 1 rfl rfl rfl dX1_listAll_86 ?_
        refine kw_iinc (v := (l2 + 1)) (lv' := [(2, .int (l2 + 1)), (0, .ref (ea 0)), (1, .ref (ga 0))]) hX 89 dX1_listAll_89 2 rfl (kinc_1 _) (by decide) rfl ?_
        refine kw_goto hX 92 23 dX1_listAll_92 (by decide) ?_
        refine kw_lv (lv' := [(0, .ref (ea 0)), (1, .ref (ga 0)), (2, .int (l2 + 1))]) [1, 2, 0] rfl ?_
        exact ih (l2 + 1) v16.1 v16.2 z_g_vc z_g_ec z_g_F z_g_T z_g_X z_g_Z o h hK
  unfold pX1_listAll at h
  refine kw_lv (lv' := [(0, .ref (ea 0)), (1, .ref (ga 0))]) [0, 1] rfl ?_
  refine kw_iconst hX 0 dX1_listAll_0 kci_0 ?_
  refine kw_istore_n (lv' := [(2, .int 0), (0, .ref (ea 0)), (1, .ref (ga 0))]) hX 1 dX1_listAll_1 rfl (by decide) rfl ?_
  obtain ⟨v3, hl4, h⟩ := kb_some h
  refine kw_lv (lv' := [(0, .ref (ea 0)), (1, .ref (ga 0)), (2, .int 0)]) [1, 2, 0] rfl ?_
  refine L2 KF 0 e_cn e_M g_vc g_ec g_F g_T g_X g_Z v3 hl4 ?_
  refine kw_iconst hX 21 dX1_listAll_21 kci_0 ?_
  refine kw_istore_n (lv' := [(2, .int 0), (0, .ref (ea 0)), (1, .ref (ga 0))]) hX 22 dX1_listAll_22 rfl (by decide) rfl ?_
  obtain ⟨v18, hl19, h⟩ := kb_some h
  refine kw_lv (lv' := [(0, .ref (ea 0)), (1, .ref (ga 0)), (2, .int 0)]) [1, 2, 0] rfl ?_
  refine L23 KF 0 v3.2 e_M g_vc g_ec g_F g_T g_X g_Z v18 hl19 ?_
  obtain rfl := Option.some.inj h
  exact hret _ _ dX1_listAll_95
