def pX3_addEnd (a1 : Int32) (a2 : Int32) (a3 : Int32) (a4 : Int32) (p_R : Nat → Nat → Int64) (p_un : Int32) : Option ((Nat → Nat → Int64)) := (if a1 ≤ 0 then some p_R else kgd (kin (a1 - 1) 5) (kgd (decide ((0 + ((a1 - 1) : Int32).toNatClampNeg) < 5)) (kgd (kin (a1 - 1) 7) (kgd (decide ((0 + ((a1 - 1) : Int32).toNatClampNeg) < 5)) (kgd (kin (a1 - 1) 7) (kb ((if a2 ≤ 0 then some (va_up p_R (0 + ((a1 - 1) : Int32).toNatClampNeg) (vp_updL (p_R (0 + ((a1 - 1) : Int32).toNatClampNeg)) ((a1 - 1)).toNatClampNeg ((p_R (0 + ((a1 - 1) : Int32).toNatClampNeg) ((a1 - 1)).toNatClampNeg) + 1))) else kgd (kin (a1 - 1) 5) (kgd (decide ((0 + ((a1 - 1) : Int32).toNatClampNeg) < 5)) (kgd (kin (a2 - 1) 7) (kgd (decide ((0 + ((a1 - 1) : Int32).toNatClampNeg) < 5)) (kgd (kin (a2 - 1) 7) (some (va_up (va_up p_R (0 + ((a1 - 1) : Int32).toNatClampNeg) (vp_updL (p_R (0 + ((a1 - 1) : Int32).toNatClampNeg)) ((a1 - 1)).toNatClampNeg ((p_R (0 + ((a1 - 1) : Int32).toNatClampNeg) ((a1 - 1)).toNatClampNeg) + 1))) (0 + ((a1 - 1) : Int32).toNatClampNeg) (vp_updL ((va_up p_R (0 + ((a1 - 1) : Int32).toNatClampNeg) (vp_updL (p_R (0 + ((a1 - 1) : Int32).toNatClampNeg)) ((a1 - 1)).toNatClampNeg ((p_R (0 + ((a1 - 1) : Int32).toNatClampNeg) ((a1 - 1)).toNatClampNeg) + 1))) (0 + ((a1 - 1) : Int32).toNatClampNeg)) ((a2 - 1)).toNatClampNeg (((va_up p_R (0 + ((a1 - 1) : Int32).toNatClampNeg) (vp_updL (p_R (0 + ((a1 - 1) : Int32).toNatClampNeg)) ((a1 - 1)).toNatClampNeg ((p_R (0 + ((a1 - 1) : Int32).toNatClampNeg) ((a1 - 1)).toNatClampNeg) + 1))) (0 + ((a1 - 1) : Int32).toNatClampNeg) ((a2 - 1)).toNatClampNeg) - 1))))))))) : Option ((Nat → Nat → Int64))) (fun v13 => kgd (kin (a1 - 1) 5) (kgd (decide ((0 + ((a1 - 1) : Int32).toNatClampNeg) < 5)) (kgd (kin p_un 7) (kgd (decide ((0 + ((a1 - 1) : Int32).toNatClampNeg) < 5)) (kgd (kin p_un 7) (kgd (kin (a1 - 1) 5) (kgd (decide ((0 + ((a1 - 1) : Int32).toNatClampNeg) < 5)) (kgd (kin (p_un + 1) 7) (kgd (decide ((0 + ((a1 - 1) : Int32).toNatClampNeg) < 5)) (kgd (kin (p_un + 1) 7) (some (va_up (va_up v13 (0 + ((a1 - 1) : Int32).toNatClampNeg) (vp_updL (v13 (0 + ((a1 - 1) : Int32).toNatClampNeg)) (p_un).toNatClampNeg ((v13 (0 + ((a1 - 1) : Int32).toNatClampNeg) (p_un).toNatClampNeg) + (a3 : Int32).toInt64))) (0 + ((a1 - 1) : Int32).toNatClampNeg) (vp_updL ((va_up v13 (0 + ((a1 - 1) : Int32).toNatClampNeg) (vp_updL (v13 (0 + ((a1 - 1) : Int32).toNatClampNeg)) (p_un).toNatClampNeg ((v13 (0 + ((a1 - 1) : Int32).toNatClampNeg) (p_un).toNatClampNeg) + (a3 : Int32).toInt64))) (0 + ((a1 - 1) : Int32).toNatClampNeg)) ((p_un + 1)).toNatClampNeg (((va_up v13 (0 + ((a1 - 1) : Int32).toNatClampNeg) (vp_updL (v13 (0 + ((a1 - 1) : Int32).toNatClampNeg)) (p_un).toNatClampNeg ((v13 (0 + ((a1 - 1) : Int32).toNatClampNeg) (p_un).toNatClampNeg) + (a3 : Int32).toInt64))) (0 + ((a1 - 1) : Int32).toNatClampNeg) ((p_un + 1)).toNatClampNeg) + (a4 : Int32).toInt64))))))))))))))))))))
def rmX3_addEnd : Room := { frames := 0, cells := 0, slots := 0, locals := 0 }
theorem hdV_X3_addEnd : yX3_addEnd.cls = RX3 ∧ yX3_addEnd.cls ≠ "java/lang/invoke/MethodHandle" ∧ yX3_addEnd.cls ≠ "java/lang/invoke/VarHandle" ∧ (parseMethodDescriptor yX3_addEnd.desc).map (fun d => d.parameters.length) = some 4 := ⟨rfl, by decide +kernel, by decide +kernel, by decide +kernel⟩
set_option maxHeartbeats 4000000 in
set_option maxRecDepth 100000 in
theorem kX3_addEnd (l : Launch) (Y : KY) (pa : Nat → Nat) (pr : Nat → Nat) (p_R : Nat → Nat → Int64) (p_un : Int32) (p_sc : Int64) (a1 : Int32) (a2 : Int32) (a3 : Int32) (a4 : Int32) {o : (Nat → Nat → Int64)} (h : pX3_addEnd a1 a2 a3 a4 p_R p_un = some o) : CtV l yX3_addEnd wsX3_addEnd rmX3_addEnd Y [.ref (pa 0), .int a1, .int a2, .int a3, .int a4] (kfl [gP Y pa pr p_R p_un p_sc]) (kfl [gP Y pa pr o p_un p_sc]) := by
  refine ctV_intro (cc := cX3_addEnd) (maxL := 5) (own := RX3) (by decide +kernel) rfl rfl (Nat.le_of_ble_eq_true rfl) rfl ?_
  intro X A hX _ hret
  have hin3 : ∀ w ∈ u_ws RX3 TX3 3, w ∈ wsX3_addEnd := by decide +kernel
  have f0 := hX.w (Cond.fieldLink RX3 11 "PeriodicNet$Placement" "rows" "[[J") (by decide +kernel)
  have f1 := hX.w (Cond.fieldLink RX3 16 "PeriodicNet$Placement" "unknowns" "I") (by decide +kernel)
  unfold pX3_addEnd at h
  refine kw_lv (lv' := [(0, .ref (pa 0)), (1, .int a1), (2, .int a2), (3, .int a3), (4, .int a4)]) [0, 1, 2, 3, 4] rfl ?_
  refine kw_iload_n hX 0 dX3_addEnd_0 rfl 1 rfl ?_
  refine kw_if_le hX 1 79 dX3_addEnd_1 (by decide) (fun c1 => ?_) (fun c1 => ?_)
  · have h := kif_t c1 h
    obtain rfl := Option.some.inj h
    exact hret _ _ dX3_addEnd_79
  · have h := kif_f c1 h
    refine kw_aload_n hX 4 dX3_addEnd_4 rfl 0 rfl ?_
    refine kw_get hX 5 (C := RX3) (T := TX3) (N := 3) hin3 0 f0 (fun _ h => h) 0 rfl rfl (by decide) rfl dX3_addEnd_5 ?_
    refine kw_iload_n hX 8 dX3_addEnd_8 rfl 1 rfl ?_
    refine kw_iconst hX 9 dX3_addEnd_9 kci_1 ?_
    refine kw_isub hX 10 dX3_addEnd_10 ?_
    obtain ⟨g2, h⟩ := kgd_some h
    refine kw_aald5 hX 11 1 rfl g2 rfl dX3_addEnd_11 ?_
    refine kw_iload_n hX 12 dX3_addEnd_12 rfl 1 rfl ?_
    refine kw_iconst hX 13 dX3_addEnd_13 kci_1 ?_
    refine kw_isub hX 14 dX3_addEnd_14 ?_
    refine kw_dup2 hX 15 dX3_addEnd_15 rfl rfl ?_
    obtain ⟨g3, h⟩ := kgd_some h
    obtain ⟨g4, h⟩ := kgd_some h
    refine kw_lald hX 16 (2 + (0 + ((a1 - 1) : Int32).toNatClampNeg)) (gP_row (of_decide_eq_true g3)) g4 dX3_addEnd_16 ?_
    refine kw_lconst hX 17 dX3_addEnd_17 kcl_1 ?_
    refine kw_ladd hX 18 dX3_addEnd_18 ?_
    obtain ⟨g5, h⟩ := kgd_some h
    obtain ⟨g6, h⟩ := kgd_some h
    refine kw_last hX 19 (ws' := (kfl [gP Y pa pr (va_up p_R (0 + ((a1 - 1) : Int32).toNatClampNeg) (vp_updL (p_R (0 + ((a1 - 1) : Int32).toNatClampNeg)) ((a1 - 1)).toNatClampNeg ((p_R (0 + ((a1 - 1) : Int32).toNatClampNeg) ((a1 - 1)).toNatClampNeg) + 1))) p_un p_sc])) (2 + (0 + ((a1 - 1) : Int32).toNatClampNeg)) (gP_row (of_decide_eq_true g5)) g6 (gP_set (of_decide_eq_true g5)) dX3_addEnd_19 ?_
    refine kw_iload_n hX 20 dX3_addEnd_20 rfl 2 rfl ?_
    obtain ⟨v13, hj25, h⟩ := kb_some h
    have J14 : KW X Y A 5 0 0 (kfl [gP Y pa pr v13 p_un p_sc]) [(0, .ref (pa 0)), (1, .int a1), (3, .int a3), (4, .int a4)] 40 [] := by
      refine kw_aload_n hX 40 dX3_addEnd_40 rfl 0 rfl ?_
      refine kw_get hX 41 (C := RX3) (T := TX3) (N := 3) hin3 0 f0 (fun _ h => h) 0 rfl rfl (by decide) rfl dX3_addEnd_41 ?_
      refine kw_iload_n hX 44 dX3_addEnd_44 rfl 1 rfl ?_
      refine kw_iconst hX 45 dX3_addEnd_45 kci_1 ?_
      refine kw_isub hX 46 dX3_addEnd_46 ?_
      obtain ⟨g15, h⟩ := kgd_some h
      refine kw_aald5 hX 47 1 rfl g15 rfl dX3_addEnd_47 ?_
      refine kw_aload_n hX 48 dX3_addEnd_48 rfl 0 rfl ?_
      refine kw_get hX 49 (C := RX3) (T := TX3) (N := 3) hin3 1 f1 (fun _ h => h) 0 rfl rfl (by decide) rfl dX3_addEnd_49 ?_
      refine kw_dup2 hX 52 dX3_addEnd_52 rfl rfl ?_
      obtain ⟨g16, h⟩ := kgd_some h
      obtain ⟨g17, h⟩ := kgd_some h
      refine kw_lald hX 53 (2 + (0 + ((a1 - 1) : Int32).toNatClampNeg)) (gP_row (of_decide_eq_true g16)) g17 dX3_addEnd_53 ?_
      refine kw_iload_n hX 54 dX3_addEnd_54 rfl 2 rfl ?_
      refine kw_i2l hX 55 dX3_addEnd_55 ?_
      refine kw_ladd hX 56 dX3_addEnd_56 ?_
      obtain ⟨g18, h⟩ := kgd_some h
      obtain ⟨g19, h⟩ := kgd_some h
      refine kw_last hX 57 (ws' := (kfl [gP Y pa pr (va_up v13 (0 + ((a1 - 1) : Int32).toNatClampNeg) (vp_updL (v13 (0 + ((a1 - 1) : Int32).toNatClampNeg)) (p_un).toNatClampNeg ((v13 (0 + ((a1 - 1) : Int32).toNatClampNeg) (p_un).toNatClampNeg) + (a3 : Int32).toInt64))) p_un p_sc])) (2 + (0 + ((a1 - 1) : Int32).toNatClampNeg)) (gP_row (of_decide_eq_true g18)) g19 (gP_set (of_decide_eq_true g18)) dX3_addEnd_57 ?_
      refine kw_aload_n hX 58 dX3_addEnd_58 rfl 0 rfl ?_
      refine kw_get hX 59 (C := RX3) (T := TX3) (N := 3) hin3 0 f0 (fun _ h => h) 0 rfl rfl (by decide) rfl dX3_addEnd_59 ?_
      refine kw_iload_n hX 62 dX3_addEnd_62 rfl 1 rfl ?_
      refine kw_iconst hX 63 dX3_addEnd_63 kci_1 ?_
      refine kw_isub hX 64 dX3_addEnd_64 ?_
      obtain ⟨g20, h⟩ := kgd_some h
      refine kw_aald5 hX 65 1 rfl g20 rfl dX3_addEnd_65 ?_
      refine kw_aload_n hX 66 dX3_addEnd_66 rfl 0 rfl ?_
      refine kw_get hX 67 (C := RX3) (T := TX3) (N := 3) hin3 1 f1 (fun _ h => h) 0 rfl rfl (by decide) rfl dX3_addEnd_67 ?_
      refine kw_iconst hX 70 dX3_addEnd_70 kci_1 ?_
      refine kw_iadd hX 71 dX3_addEnd_71 ?_
      refine kw_dup2 hX 72 dX3_addEnd_72 rfl rfl ?_
      obtain ⟨g21, h⟩ := kgd_some h
      obtain ⟨g22, h⟩ := kgd_some h
      refine kw_lald hX 73 (2 + (0 + ((a1 - 1) : Int32).toNatClampNeg)) (gP_row (of_decide_eq_true g21)) g22 dX3_addEnd_73 ?_
      refine kw_iload hX 74 dX3_addEnd_74 3 rfl ?_
      refine kw_i2l hX 76 dX3_addEnd_76 ?_
      refine kw_ladd hX 77 dX3_addEnd_77 ?_
      obtain ⟨g23, h⟩ := kgd_some h
      obtain ⟨g24, h⟩ := kgd_some h
      refine kw_last hX 78 (ws' := (kfl [gP Y pa pr (va_up (va_up v13 (0 + ((a1 - 1) : Int32).toNatClampNeg) (vp_updL (v13 (0 + ((a1 - 1) : Int32).toNatClampNeg)) (p_un).toNatClampNeg ((v13 (0 + ((a1 - 1) : Int32).toNatClampNeg) (p_un).toNatClampNeg) + (a3 : Int32).toInt64))) (0 + ((a1 - 1) : Int32).toNatClampNeg) (vp_updL ((va_up v13 (0 + ((a1 - 1) : Int32).toNatClampNeg) (vp_updL (v13 (0 + ((a1 - 1) : Int32).toNatClampNeg)) (p_un).toNatClampNeg ((v13 (0 + ((a1 - 1) : Int32).toNatClampNeg) (p_un).toNatClampNeg) + (a3 : Int32).toInt64))) (0 + ((a1 - 1) : Int32).toNatClampNeg)) ((p_un + 1)).toNatClampNeg (((va_up v13 (0 + ((a1 - 1) : Int32).toNatClampNeg) (vp_updL (v13 (0 + ((a1 - 1) : Int32).toNatClampNeg)) (p_un).toNatClampNeg ((v13 (0 + ((a1 - 1) : Int32).toNatClampNeg) (p_un).toNatClampNeg) + (a3 : Int32).toInt64))) (0 + ((a1 - 1) : Int32).toNatClampNeg) ((p_un + 1)).toNatClampNeg) + (a4 : Int32).toInt64))) p_un p_sc])) (2 + (0 + ((a1 - 1) : Int32).toNatClampNeg)) (gP_row (of_decide_eq_true g23)) g24 (gP_set (of_decide_eq_true g23)) dX3_addEnd_78 ?_
      obtain rfl := Option.some.inj h
      exact hret _ _ dX3_addEnd_79
    have h := hj25
    refine kw_if_le hX 21 40 dX3_addEnd_21 (by decide) (fun c7 => ?_) (fun c7 => ?_)
    · have h := kif_t c7 h
      obtain rfl := Option.some.inj h
      refine kw_lv (lv' := [(0, .ref (pa 0)), (1, .int a1), (3, .int a3), (4, .int a4)]) [0, 1, 3, 4] rfl ?_
      exact J14
    · have h := kif_f c7 h
      refine kw_aload_n hX 24 dX3_addEnd_24 rfl 0 rfl ?_
      refine kw_get hX 25 (C := RX3) (T := TX3) (N := 3) hin3 0 f0 (fun _ h => h) 0 rfl rfl (by decide) rfl dX3_addEnd_25 ?_
      refine kw_iload_n hX 28 dX3_addEnd_28 rfl 1 rfl ?_
      refine kw_iconst hX 29 dX3_addEnd_29 kci_1 ?_
      refine kw_isub hX 30 dX3_addEnd_30 ?_
      obtain ⟨g8, h⟩ := kgd_some h
      refine kw_aald5 hX 31 1 rfl g8 rfl dX3_addEnd_31 ?_
      refine kw_iload_n hX 32 dX3_addEnd_32 rfl 2 rfl ?_
      refine kw_iconst hX 33 dX3_addEnd_33 kci_1 ?_
      refine kw_isub hX 34 dX3_addEnd_34 ?_
      refine kw_dup2 hX 35 dX3_addEnd_35 rfl rfl ?_
      obtain ⟨g9, h⟩ := kgd_some h
      obtain ⟨g10, h⟩ := kgd_some h
      refine kw_lald hX 36 (2 + (0 + ((a1 - 1) : Int32).toNatClampNeg)) (gP_row (of_decide_eq_true g9)) g10 dX3_addEnd_36 ?_
      refine kw_lconst hX 37 dX3_addEnd_37 kcl_1 ?_
      refine kw_lsub hX 38 dX3_addEnd_38 ?_
      obtain ⟨g11, h⟩ := kgd_some h
      obtain ⟨g12, h⟩ := kgd_some h
      refine kw_last hX 39 (ws' := (kfl [gP Y pa pr (va_up (va_up p_R (0 + ((a1 - 1) : Int32).toNatClampNeg) (vp_updL (p_R (0 + ((a1 - 1) : Int32).toNatClampNeg)) ((a1 - 1)).toNatClampNeg ((p_R (0 + ((a1 - 1) : Int32).toNatClampNeg) ((a1 - 1)).toNatClampNeg) + 1))) (0 + ((a1 - 1) : Int32).toNatClampNeg) (vp_updL ((va_up p_R (0 + ((a1 - 1) : Int32).toNatClampNeg) (vp_updL (p_R (0 + ((a1 - 1) : Int32).toNatClampNeg)) ((a1 - 1)).toNatClampNeg ((p_R (0 + ((a1 - 1) : Int32).toNatClampNeg) ((a1 - 1)).toNatClampNeg) + 1))) (0 + ((a1 - 1) : Int32).toNatClampNeg)) ((a2 - 1)).toNatClampNeg (((va_up p_R (0 + ((a1 - 1) : Int32).toNatClampNeg) (vp_updL (p_R (0 + ((a1 - 1) : Int32).toNatClampNeg)) ((a1 - 1)).toNatClampNeg ((p_R (0 + ((a1 - 1) : Int32).toNatClampNeg) ((a1 - 1)).toNatClampNeg) + 1))) (0 + ((a1 - 1) : Int32).toNatClampNeg) ((a2 - 1)).toNatClampNeg) - 1))) p_un p_sc])) (2 + (0 + ((a1 - 1) : Int32).toNatClampNeg)) (gP_row (of_decide_eq_true g11)) g12 (gP_set (of_decide_eq_true g11)) dX3_addEnd_39 ?_
      obtain rfl := Option.some.inj h
      refine kw_lv (lv' := [(0, .ref (pa 0)), (1, .int a1), (3, .int a3), (4, .int a4)]) [0, 1, 3, 4] rfl ?_
      exact J14
def pX3_clearRows_L12 : Nat → Int32 → Int32 → (Nat → Nat → Int64) → Int32 → Option (Int32 × (Nat → Nat → Int64))
  | 0, _, _, _, _ => none
  | n + 1, l1, l2, z_p_R, z_p_un => (if (z_p_un + 2) ≤ l2 then some (l2, z_p_R) else kgd (kin l1 5) (kgd (decide ((0 + (l1 : Int32).toNatClampNeg) < 5)) (kgd (kin l2 7) (pX3_clearRows_L12 n l1 (l2 + 1) (va_up z_p_R (0 + (l1 : Int32).toNatClampNeg) (vp_updL (z_p_R (0 + (l1 : Int32).toNatClampNeg)) (l2).toNatClampNeg 0)) z_p_un))))
def pX3_clearRows_L2 : Nat → Int32 → (Nat → Nat → Int64) → Int32 → Option (Int32 × (Nat → Nat → Int64))
  | 0, _, _, _ => none
  | n + 1, l1, z_p_R, z_p_un => (if z_p_un ≤ l1 then some (l1, z_p_R) else kb (pX3_clearRows_L12 KF l1 0 z_p_R z_p_un) (fun v6 => pX3_clearRows_L2 n (l1 + 1) v6.2 z_p_un))
def pX3_clearRows  (p_R : Nat → Nat → Int64) (p_un : Int32) : Option ((Nat → Nat → Int64)) := kb (pX3_clearRows_L2 KF 0 p_R p_un) (fun v8 => some v8.2)
def rmX3_clearRows : Room := { frames := 0, cells := 0, slots := 0, locals := 0 }
theorem hdV_X3_clearRows : yX3_clearRows.cls = RX3 ∧ yX3_clearRows.cls ≠ "java/lang/invoke/MethodHandle" ∧ yX3_clearRows.cls ≠ "java/lang/invoke/VarHandle" ∧ (parseMethodDescriptor yX3_clearRows.desc).map (fun d => d.parameters.length) = some 0 := ⟨rfl, by decide +kernel, by decide +kernel, by decide +kernel⟩
set_option maxHeartbeats 4000000 in
set_option maxRecDepth 100000 in
theorem kX3_clearRows (l : Launch) (Y : KY) (pa : Nat → Nat) (pr : Nat → Nat) (p_R : Nat → Nat → Int64) (p_un : Int32) (p_sc : Int64)  {o : (Nat → Nat → Int64)} (h : pX3_clearRows p_R p_un = some o) : CtV l yX3_clearRows wsX3_clearRows rmX3_clearRows Y [.ref (pa 0)] (kfl [gP Y pa pr p_R p_un p_sc]) (kfl [gP Y pa pr o p_un p_sc]) := by
  refine ctV_intro (cc := cX3_clearRows) (maxL := 3) (own := RX3) (by decide +kernel) rfl rfl (Nat.le_of_ble_eq_true rfl) rfl ?_
  intro X A hX _ hret
  have hin3 : ∀ w ∈ u_ws RX3 TX3 3, w ∈ wsX3_clearRows := by decide +kernel
  have f0 := hX.w (Cond.fieldLink RX3 16 "PeriodicNet$Placement" "unknowns" "I") (by decide +kernel)
  have f1 := hX.w (Cond.fieldLink RX3 11 "PeriodicNet$Placement" "rows" "[[J") (by decide +kernel)
  have L12 : ∀ (n : Nat) (l1 : Int32) (l2 : Int32) (z_p_R : Nat → Nat → Int64) (z_p_un : Int32) (z_p_sc : Int64) (o : Int32 × (Nat → Nat → Int64)), pX3_clearRows_L12 n l1 l2 z_p_R z_p_un = some o → KW X Y A 3 0 0 (kfl [gP Y pa pr o.2 z_p_un z_p_sc]) [(0, .ref (pa 0)), (1, .int l1), (2, .int o.1)] 37 [] → KW X Y A 3 0 0 (kfl [gP Y pa pr z_p_R z_p_un z_p_sc]) [(0, .ref (pa 0)), (1, .int l1), (2, .int l2)] 12 [] := by
    intro n
    induction n with
    | zero => intro l1 l2 z_p_R z_p_un z_p_sc o h; cases h
    | succ n ih =>
      intro l1 l2 z_p_R z_p_un z_p_sc o h hK
      rw [pX3_clearRows_L12] at h
      refine kw_iload_n hX 12 dX3_clearRows_12 rfl 2 rfl ?_
      refine kw_aload_n hX 13 dX3_clearRows_13 rfl 0 rfl ?_
      refine kw_get hX 14 (C := RX3) (T := TX3) (N := 3) hin3 1 f0 (fun _ h => h) 0 rfl rfl (by decide) rfl dX3_clearRows_14 ?_
      refine kw_iconst hX 17 dX3_clearRows_17 kci_2 ?_
      refine kw_iadd hX 18 dX3_clearRows_18 ?_
      refine kw_icmp_ge hX 19 37 dX3_clearRows_19 (by decide) (fun c2 => ?_) (fun c2 => ?_)
      · have h := kif_t c2 h
        obtain rfl := Option.some.inj h
        refine kw_lv (lv' := [(0, .ref (pa 0)), (1, .int l1), (2, .int l2)]) [0, 1, 2] rfl ?_
        exact hK
      · have h := kif_f c2 h
        refine kw_aload_n hX 22 dX3_clearRows_22 rfl 0 rfl ?_
        refine kw_get hX 23 (C := RX3) (T := TX3) (N := 3) hin3 0 f1 (fun _ h => h) 0 rfl rfl (by decide) rfl dX3_clearRows_23 ?_
        refine kw_iload_n hX 26 dX3_clearRows_26 rfl 1 rfl ?_
        obtain ⟨g3, h⟩ := kgd_some h
        refine kw_aald5 hX 27 1 rfl g3 rfl dX3_clearRows_27 ?_
        refine kw_iload_n hX 28 dX3_clearRows_28 rfl 2 rfl ?_
        refine kw_lconst hX 29 dX3_clearRows_29 kcl_0 ?_
        obtain ⟨g4, h⟩ := kgd_some h
        obtain ⟨g5, h⟩ := kgd_some h
        refine kw_last hX 30 (ws' := (kfl [gP Y pa pr (va_up z_p_R (0 + (l1 : Int32).toNatClampNeg) (vp_updL (z_p_R (0 + (l1 : Int32).toNatClampNeg)) (l2).toNatClampNeg 0)) z_p_un z_p_sc])) (2 + (0 + (l1 : Int32).toNatClampNeg)) (gP_row (of_decide_eq_true g4)) g5 (gP_set (of_decide_eq_true g4)) dX3_clearRows_30 ?_
        refine kw_iinc (v := (l2 + 1)) (lv' := [(2, .int (l2 + 1)), (0, .ref (pa 0)), (1, .int l1)]) hX 31 dX3_clearRows_31 2 rfl (kinc_1 _) (by decide) rfl ?_
        refine kw_goto hX 34 12 dX3_clearRows_34 (by decide) ?_
        refine kw_lv (lv' := [(0, .ref (pa 0)), (1, .int l1), (2, .int (l2 + 1))]) [1, 2, 0] rfl ?_
        exact ih l1 (l2 + 1) (va_up z_p_R (0 + (l1 : Int32).toNatClampNeg) (vp_updL (z_p_R (0 + (l1 : Int32).toNatClampNeg)) (l2).toNatClampNeg 0)) z_p_un z_p_sc o h hK
  have L2 : ∀ (n : Nat) (l1 : Int32) (z_p_R : Nat → Nat → Int64) (z_p_un : Int32) (z_p_sc : Int64) (o : Int32 × (Nat → Nat → Int64)), pX3_clearRows_L2 n l1 z_p_R z_p_un = some o → KW X Y A 3 0 0 (kfl [gP Y pa pr o.2 z_p_un z_p_sc]) [(0, .ref (pa 0)), (1, .int o.1)] 43 [] → KW X Y A 3 0 0 (kfl [gP Y pa pr z_p_R z_p_un z_p_sc]) [(0, .ref (pa 0)), (1, .int l1)] 2 [] := by
    intro n
    induction n with
    | zero => intro l1 z_p_R z_p_un z_p_sc o h; cases h
    | succ n ih =>
      intro l1 z_p_R z_p_un z_p_sc o h hK
      rw [pX3_clearRows_L2] at h
      refine kw_iload_n hX 2 dX3_clearRows_2 rfl 1 rfl ?_
      refine kw_aload_n hX 3 dX3_clearRows_3 rfl 0 rfl ?_
      refine kw_get hX 4 (C := RX3) (T := TX3) (N := 3) hin3 1 f0 (fun _ h => h) 0 rfl rfl (by decide) rfl dX3_clearRows_4 ?_
      refine kw_icmp_ge hX 7 43 dX3_clearRows_7 (by decide) (fun c1 => ?_) (fun c1 => ?_)
      · have h := kif_t c1 h
        obtain rfl := Option.some.inj h
        refine kw_lv (lv' := [(0, .ref (pa 0)), (1, .int l1)]) [0, 1] rfl ?_
        exact hK
      · have h := kif_f c1 h
        refine kw_iconst hX 10 dX3_clearRows_10 kci_0 ?_
        refine kw_istore_n (lv' := [(2, .int 0), (0, .ref (pa 0)), (1, .int l1)]) hX 11 dX3_clearRows_11 rfl (by decide) rfl ?_
        obtain ⟨v6, hl7, h⟩ := kb_some h
        refine kw_lv (lv' := [(0, .ref (pa 0)), (1, .int l1), (2, .int 0)]) [1, 2, 0] rfl ?_
        refine L12 KF l1 0 z_p_R z_p_un z_p_sc v6 hl7 ?_
        refine kw_iinc (v := (l1 + 1)) (lv' := [(1, .int (l1 + 1)), (0, .ref (pa 0)), (2, .int v6.1)]) hX 37 dX3_clearRows_37 1 rfl (kinc_1 _) (by decide) rfl ?_
        refine kw_goto hX 40 2 dX3_clearRows_40 (by decide) ?_
        refine kw_lv (lv' := [(0, .ref (pa 0)), (1, .int (l1 + 1))]) [1, 0] rfl ?_
        exact ih (l1 + 1) v6.2 z_p_un z_p_sc o h hK
  unfold pX3_clearRows at h
  refine kw_lv (lv' := [(0, .ref (pa 0))]) [0] rfl ?_
  refine kw_iconst hX 0 dX3_clearRows_0 kci_0 ?_
  refine kw_istore_n (lv' := [(1, .int 0), (0, .ref (pa 0))]) hX 1 dX3_clearRows_1 rfl (by decide) rfl ?_
  obtain ⟨v8, hl9, h⟩ := kb_some h
  refine kw_lv (lv' := [(0, .ref (pa 0)), (1, .int 0)]) [1, 0] rfl ?_
  refine L2 KF 0 p_R p_un p_sc v8 hl9 ?_
  obtain rfl := Option.some.inj h
  exact hret _ _ dX3_clearRows_43
def pX3_reduceRow_L13 : Nat → Int32 → Int32 → Int64 → Int64 → Int32 → (Nat → Nat → Int64) → Int32 → Int64 → Option (Int32 × (Nat → Nat → Int64))
  | 0, _, _, _, _, _, _, _, _ => none
  | n + 1, l1, l2, l3, l5, l7, z_p_R, z_p_un, z_p_sc => (if (z_p_un + 2) ≤ l7 then some (l7, z_p_R) else kgd (kin l1 5) (kgd (kin l1 5) (kgd (decide ((0 + (l1 : Int32).toNatClampNeg) < 5)) (kgd (kin l7 7) (kgd (kin l2 5) (kgd (decide ((0 + (l2 : Int32).toNatClampNeg) < 5)) (kgd (kin l7 7) (kgd (decide (¬ z_p_sc = 0)) (kgd (decide ((0 + (l1 : Int32).toNatClampNeg) < 5)) (kgd (kin l7 7) (pX3_reduceRow_L13 n l1 l2 l3 l5 (l7 + 1) (va_up z_p_R (0 + (l1 : Int32).toNatClampNeg) (vp_updL (z_p_R (0 + (l1 : Int32).toNatClampNeg)) (l7).toNatClampNeg (((l3 * (z_p_R (0 + (l1 : Int32).toNatClampNeg) (l7).toNatClampNeg)) - (l5 * (z_p_R (0 + (l2 : Int32).toNatClampNeg) (l7).toNatClampNeg))) / z_p_sc))) z_p_un z_p_sc)))))))))))
def pX3_reduceRow (a1 : Int32) (a2 : Int32) (a3 : Int64) (p_R : Nat → Nat → Int64) (p_un : Int32) (p_sc : Int64) : Option ((Nat → Nat → Int64)) := kgd (kin a1 5) (kgd (decide ((0 + (a1 : Int32).toNatClampNeg) < 5)) (kgd (kin a2 7) (kb (pX3_reduceRow_L13 KF a1 a2 a3 (p_R (0 + (a1 : Int32).toNatClampNeg) (a2).toNatClampNeg) 0 p_R p_un p_sc) (fun v15 => some v15.2))))
def rmX3_reduceRow : Room := { frames := 0, cells := 0, slots := 0, locals := 0 }
theorem hdV_X3_reduceRow : yX3_reduceRow.cls = RX3 ∧ yX3_reduceRow.cls ≠ "java/lang/invoke/MethodHandle" ∧ yX3_reduceRow.cls ≠ "java/lang/invoke/VarHandle" ∧ (parseMethodDescriptor yX3_reduceRow.desc).map (fun d => d.parameters.length) = some 3 := ⟨rfl, by decide +kernel, by decide +kernel, by decide +kernel⟩
set_option maxHeartbeats 4000000 in
set_option maxRecDepth 100000 in
theorem kX3_reduceRow (l : Launch) (Y : KY) (pa : Nat → Nat) (pr : Nat → Nat) (p_R : Nat → Nat → Int64) (p_un : Int32) (p_sc : Int64) (a1 : Int32) (a2 : Int32) (a3 : Int64) {o : (Nat → Nat → Int64)} (h : pX3_reduceRow a1 a2 a3 p_R p_un p_sc = some o) : CtV l yX3_reduceRow wsX3_reduceRow rmX3_reduceRow Y [.ref (pa 0), .int a1, .int a2, .long a3] (kfl [gP Y pa pr p_R p_un p_sc]) (kfl [gP Y pa pr o p_un p_sc]) := by
  refine ctV_intro (cc := cX3_reduceRow) (maxL := 8) (own := RX3) (by decide +kernel) rfl rfl (Nat.le_of_ble_eq_true rfl) rfl ?_
  intro X A hX _ hret
  have hin3 : ∀ w ∈ u_ws RX3 TX3 3, w ∈ wsX3_reduceRow := by decide +kernel
  have f0 := hX.w (Cond.fieldLink RX3 11 "PeriodicNet$Placement" "rows" "[[J") (by decide +kernel)
  have f1 := hX.w (Cond.fieldLink RX3 16 "PeriodicNet$Placement" "unknowns" "I") (by decide +kernel)
  have f2 := hX.w (Cond.fieldLink RX3 20 "PeriodicNet$Placement" "scale" "J") (by decide +kernel)
  have L13 : ∀ (n : Nat) (l1 : Int32) (l2 : Int32) (l3 : Int64) (l5 : Int64) (l7 : Int32) (z_p_R : Nat → Nat → Int64) (z_p_un : Int32) (z_p_sc : Int64) (o : Int32 × (Nat → Nat → Int64)), pX3_reduceRow_L13 n l1 l2 l3 l5 l7 z_p_R z_p_un z_p_sc = some o → KW X Y A 8 0 0 (kfl [gP Y pa pr o.2 z_p_un z_p_sc]) [(0, .ref (pa 0)), (1, .int l1), (2, .int l2), (3, .long l3), (5, .long l5), (7, .int o.1)] 68 [] → KW X Y A 8 0 0 (kfl [gP Y pa pr z_p_R z_p_un z_p_sc]) [(0, .ref (pa 0)), (1, .int l1), (2, .int l2), (3, .long l3), (5, .long l5), (7, .int l7)] 13 [] := by
    intro n
    induction n with
    | zero => intro l1 l2 l3 l5 l7 z_p_R z_p_un z_p_sc o h; cases h
    | succ n ih =>
      intro l1 l2 l3 l5 l7 z_p_R z_p_un z_p_sc o h hK
      rw [pX3_reduceRow_L13] at h
      refine kw_iload hX 13 dX3_reduceRow_13 5 rfl ?_
      refine kw_aload_n hX 15 dX3_reduceRow_15 rfl 0 rfl ?_
      refine kw_get hX 16 (C := RX3) (T := TX3) (N := 3) hin3 1 f1 (fun _ h => h) 0 rfl rfl (by decide) rfl dX3_reduceRow_16 ?_
      refine kw_iconst hX 19 dX3_reduceRow_19 kci_2 ?_
      refine kw_iadd hX 20 dX3_reduceRow_20 ?_
      refine kw_icmp_ge hX 21 68 dX3_reduceRow_21 (by decide) (fun c4 => ?_) (fun c4 => ?_)
      · have h := kif_t c4 h
        obtain rfl := Option.some.inj h
        refine kw_lv (lv' := [(0, .ref (pa 0)), (1, .int l1), (2, .int l2), (3, .long l3), (5, .long l5), (7, .int l7)]) [0, 1, 2, 3, 4, 5] rfl ?_
        exact hK
      · have h := kif_f c4 h
        refine kw_aload_n hX 24 dX3_reduceRow_24 rfl 0 rfl ?_
        refine kw_get hX 25 (C := RX3) (T := TX3) (N := 3) hin3 0 f0 (fun _ h => h) 0 rfl rfl (by decide) rfl dX3_reduceRow_25 ?_
        refine kw_iload_n hX 28 dX3_reduceRow_28 rfl 1 rfl ?_
        obtain ⟨g5, h⟩ := kgd_some h
        refine kw_aald5 hX 29 1 rfl g5 rfl dX3_reduceRow_29 ?_
        refine kw_iload hX 30 dX3_reduceRow_30 5 rfl ?_
        refine kw_lload_n hX 32 dX3_reduceRow_32 rfl 3 rfl ?_
        refine kw_aload_n hX 33 dX3_reduceRow_33 rfl 0 rfl ?_
        refine kw_get hX 34 (C := RX3) (T := TX3) (N := 3) hin3 0 f0 (fun _ h => h) 0 rfl rfl (by decide) rfl dX3_reduceRow_34 ?_
        refine kw_iload_n hX 37 dX3_reduceRow_37 rfl 1 rfl ?_
        obtain ⟨g6, h⟩ := kgd_some h
        refine kw_aald5 hX 38 1 rfl g6 rfl dX3_reduceRow_38 ?_
        refine kw_iload hX 39 dX3_reduceRow_39 5 rfl ?_
        obtain ⟨g7, h⟩ := kgd_some h
        obtain ⟨g8, h⟩ := kgd_some h
        refine kw_lald hX 41 (2 + (0 + (l1 : Int32).toNatClampNeg)) (gP_row (of_decide_eq_true g7)) g8 dX3_reduceRow_41 ?_
        refine kw_lmul hX 42 dX3_reduceRow_42 ?_
        refine kw_lload hX 43 dX3_reduceRow_43 4 rfl ?_
        refine kw_aload_n hX 45 dX3_reduceRow_45 rfl 0 rfl ?_
        refine kw_get hX 46 (C := RX3) (T := TX3) (N := 3) hin3 0 f0 (fun _ h => h) 0 rfl rfl (by decide) rfl dX3_reduceRow_46 ?_
        refine kw_iload_n hX 49 dX3_reduceRow_49 rfl 2 rfl ?_
        obtain ⟨g9, h⟩ := kgd_some h
        refine kw_aald5 hX 50 1 rfl g9 rfl dX3_reduceRow_50 ?_
        refine kw_iload hX 51 dX3_reduceRow_51 5 rfl ?_
        obtain ⟨g10, h⟩ := kgd_some h
        obtain ⟨g11, h⟩ := kgd_some h
        refine kw_lald hX 53 (2 + (0 + (l2 : Int32).toNatClampNeg)) (gP_row (of_decide_eq_true g10)) g11 dX3_reduceRow_53 ?_
        refine kw_lmul hX 54 dX3_reduceRow_54 ?_
        refine kw_lsub hX 55 dX3_reduceRow_55 ?_
        refine kw_aload_n hX 56 dX3_reduceRow_56 rfl 0 rfl ?_
        refine kw_get hX 57 (C := RX3) (T := TX3) (N := 3) hin3 2 f2 (fun _ h => h) 0 rfl rfl (by decide) rfl dX3_reduceRow_57 ?_
        obtain ⟨g12, h⟩ := kgd_some h
        refine kw_ldiv hX 60 dX3_reduceRow_60 (of_decide_eq_true g12) ?_
        obtain ⟨g13, h⟩ := kgd_some h
        obtain ⟨g14, h⟩ := kgd_some h
        refine kw_last hX 61 (ws' := (kfl [gP Y pa pr (va_up z_p_R (0 + (l1 : Int32).toNatClampNeg) (vp_updL (z_p_R (0 + (l1 : Int32).toNatClampNeg)) (l7).toNatClampNeg (((l3 * (z_p_R (0 + (l1 : Int32).toNatClampNeg) (l7).toNatClampNeg)) - (l5 * (z_p_R (0 + (l2 : Int32).toNatClampNeg) (l7).toNatClampNeg))) / z_p_sc))) z_p_un z_p_sc])) (2 + (0 + (l1 : Int32).toNatClampNeg)) (gP_row (of_decide_eq_true g13)) g14 (gP_set (of_decide_eq_true g13)) dX3_reduceRow_61 ?_
        refine kw_iinc (v := (l7 + 1)) (lv' := [(7, .int (l7 + 1)), (0, .ref (pa 0)), (1, .int l1), (2, .int l2), (3, .long l3), (5, .long l5)]) hX 62 dX3_reduceRow_62 5 rfl (kinc_1 _) (by decide) rfl ?_
        refine kw_goto hX 65 13 dX3_reduceRow_65 (by decide) ?_
        refine kw_lv (lv' := [(0, .ref (pa 0)), (1, .int l1), (2, .int l2), (3, .long l3), (5, .long l5), (7, .int (l7 + 1))]) [1, 2, 3, 4, 5, 0] rfl ?_
        exact ih l1 l2 l3 l5 (l7 + 1) (va_up z_p_R (0 + (l1 : Int32).toNatClampNeg) (vp_updL (z_p_R (0 + (l1 : Int32).toNatClampNeg)) (l7).toNatClampNeg (((l3 * (z_p_R (0 + (l1 : Int32).toNatClampNeg) (l7).toNatClampNeg)) - (l5 * (z_p_R (0 + (l2 : Int32).toNatClampNeg) (l7).toNatClampNeg))) / z_p_sc))) z_p_un z_p_sc o h hK
  unfold pX3_reduceRow at h
  refine kw_lv (lv' := [(0, .ref (pa 0)), (1, .int a1), (2, .int a2), (3, .long a3)]) [0, 1, 2, 3] rfl ?_
  refine kw_aload_n hX 0 dX3_reduceRow_0 rfl 0 rfl ?_
  refine kw_get hX 1 (C := RX3) (T := TX3) (N := 3) hin3 0 f0 (fun _ h => h) 0 rfl rfl (by decide) rfl dX3_reduceRow_1 ?_
  refine kw_iload_n hX 4 dX3_reduceRow_4 rfl 1 rfl ?_
  obtain ⟨g1, h⟩ := kgd_some h
  refine kw_aald5 hX 5 1 rfl g1 rfl dX3_reduceRow_5 ?_
  refine kw_iload_n hX 6 dX3_reduceRow_6 rfl 2 rfl ?_
  obtain ⟨g2, h⟩ := kgd_some h
  obtain ⟨g3, h⟩ := kgd_some h
  refine kw_lald hX 7 (2 + (0 + (a1 : Int32).toNatClampNeg)) (gP_row (of_decide_eq_true g2)) g3 dX3_reduceRow_7 ?_
  refine kw_lstore (lv' := [(5, .long (p_R (0 + (a1 : Int32).toNatClampNeg) (a2).toNatClampNeg)), (0, .ref (pa 0)), (1, .int a1), (2, .int a2), (3, .long a3)]) hX 8 dX3_reduceRow_8 (by decide) rfl ?_
  refine kw_iconst hX 10 dX3_reduceRow_10 kci_0 ?_
  refine kw_istore (lv' := [(7, .int 0), (5, .long (p_R (0 + (a1 : Int32).toNatClampNeg) (a2).toNatClampNeg)), (0, .ref (pa 0)), (1, .int a1), (2, .int a2), (3, .long a3)]) hX 11 dX3_reduceRow_11 (by decide) rfl ?_
  obtain ⟨v15, hl16, h⟩ := kb_some h
  refine kw_lv (lv' := [(0, .ref (pa 0)), (1, .int a1), (2, .int a2), (3, .long a3), (5, .long (p_R (0 + (a1 : Int32).toNatClampNeg) (a2).toNatClampNeg)), (7, .int 0)]) [2, 3, 4, 5, 1, 0] rfl ?_
  refine L13 KF a1 a2 a3 (p_R (0 + (a1 : Int32).toNatClampNeg) (a2).toNatClampNeg) 0 p_R p_un p_sc v15 hl16 ?_
  obtain rfl := Option.some.inj h
  exact hret _ _ dX3_reduceRow_68
def pX3_eliminate_L28 : Nat → Int32 → Int64 → Int32 → (Nat → Nat → Int64) → Int32 → Int64 → Option (Int32 × (Nat → Nat → Int64))
  | 0, _, _, _, _, _, _ => none
  | n + 1, l1, l2, l4, z_p_R, z_p_un, z_p_sc => (if z_p_un ≤ l4 then some (l4, z_p_R) else kb ((if l4 = l1 then some z_p_R else kb (pX3_reduceRow l4 l1 l2 z_p_R z_p_un z_p_sc) (fun v8 => some v8)) : Option ((Nat → Nat → Int64))) (fun v10 => pX3_eliminate_L28 n l1 l2 (l4 + 1) v10 z_p_un z_p_sc))
def pX3_eliminate (a1 : Int32) (p_R : Nat → Nat → Int64) (p_un : Int32) (p_sc : Int64) : Option ((Nat → Nat → Int64) × Int64) := kgd (kin a1 5) (kgd (decide ((0 + (a1 : Int32).toNatClampNeg) < 5)) (kgd (kin a1 7) ((if (lg_cmp (p_R (0 + (a1 : Int32).toNatClampNeg) (a1).toNatClampNeg) 0) = 0 then some (p_R, p_sc) else (if (lg_cmp p_sc 0) = 0 then some (p_R, p_sc) else kb (pX3_eliminate_L28 KF a1 (p_R (0 + (a1 : Int32).toNatClampNeg) (a1).toNatClampNeg) 0 p_R p_un p_sc) (fun v13 => some (v13.2, (p_R (0 + (a1 : Int32).toNatClampNeg) (a1).toNatClampNeg))))))))
def rmX3_eliminate : Room := { frames := 1, cells := 0, slots := 0, locals := 27 }
theorem hdV_X3_eliminate : yX3_eliminate.cls = RX3 ∧ yX3_eliminate.cls ≠ "java/lang/invoke/MethodHandle" ∧ yX3_eliminate.cls ≠ "java/lang/invoke/VarHandle" ∧ (parseMethodDescriptor yX3_eliminate.desc).map (fun d => d.parameters.length) = some 1 := ⟨rfl, by decide +kernel, by decide +kernel, by decide +kernel⟩
set_option maxHeartbeats 4000000 in
set_option maxRecDepth 100000 in
theorem kX3_eliminate (l : Launch) (Y : KY) (pa : Nat → Nat) (pr : Nat → Nat) (p_R : Nat → Nat → Int64) (p_un : Int32) (p_sc : Int64) (a1 : Int32) {o : (Nat → Nat → Int64) × Int64} (h : pX3_eliminate a1 p_R p_un p_sc = some o) : CtV l yX3_eliminate wsX3_eliminate rmX3_eliminate Y [.ref (pa 0), .int a1] (kfl [gP Y pa pr p_R p_un p_sc]) (kfl [gP Y pa pr o.1 p_un o.2]) := by
  refine ctV_intro (cc := cX3_eliminate) (maxL := 5) (own := RX3) (by decide +kernel) rfl rfl (Nat.le_of_ble_eq_true rfl) rfl ?_
  intro X A hX _ hret
  have hin3 : ∀ w ∈ u_ws RX3 TX3 3, w ∈ wsX3_eliminate := by decide +kernel
  have f0 := hX.w (Cond.fieldLink RX3 11 "PeriodicNet$Placement" "rows" "[[J") (by decide +kernel)
  have f1 := hX.w (Cond.fieldLink RX3 20 "PeriodicNet$Placement" "scale" "J") (by decide +kernel)
  have f2 := hX.w (Cond.fieldLink RX3 16 "PeriodicNet$Placement" "unknowns" "I") (by decide +kernel)
  have L28 : ∀ (n : Nat) (l1 : Int32) (l2 : Int64) (l4 : Int32) (z_p_R : Nat → Nat → Int64) (z_p_un : Int32) (z_p_sc : Int64) (o : Int32 × (Nat → Nat → Int64)), pX3_eliminate_L28 n l1 l2 l4 z_p_R z_p_un z_p_sc = some o → KW X Y A 5 0 0 (kfl [gP Y pa pr o.2 z_p_un z_p_sc]) [(0, .ref (pa 0)), (1, .int l1), (2, .long l2), (4, .int o.1)] 57 [] → KW X Y A 5 0 0 (kfl [gP Y pa pr z_p_R z_p_un z_p_sc]) [(0, .ref (pa 0)), (1, .int l1), (2, .long l2), (4, .int l4)] 28 [] := by
    intro n
    induction n with
    | zero => intro l1 l2 l4 z_p_R z_p_un z_p_sc o h; cases h
    | succ n ih =>
      intro l1 l2 l4 z_p_R z_p_un z_p_sc o h hK
      rw [pX3_eliminate_L28] at h
      refine kw_iload hX 28 dX3_eliminate_28 3 rfl ?_
      refine kw_aload_n hX 30 dX3_eliminate_30 rfl 0 rfl ?_
      refine kw_get hX 31 (C := RX3) (T := TX3) (N := 3) hin3 1 f2 (fun _ h => h) 0 rfl rfl (by decide) rfl dX3_eliminate_31 ?_
      refine kw_icmp_ge hX 34 57 dX3_eliminate_34 (by decide) (fun c6 => ?_) (fun c6 => ?_)
      · have h := kif_t c6 h
        obtain rfl := Option.some.inj h
        refine kw_lv (lv' := [(0, .ref (pa 0)), (1, .int l1), (2, .long l2), (4, .int l4)]) [0, 1, 2, 3] rfl ?_
        exact hK
      · have h := kif_f c6 h
        refine kw_iload hX 37 dX3_eliminate_37 3 rfl ?_
        refine kw_iload_n hX 39 dX3_eliminate_39 rfl 1 rfl ?_
        obtain ⟨v10, hj12, h⟩ := kb_some h
        have J11 : KW X Y A 5 0 0 (kfl [gP Y pa pr v10 z_p_un z_p_sc]) [(0, .ref (pa 0)), (1, .int l1), (2, .long l2), (4, .int l4)] 51 [] := by
          refine kw_iinc (v := (l4 + 1)) (lv' := [(4, .int (l4 + 1)), (0, .ref (pa 0)), (1, .int l1), (2, .long l2)]) hX 51 dX3_eliminate_51 3 rfl (kinc_1 _) (by decide) rfl ?_
          refine kw_goto hX 54 28 dX3_eliminate_54 (by decide) ?_
          refine kw_lv (lv' := [(0, .ref (pa 0)), (1, .int l1), (2, .long l2), (4, .int (l4 + 1))]) [1, 2, 3, 0] rfl ?_
          exact ih l1 l2 (l4 + 1) v10 z_p_un z_p_sc o h hK
        have h := hj12
        refine kw_icmp_eq hX 40 51 dX3_eliminate_40 (by decide) (fun c7 => ?_) (fun c7 => ?_)
        · have h := kif_t c7 h
          obtain rfl := Option.some.inj h
          refine kw_lv (lv' := [(0, .ref (pa 0)), (1, .int l1), (2, .long l2), (4, .int l4)]) [0, 1, 2, 3] rfl ?_
          exact J11
        · have h := kif_f c7 h
          refine kw_aload_n hX 43 dX3_eliminate_43 rfl 0 rfl ?_
          refine kw_iload hX 44 dX3_eliminate_44 3 rfl ?_
          refine kw_iload_n hX 46 dX3_eliminate_46 rfl 1 rfl ?_
          refine kw_lload_n hX 47 dX3_eliminate_47 rfl 2 rfl ?_
          obtain ⟨v8, hc9, h⟩ := kb_some h
          refine kw_callV_V hX 48 (As := [.int l4, .int l1, .long l2]) (rest := []) (kX3_reduceRow (kx_l X) Y pa pr z_p_R z_p_un z_p_sc l4 l1 l2 hc9) gX3_eliminate_X3_reduceRow rfl 3 rfl hdV_X3_reduceRow ⟨rfl, rfl⟩ ⟨by decide, by decide⟩ ⟨Nat.zero_le _, Nat.zero_le _⟩ rfl (Nat.le_of_ble_eq_true rfl) [0] (by decide) rfl (kfc gP_f kfn0) (gs1 := [gP Y pa pr v8 z_p_un z_p_sc]) rfl 0 3 rfl rfl rfl dX3_eliminate_48 ?_
          obtain rfl := Option.some.inj h
          refine kw_lv (lv' := [(0, .ref (pa 0)), (1, .int l1), (2, .long l2), (4, .int l4)]) [0, 1, 2, 3] rfl ?_
          exact J11
  unfold pX3_eliminate at h
  refine kw_lv (lv' := [(0, .ref (pa 0)), (1, .int a1)]) [0, 1] rfl ?_
  refine kw_aload_n hX 0 dX3_eliminate_0 rfl 0 rfl ?_
  refine kw_get hX 1 (C := RX3) (T := TX3) (N := 3) hin3 0 f0 (fun _ h => h) 0 rfl rfl (by decide) rfl dX3_eliminate_1 ?_
  refine kw_iload_n hX 4 dX3_eliminate_4 rfl 1 rfl ?_
  obtain ⟨g1, h⟩ := kgd_some h
  refine kw_aald5 hX 5 1 rfl g1 rfl dX3_eliminate_5 ?_
  refine kw_iload_n hX 6 dX3_eliminate_6 rfl 1 rfl ?_
  obtain ⟨g2, h⟩ := kgd_some h
  obtain ⟨g3, h⟩ := kgd_some h
  refine kw_lald hX 7 (2 + (0 + (a1 : Int32).toNatClampNeg)) (gP_row (of_decide_eq_true g2)) g3 dX3_eliminate_7 ?_
  refine kw_lstore_n (lv' := [(2, .long (p_R (0 + (a1 : Int32).toNatClampNeg) (a1).toNatClampNeg)), (0, .ref (pa 0)), (1, .int a1)]) hX 8 dX3_eliminate_8 rfl (by decide) rfl ?_
  refine kw_lload_n hX 9 dX3_eliminate_9 rfl 0 rfl ?_
  refine kw_lconst hX 10 dX3_eliminate_10 kcl_0 ?_
  refine kw_lcmp hX 11 dX3_eliminate_11 ?_
  refine kw_if_eq hX 12 24 dX3_eliminate_12 (by decide) (fun c4 => ?_) (fun c4 => ?_)
  · have h := kif_t c4 h
    obtain rfl := Option.some.inj h
    exact hret _ _ dX3_eliminate_24
  · have h := kif_f c4 h
    refine kw_aload_n hX 15 dX3_eliminate_15 rfl 1 rfl ?_
    refine kw_get hX 16 (C := RX3) (T := TX3) (N := 3) hin3 2 f1 (fun _ h => h) 0 rfl rfl (by decide) rfl dX3_eliminate_16 ?_
    refine kw_lconst hX 19 dX3_eliminate_19 kcl_0 ?_
    refine kw_lcmp hX 20 dX3_eliminate_20 ?_
    refine kw_if_ne hX 21 25 dX3_eliminate_21 (by decide) (fun c5 => ?_) (fun c5 => ?_)
    · have h := kif_f c5 h
      refine kw_iconst hX 25 dX3_eliminate_25 kci_0 ?_
      refine kw_istore (lv' := [(4, .int 0), (2, .long (p_R (0 + (a1 : Int32).toNatClampNeg) (a1).toNatClampNeg)), (0, .ref (pa 0)), (1, .int a1)]) hX 26 dX3_eliminate_26 (by decide) rfl ?_
      obtain ⟨v13, hl14, h⟩ := kb_some h
      refine kw_lv (lv' := [(0, .ref (pa 0)), (1, .int a1), (2, .long (p_R (0 + (a1 : Int32).toNatClampNeg) (a1).toNatClampNeg)), (4, .int 0)]) [2, 3, 1, 0] rfl ?_
      refine L28 KF a1 (p_R (0 + (a1 : Int32).toNatClampNeg) (a1).toNatClampNeg) 0 p_R p_un p_sc v13 hl14 ?_
      refine kw_aload_n hX 57 dX3_eliminate_57 rfl 0 rfl ?_
      refine kw_lload_n hX 58 dX3_eliminate_58 rfl 2 rfl ?_
      refine kw_put hX 59 (C := RX3) (T := TX3) (N := 3) (ws' := (kfl [gP Y pa pr v13.2 p_un (p_R (0 + (a1 : Int32).toNatClampNeg) (a1).toNatClampNeg)])) hin3 tyX3 tyX3_ok nmX3 2 f1 (fun _ h => h) 0 rfl rfl (by decide) rfl (ty := .long) (tyX3_ok 2 (by decide)) rfl rfl (Nat.le_of_ble_eq_true rfl) rfl dX3_eliminate_59 ?_
      obtain rfl := Option.some.inj h
      exact hret _ _ dX3_eliminate_62
    · have h := kif_t c5 h
      obtain rfl := Option.some.inj h
      exact hret _ _ dX3_eliminate_24
def pX3_solve_L16 : Nat → Int32 → (Nat → Nat → Int64) → Int32 → Int32 → (Nat → Int32) → (Nat → Int32) → (Nat → Int32) → (Nat → Int32) → Option (Int32 × (Nat → Nat → Int64))
  | 0, _, _, _, _, _, _, _, _ => none
  | n + 1, l2, z_p_R, z_p_un, z_g_ec, z_g_F, z_g_T, z_g_X, z_g_Z => (if z_g_ec ≤ l2 then some (l2, z_p_R) else kgd (kin l2 12) (kgd (kin l2 12) (kgd (kin l2 12) (kgd (kin l2 12) (kb (pX3_addEnd (z_g_F (l2 : Int32).toNatClampNeg) (z_g_T (l2 : Int32).toNatClampNeg) (z_g_X (l2 : Int32).toNatClampNeg) (z_g_Z (l2 : Int32).toNatClampNeg) z_p_R z_p_un) (fun v8 => kgd (kin l2 12) (kgd (kin l2 12) (kgd (kin l2 12) (kgd (kin l2 12) (kb (pX3_addEnd (z_g_T (l2 : Int32).toNatClampNeg) (z_g_F (l2 : Int32).toNatClampNeg) (-(z_g_X (l2 : Int32).toNatClampNeg)) (-(z_g_Z (l2 : Int32).toNatClampNeg)) v8 z_p_un) (fun v14 => pX3_solve_L16 n (l2 + 1) v14 z_p_un z_g_ec z_g_F z_g_T z_g_X z_g_Z)))))))))))
def pX3_solve_L95 : Nat → Int32 → (Nat → Nat → Int64) → Int32 → Int64 → Option (Int32 × (Nat → Nat → Int64) × Int64)
  | 0, _, _, _, _ => none
  | n + 1, l2, z_p_R, z_p_un, z_p_sc => (if z_p_un ≤ l2 then some (l2, z_p_R, z_p_sc) else kb (pX3_eliminate l2 z_p_R z_p_un z_p_sc) (fun v19 => pX3_solve_L95 n (l2 + 1) v19.1 z_p_un v19.2))
def pX3_solve  (p_R : Nat → Nat → Int64) (p_un : Int32) (p_sc : Int64) (g_vc : Int32) (g_ec : Int32) (g_F : Nat → Int32) (g_T : Nat → Int32) (g_X : Nat → Int32) (g_Z : Nat → Int32) : Option ((Nat → Nat → Int64) × Int32 × Int64) := kb (pX3_clearRows p_R (g_vc - 1)) (fun v1 => kb (pX3_solve_L16 KF 0 v1 (g_vc - 1) g_ec g_F g_T g_X g_Z) (fun v16 => kb (pX3_solve_L95 KF 0 v16.2 (g_vc - 1) 1) (fun v21 => some (v21.2.1, (g_vc - 1), v21.2.2))))
def rmX3_solve : Room := { frames := 2, cells := 0, slots := 0, locals := 51 }
theorem hdV_X3_solve : yX3_solve.cls = RX3 ∧ yX3_solve.cls ≠ "java/lang/invoke/MethodHandle" ∧ yX3_solve.cls ≠ "java/lang/invoke/VarHandle" ∧ (parseMethodDescriptor yX3_solve.desc).map (fun d => d.parameters.length) = some 1 := ⟨rfl, by decide +kernel, by decide +kernel, by decide +kernel⟩
set_option maxHeartbeats 4000000 in
set_option maxRecDepth 100000 in
theorem kX3_solve (l : Launch) (Y : KY) (pa : Nat → Nat) (pr : Nat → Nat) (ga : Nat → Nat) (p_R : Nat → Nat → Int64) (p_un : Int32) (p_sc : Int64) (g_vc : Int32) (g_ec : Int32) (g_F : Nat → Int32) (g_T : Nat → Int32) (g_X : Nat → Int32) (g_Z : Nat → Int32)  {o : (Nat → Nat → Int64) × Int32 × Int64} (h : pX3_solve p_R p_un p_sc g_vc g_ec g_F g_T g_X g_Z = some o) : CtV l yX3_solve wsX3_solve rmX3_solve Y [.ref (pa 0), .ref (ga 0)] (kfl [gP Y pa pr p_R p_un p_sc, gG Y ga g_vc g_ec g_F g_T g_X g_Z]) (kfl [gP Y pa pr o.1 o.2.1 o.2.2, gG Y ga g_vc g_ec g_F g_T g_X g_Z]) := by
  refine ctV_intro (cc := cX3_solve) (maxL := 3) (own := RX3) (by decide +kernel) rfl rfl (Nat.le_of_ble_eq_true rfl) rfl ?_
  intro X A hX _ hret
  have hin2 : ∀ w ∈ u_ws RX2 TX2 6, w ∈ wsX3_solve := by decide +kernel
  have hin3 : ∀ w ∈ u_ws RX3 TX3 3, w ∈ wsX3_solve := by decide +kernel
  have f0 := hX.w (Cond.fieldLink RX3 24 "PeriodicNet$Graph" "vertexCount" "I") (by decide +kernel)
  have f1 := hX.w (Cond.fieldLink RX3 16 "PeriodicNet$Placement" "unknowns" "I") (by decide +kernel)
  have f2 := hX.w (Cond.fieldLink RX3 32 "PeriodicNet$Graph" "edgeCount" "I") (by decide +kernel)
  have f3 := hX.w (Cond.fieldLink RX3 35 "PeriodicNet$Graph" "from" "[I") (by decide +kernel)
  have f4 := hX.w (Cond.fieldLink RX3 39 "PeriodicNet$Graph" "to" "[I") (by decide +kernel)
  have f5 := hX.w (Cond.fieldLink RX3 42 "PeriodicNet$Graph" "shiftX" "[I") (by decide +kernel)
  have f6 := hX.w (Cond.fieldLink RX3 45 "PeriodicNet$Graph" "shiftY" "[I") (by decide +kernel)
  have f7 := hX.w (Cond.fieldLink RX3 20 "PeriodicNet$Placement" "scale" "J") (by decide +kernel)
  have L16 : ∀ (n : Nat) (l2 : Int32) (z_p_R : Nat → Nat → Int64) (z_p_un : Int32) (z_p_sc : Int64) (z_g_vc : Int32) (z_g_ec : Int32) (z_g_F : Nat → Int32) (z_g_T : Nat → Int32) (z_g_X : Nat → Int32) (z_g_Z : Nat → Int32) (o : Int32 × (Nat → Nat → Int64)), pX3_solve_L16 n l2 z_p_R z_p_un z_g_ec z_g_F z_g_T z_g_X z_g_Z = some o → KW X Y A 3 0 0 (kfl [gP Y pa pr o.2 z_p_un z_p_sc, gG Y ga z_g_vc z_g_ec z_g_F z_g_T z_g_X z_g_Z]) [(0, .ref (pa 0)), (1, .ref (ga 0)), (2, .int o.1)] 88 [] → KW X Y A 3 0 0 (kfl [gP Y pa pr z_p_R z_p_un z_p_sc, gG Y ga z_g_vc z_g_ec z_g_F z_g_T z_g_X z_g_Z]) [(0, .ref (pa 0)), (1, .ref (ga 0)), (2, .int l2)] 16 [] := by
    intro n
    induction n with
    | zero => intro l2 z_p_R z_p_un z_p_sc z_g_vc z_g_ec z_g_F z_g_T z_g_X z_g_Z o h; cases h
    | succ n ih =>
      intro l2 z_p_R z_p_un z_p_sc z_g_vc z_g_ec z_g_F z_g_T z_g_X z_g_Z o h hK
      rw [pX3_solve_L16] at h
      refine kw_iload_n hX 16 dX3_solve_16 rfl 2 rfl ?_
      refine kw_aload_n hX 17 dX3_solve_17 rfl 1 rfl ?_
      refine kw_get hX 18 (C := RX2) (T := TX2) (N := 6) hin2 1 f2 (fun _ h => h) 7 rfl rfl (by decide) rfl dX3_solve_18 ?_
      refine kw_icmp_ge hX 21 88 dX3_solve_21 (by decide) (fun c3 => ?_) (fun c3 => ?_)
      · have h := kif_t c3 h
        obtain rfl := Option.some.inj h
        refine kw_lv (lv' := [(0, .ref (pa 0)), (1, .ref (ga 0)), (2, .int l2)]) [0, 1, 2] rfl ?_
        exact hK
      · have h := kif_f c3 h
        refine kw_aload_n hX 24 dX3_solve_24 rfl 0 rfl ?_
        refine kw_aload_n hX 25 dX3_solve_25 rfl 1 rfl ?_
        refine kw_get hX 26 (C := RX2) (T := TX2) (N := 6) hin2 2 f3 (fun _ h => h) 7 rfl rfl (by decide) rfl dX3_solve_26 ?_
        refine kw_iload_n hX 29 dX3_solve_29 rfl 2 rfl ?_
        obtain ⟨g4, h⟩ := kgd_some h
        refine kw_iald hX 30 8 rfl g4 dX3_solve_30 ?_
        refine kw_aload_n hX 31 dX3_solve_31 rfl 1 rfl ?_
        refine kw_get hX 32 (C := RX2) (T := TX2) (N := 6) hin2 3 f4 (fun _ h => h) 7 rfl rfl (by decide) rfl dX3_solve_32 ?_
        refine kw_iload_n hX 35 dX3_solve_35 rfl 2 rfl ?_
        obtain ⟨g5, h⟩ := kgd_some h
        refine kw_iald hX 36 9 rfl g5 dX3_solve_36 ?_
        refine kw_aload_n hX 37 dX3_solve_37 rfl 1 rfl ?_
        refine kw_get hX 38 (C := RX2) (T := TX2) (N := 6) hin2 4 f5 (fun _ h => h) 7 rfl rfl (by decide) rfl dX3_solve_38 ?_
        refine kw_iload_n hX 41 dX3_solve_41 rfl 2 rfl ?_
        obtain ⟨g6, h⟩ := kgd_some h
        refine kw_iald hX 42 10 rfl g6 dX3_solve_42 ?_
        refine kw_aload_n hX 43 dX3_solve_43 rfl 1 rfl ?_
        refine kw_get hX 44 (C := RX2) (T := TX2) (N := 6) hin2 5 f6 (fun _ h => h) 7 rfl rfl (by decide) rfl dX3_solve_44 ?_
        refine kw_iload_n hX 47 dX3_solve_47 rfl 2 rfl ?_
        obtain ⟨g7, h⟩ := kgd_some h
        refine kw_iald hX 48 11 rfl g7 dX3_solve_48 ?_
        obtain ⟨v8, hc9, h⟩ := kb_some h
        refine kw_callV_V hX 49 (As := [.int (z_g_F (l2 : Int32).toNatClampNeg), .int (z_g_T (l2 : Int32).toNatClampNeg), .int (z_g_X (l2 : Int32).toNatClampNeg), .int (z_g_Z (l2 : Int32).toNatClampNeg)]) (rest := []) (kX3_addEnd (kx_l X) Y pa pr z_p_R z_p_un z_p_sc (z_g_F (l2 : Int32).toNatClampNeg) (z_g_T (l2 : Int32).toNatClampNeg) (z_g_X (l2 : Int32).toNatClampNeg) (z_g_Z (l2 : Int32).toNatClampNeg) hc9) gX3_solve_X3_addEnd rfl 4 rfl hdV_X3_addEnd ⟨rfl, rfl⟩ ⟨by decide, by decide⟩ ⟨Nat.zero_le _, Nat.zero_le _⟩ rfl (Nat.le_of_ble_eq_true rfl) [0] (by decide) rfl (kfc gP_f kfn0) (gs1 := [gP Y pa pr v8 z_p_un z_p_sc, gG Y ga z_g_vc z_g_ec z_g_F z_g_T z_g_X z_g_Z]) rfl 0 3 rfl rfl rfl dX3_solve_49 ?_
        refine kw_aload_n hX 52 dX3_solve_52 rfl 0 rfl ?_
        refine kw_aload_n hX 53 dX3_solve_53 rfl 1 rfl ?_
        refine kw_get hX 54 (C := RX2) (T := TX2) (N := 6) hin2 3 f4 (fun _ h => h) 7 rfl rfl (by decide) rfl dX3_solve_54 ?_
        refine kw_iload_n hX 57 dX3_solve_57 rfl 2 rfl ?_
        obtain ⟨g10, h⟩ := kgd_some h
        refine kw_iald hX 58 9 rfl g10 dX3_solve_58 ?_
        refine kw_aload_n hX 59 dX3_solve_59 rfl 1 rfl ?_
        refine kw_get hX 60 (C := RX2) (T := TX2) (N := 6) hin2 2 f3 (fun _ h => h) 7 rfl rfl (by decide) rfl dX3_solve_60 ?_
        refine kw_iload_n hX 63 dX3_solve_63 rfl 2 rfl ?_
        obtain ⟨g11, h⟩ := kgd_some h
        refine kw_iald hX 64 8 rfl g11 dX3_solve_64 ?_
        refine kw_aload_n hX 65 dX3_solve_65 rfl 1 rfl ?_
        refine kw_get hX 66 (C := RX2) (T := TX2) (N := 6) hin2 4 f5 (fun _ h => h) 7 rfl rfl (by decide) rfl dX3_solve_66 ?_
        refine kw_iload_n hX 69 dX3_solve_69 rfl 2 rfl ?_
        obtain ⟨g12, h⟩ := kgd_some h
        refine kw_iald hX 70 10 rfl g12 dX3_solve_70 ?_
        refine kw_ineg hX 71 dX3_solve_71 ?_
        refine kw_aload_n hX 72 dX3_solve_72 rfl 1 rfl ?_
        refine kw_get hX 73 (C := RX2) (T := TX2) (N := 6) hin2 5 f6 (fun _ h => h) 7 rfl rfl (by decide) rfl dX3_solve_73 ?_
        refine kw_iload_n hX 76 dX3_solve_76 rfl 2 rfl ?_
        obtain ⟨g13, h⟩ := kgd_some h
        refine kw_iald hX 77 11 rfl g13 dX3_solve_77 ?_
        refine kw_ineg hX 78 dX3_solve_78 ?_
        obtain ⟨v14, hc15, h⟩ := kb_some h
        refine kw_callV_V hX 79 (As := [.int (z_g_T (l2 : Int32).toNatClampNeg), .int (z_g_F (l2 : Int32).toNatClampNeg), .int (-(z_g_X (l2 : Int32).toNatClampNeg)), .int (-(z_g_Z (l2 : Int32).toNatClampNeg))]) (rest := []) (kX3_addEnd (kx_l X) Y pa pr v8 z_p_un z_p_sc (z_g_T (l2 : Int32).toNatClampNeg) (z_g_F (l2 : Int32).toNatClampNeg) (-(z_g_X (l2 : Int32).toNatClampNeg)) (-(z_g_Z (l2 : Int32).toNatClampNeg)) hc15) gX3_solve_X3_addEnd rfl 4 rfl hdV_X3_addEnd ⟨rfl, rfl⟩ ⟨by decide, by decide⟩ ⟨Nat.zero_le _, Nat.zero_le _⟩ rfl (Nat.le_of_ble_eq_true rfl) [0] (by decide) rfl (kfc gP_f kfn0) (gs1 := [gP Y pa pr v14 z_p_un z_p_sc, gG Y ga z_g_vc z_g_ec z_g_F z_g_T z_g_X z_g_Z]) rfl 0 3 rfl rfl rfl dX3_solve_79 ?_
        refine kw_iinc (v := (l2 + 1)) (lv' := [(2, .int (l2 + 1)), (0, .ref (pa 0)), (1, .ref (ga 0))]) hX 82 dX3_solve_82 2 rfl (kinc_1 _) (by decide) rfl ?_
        refine kw_goto hX 85 16 dX3_solve_85 (by decide) ?_
        refine kw_lv (lv' := [(0, .ref (pa 0)), (1, .ref (ga 0)), (2, .int (l2 + 1))]) [1, 2, 0] rfl ?_
        exact ih (l2 + 1) v14 z_p_un z_p_sc z_g_vc z_g_ec z_g_F z_g_T z_g_X z_g_Z o h hK
  have L95 : ∀ (n : Nat) (l2 : Int32) (z_p_R : Nat → Nat → Int64) (z_p_un : Int32) (z_p_sc : Int64) (z_g_vc : Int32) (z_g_ec : Int32) (z_g_F : Nat → Int32) (z_g_T : Nat → Int32) (z_g_X : Nat → Int32) (z_g_Z : Nat → Int32) (o : Int32 × (Nat → Nat → Int64) × Int64), pX3_solve_L95 n l2 z_p_R z_p_un z_p_sc = some o → KW X Y A 3 0 0 (kfl [gP Y pa pr o.2.1 z_p_un o.2.2, gG Y ga z_g_vc z_g_ec z_g_F z_g_T z_g_X z_g_Z]) [(0, .ref (pa 0)), (2, .int o.1)] 114 [] → KW X Y A 3 0 0 (kfl [gP Y pa pr z_p_R z_p_un z_p_sc, gG Y ga z_g_vc z_g_ec z_g_F z_g_T z_g_X z_g_Z]) [(0, .ref (pa 0)), (2, .int l2)] 95 [] := by
    intro n
    induction n with
    | zero => intro l2 z_p_R z_p_un z_p_sc z_g_vc z_g_ec z_g_F z_g_T z_g_X z_g_Z o h; cases h
    | succ n ih =>
      intro l2 z_p_R z_p_un z_p_sc z_g_vc z_g_ec z_g_F z_g_T z_g_X z_g_Z o h hK
      rw [pX3_solve_L95] at h
      refine kw_iload_n hX 95 dX3_solve_95 rfl 1 rfl ?_
      refine kw_aload_n hX 96 dX3_solve_96 rfl 0 rfl ?_
      refine kw_get hX 97 (C := RX3) (T := TX3) (N := 3) hin3 1 f1 (fun _ h => h) 0 rfl rfl (by decide) rfl dX3_solve_97 ?_
      refine kw_icmp_ge hX 100 114 dX3_solve_100 (by decide) (fun c18 => ?_) (fun c18 => ?_)
      · have h := kif_t c18 h
        obtain rfl := Option.some.inj h
        refine kw_lv (lv' := [(0, .ref (pa 0)), (2, .int l2)]) [0, 1] rfl ?_
        exact hK
      · have h := kif_f c18 h
        refine kw_aload_n hX 103 dX3_solve_103 rfl 0 rfl ?_
        refine kw_iload_n hX 104 dX3_solve_104 rfl 1 rfl ?_
        obtain ⟨v19, hc20, h⟩ := kb_some h
        refine kw_callV_V hX 105 (As := [.int l2]) (rest := []) (kX3_eliminate (kx_l X) Y pa pr z_p_R z_p_un z_p_sc l2 hc20) gX3_solve_X3_eliminate rfl 1 rfl hdV_X3_eliminate ⟨rfl, rfl⟩ ⟨by decide, by decide⟩ ⟨Nat.zero_le _, Nat.zero_le _⟩ rfl (Nat.le_of_ble_eq_true rfl) [0] (by decide) rfl (kfc gP_f kfn0) (gs1 := [gP Y pa pr v19.1 z_p_un v19.2, gG Y ga z_g_vc z_g_ec z_g_F z_g_T z_g_X z_g_Z]) rfl 0 3 rfl rfl rfl dX3_solve_105 ?_
        refine kw_iinc (v := (l2 + 1)) (lv' := [(2, .int (l2 + 1)), (0, .ref (pa 0))]) hX 108 dX3_solve_108 1 rfl (kinc_1 _) (by decide) rfl ?_
        refine kw_goto hX 111 95 dX3_solve_111 (by decide) ?_
        refine kw_lv (lv' := [(0, .ref (pa 0)), (2, .int (l2 + 1))]) [1, 0] rfl ?_
        exact ih (l2 + 1) v19.1 z_p_un v19.2 z_g_vc z_g_ec z_g_F z_g_T z_g_X z_g_Z o h hK
  unfold pX3_solve at h
  refine kw_lv (lv' := [(0, .ref (pa 0)), (1, .ref (ga 0))]) [0, 1] rfl ?_
  refine kw_aload_n hX 0 dX3_solve_0 rfl 0 rfl ?_
  refine kw_aload_n hX 1 dX3_solve_1 rfl 1 rfl ?_
  refine kw_get hX 2 (C := RX2) (T := TX2) (N := 6) hin2 0 f0 (fun _ h => h) 7 rfl rfl (by decide) rfl dX3_solve_2 ?_
  refine kw_iconst hX 5 dX3_solve_5 kci_1 ?_
  refine kw_isub hX 6 dX3_solve_6 ?_
  refine kw_put hX 7 (C := RX3) (T := TX3) (N := 3) (ws' := (kfl [gP Y pa pr p_R (g_vc - 1) p_sc, gG Y ga g_vc g_ec g_F g_T g_X g_Z])) hin3 tyX3 tyX3_ok nmX3 1 f1 (fun _ h => h) 0 rfl rfl (by decide) rfl (ty := .int) (tyX3_ok 1 (by decide)) rfl rfl (Nat.le_of_ble_eq_true rfl) rfl dX3_solve_7 ?_
  refine kw_aload_n hX 10 dX3_solve_10 rfl 0 rfl ?_
  obtain ⟨v1, hc2, h⟩ := kb_some h
  refine kw_callV_V hX 11 (As := []) (rest := []) (kX3_clearRows (kx_l X) Y pa pr p_R (g_vc - 1) p_sc hc2) gX3_solve_X3_clearRows rfl 0 rfl hdV_X3_clearRows ⟨rfl, rfl⟩ ⟨by decide, by decide⟩ ⟨Nat.zero_le _, Nat.zero_le _⟩ rfl (Nat.le_of_ble_eq_true rfl) [0] (by decide) rfl (kfc gP_f kfn0) (gs1 := [gP Y pa pr v1 (g_vc - 1) p_sc, gG Y ga g_vc g_ec g_F g_T g_X g_Z]) rfl 0 3 rfl rfl rfl dX3_solve_11 ?_
  refine kw_iconst hX 14 dX3_solve_14 kci_0 ?_
  refine kw_istore_n (lv' := [(2, .int 0), (0, .ref (pa 0)), (1, .ref (ga 0))]) hX 15 dX3_solve_15 rfl (by decide) rfl ?_
  obtain ⟨v16, hl17, h⟩ := kb_some h
  refine kw_lv (lv' := [(0, .ref (pa 0)), (1, .ref (ga 0)), (2, .int 0)]) [1, 2, 0] rfl ?_
  refine L16 KF 0 v1 (g_vc - 1) p_sc g_vc g_ec g_F g_T g_X g_Z v16 hl17 ?_
  refine kw_aload_n hX 88 dX3_solve_88 rfl 0 rfl ?_
  refine kw_lconst hX 89 dX3_solve_89 kcl_1 ?_
  refine kw_put hX 90 (C := RX3) (T := TX3) (N := 3) (ws' := (kfl [gP Y pa pr v16.2 (g_vc - 1) 1, gG Y ga g_vc g_ec g_F g_T g_X g_Z])) hin3 tyX3 tyX3_ok nmX3 2 f7 (fun _ h => h) 0 rfl rfl (by decide) rfl (ty := .long) (tyX3_ok 2 (by decide)) rfl rfl (Nat.le_of_ble_eq_true rfl) rfl dX3_solve_90 ?_
  refine kw_iconst hX 93 dX3_solve_93 kci_0 ?_
  refine kw_istore_n (lv' := [(2, .int 0), (0, .ref (pa 0)), (1, .ref (ga 0))]) hX 94 dX3_solve_94 rfl (by decide) rfl ?_
  obtain ⟨v21, hl22, h⟩ := kb_some h
  refine kw_lv (lv' := [(0, .ref (pa 0)), (2, .int 0)]) [1, 0] rfl ?_
  refine L95 KF 0 v16.2 (g_vc - 1) 1 g_vc g_ec g_F g_T g_X g_Z v21 hl22 ?_
  obtain rfl := Option.some.inj h
  exact hret _ _ dX3_solve_114
def pX3_unreduced (a1 : Int32) (a2 : Int32) (p_R : Nat → Nat → Int64) (p_un : Int32) : Option (Int64) := (if (1 : Int32) ≤ a1 then kgd (kin (a1 - 1) 5) (kgd (decide ((0 + ((a1 - 1) : Int32).toNatClampNeg) < 5)) (kgd (kin (p_un + a2) 7) (some (p_R (0 + ((a1 - 1) : Int32).toNatClampNeg) ((p_un + a2)).toNatClampNeg)))) else some 0)
def rmX3_unreduced : Room := { frames := 0, cells := 0, slots := 0, locals := 0 }
theorem hdV_X3_unreduced : yX3_unreduced.cls = RX3 ∧ yX3_unreduced.cls ≠ "java/lang/invoke/MethodHandle" ∧ yX3_unreduced.cls ≠ "java/lang/invoke/VarHandle" ∧ (parseMethodDescriptor yX3_unreduced.desc).map (fun d => d.parameters.length) = some 2 := ⟨rfl, by decide +kernel, by decide +kernel, by decide +kernel⟩
set_option maxHeartbeats 4000000 in
set_option maxRecDepth 100000 in
theorem kX3_unreduced (l : Launch) (Y : KY) (pa : Nat → Nat) (pr : Nat → Nat) (p_R : Nat → Nat → Int64) (p_un : Int32) (p_sc : Int64) (a1 : Int32) (a2 : Int32) {o : Int64} (h : pX3_unreduced a1 a2 p_R p_un = some o) : CtL l yX3_unreduced wsX3_unreduced rmX3_unreduced Y [.ref (pa 0), .int a1, .int a2] (kfl [gP Y pa pr p_R p_un p_sc]) o (kfl [gP Y pa pr p_R p_un p_sc]) := by
  refine ctL_intro (cc := cX3_unreduced) (maxL := 3) (own := RX3) (by decide +kernel) rfl rfl (Nat.le_of_ble_eq_true rfl) rfl ?_
  intro X A hX _ hret
  have hin3 : ∀ w ∈ u_ws RX3 TX3 3, w ∈ wsX3_unreduced := by decide +kernel
  have f0 := hX.w (Cond.fieldLink RX3 11 "PeriodicNet$Placement" "rows" "[[J") (by decide +kernel)
  have f1 := hX.w (Cond.fieldLink RX3 16 "PeriodicNet$Placement" "unknowns" "I") (by decide +kernel)
  unfold pX3_unreduced at h
  refine kw_lv (lv' := [(0, .ref (pa 0)), (1, .int a1), (2, .int a2)]) [0, 1, 2] rfl ?_
  refine kw_iload_n hX 0 dX3_unreduced_0 rfl 1 rfl ?_
  refine kw_iconst hX 1 dX3_unreduced_1 kci_1 ?_
  refine kw_icmp_ge hX 2 9 dX3_unreduced_2 (by decide) (fun c1 => ?_) (fun c1 => ?_)
  · have h := kif_t c1 h
    refine kw_aload_n hX 9 dX3_unreduced_9 rfl 0 rfl ?_
    refine kw_get hX 10 (C := RX3) (T := TX3) (N := 3) hin3 0 f0 (fun _ h => h) 0 rfl rfl (by decide) rfl dX3_unreduced_10 ?_
    refine kw_iload_n hX 13 dX3_unreduced_13 rfl 1 rfl ?_
    refine kw_iconst hX 14 dX3_unreduced_14 kci_1 ?_
    refine kw_isub hX 15 dX3_unreduced_15 ?_
    obtain ⟨g2, h⟩ := kgd_some h
    refine kw_aald5 hX 16 1 rfl g2 rfl dX3_unreduced_16 ?_
    refine kw_aload_n hX 17 dX3_unreduced_17 rfl 0 rfl ?_
    refine kw_get hX 18 (C := RX3) (T := TX3) (N := 3) hin3 1 f1 (fun _ h => h) 0 rfl rfl (by decide) rfl dX3_unreduced_18 ?_
    refine kw_iload_n hX 21 dX3_unreduced_21 rfl 2 rfl ?_
    refine kw_iadd hX 22 dX3_unreduced_22 ?_
    obtain ⟨g3, h⟩ := kgd_some h
    obtain ⟨g4, h⟩ := kgd_some h
    refine kw_lald hX 23 (2 + (0 + ((a1 - 1) : Int32).toNatClampNeg)) (gP_row (of_decide_eq_true g3)) g4 dX3_unreduced_23 ?_
    obtain rfl := Option.some.inj h
    exact hret _ _ dX3_unreduced_24
  · have h := kif_f c1 h
    refine kw_lconst hX 5 dX3_unreduced_5 kcl_0 ?_
    refine kw_goto hX 6 24 dX3_unreduced_6 (by decide) ?_
    obtain rfl := Option.some.inj h
    exact hret _ _ dX3_unreduced_24
def pX3_lowered (a1 : Int64) (a2 : Int32) (a3 : Int32) (p_R : Nat → Nat → Int64) (p_un : Int32) (p_sc : Int64) : Option (Int64) := kb (pX3_unreduced a2 a3 p_R p_un) (fun v1 => kb (pX5_greatestDivisor v1 p_sc) (fun v3 => (if (lg_cmp v3 0) = 0 then some a1 else kgd (decide (¬ v3 = 0)) (some (a1 / v3)))))
def rmX3_lowered : Room := { frames := 1, cells := 0, slots := 0, locals := 30 }
theorem hdV_X3_lowered : yX3_lowered.cls = RX3 ∧ yX3_lowered.cls ≠ "java/lang/invoke/MethodHandle" ∧ yX3_lowered.cls ≠ "java/lang/invoke/VarHandle" ∧ (parseMethodDescriptor yX3_lowered.desc).map (fun d => d.parameters.length) = some 3 := ⟨rfl, by decide +kernel, by decide +kernel, by decide +kernel⟩
set_option maxHeartbeats 4000000 in
set_option maxRecDepth 100000 in
theorem kX3_lowered (l : Launch) (Y : KY) (pa : Nat → Nat) (pr : Nat → Nat) (p_R : Nat → Nat → Int64) (p_un : Int32) (p_sc : Int64) (a1 : Int64) (a2 : Int32) (a3 : Int32) {o : Int64} (h : pX3_lowered a1 a2 a3 p_R p_un p_sc = some o) : CtL l yX3_lowered wsX3_lowered rmX3_lowered Y [.ref (pa 0), .long a1, .int a2, .int a3] (kfl [gP Y pa pr p_R p_un p_sc]) o (kfl [gP Y pa pr p_R p_un p_sc]) := by
  refine ctL_intro (cc := cX3_lowered) (maxL := 7) (own := RX3) (by decide +kernel) rfl rfl (Nat.le_of_ble_eq_true rfl) rfl ?_
  intro X A hX _ hret
  have hin3 : ∀ w ∈ u_ws RX3 TX3 3, w ∈ wsX3_lowered := by decide +kernel
  have f0 := hX.w (Cond.fieldLink RX3 20 "PeriodicNet$Placement" "scale" "J") (by decide +kernel)
  have iniX5 := hX.w (Cond.initialized yX5_greatestDivisor.cls) (by decide +kernel)
  have staX5_greatestDivisor := hX.w (Cond.static yX5_greatestDivisor) (by decide +kernel)
  unfold pX3_lowered at h
  refine kw_lv (lv' := [(0, .ref (pa 0)), (1, .long a1), (3, .int a2), (4, .int a3)]) [0, 1, 2, 3] rfl ?_
  refine kw_aload_n hX 0 dX3_lowered_0 rfl 0 rfl ?_
  refine kw_iload_n hX 1 dX3_lowered_1 rfl 2 rfl ?_
  refine kw_iload hX 2 dX3_lowered_2 3 rfl ?_
  obtain ⟨v1, hc2, h⟩ := kb_some h
  refine kw_callV_L hX 4 (As := [.int a2, .int a3]) (rest := []) (kX3_unreduced (kx_l X) Y pa pr p_R p_un p_sc a2 a3 hc2) gX3_lowered_X3_unreduced rfl 2 rfl hdV_X3_unreduced ⟨rfl, rfl⟩ ⟨by decide, by decide⟩ ⟨Nat.zero_le _, Nat.zero_le _⟩ rfl (Nat.le_of_ble_eq_true rfl) [0] (by decide) rfl (kfc rfl kfn0) (gs1 := [gP Y pa pr p_R p_un p_sc]) rfl 0 3 rfl rfl rfl dX3_lowered_4 ?_
  refine kw_aload_n hX 7 dX3_lowered_7 rfl 0 rfl ?_
  refine kw_get hX 8 (C := RX3) (T := TX3) (N := 3) hin3 2 f0 (fun _ h => h) 0 rfl rfl (by decide) rfl dX3_lowered_8 ?_
  obtain ⟨v3, hc4, h⟩ := kb_some h
  refine kw_callSN_L hX 11 (As := [.long v1, .long p_sc]) (rest := []) (kX5_greatestDivisor (kx_l X) Y v1 p_sc hc4) gX3_lowered_X5_greatestDivisor_n68 (kn2 hX) iniX5 staX5_greatestDivisor rfl 2 rfl hdS_X5_greatestDivisor ⟨rfl, rfl⟩ ⟨by decide, by decide⟩ ⟨Nat.zero_le _, Nat.zero_le _⟩ rfl (Nat.le_of_ble_eq_true rfl) [] (by decide) rfl kfn0 (gs1 := [gP Y pa pr p_R p_un p_sc]) rfl dX3_lowered_11 ?_
  refine kw_lstore (lv' := [(5, .long v3), (0, .ref (pa 0)), (1, .long a1), (3, .int a2), (4, .int a3)]) hX 14 dX3_lowered_14 (by decide) rfl ?_
  refine kw_lload hX 16 dX3_lowered_16 0 rfl ?_
  refine kw_lconst hX 18 dX3_lowered_18 kcl_0 ?_
  refine kw_lcmp hX 19 dX3_lowered_19 ?_
  refine kw_if_ne hX 20 27 dX3_lowered_20 (by decide) (fun c5 => ?_) (fun c5 => ?_)
  · have h := kif_f c5 h
    refine kw_lload_n hX 27 dX3_lowered_27 rfl 2 rfl ?_
    refine kw_lload hX 28 dX3_lowered_28 0 rfl ?_
    obtain ⟨g6, h⟩ := kgd_some h
    refine kw_ldiv hX 30 dX3_lowered_30 (of_decide_eq_true g6) ?_
    obtain rfl := Option.some.inj h
    exact hret _ _ dX3_lowered_31
  · have h := kif_t c5 h
    refine kw_lload_n hX 23 dX3_lowered_23 rfl 2 rfl ?_
    refine kw_goto hX 24 31 dX3_lowered_24 (by decide) ?_
    obtain rfl := Option.some.inj h
    exact hret _ _ dX3_lowered_31
def pX3_top (a1 : Int32) (a2 : Int32) (p_R : Nat → Nat → Int64) (p_un : Int32) (p_sc : Int64) : Option (Int64) := kb (pX3_unreduced a1 a2 p_R p_un) (fun v1 => kb (pX3_lowered v1 a1 a2 p_R p_un p_sc) (fun v3 => some v3))
def rmX3_top : Room := { frames := 2, cells := 0, slots := 0, locals := 56 }
theorem hdV_X3_top : yX3_top.cls = RX3 ∧ yX3_top.cls ≠ "java/lang/invoke/MethodHandle" ∧ yX3_top.cls ≠ "java/lang/invoke/VarHandle" ∧ (parseMethodDescriptor yX3_top.desc).map (fun d => d.parameters.length) = some 2 := ⟨rfl, by decide +kernel, by decide +kernel, by decide +kernel⟩
set_option maxHeartbeats 4000000 in
set_option maxRecDepth 100000 in
theorem kX3_top (l : Launch) (Y : KY) (pa : Nat → Nat) (pr : Nat → Nat) (p_R : Nat → Nat → Int64) (p_un : Int32) (p_sc : Int64) (a1 : Int32) (a2 : Int32) {o : Int64} (h : pX3_top a1 a2 p_R p_un p_sc = some o) : CtL l yX3_top wsX3_top rmX3_top Y [.ref (pa 0), .int a1, .int a2] (kfl [gP Y pa pr p_R p_un p_sc]) o (kfl [gP Y pa pr p_R p_un p_sc]) := by
  refine ctL_intro (cc := cX3_top) (maxL := 3) (own := RX3) (by decide +kernel) rfl rfl (Nat.le_of_ble_eq_true rfl) rfl ?_
  intro X A hX _ hret
  unfold pX3_top at h
  refine kw_lv (lv' := [(0, .ref (pa 0)), (1, .int a1), (2, .int a2)]) [0, 1, 2] rfl ?_
  refine kw_aload_n hX 0 dX3_top_0 rfl 0 rfl ?_
  refine kw_aload_n hX 1 dX3_top_1 rfl 0 rfl ?_
  refine kw_iload_n hX 2 dX3_top_2 rfl 1 rfl ?_
  refine kw_iload_n hX 3 dX3_top_3 rfl 2 rfl ?_
  obtain ⟨v1, hc2, h⟩ := kb_some h
  refine kw_callV_L hX 4 (As := [.int a1, .int a2]) (rest := [.ref (pa 0)]) (kX3_unreduced (kx_l X) Y pa pr p_R p_un p_sc a1 a2 hc2) gX3_top_X3_unreduced rfl 2 rfl hdV_X3_unreduced ⟨rfl, rfl⟩ ⟨by decide, by decide⟩ ⟨Nat.zero_le _, Nat.zero_le _⟩ rfl (Nat.le_of_ble_eq_true rfl) [0] (by decide) rfl (kfc rfl kfn0) (gs1 := [gP Y pa pr p_R p_un p_sc]) rfl 0 3 rfl rfl rfl dX3_top_4 ?_
  refine kw_iload_n hX 7 dX3_top_7 rfl 1 rfl ?_
  refine kw_iload_n hX 8 dX3_top_8 rfl 2 rfl ?_
  obtain ⟨v3, hc4, h⟩ := kb_some h
  refine kw_callV_L hX 9 (As := [.long v1, .int a1, .int a2]) (rest := []) (kX3_lowered (kx_l X) Y pa pr p_R p_un p_sc v1 a1 a2 hc4) gX3_top_X3_lowered rfl 3 rfl hdV_X3_lowered ⟨rfl, rfl⟩ ⟨by decide, by decide⟩ ⟨Nat.zero_le _, Nat.zero_le _⟩ rfl (Nat.le_of_ble_eq_true rfl) [0] (by decide) rfl (kfc rfl kfn0) (gs1 := [gP Y pa pr p_R p_un p_sc]) rfl 0 3 rfl rfl rfl dX3_top_9 ?_
  obtain rfl := Option.some.inj h
  exact hret _ _ dX3_top_12
def pX3_bottom (a1 : Int32) (a2 : Int32) (p_R : Nat → Nat → Int64) (p_un : Int32) (p_sc : Int64) : Option (Int64) := kb (pX3_lowered p_sc a1 a2 p_R p_un p_sc) (fun v1 => some v1)
def rmX3_bottom : Room := { frames := 2, cells := 0, slots := 0, locals := 56 }
theorem hdV_X3_bottom : yX3_bottom.cls = RX3 ∧ yX3_bottom.cls ≠ "java/lang/invoke/MethodHandle" ∧ yX3_bottom.cls ≠ "java/lang/invoke/VarHandle" ∧ (parseMethodDescriptor yX3_bottom.desc).map (fun d => d.parameters.length) = some 2 := ⟨rfl, by decide +kernel, by decide +kernel, by decide +kernel⟩
set_option maxHeartbeats 4000000 in
set_option maxRecDepth 100000 in
theorem kX3_bottom (l : Launch) (Y : KY) (pa : Nat → Nat) (pr : Nat → Nat) (p_R : Nat → Nat → Int64) (p_un : Int32) (p_sc : Int64) (a1 : Int32) (a2 : Int32) {o : Int64} (h : pX3_bottom a1 a2 p_R p_un p_sc = some o) : CtL l yX3_bottom wsX3_bottom rmX3_bottom Y [.ref (pa 0), .int a1, .int a2] (kfl [gP Y pa pr p_R p_un p_sc]) o (kfl [gP Y pa pr p_R p_un p_sc]) := by
  refine ctL_intro (cc := cX3_bottom) (maxL := 3) (own := RX3) (by decide +kernel) rfl rfl (Nat.le_of_ble_eq_true rfl) rfl ?_
  intro X A hX _ hret
  have hin3 : ∀ w ∈ u_ws RX3 TX3 3, w ∈ wsX3_bottom := by decide +kernel
  have f0 := hX.w (Cond.fieldLink RX3 20 "PeriodicNet$Placement" "scale" "J") (by decide +kernel)
  unfold pX3_bottom at h
  refine kw_lv (lv' := [(0, .ref (pa 0)), (1, .int a1), (2, .int a2)]) [0, 1, 2] rfl ?_
  refine kw_aload_n hX 0 dX3_bottom_0 rfl 0 rfl ?_
  refine kw_aload_n hX 1 dX3_bottom_1 rfl 0 rfl ?_
  refine kw_get hX 2 (C := RX3) (T := TX3) (N := 3) hin3 2 f0 (fun _ h => h) 0 rfl rfl (by decide) rfl dX3_bottom_2 ?_
  refine kw_iload_n hX 5 dX3_bottom_5 rfl 1 rfl ?_
  refine kw_iload_n hX 6 dX3_bottom_6 rfl 2 rfl ?_
  obtain ⟨v1, hc2, h⟩ := kb_some h
  refine kw_callV_L hX 7 (As := [.long p_sc, .int a1, .int a2]) (rest := []) (kX3_lowered (kx_l X) Y pa pr p_R p_un p_sc p_sc a1 a2 hc2) gX3_bottom_X3_lowered rfl 3 rfl hdV_X3_lowered ⟨rfl, rfl⟩ ⟨by decide, by decide⟩ ⟨Nat.zero_le _, Nat.zero_le _⟩ rfl (Nat.le_of_ble_eq_true rfl) [0] (by decide) rfl (kfc rfl kfn0) (gs1 := [gP Y pa pr p_R p_un p_sc]) rfl 0 3 rfl rfl rfl dX3_bottom_7 ?_
  obtain rfl := Option.some.inj h
  exact hret _ _ dX3_bottom_10
def pX3_isWholeApart (a1 : Int32) (a2 : Int32) (a3 : Int32) (p_R : Nat → Nat → Int64) (p_un : Int32) (p_sc : Int64) : Option (Int32) := (if (lg_cmp p_sc 0) = 0 then some 0 else kb (pX3_unreduced a1 a3 p_R p_un) (fun v2 => kb (pX3_unreduced a2 a3 p_R p_un) (fun v4 => kgd (decide (¬ p_sc = 0)) ((if (lg_cmp ((v2 - v4) - (v2 - v4) / p_sc * p_sc) 0) = 0 then some 1 else some 0)))))
def rmX3_isWholeApart : Room := { frames := 1, cells := 0, slots := 0, locals := 22 }
theorem hdV_X3_isWholeApart : yX3_isWholeApart.cls = RX3 ∧ yX3_isWholeApart.cls ≠ "java/lang/invoke/MethodHandle" ∧ yX3_isWholeApart.cls ≠ "java/lang/invoke/VarHandle" ∧ (parseMethodDescriptor yX3_isWholeApart.desc).map (fun d => d.parameters.length) = some 3 := ⟨rfl, by decide +kernel, by decide +kernel, by decide +kernel⟩
set_option maxHeartbeats 4000000 in
set_option maxRecDepth 100000 in
theorem kX3_isWholeApart (l : Launch) (Y : KY) (pa : Nat → Nat) (pr : Nat → Nat) (p_R : Nat → Nat → Int64) (p_un : Int32) (p_sc : Int64) (a1 : Int32) (a2 : Int32) (a3 : Int32) {o : Int32} (h : pX3_isWholeApart a1 a2 a3 p_R p_un p_sc = some o) : CtI l yX3_isWholeApart wsX3_isWholeApart rmX3_isWholeApart Y [.ref (pa 0), .int a1, .int a2, .int a3] (kfl [gP Y pa pr p_R p_un p_sc]) o (kfl [gP Y pa pr p_R p_un p_sc]) := by
  refine ctI_intro (cc := cX3_isWholeApart) (maxL := 4) (own := RX3) (by decide +kernel) rfl rfl (Nat.le_of_ble_eq_true rfl) rfl ?_
  intro X A hX _ hret
  have hin3 : ∀ w ∈ u_ws RX3 TX3 3, w ∈ wsX3_isWholeApart := by decide +kernel
  have f0 := hX.w (Cond.fieldLink RX3 20 "PeriodicNet$Placement" "scale" "J") (by decide +kernel)
  unfold pX3_isWholeApart at h
  refine kw_lv (lv' := [(0, .ref (pa 0)), (1, .int a1), (2, .int a2), (3, .int a3)]) [0, 1, 2, 3] rfl ?_
  refine kw_aload_n hX 0 dX3_isWholeApart_0 rfl 0 rfl ?_
  refine kw_get hX 1 (C := RX3) (T := TX3) (N := 3) hin3 2 f0 (fun _ h => h) 0 rfl rfl (by decide) rfl dX3_isWholeApart_1 ?_
  refine kw_lconst hX 4 dX3_isWholeApart_4 kcl_0 ?_
  refine kw_lcmp hX 5 dX3_isWholeApart_5 ?_
  refine kw_if_eq hX 6 36 dX3_isWholeApart_6 (by decide) (fun c1 => ?_) (fun c1 => ?_)
  · have h := kif_t c1 h
    refine kw_iconst hX 36 dX3_isWholeApart_36 kci_0 ?_
    obtain rfl := Option.some.inj h
    exact hret _ _ dX3_isWholeApart_37 rfl
  · have h := kif_f c1 h
    refine kw_aload_n hX 9 dX3_isWholeApart_9 rfl 0 rfl ?_
    refine kw_iload_n hX 10 dX3_isWholeApart_10 rfl 1 rfl ?_
    refine kw_iload_n hX 11 dX3_isWholeApart_11 rfl 3 rfl ?_
    obtain ⟨v2, hc3, h⟩ := kb_some h
    refine kw_callV_L hX 12 (As := [.int a1, .int a3]) (rest := []) (kX3_unreduced (kx_l X) Y pa pr p_R p_un p_sc a1 a3 hc3) gX3_isWholeApart_X3_unreduced rfl 2 rfl hdV_X3_unreduced ⟨rfl, rfl⟩ ⟨by decide, by decide⟩ ⟨Nat.zero_le _, Nat.zero_le _⟩ rfl (Nat.le_of_ble_eq_true rfl) [0] (by decide) rfl (kfc rfl kfn0) (gs1 := [gP Y pa pr p_R p_un p_sc]) rfl 0 3 rfl rfl rfl dX3_isWholeApart_12 ?_
    refine kw_aload_n hX 15 dX3_isWholeApart_15 rfl 0 rfl ?_
    refine kw_iload_n hX 16 dX3_isWholeApart_16 rfl 2 rfl ?_
    refine kw_iload_n hX 17 dX3_isWholeApart_17 rfl 3 rfl ?_
    obtain ⟨v4, hc5, h⟩ := kb_some h
    refine kw_callV_L hX 18 (As := [.int a2, .int a3]) (rest := [.long v2]) (kX3_unreduced (kx_l X) Y pa pr p_R p_un p_sc a2 a3 hc5) gX3_isWholeApart_X3_unreduced rfl 2 rfl hdV_X3_unreduced ⟨rfl, rfl⟩ ⟨by decide, by decide⟩ ⟨Nat.zero_le _, Nat.zero_le _⟩ rfl (Nat.le_of_ble_eq_true rfl) [0] (by decide) rfl (kfc rfl kfn0) (gs1 := [gP Y pa pr p_R p_un p_sc]) rfl 0 3 rfl rfl rfl dX3_isWholeApart_18 ?_
    refine kw_lsub hX 21 dX3_isWholeApart_21 ?_
    refine kw_aload_n hX 22 dX3_isWholeApart_22 rfl 0 rfl ?_
    refine kw_get hX 23 (C := RX3) (T := TX3) (N := 3) hin3 2 f0 (fun _ h => h) 0 rfl rfl (by decide) rfl dX3_isWholeApart_23 ?_
    obtain ⟨g6, h⟩ := kgd_some h
    refine kw_lrem hX 26 dX3_isWholeApart_26 (of_decide_eq_true g6) ?_
    refine kw_lconst hX 27 dX3_isWholeApart_27 kcl_0 ?_
    refine kw_lcmp hX 28 dX3_isWholeApart_28 ?_
    refine kw_if_ne hX 29 36 dX3_isWholeApart_29 (by decide) (fun c7 => ?_) (fun c7 => ?_)
    · have h := kif_f c7 h
      refine kw_iconst hX 36 dX3_isWholeApart_36 kci_0 ?_
      obtain rfl := Option.some.inj h
      exact hret _ _ dX3_isWholeApart_37 rfl
    · have h := kif_t c7 h
      refine kw_iconst hX 32 dX3_isWholeApart_32 kci_1 ?_
      refine kw_goto hX 33 37 dX3_isWholeApart_33 (by decide) ?_
      obtain rfl := Option.some.inj h
      exact hret _ _ dX3_isWholeApart_37 rfl
def pX3_meet (a1 : Int32) (a2 : Int32) (p_R : Nat → Nat → Int64) (p_un : Int32) (p_sc : Int64) : Option (Int32) := kb (pX3_isWholeApart a1 a2 0 p_R p_un p_sc) (fun v1 => (if v1 = 0 then some 0 else kb (pX3_isWholeApart a1 a2 1 p_R p_un p_sc) (fun v4 => (if v4 = 0 then some 0 else some 1))))
def rmX3_meet : Room := { frames := 2, cells := 0, slots := 0, locals := 45 }
theorem hdV_X3_meet : yX3_meet.cls = RX3 ∧ yX3_meet.cls ≠ "java/lang/invoke/MethodHandle" ∧ yX3_meet.cls ≠ "java/lang/invoke/VarHandle" ∧ (parseMethodDescriptor yX3_meet.desc).map (fun d => d.parameters.length) = some 2 := ⟨rfl, by decide +kernel, by decide +kernel, by decide +kernel⟩
set_option maxHeartbeats 4000000 in
set_option maxRecDepth 100000 in
theorem kX3_meet (l : Launch) (Y : KY) (pa : Nat → Nat) (pr : Nat → Nat) (p_R : Nat → Nat → Int64) (p_un : Int32) (p_sc : Int64) (a1 : Int32) (a2 : Int32) {o : Int32} (h : pX3_meet a1 a2 p_R p_un p_sc = some o) : CtI l yX3_meet wsX3_meet rmX3_meet Y [.ref (pa 0), .int a1, .int a2] (kfl [gP Y pa pr p_R p_un p_sc]) o (kfl [gP Y pa pr p_R p_un p_sc]) := by
  refine ctI_intro (cc := cX3_meet) (maxL := 3) (own := RX3) (by decide +kernel) rfl rfl (Nat.le_of_ble_eq_true rfl) rfl ?_
  intro X A hX _ hret
  unfold pX3_meet at h
  refine kw_lv (lv' := [(0, .ref (pa 0)), (1, .int a1), (2, .int a2)]) [0, 1, 2] rfl ?_
  refine kw_aload_n hX 0 dX3_meet_0 rfl 0 rfl ?_
  refine kw_iload_n hX 1 dX3_meet_1 rfl 1 rfl ?_
  refine kw_iload_n hX 2 dX3_meet_2 rfl 2 rfl ?_
  refine kw_iconst hX 3 dX3_meet_3 kci_0 ?_
  obtain ⟨v1, hc2, h⟩ := kb_some h
  refine kw_callV_I hX 4 (As := [.int a1, .int a2, .int 0]) (rest := []) (kX3_isWholeApart (kx_l X) Y pa pr p_R p_un p_sc a1 a2 0 hc2) gX3_meet_X3_isWholeApart rfl 3 rfl hdV_X3_isWholeApart ⟨rfl, rfl⟩ ⟨by decide, by decide⟩ ⟨Nat.zero_le _, Nat.zero_le _⟩ rfl (Nat.le_of_ble_eq_true rfl) [0] (by decide) rfl (kfc rfl kfn0) (gs1 := [gP Y pa pr p_R p_un p_sc]) rfl 0 3 rfl rfl rfl dX3_meet_4 ?_
  refine kw_if_eq hX 7 24 dX3_meet_7 (by decide) (fun c3 => ?_) (fun c3 => ?_)
  · have h := kif_t c3 h
    refine kw_iconst hX 24 dX3_meet_24 kci_0 ?_
    obtain rfl := Option.some.inj h
    exact hret _ _ dX3_meet_25 rfl
  · have h := kif_f c3 h
    refine kw_aload_n hX 10 dX3_meet_10 rfl 0 rfl ?_
    refine kw_iload_n hX 11 dX3_meet_11 rfl 1 rfl ?_
    refine kw_iload_n hX 12 dX3_meet_12 rfl 2 rfl ?_
    refine kw_iconst hX 13 dX3_meet_13 kci_1 ?_
    obtain ⟨v4, hc5, h⟩ := kb_some h
    refine kw_callV_I hX 14 (As := [.int a1, .int a2, .int 1]) (rest := []) (kX3_isWholeApart (kx_l X) Y pa pr p_R p_un p_sc a1 a2 1 hc5) gX3_meet_X3_isWholeApart rfl 3 rfl hdV_X3_isWholeApart ⟨rfl, rfl⟩ ⟨by decide, by decide⟩ ⟨Nat.zero_le _, Nat.zero_le _⟩ rfl (Nat.le_of_ble_eq_true rfl) [0] (by decide) rfl (kfc rfl kfn0) (gs1 := [gP Y pa pr p_R p_un p_sc]) rfl 0 3 rfl rfl rfl dX3_meet_14 ?_
    refine kw_if_eq hX 17 24 dX3_meet_17 (by decide) (fun c6 => ?_) (fun c6 => ?_)
    · have h := kif_t c6 h
      refine kw_iconst hX 24 dX3_meet_24 kci_0 ?_
      obtain rfl := Option.some.inj h
      exact hret _ _ dX3_meet_25 rfl
    · have h := kif_f c6 h
      refine kw_iconst hX 20 dX3_meet_20 kci_1 ?_
      refine kw_goto hX 21 25 dX3_meet_21 (by decide) ?_
      obtain rfl := Option.some.inj h
      exact hret _ _ dX3_meet_25 rfl
