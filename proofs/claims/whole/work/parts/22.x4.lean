def pX4_nodeAt (a1 : Int32) (a2 : Int32) (a3 : Int32)  : Option (Int32) := (if a2 < ((-16) : Int32) then some (-1) else (if (16 : Int32) < a2 then some (-1) else (if a3 < ((-16) : Int32) then some (-1) else (if a3 ≤ (16 : Int32) then some ((((((a2 + 16) * 33) + a3) + 16) * 6) + a1) else some (-1)))))
def rmX4_nodeAt : Room := { frames := 0, cells := 0, slots := 0, locals := 0 }
theorem hdV_X4_nodeAt : yX4_nodeAt.cls = RX4 ∧ yX4_nodeAt.cls ≠ "java/lang/invoke/MethodHandle" ∧ yX4_nodeAt.cls ≠ "java/lang/invoke/VarHandle" ∧ (parseMethodDescriptor yX4_nodeAt.desc).map (fun d => d.parameters.length) = some 3 := ⟨rfl, by decide +kernel, by decide +kernel, by decide +kernel⟩
set_option maxHeartbeats 4000000 in
set_option maxRecDepth 100000 in
theorem kX4_nodeAt (l : Launch) (Y : KY) (sa : Nat → Nat) (s_fi : Int32) (s_ta : Int32) (s_st : Nat → Int32) (s_qu : Nat → Int32) (a1 : Int32) (a2 : Int32) (a3 : Int32) {o : Int32} (h : pX4_nodeAt a1 a2 a3 = some o) : CtI l yX4_nodeAt wsX4_nodeAt rmX4_nodeAt Y [.ref (sa 0), .int a1, .int a2, .int a3] (kfl [gS Y sa s_fi s_ta s_st s_qu]) o (kfl [gS Y sa s_fi s_ta s_st s_qu]) := by
  refine ctI_intro (cc := cX4_nodeAt) (maxL := 4) (own := RX4) (by decide +kernel) rfl rfl (Nat.le_of_ble_eq_true rfl) rfl ?_
  intro X A hX _ hret
  unfold pX4_nodeAt at h
  refine kw_lv (lv' := [(0, .ref (sa 0)), (1, .int a1), (2, .int a2), (3, .int a3)]) [0, 1, 2, 3] rfl ?_
  refine kw_iload_n hX 0 dX4_nodeAt_0 rfl 2 rfl ?_
  refine kw_bipush hX 1 dX4_nodeAt_1 kcb_m16 ?_
  refine kw_icmp_lt hX 3 24 dX4_nodeAt_3 (by decide) (fun c1 => ?_) (fun c1 => ?_)
  · have h := kif_t c1 h
    refine kw_iconst hX 24 dX4_nodeAt_24 kci_m1 ?_
    obtain rfl := Option.some.inj h
    exact hret _ _ dX4_nodeAt_25 rfl
  · have h := kif_f c1 h
    refine kw_iload_n hX 6 dX4_nodeAt_6 rfl 2 rfl ?_
    refine kw_bipush hX 7 dX4_nodeAt_7 kcb_16 ?_
    refine kw_icmp_gt hX 9 24 dX4_nodeAt_9 (by decide) (fun c2 => ?_) (fun c2 => ?_)
    · have h := kif_t c2 h
      refine kw_iconst hX 24 dX4_nodeAt_24 kci_m1 ?_
      obtain rfl := Option.some.inj h
      exact hret _ _ dX4_nodeAt_25 rfl
    · have h := kif_f c2 h
      refine kw_iload_n hX 12 dX4_nodeAt_12 rfl 3 rfl ?_
      refine kw_bipush hX 13 dX4_nodeAt_13 kcb_m16 ?_
      refine kw_icmp_lt hX 15 24 dX4_nodeAt_15 (by decide) (fun c3 => ?_) (fun c3 => ?_)
      · have h := kif_t c3 h
        refine kw_iconst hX 24 dX4_nodeAt_24 kci_m1 ?_
        obtain rfl := Option.some.inj h
        exact hret _ _ dX4_nodeAt_25 rfl
      · have h := kif_f c3 h
        refine kw_iload_n hX 18 dX4_nodeAt_18 rfl 3 rfl ?_
        refine kw_bipush hX 19 dX4_nodeAt_19 kcb_16 ?_
        refine kw_icmp_le hX 21 26 dX4_nodeAt_21 (by decide) (fun c4 => ?_) (fun c4 => ?_)
        · have h := kif_t c4 h
          refine kw_iload_n hX 26 dX4_nodeAt_26 rfl 2 rfl ?_
          refine kw_bipush hX 27 dX4_nodeAt_27 kcb_16 ?_
          refine kw_iadd hX 29 dX4_nodeAt_29 ?_
          refine kw_bipush hX 30 dX4_nodeAt_30 kcb_33 ?_
          refine kw_imul hX 32 dX4_nodeAt_32 ?_
          refine kw_iload_n hX 33 dX4_nodeAt_33 rfl 3 rfl ?_
          refine kw_iadd hX 34 dX4_nodeAt_34 ?_
          refine kw_bipush hX 35 dX4_nodeAt_35 kcb_16 ?_
          refine kw_iadd hX 37 dX4_nodeAt_37 ?_
          refine kw_bipush hX 38 dX4_nodeAt_38 kcb_6 ?_
          refine kw_imul hX 40 dX4_nodeAt_40 ?_
          refine kw_iload_n hX 41 dX4_nodeAt_41 rfl 1 rfl ?_
          refine kw_iadd hX 42 dX4_nodeAt_42 ?_
          obtain rfl := Option.some.inj h
          exact hret _ _ dX4_nodeAt_43 rfl
        · have h := kif_f c4 h
          refine kw_iconst hX 24 dX4_nodeAt_24 kci_m1 ?_
          obtain rfl := Option.some.inj h
          exact hret _ _ dX4_nodeAt_25 rfl
def pX4_stepsTo (a1 : Int32) (s_st : Nat → Int32) : Option (Int32) := (if a1 < 0 then some (-1) else (if a1 < (6534 : Int32) then kgd (kin a1 6534) (some (s_st (a1 : Int32).toNatClampNeg)) else some (-1)))
def rmX4_stepsTo : Room := { frames := 0, cells := 0, slots := 0, locals := 0 }
theorem hdV_X4_stepsTo : yX4_stepsTo.cls = RX4 ∧ yX4_stepsTo.cls ≠ "java/lang/invoke/MethodHandle" ∧ yX4_stepsTo.cls ≠ "java/lang/invoke/VarHandle" ∧ (parseMethodDescriptor yX4_stepsTo.desc).map (fun d => d.parameters.length) = some 1 := ⟨rfl, by decide +kernel, by decide +kernel, by decide +kernel⟩
set_option maxHeartbeats 4000000 in
set_option maxRecDepth 100000 in
theorem kX4_stepsTo (l : Launch) (Y : KY) (sa : Nat → Nat) (s_fi : Int32) (s_ta : Int32) (s_st : Nat → Int32) (s_qu : Nat → Int32) (a1 : Int32) {o : Int32} (h : pX4_stepsTo a1 s_st = some o) : CtI l yX4_stepsTo wsX4_stepsTo rmX4_stepsTo Y [.ref (sa 0), .int a1] (kfl [gS Y sa s_fi s_ta s_st s_qu]) o (kfl [gS Y sa s_fi s_ta s_st s_qu]) := by
  refine ctI_intro (cc := cX4_stepsTo) (maxL := 2) (own := RX4) (by decide +kernel) rfl rfl (Nat.le_of_ble_eq_true rfl) rfl ?_
  intro X A hX _ hret
  have hin4 : ∀ w ∈ u_ws RX4 TX4 4, w ∈ wsX4_stepsTo := by decide +kernel
  have f0 := hX.w (Cond.fieldLink RX4 11 "PeriodicNet$Search" "stepsOf" "[I") (by decide +kernel)
  unfold pX4_stepsTo at h
  refine kw_lv (lv' := [(0, .ref (sa 0)), (1, .int a1)]) [0, 1] rfl ?_
  refine kw_iload_n hX 0 dX4_stepsTo_0 rfl 1 rfl ?_
  refine kw_if_lt hX 1 11 dX4_stepsTo_1 (by decide) (fun c1 => ?_) (fun c1 => ?_)
  · have h := kif_t c1 h
    refine kw_iconst hX 11 dX4_stepsTo_11 kci_m1 ?_
    refine kw_goto hX 12 21 dX4_stepsTo_12 (by decide) ?_
    obtain rfl := Option.some.inj h
    exact hret _ _ dX4_stepsTo_21 rfl
  · have h := kif_f c1 h
    refine kw_iload_n hX 4 dX4_stepsTo_4 rfl 1 rfl ?_
    refine kw_sipush hX 5 dX4_stepsTo_5 kcs_6534 ?_
    refine kw_icmp_lt hX 8 15 dX4_stepsTo_8 (by decide) (fun c2 => ?_) (fun c2 => ?_)
    · have h := kif_t c2 h
      refine kw_aload_n hX 15 dX4_stepsTo_15 rfl 0 rfl ?_
      refine kw_get hX 16 (C := RX4) (T := TX4) (N := 4) hin4 0 f0 (fun _ h => h) 0 rfl rfl (by decide) rfl dX4_stepsTo_16 ?_
      refine kw_iload_n hX 19 dX4_stepsTo_19 rfl 1 rfl ?_
      obtain ⟨g3, h⟩ := kgd_some h
      refine kw_iald hX 20 1 rfl g3 dX4_stepsTo_20 ?_
      obtain rfl := Option.some.inj h
      exact hret _ _ dX4_stepsTo_21 rfl
    · have h := kif_f c2 h
      refine kw_iconst hX 11 dX4_stepsTo_11 kci_m1 ?_
      refine kw_goto hX 12 21 dX4_stepsTo_12 (by decide) ?_
      obtain rfl := Option.some.inj h
      exact hret _ _ dX4_stepsTo_21 rfl
def pX4_forget_L2 : Nat → Int32 → Int32 → (Nat → Int32) → (Nat → Int32) → Option (Int32 × (Nat → Int32))
  | 0, _, _, _, _ => none
  | n + 1, l1, z_s_ta, z_s_st, z_s_qu => (if z_s_ta ≤ l1 then some (l1, z_s_st) else kgd (kin l1 6534) (kgd (kin (z_s_qu (l1 : Int32).toNatClampNeg) 6534) (pX4_forget_L2 n (l1 + 1) z_s_ta (upd z_s_st ((z_s_qu (l1 : Int32).toNatClampNeg) : Int32).toNatClampNeg (-1)) z_s_qu)))
def pX4_forget  (s_fi : Int32) (s_ta : Int32) (s_st : Nat → Int32) (s_qu : Nat → Int32) : Option (Int32 × Int32 × (Nat → Int32)) := kb (pX4_forget_L2 KF 0 s_ta s_st s_qu) (fun v4 => some (0, 0, v4.2))
def rmX4_forget : Room := { frames := 0, cells := 0, slots := 0, locals := 0 }
theorem hdV_X4_forget : yX4_forget.cls = RX4 ∧ yX4_forget.cls ≠ "java/lang/invoke/MethodHandle" ∧ yX4_forget.cls ≠ "java/lang/invoke/VarHandle" ∧ (parseMethodDescriptor yX4_forget.desc).map (fun d => d.parameters.length) = some 0 := ⟨rfl, by decide +kernel, by decide +kernel, by decide +kernel⟩
set_option maxHeartbeats 4000000 in
set_option maxRecDepth 100000 in
theorem kX4_forget (l : Launch) (Y : KY) (sa : Nat → Nat) (s_fi : Int32) (s_ta : Int32) (s_st : Nat → Int32) (s_qu : Nat → Int32)  {o : Int32 × Int32 × (Nat → Int32)} (h : pX4_forget s_fi s_ta s_st s_qu = some o) : CtV l yX4_forget wsX4_forget rmX4_forget Y [.ref (sa 0)] (kfl [gS Y sa s_fi s_ta s_st s_qu]) (kfl [gS Y sa o.1 o.2.1 o.2.2 s_qu]) := by
  refine ctV_intro (cc := cX4_forget) (maxL := 2) (own := RX4) (by decide +kernel) rfl rfl (Nat.le_of_ble_eq_true rfl) rfl ?_
  intro X A hX _ hret
  have hin4 : ∀ w ∈ u_ws RX4 TX4 4, w ∈ wsX4_forget := by decide +kernel
  have f0 := hX.w (Cond.fieldLink RX4 22 "PeriodicNet$Search" "tail" "I") (by decide +kernel)
  have f1 := hX.w (Cond.fieldLink RX4 11 "PeriodicNet$Search" "stepsOf" "[I") (by decide +kernel)
  have f2 := hX.w (Cond.fieldLink RX4 15 "PeriodicNet$Search" "queue" "[I") (by decide +kernel)
  have f3 := hX.w (Cond.fieldLink RX4 18 "PeriodicNet$Search" "first" "I") (by decide +kernel)
  have L2 : ∀ (n : Nat) (l1 : Int32) (z_s_fi : Int32) (z_s_ta : Int32) (z_s_st : Nat → Int32) (z_s_qu : Nat → Int32) (o : Int32 × (Nat → Int32)), pX4_forget_L2 n l1 z_s_ta z_s_st z_s_qu = some o → KW X Y A 2 0 0 (kfl [gS Y sa z_s_fi z_s_ta o.2 z_s_qu]) [(0, .ref (sa 0)), (1, .int o.1)] 28 [] → KW X Y A 2 0 0 (kfl [gS Y sa z_s_fi z_s_ta z_s_st z_s_qu]) [(0, .ref (sa 0)), (1, .int l1)] 2 [] := by
    intro n
    induction n with
    | zero => intro l1 z_s_fi z_s_ta z_s_st z_s_qu o h; cases h
    | succ n ih =>
      intro l1 z_s_fi z_s_ta z_s_st z_s_qu o h hK
      rw [pX4_forget_L2] at h
      refine kw_iload_n hX 2 dX4_forget_2 rfl 1 rfl ?_
      refine kw_aload_n hX 3 dX4_forget_3 rfl 0 rfl ?_
      refine kw_get hX 4 (C := RX4) (T := TX4) (N := 4) hin4 3 f0 (fun _ h => h) 0 rfl rfl (by decide) rfl dX4_forget_4 ?_
      refine kw_icmp_ge hX 7 28 dX4_forget_7 (by decide) (fun c1 => ?_) (fun c1 => ?_)
      · have h := kif_t c1 h
        obtain rfl := Option.some.inj h
        refine kw_lv (lv' := [(0, .ref (sa 0)), (1, .int l1)]) [0, 1] rfl ?_
        exact hK
      · have h := kif_f c1 h
        refine kw_aload_n hX 10 dX4_forget_10 rfl 0 rfl ?_
        refine kw_get hX 11 (C := RX4) (T := TX4) (N := 4) hin4 0 f1 (fun _ h => h) 0 rfl rfl (by decide) rfl dX4_forget_11 ?_
        refine kw_aload_n hX 14 dX4_forget_14 rfl 0 rfl ?_
        refine kw_get hX 15 (C := RX4) (T := TX4) (N := 4) hin4 1 f2 (fun _ h => h) 0 rfl rfl (by decide) rfl dX4_forget_15 ?_
        refine kw_iload_n hX 18 dX4_forget_18 rfl 1 rfl ?_
        obtain ⟨g2, h⟩ := kgd_some h
        refine kw_iald hX 19 2 rfl g2 dX4_forget_19 ?_
        refine kw_iconst hX 20 dX4_forget_20 kci_m1 ?_
        obtain ⟨g3, h⟩ := kgd_some h
        refine kw_iast hX 21 (ws' := (kfl [gS Y sa z_s_fi z_s_ta (upd z_s_st ((z_s_qu (l1 : Int32).toNatClampNeg) : Int32).toNatClampNeg (-1)) z_s_qu])) 1 rfl g3 rfl dX4_forget_21 ?_
        refine kw_iinc (v := (l1 + 1)) (lv' := [(1, .int (l1 + 1)), (0, .ref (sa 0))]) hX 22 dX4_forget_22 1 rfl (kinc_1 _) (by decide) rfl ?_
        refine kw_goto hX 25 2 dX4_forget_25 (by decide) ?_
        refine kw_lv (lv' := [(0, .ref (sa 0)), (1, .int (l1 + 1))]) [1, 0] rfl ?_
        exact ih (l1 + 1) z_s_fi z_s_ta (upd z_s_st ((z_s_qu (l1 : Int32).toNatClampNeg) : Int32).toNatClampNeg (-1)) z_s_qu o h hK
  unfold pX4_forget at h
  refine kw_lv (lv' := [(0, .ref (sa 0))]) [0] rfl ?_
  refine kw_iconst hX 0 dX4_forget_0 kci_0 ?_
  refine kw_istore_n (lv' := [(1, .int 0), (0, .ref (sa 0))]) hX 1 dX4_forget_1 rfl (by decide) rfl ?_
  obtain ⟨v4, hl5, h⟩ := kb_some h
  refine kw_lv (lv' := [(0, .ref (sa 0)), (1, .int 0)]) [1, 0] rfl ?_
  refine L2 KF 0 s_fi s_ta s_st s_qu v4 hl5 ?_
  refine kw_aload_n hX 28 dX4_forget_28 rfl 0 rfl ?_
  refine kw_iconst hX 29 dX4_forget_29 kci_0 ?_
  refine kw_put hX 30 (C := RX4) (T := TX4) (N := 4) (ws' := (kfl [gS Y sa 0 s_ta v4.2 s_qu])) hin4 tyX4 tyX4_ok nmX4 2 f3 (fun _ h => h) 0 rfl rfl (by decide) rfl (ty := .int) (tyX4_ok 2 (by decide)) rfl rfl (Nat.le_of_ble_eq_true rfl) rfl dX4_forget_30 ?_
  refine kw_aload_n hX 33 dX4_forget_33 rfl 0 rfl ?_
  refine kw_iconst hX 34 dX4_forget_34 kci_0 ?_
  refine kw_put hX 35 (C := RX4) (T := TX4) (N := 4) (ws' := (kfl [gS Y sa 0 0 v4.2 s_qu])) hin4 tyX4 tyX4_ok nmX4 3 f0 (fun _ h => h) 0 rfl rfl (by decide) rfl (ty := .int) (tyX4_ok 3 (by decide)) rfl rfl (Nat.le_of_ble_eq_true rfl) rfl dX4_forget_35 ?_
  obtain rfl := Option.some.inj h
  exact hret _ _ dX4_forget_38
def pX4_mark (a1 : Int32) (a2 : Int32) (s_ta : Int32) (s_st : Nat → Int32) (s_qu : Nat → Int32) : Option (Int32 × (Nat → Int32) × (Nat → Int32)) := (if a1 < 0 then some (s_ta, s_st, s_qu) else (if (6534 : Int32) ≤ a1 then some (s_ta, s_st, s_qu) else kgd (kin a1 6534) ((if (s_st (a1 : Int32).toNatClampNeg) = ((-1) : Int32) then (if (6534 : Int32) ≤ s_ta then some (s_ta, s_st, s_qu) else kgd (kin a1 6534) (kgd (kin s_ta 6534) (some ((s_ta + 1), (upd s_st (a1 : Int32).toNatClampNeg a2), (upd s_qu (s_ta : Int32).toNatClampNeg a1))))) else some (s_ta, s_st, s_qu)))))
def rmX4_mark : Room := { frames := 0, cells := 0, slots := 0, locals := 0 }
theorem hdV_X4_mark : yX4_mark.cls = RX4 ∧ yX4_mark.cls ≠ "java/lang/invoke/MethodHandle" ∧ yX4_mark.cls ≠ "java/lang/invoke/VarHandle" ∧ (parseMethodDescriptor yX4_mark.desc).map (fun d => d.parameters.length) = some 2 := ⟨rfl, by decide +kernel, by decide +kernel, by decide +kernel⟩
set_option maxHeartbeats 4000000 in
set_option maxRecDepth 100000 in
theorem kX4_mark (l : Launch) (Y : KY) (sa : Nat → Nat) (s_fi : Int32) (s_ta : Int32) (s_st : Nat → Int32) (s_qu : Nat → Int32) (a1 : Int32) (a2 : Int32) {o : Int32 × (Nat → Int32) × (Nat → Int32)} (h : pX4_mark a1 a2 s_ta s_st s_qu = some o) : CtV l yX4_mark wsX4_mark rmX4_mark Y [.ref (sa 0), .int a1, .int a2] (kfl [gS Y sa s_fi s_ta s_st s_qu]) (kfl [gS Y sa s_fi o.1 o.2.1 o.2.2]) := by
  refine ctV_intro (cc := cX4_mark) (maxL := 3) (own := RX4) (by decide +kernel) rfl rfl (Nat.le_of_ble_eq_true rfl) rfl ?_
  intro X A hX _ hret
  have hin4 : ∀ w ∈ u_ws RX4 TX4 4, w ∈ wsX4_mark := by decide +kernel
  have f0 := hX.w (Cond.fieldLink RX4 11 "PeriodicNet$Search" "stepsOf" "[I") (by decide +kernel)
  have f1 := hX.w (Cond.fieldLink RX4 22 "PeriodicNet$Search" "tail" "I") (by decide +kernel)
  have f2 := hX.w (Cond.fieldLink RX4 15 "PeriodicNet$Search" "queue" "[I") (by decide +kernel)
  unfold pX4_mark at h
  refine kw_lv (lv' := [(0, .ref (sa 0)), (1, .int a1), (2, .int a2)]) [0, 1, 2] rfl ?_
  refine kw_iload_n hX 0 dX4_mark_0 rfl 1 rfl ?_
  refine kw_if_lt hX 1 58 dX4_mark_1 (by decide) (fun c1 => ?_) (fun c1 => ?_)
  · have h := kif_t c1 h
    obtain rfl := Option.some.inj h
    exact hret _ _ dX4_mark_58
  · have h := kif_f c1 h
    refine kw_iload_n hX 4 dX4_mark_4 rfl 1 rfl ?_
    refine kw_sipush hX 5 dX4_mark_5 kcs_6534 ?_
    refine kw_icmp_ge hX 8 58 dX4_mark_8 (by decide) (fun c2 => ?_) (fun c2 => ?_)
    · have h := kif_t c2 h
      obtain rfl := Option.some.inj h
      exact hret _ _ dX4_mark_58
    · have h := kif_f c2 h
      refine kw_aload_n hX 11 dX4_mark_11 rfl 0 rfl ?_
      refine kw_get hX 12 (C := RX4) (T := TX4) (N := 4) hin4 0 f0 (fun _ h => h) 0 rfl rfl (by decide) rfl dX4_mark_12 ?_
      refine kw_iload_n hX 15 dX4_mark_15 rfl 1 rfl ?_
      obtain ⟨g3, h⟩ := kgd_some h
      refine kw_iald hX 16 1 rfl g3 dX4_mark_16 ?_
      refine kw_iconst hX 17 dX4_mark_17 kci_m1 ?_
      refine kw_icmp_ne hX 18 58 dX4_mark_18 (by decide) (fun c4 => ?_) (fun c4 => ?_)
      · have h := kif_f c4 h
        obtain rfl := Option.some.inj h
        exact hret _ _ dX4_mark_58
      · have h := kif_t c4 h
        refine kw_aload_n hX 21 dX4_mark_21 rfl 0 rfl ?_
        refine kw_get hX 22 (C := RX4) (T := TX4) (N := 4) hin4 3 f1 (fun _ h => h) 0 rfl rfl (by decide) rfl dX4_mark_22 ?_
        refine kw_sipush hX 25 dX4_mark_25 kcs_6534 ?_
        refine kw_icmp_ge hX 28 58 dX4_mark_28 (by decide) (fun c5 => ?_) (fun c5 => ?_)
        · have h := kif_t c5 h
          obtain rfl := Option.some.inj h
          exact hret _ _ dX4_mark_58
        · have h := kif_f c5 h
          refine kw_aload_n hX 31 dX4_mark_31 rfl 0 rfl ?_
          refine kw_get hX 32 (C := RX4) (T := TX4) (N := 4) hin4 0 f0 (fun _ h => h) 0 rfl rfl (by decide) rfl dX4_mark_32 ?_
          refine kw_iload_n hX 35 dX4_mark_35 rfl 1 rfl ?_
          refine kw_iload_n hX 36 dX4_mark_36 rfl 2 rfl ?_
          obtain ⟨g6, h⟩ := kgd_some h
          refine kw_iast hX 37 (ws' := (kfl [gS Y sa s_fi s_ta (upd s_st (a1 : Int32).toNatClampNeg a2) s_qu])) 1 rfl g6 rfl dX4_mark_37 ?_
          refine kw_aload_n hX 38 dX4_mark_38 rfl 0 rfl ?_
          refine kw_get hX 39 (C := RX4) (T := TX4) (N := 4) hin4 1 f2 (fun _ h => h) 0 rfl rfl (by decide) rfl dX4_mark_39 ?_
          refine kw_aload_n hX 42 dX4_mark_42 rfl 0 rfl ?_
          refine kw_get hX 43 (C := RX4) (T := TX4) (N := 4) hin4 3 f1 (fun _ h => h) 0 rfl rfl (by decide) rfl dX4_mark_43 ?_
          refine kw_iload_n hX 46 dX4_mark_46 rfl 1 rfl ?_
          obtain ⟨g7, h⟩ := kgd_some h
          refine kw_iast hX 47 (ws' := (kfl [gS Y sa s_fi s_ta (upd s_st (a1 : Int32).toNatClampNeg a2) (upd s_qu (s_ta : Int32).toNatClampNeg a1)])) 2 rfl g7 rfl dX4_mark_47 ?_
          refine kw_aload_n hX 48 dX4_mark_48 rfl 0 rfl ?_
          refine kw_dup hX 49 dX4_mark_49 rfl ?_
          refine kw_get hX 50 (C := RX4) (T := TX4) (N := 4) hin4 3 f1 (fun _ h => h) 0 rfl rfl (by decide) rfl dX4_mark_50 ?_
          refine kw_iconst hX 53 dX4_mark_53 kci_1 ?_
          refine kw_iadd hX 54 dX4_mark_54 ?_
          refine kw_put hX 55 (C := RX4) (T := TX4) (N := 4) (ws' := (kfl [gS Y sa s_fi (s_ta + 1) (upd s_st (a1 : Int32).toNatClampNeg a2) (upd s_qu (s_ta : Int32).toNatClampNeg a1)])) hin4 tyX4 tyX4_ok nmX4 3 f1 (fun _ h => h) 0 rfl rfl (by decide) rfl (ty := .int) (tyX4_ok 3 (by decide)) rfl rfl (Nat.le_of_ble_eq_true rfl) rfl dX4_mark_55 ?_
          obtain rfl := Option.some.inj h
          exact hret _ _ dX4_mark_58
def pX4_close (a1 : Int32) (s_fi : Int32) (s_ta : Int32) (s_st : Nat → Int32) (s_qu : Nat → Int32) : Option (Int32 × Int32 × (Nat → Int32) × (Nat → Int32)) := kb (pX4_mark a1 0 s_ta s_st s_qu) (fun v1 => some (v1.1, v1.1, v1.2.1, v1.2.2))
def rmX4_close : Room := { frames := 1, cells := 0, slots := 0, locals := 22 }
theorem hdV_X4_close : yX4_close.cls = RX4 ∧ yX4_close.cls ≠ "java/lang/invoke/MethodHandle" ∧ yX4_close.cls ≠ "java/lang/invoke/VarHandle" ∧ (parseMethodDescriptor yX4_close.desc).map (fun d => d.parameters.length) = some 1 := ⟨rfl, by decide +kernel, by decide +kernel, by decide +kernel⟩
set_option maxHeartbeats 4000000 in
set_option maxRecDepth 100000 in
theorem kX4_close (l : Launch) (Y : KY) (sa : Nat → Nat) (s_fi : Int32) (s_ta : Int32) (s_st : Nat → Int32) (s_qu : Nat → Int32) (a1 : Int32) {o : Int32 × Int32 × (Nat → Int32) × (Nat → Int32)} (h : pX4_close a1 s_fi s_ta s_st s_qu = some o) : CtV l yX4_close wsX4_close rmX4_close Y [.ref (sa 0), .int a1] (kfl [gS Y sa s_fi s_ta s_st s_qu]) (kfl [gS Y sa o.1 o.2.1 o.2.2.1 o.2.2.2]) := by
  refine ctV_intro (cc := cX4_close) (maxL := 2) (own := RX4) (by decide +kernel) rfl rfl (Nat.le_of_ble_eq_true rfl) rfl ?_
  intro X A hX _ hret
  have hin4 : ∀ w ∈ u_ws RX4 TX4 4, w ∈ wsX4_close := by decide +kernel
  have f0 := hX.w (Cond.fieldLink RX4 22 "PeriodicNet$Search" "tail" "I") (by decide +kernel)
  have f1 := hX.w (Cond.fieldLink RX4 18 "PeriodicNet$Search" "first" "I") (by decide +kernel)
  unfold pX4_close at h
  refine kw_lv (lv' := [(0, .ref (sa 0)), (1, .int a1)]) [0, 1] rfl ?_
  refine kw_aload_n hX 0 dX4_close_0 rfl 0 rfl ?_
  refine kw_iload_n hX 1 dX4_close_1 rfl 1 rfl ?_
  refine kw_iconst hX 2 dX4_close_2 kci_0 ?_
  obtain ⟨v1, hc2, h⟩ := kb_some h
  refine kw_callV_V hX 3 (As := [.int a1, .int 0]) (rest := []) (kX4_mark (kx_l X) Y sa s_fi s_ta s_st s_qu a1 0 hc2) gX4_close_X4_mark rfl 2 rfl hdV_X4_mark ⟨rfl, rfl⟩ ⟨by decide, by decide⟩ ⟨Nat.zero_le _, Nat.zero_le _⟩ rfl (Nat.le_of_ble_eq_true rfl) [0] (by decide) rfl (kfc gS_f kfn0) (gs1 := [gS Y sa s_fi v1.1 v1.2.1 v1.2.2]) rfl 0 4 rfl rfl rfl dX4_close_3 ?_
  refine kw_aload_n hX 6 dX4_close_6 rfl 0 rfl ?_
  refine kw_aload_n hX 7 dX4_close_7 rfl 0 rfl ?_
  refine kw_get hX 8 (C := RX4) (T := TX4) (N := 4) hin4 3 f0 (fun _ h => h) 0 rfl rfl (by decide) rfl dX4_close_8 ?_
  refine kw_put hX 11 (C := RX4) (T := TX4) (N := 4) (ws' := (kfl [gS Y sa v1.1 v1.1 v1.2.1 v1.2.2])) hin4 tyX4 tyX4_ok nmX4 2 f1 (fun _ h => h) 0 rfl rfl (by decide) rfl (ty := .int) (tyX4_ok 2 (by decide)) rfl rfl (Nat.le_of_ble_eq_true rfl) rfl dX4_close_11 ?_
  obtain rfl := Option.some.inj h
  exact hret _ _ dX4_close_14
def pX4_leave_L68 : Nat → Int32 → Int32 → Int32 → Int32 → Nat → Nat → Nat → Int32 → (Nat → Int32) → (Nat → Nat → Int32) → Int32 → (Nat → Int32) → (Nat → Int32) → Option (Int32 × Int32 × (Nat → Int32) × (Nat → Int32))
  | 0, _, _, _, _, _, _, _, _, _, _, _, _, _ => none
  | n + 1, l3, l5, l6, l7, k8, k9, k10, l11, z_e_cn, z_e_M, z_s_ta, z_s_st, z_s_qu => kgd (kin l3 6) ((if (z_e_cn (l3 : Int32).toNatClampNeg) ≤ l11 then some (l11, z_s_ta, z_s_st, z_s_qu) else kgd (decide (k8 < 18)) (kgd (kin l11 24) (kgd (decide (k9 < 18)) (kgd (kin l11 24) (kgd (decide (k10 < 18)) (kgd (kin l11 24) (kb (pX4_nodeAt (z_e_M k8 (l11).toNatClampNeg) (l5 + (z_e_M k9 (l11).toNatClampNeg)) (l6 + (z_e_M k10 (l11).toNatClampNeg))) (fun v17 => kb (pX4_mark v17 l7 z_s_ta z_s_st z_s_qu) (fun v19 => pX4_leave_L68 n l3 l5 l6 l7 k8 k9 k10 (l11 + 1) z_e_cn z_e_M v19.1 v19.2.1 v19.2.2))))))))))
def pX4_leave (a2 : Int32) (e_cn : Nat → Int32) (e_M : Nat → Nat → Int32) (s_ta : Int32) (s_st : Nat → Int32) (s_qu : Nat → Int32) : Option (Int32 × (Nat → Int32) × (Nat → Int32)) := kgd (decide (¬ (6 : Int32) = 0)) (kgd (decide (¬ (6 : Int32) = 0)) (kgd (decide (¬ (33 : Int32) = 0)) (kgd (decide (¬ (33 : Int32) = 0)) (kgd (kin a2 6534) (kgd (kin (a2 - a2 / 6 * 6) 6) (kgd (kin (a2 - a2 / 6 * 6) 6) (kgd (kin (a2 - a2 / 6 * 6) 6) (kb (pX4_leave_L68 KF (a2 - a2 / 6 * 6) (((a2 / 6) / 33) - 16) (((a2 / 6) - (a2 / 6) / 33 * 33) - 16) ((s_st (a2 : Int32).toNatClampNeg) + 1) (0 + ((a2 - a2 / 6 * 6) : Int32).toNatClampNeg) (6 + ((a2 - a2 / 6 * 6) : Int32).toNatClampNeg) (12 + ((a2 - a2 / 6 * 6) : Int32).toNatClampNeg) 0 e_cn e_M s_ta s_st s_qu) (fun v21 => some (v21.2.1, v21.2.2.1, v21.2.2.2))))))))))
def rmX4_leave : Room := { frames := 1, cells := 0, slots := 0, locals := 23 }
theorem hdV_X4_leave : yX4_leave.cls = RX4 ∧ yX4_leave.cls ≠ "java/lang/invoke/MethodHandle" ∧ yX4_leave.cls ≠ "java/lang/invoke/VarHandle" ∧ (parseMethodDescriptor yX4_leave.desc).map (fun d => d.parameters.length) = some 2 := ⟨rfl, by decide +kernel, by decide +kernel, by decide +kernel⟩
set_option maxHeartbeats 4000000 in
set_option maxRecDepth 100000 in
theorem kX4_leave (l : Launch) (Y : KY) (ea : Nat → Nat) (er : Nat → Nat) (sa : Nat → Nat) (e_cn : Nat → Int32) (e_M : Nat → Nat → Int32) (s_fi : Int32) (s_ta : Int32) (s_st : Nat → Int32) (s_qu : Nat → Int32) (a2 : Int32) {o : Int32 × (Nat → Int32) × (Nat → Int32)} (h : pX4_leave a2 e_cn e_M s_ta s_st s_qu = some o) : CtV l yX4_leave wsX4_leave rmX4_leave Y [.ref (sa 0), .ref (ea 0), .int a2] (kfl [gE Y ea er e_cn e_M, gS Y sa s_fi s_ta s_st s_qu]) (kfl [gE Y ea er e_cn e_M, gS Y sa s_fi o.1 o.2.1 o.2.2]) := by
  refine ctV_intro (cc := cX4_leave) (maxL := 12) (own := RX4) (by decide +kernel) rfl rfl (Nat.le_of_ble_eq_true rfl) rfl ?_
  intro X A hX _ hret
  have hin1 : ∀ w ∈ u_ws RX1 TX1 4, w ∈ wsX4_leave := by decide +kernel
  have hin4 : ∀ w ∈ u_ws RX4 TX4 4, w ∈ wsX4_leave := by decide +kernel
  have f0 := hX.w (Cond.fieldLink RX4 11 "PeriodicNet$Search" "stepsOf" "[I") (by decide +kernel)
  have f1 := hX.w (Cond.fieldLink RX4 37 "PeriodicNet$Ends" "target" "[[I") (by decide +kernel)
  have f2 := hX.w (Cond.fieldLink RX4 43 "PeriodicNet$Ends" "stepX" "[[I") (by decide +kernel)
  have f3 := hX.w (Cond.fieldLink RX4 46 "PeriodicNet$Ends" "stepY" "[[I") (by decide +kernel)
  have f4 := hX.w (Cond.fieldLink RX4 49 "PeriodicNet$Ends" "count" "[I") (by decide +kernel)
  have L68 : ∀ (n : Nat) (l3 : Int32) (l5 : Int32) (l6 : Int32) (l7 : Int32) (k8 : Nat) (k9 : Nat) (k10 : Nat) (l11 : Int32) (z_e_cn : Nat → Int32) (z_e_M : Nat → Nat → Int32) (z_s_fi : Int32) (z_s_ta : Int32) (z_s_st : Nat → Int32) (z_s_qu : Nat → Int32) (o : Int32 × Int32 × (Nat → Int32) × (Nat → Int32)), pX4_leave_L68 n l3 l5 l6 l7 k8 k9 k10 l11 z_e_cn z_e_M z_s_ta z_s_st z_s_qu = some o → KW X Y A 12 0 0 (kfl [gE Y ea er z_e_cn z_e_M, gS Y sa z_s_fi o.2.1 o.2.2.1 o.2.2.2]) [(0, .ref (sa 0)), (1, .ref (ea 0)), (3, .int l3), (5, .int l5), (6, .int l6), (7, .int l7), (8, .ref (er k8)), (9, .ref (er k9)), (10, .ref (er k10)), (11, .int o.1)] 116 [] → KW X Y A 12 0 0 (kfl [gE Y ea er z_e_cn z_e_M, gS Y sa z_s_fi z_s_ta z_s_st z_s_qu]) [(0, .ref (sa 0)), (1, .ref (ea 0)), (3, .int l3), (5, .int l5), (6, .int l6), (7, .int l7), (8, .ref (er k8)), (9, .ref (er k9)), (10, .ref (er k10)), (11, .int l11)] 68 [] := by
    intro n
    induction n with
    | zero => intro l3 l5 l6 l7 k8 k9 k10 l11 z_e_cn z_e_M z_s_fi z_s_ta z_s_st z_s_qu o h; cases h
    | succ n ih =>
      intro l3 l5 l6 l7 k8 k9 k10 l11 z_e_cn z_e_M z_s_fi z_s_ta z_s_st z_s_qu o h hK
      rw [pX4_leave_L68] at h
      refine kw_iload hX 68 dX4_leave_68 9 rfl ?_
      refine kw_aload_n hX 70 dX4_leave_70 rfl 1 rfl ?_
      refine kw_get hX 71 (C := RX1) (T := TX1) (N := 4) hin1 0 f4 (fun _ h => h) 0 rfl rfl (by decide) rfl dX4_leave_71 ?_
      refine kw_iload_n hX 74 dX4_leave_74 rfl 2 rfl ?_
      obtain ⟨g9, h⟩ := kgd_some h
      refine kw_iald hX 75 1 rfl g9 dX4_leave_75 ?_
      refine kw_icmp_ge hX 76 116 dX4_leave_76 (by decide) (fun c10 => ?_) (fun c10 => ?_)
      · have h := kif_t c10 h
        obtain rfl := Option.some.inj h
        refine kw_lv (lv' := [(0, .ref (sa 0)), (1, .ref (ea 0)), (3, .int l3), (5, .int l5), (6, .int l6), (7, .int l7), (8, .ref (er k8)), (9, .ref (er k9)), (10, .ref (er k10)), (11, .int l11)]) [0, 1, 2, 3, 4, 5, 6, 7, 8, 9] rfl ?_
        exact hK
      · have h := kif_f c10 h
        refine kw_aload_n hX 79 dX4_leave_79 rfl 0 rfl ?_
        refine kw_aload_n hX 80 dX4_leave_80 rfl 0 rfl ?_
        refine kw_aload hX 81 dX4_leave_81 6 rfl ?_
        refine kw_iload hX 83 dX4_leave_83 9 rfl ?_
        obtain ⟨g11, h⟩ := kgd_some h
        obtain ⟨g12, h⟩ := kgd_some h
        refine kw_iald hX 85 (5 + k8) (gE_row (of_decide_eq_true g11)) g12 dX4_leave_85 ?_
        refine kw_iload hX 86 dX4_leave_86 3 rfl ?_
        refine kw_aload hX 88 dX4_leave_88 7 rfl ?_
        refine kw_iload hX 90 dX4_leave_90 9 rfl ?_
        obtain ⟨g13, h⟩ := kgd_some h
        obtain ⟨g14, h⟩ := kgd_some h
        refine kw_iald hX 92 (5 + k9) (gE_row (of_decide_eq_true g13)) g14 dX4_leave_92 ?_
        refine kw_iadd hX 93 dX4_leave_93 ?_
        refine kw_iload hX 94 dX4_leave_94 4 rfl ?_
        refine kw_aload hX 96 dX4_leave_96 8 rfl ?_
        refine kw_iload hX 98 dX4_leave_98 9 rfl ?_
        obtain ⟨g15, h⟩ := kgd_some h
        obtain ⟨g16, h⟩ := kgd_some h
        refine kw_iald hX 100 (5 + k10) (gE_row (of_decide_eq_true g15)) g16 dX4_leave_100 ?_
        refine kw_iadd hX 101 dX4_leave_101 ?_
        obtain ⟨v17, hc18, h⟩ := kb_some h
        refine kw_callV_I hX 102 (As := [.int (z_e_M k8 (l11).toNatClampNeg), .int (l5 + (z_e_M k9 (l11).toNatClampNeg)), .int (l6 + (z_e_M k10 (l11).toNatClampNeg))]) (rest := [.ref (sa 0)]) (kX4_nodeAt (kx_l X) Y sa z_s_fi z_s_ta z_s_st z_s_qu (z_e_M k8 (l11).toNatClampNeg) (l5 + (z_e_M k9 (l11).toNatClampNeg)) (l6 + (z_e_M k10 (l11).toNatClampNeg)) hc18) gX4_leave_X4_nodeAt rfl 3 rfl hdV_X4_nodeAt ⟨rfl, rfl⟩ ⟨by decide, by decide⟩ ⟨Nat.zero_le _, Nat.zero_le _⟩ rfl (Nat.le_of_ble_eq_true rfl) [1] (by decide) rfl (kfc rfl kfn0) (gs1 := [gE Y ea er z_e_cn z_e_M, gS Y sa z_s_fi z_s_ta z_s_st z_s_qu]) rfl 23 4 rfl rfl rfl dX4_leave_102 ?_
        refine kw_iload hX 105 dX4_leave_105 5 rfl ?_
        obtain ⟨v19, hc20, h⟩ := kb_some h
        refine kw_callV_V hX 107 (As := [.int v17, .int l7]) (rest := []) (kX4_mark (kx_l X) Y sa z_s_fi z_s_ta z_s_st z_s_qu v17 l7 hc20) gX4_leave_X4_mark rfl 2 rfl hdV_X4_mark ⟨rfl, rfl⟩ ⟨by decide, by decide⟩ ⟨Nat.zero_le _, Nat.zero_le _⟩ rfl (Nat.le_of_ble_eq_true rfl) [1] (by decide) rfl (kfc gS_f kfn0) (gs1 := [gE Y ea er z_e_cn z_e_M, gS Y sa z_s_fi v19.1 v19.2.1 v19.2.2]) rfl 23 4 rfl rfl rfl dX4_leave_107 ?_
        refine kw_iinc (v := (l11 + 1)) (lv' := [(11, .int (l11 + 1)), (0, .ref (sa 0)), (1, .ref (ea 0)), (3, .int l3), (5, .int l5), (6, .int l6), (7, .int l7), (8, .ref (er k8)), (9, .ref (er k9)), (10, .ref (er k10))]) hX 110 dX4_leave_110 9 rfl (kinc_1 _) (by decide) rfl ?_
        refine kw_goto hX 113 68 dX4_leave_113 (by decide) ?_
        refine kw_lv (lv' := [(0, .ref (sa 0)), (1, .ref (ea 0)), (3, .int l3), (5, .int l5), (6, .int l6), (7, .int l7), (8, .ref (er k8)), (9, .ref (er k9)), (10, .ref (er k10)), (11, .int (l11 + 1))]) [1, 2, 3, 4, 5, 6, 7, 8, 9, 0] rfl ?_
        exact ih l3 l5 l6 l7 k8 k9 k10 (l11 + 1) z_e_cn z_e_M z_s_fi v19.1 v19.2.1 v19.2.2 o h hK
  unfold pX4_leave at h
  refine kw_lv (lv' := [(0, .ref (sa 0)), (1, .ref (ea 0)), (2, .int a2)]) [0, 1, 2] rfl ?_
  refine kw_iload_n hX 0 dX4_leave_0 rfl 2 rfl ?_
  refine kw_bipush hX 1 dX4_leave_1 kcb_6 ?_
  obtain ⟨g1, h⟩ := kgd_some h
  refine kw_irem hX 3 dX4_leave_3 (of_decide_eq_true g1) ?_
  refine kw_istore_n (lv' := [(3, .int (a2 - a2 / 6 * 6)), (0, .ref (sa 0)), (1, .ref (ea 0)), (2, .int a2)]) hX 4 dX4_leave_4 rfl (by decide) rfl ?_
  refine kw_iload_n hX 5 dX4_leave_5 rfl 3 rfl ?_
  refine kw_bipush hX 6 dX4_leave_6 kcb_6 ?_
  obtain ⟨g2, h⟩ := kgd_some h
  refine kw_idiv hX 8 dX4_leave_8 (of_decide_eq_true g2) ?_
  refine kw_istore (lv' := [(4, .int (a2 / 6)), (3, .int (a2 - a2 / 6 * 6)), (0, .ref (sa 0)), (1, .ref (ea 0)), (2, .int a2)]) hX 9 dX4_leave_9 (by decide) rfl ?_
  refine kw_iload hX 11 dX4_leave_11 0 rfl ?_
  refine kw_bipush hX 13 dX4_leave_13 kcb_33 ?_
  obtain ⟨g3, h⟩ := kgd_some h
  refine kw_idiv hX 15 dX4_leave_15 (of_decide_eq_true g3) ?_
  refine kw_bipush hX 16 dX4_leave_16 kcb_16 ?_
  refine kw_isub hX 18 dX4_leave_18 ?_
  refine kw_istore (lv' := [(5, .int (((a2 / 6) / 33) - 16)), (4, .int (a2 / 6)), (3, .int (a2 - a2 / 6 * 6)), (0, .ref (sa 0)), (1, .ref (ea 0)), (2, .int a2)]) hX 19 dX4_leave_19 (by decide) rfl ?_
  refine kw_iload hX 21 dX4_leave_21 1 rfl ?_
  refine kw_bipush hX 23 dX4_leave_23 kcb_33 ?_
  obtain ⟨g4, h⟩ := kgd_some h
  refine kw_irem hX 25 dX4_leave_25 (of_decide_eq_true g4) ?_
  refine kw_bipush hX 26 dX4_leave_26 kcb_16 ?_
  refine kw_isub hX 28 dX4_leave_28 ?_
  refine kw_istore (lv' := [(6, .int (((a2 / 6) - (a2 / 6) / 33 * 33) - 16)), (5, .int (((a2 / 6) / 33) - 16)), (4, .int (a2 / 6)), (3, .int (a2 - a2 / 6 * 6)), (0, .ref (sa 0)), (1, .ref (ea 0)), (2, .int a2)]) hX 29 dX4_leave_29 (by decide) rfl ?_
  refine kw_aload_n hX 31 dX4_leave_31 rfl 4 rfl ?_
  refine kw_get hX 32 (C := RX4) (T := TX4) (N := 4) hin4 0 f0 (fun _ h => h) 23 rfl rfl (by decide) rfl dX4_leave_32 ?_
  refine kw_iload_n hX 35 dX4_leave_35 rfl 6 rfl ?_
  obtain ⟨g5, h⟩ := kgd_some h
  refine kw_iald hX 36 24 rfl g5 dX4_leave_36 ?_
  refine kw_iconst hX 37 dX4_leave_37 kci_1 ?_
  refine kw_iadd hX 38 dX4_leave_38 ?_
  refine kw_istore (lv' := [(7, .int ((s_st (a2 : Int32).toNatClampNeg) + 1)), (6, .int (((a2 / 6) - (a2 / 6) / 33 * 33) - 16)), (5, .int (((a2 / 6) / 33) - 16)), (4, .int (a2 / 6)), (3, .int (a2 - a2 / 6 * 6)), (0, .ref (sa 0)), (1, .ref (ea 0)), (2, .int a2)]) hX 39 dX4_leave_39 (by decide) rfl ?_
  refine kw_aload_n hX 41 dX4_leave_41 rfl 6 rfl ?_
  refine kw_get hX 42 (C := RX1) (T := TX1) (N := 4) hin1 1 f1 (fun _ h => h) 0 rfl rfl (by decide) rfl dX4_leave_42 ?_
  refine kw_iload_n hX 45 dX4_leave_45 rfl 4 rfl ?_
  obtain ⟨g6, h⟩ := kgd_some h
  refine kw_aald4 hX 46 2 rfl g6 rfl dX4_leave_46 ?_
  refine kw_astore (lv' := [(8, .ref (er (0 + ((a2 - a2 / 6 * 6) : Int32).toNatClampNeg))), (7, .int ((s_st (a2 : Int32).toNatClampNeg) + 1)), (6, .int (((a2 / 6) - (a2 / 6) / 33 * 33) - 16)), (5, .int (((a2 / 6) / 33) - 16)), (4, .int (a2 / 6)), (3, .int (a2 - a2 / 6 * 6)), (0, .ref (sa 0)), (1, .ref (ea 0)), (2, .int a2)]) hX 47 dX4_leave_47 (by decide) rfl ?_
  refine kw_aload_n hX 49 dX4_leave_49 rfl 7 rfl ?_
  refine kw_get hX 50 (C := RX1) (T := TX1) (N := 4) hin1 2 f2 (fun _ h => h) 0 rfl rfl (by decide) rfl dX4_leave_50 ?_
  refine kw_iload_n hX 53 dX4_leave_53 rfl 5 rfl ?_
  obtain ⟨g7, h⟩ := kgd_some h
  refine kw_aald4 hX 54 3 rfl g7 rfl dX4_leave_54 ?_
  refine kw_astore (lv' := [(9, .ref (er (6 + ((a2 - a2 / 6 * 6) : Int32).toNatClampNeg))), (8, .ref (er (0 + ((a2 - a2 / 6 * 6) : Int32).toNatClampNeg))), (7, .int ((s_st (a2 : Int32).toNatClampNeg) + 1)), (6, .int (((a2 / 6) - (a2 / 6) / 33 * 33) - 16)), (5, .int (((a2 / 6) / 33) - 16)), (4, .int (a2 / 6)), (3, .int (a2 - a2 / 6 * 6)), (0, .ref (sa 0)), (1, .ref (ea 0)), (2, .int a2)]) hX 55 dX4_leave_55 (by decide) rfl ?_
  refine kw_aload_n hX 57 dX4_leave_57 rfl 8 rfl ?_
  refine kw_get hX 58 (C := RX1) (T := TX1) (N := 4) hin1 3 f3 (fun _ h => h) 0 rfl rfl (by decide) rfl dX4_leave_58 ?_
  refine kw_iload_n hX 61 dX4_leave_61 rfl 6 rfl ?_
  obtain ⟨g8, h⟩ := kgd_some h
  refine kw_aald4 hX 62 4 rfl g8 rfl dX4_leave_62 ?_
  refine kw_astore (lv' := [(10, .ref (er (12 + ((a2 - a2 / 6 * 6) : Int32).toNatClampNeg))), (9, .ref (er (6 + ((a2 - a2 / 6 * 6) : Int32).toNatClampNeg))), (8, .ref (er (0 + ((a2 - a2 / 6 * 6) : Int32).toNatClampNeg))), (7, .int ((s_st (a2 : Int32).toNatClampNeg) + 1)), (6, .int (((a2 / 6) - (a2 / 6) / 33 * 33) - 16)), (5, .int (((a2 / 6) / 33) - 16)), (4, .int (a2 / 6)), (3, .int (a2 - a2 / 6 * 6)), (0, .ref (sa 0)), (1, .ref (ea 0)), (2, .int a2)]) hX 63 dX4_leave_63 (by decide) rfl ?_
  refine kw_iconst hX 65 dX4_leave_65 kci_0 ?_
  refine kw_istore (lv' := [(11, .int 0), (10, .ref (er (12 + ((a2 - a2 / 6 * 6) : Int32).toNatClampNeg))), (9, .ref (er (6 + ((a2 - a2 / 6 * 6) : Int32).toNatClampNeg))), (8, .ref (er (0 + ((a2 - a2 / 6 * 6) : Int32).toNatClampNeg))), (7, .int ((s_st (a2 : Int32).toNatClampNeg) + 1)), (6, .int (((a2 / 6) - (a2 / 6) / 33 * 33) - 16)), (5, .int (((a2 / 6) / 33) - 16)), (4, .int (a2 / 6)), (3, .int (a2 - a2 / 6 * 6)), (0, .ref (sa 0)), (1, .ref (ea 0)), (2, .int a2)]) hX 66 dX4_leave_66 (by decide) rfl ?_
  obtain ⟨v21, hl22, h⟩ := kb_some h
  refine kw_lv (lv' := [(0, .ref (sa 0)), (1, .ref (ea 0)), (3, .int (a2 - a2 / 6 * 6)), (5, .int (((a2 / 6) / 33) - 16)), (6, .int (((a2 / 6) - (a2 / 6) / 33 * 33) - 16)), (7, .int ((s_st (a2 : Int32).toNatClampNeg) + 1)), (8, .ref (er (0 + ((a2 - a2 / 6 * 6) : Int32).toNatClampNeg))), (9, .ref (er (6 + ((a2 - a2 / 6 * 6) : Int32).toNatClampNeg))), (10, .ref (er (12 + ((a2 - a2 / 6 * 6) : Int32).toNatClampNeg))), (11, .int 0)]) [9, 10, 8, 6, 5, 4, 3, 2, 1, 0] rfl ?_
  refine L68 KF (a2 - a2 / 6 * 6) (((a2 / 6) / 33) - 16) (((a2 / 6) - (a2 / 6) / 33 * 33) - 16) ((s_st (a2 : Int32).toNatClampNeg) + 1) (0 + ((a2 - a2 / 6 * 6) : Int32).toNatClampNeg) (6 + ((a2 - a2 / 6 * 6) : Int32).toNatClampNeg) (12 + ((a2 - a2 / 6 * 6) : Int32).toNatClampNeg) 0 e_cn e_M s_fi s_ta s_st s_qu v21 hl22 ?_
  obtain rfl := Option.some.inj h
  exact hret _ _ dX4_leave_116
def pX4_walk_L6 : Nat → Int32 → Int32 → Int32 → (Nat → Int32) → (Nat → Nat → Int32) → Int32 → Int32 → (Nat → Int32) → (Nat → Int32) → Option (Int32 × (Nat → Int32) × (Nat → Int32))
  | 0, _, _, _, _, _, _, _, _, _ => none
  | n + 1, l2, l3, l4, e_cn, e_M, s_fi, z_s_ta, z_s_st, z_s_qu => (if (6534 : Int32) ≤ l4 then some (z_s_ta, z_s_st, z_s_qu) else (if z_s_ta ≤ l4 then some (z_s_ta, z_s_st, z_s_qu) else kgd (kin l4 6534) (kgd (kin (z_s_qu (l4 : Int32).toNatClampNeg) 6534) ((if l2 ≤ (z_s_st ((z_s_qu (l4 : Int32).toNatClampNeg) : Int32).toNatClampNeg) then some (z_s_ta, z_s_st, z_s_qu) else kb (pX4_stepsTo l3 z_s_st) (fun v6 => (if v6 = ((-1) : Int32) then kb (pX4_leave (z_s_qu (l4 : Int32).toNatClampNeg) e_cn e_M z_s_ta z_s_st z_s_qu) (fun v9 => pX4_walk_L6 n l2 l3 (l4 + 1) e_cn e_M s_fi v9.1 v9.2.1 v9.2.2) else some (z_s_ta, z_s_st, z_s_qu))))))))
def pX4_walk (a2 : Int32) (a3 : Int32) (e_cn : Nat → Int32) (e_M : Nat → Nat → Int32) (s_fi : Int32) (s_ta : Int32) (s_st : Nat → Int32) (s_qu : Nat → Int32) : Option (Int32 × (Nat → Int32) × (Nat → Int32)) := pX4_walk_L6 KF a2 a3 s_fi e_cn e_M s_fi s_ta s_st s_qu
def rmX4_walk : Room := { frames := 2, cells := 0, slots := 0, locals := 54 }
theorem hdV_X4_walk : yX4_walk.cls = RX4 ∧ yX4_walk.cls ≠ "java/lang/invoke/MethodHandle" ∧ yX4_walk.cls ≠ "java/lang/invoke/VarHandle" ∧ (parseMethodDescriptor yX4_walk.desc).map (fun d => d.parameters.length) = some 3 := ⟨rfl, by decide +kernel, by decide +kernel, by decide +kernel⟩
set_option maxHeartbeats 4000000 in
set_option maxRecDepth 100000 in
theorem kX4_walk (l : Launch) (Y : KY) (ea : Nat → Nat) (er : Nat → Nat) (sa : Nat → Nat) (e_cn : Nat → Int32) (e_M : Nat → Nat → Int32) (s_fi : Int32) (s_ta : Int32) (s_st : Nat → Int32) (s_qu : Nat → Int32) (a2 : Int32) (a3 : Int32) {o : Int32 × (Nat → Int32) × (Nat → Int32)} (h : pX4_walk a2 a3 e_cn e_M s_fi s_ta s_st s_qu = some o) : CtV l yX4_walk wsX4_walk rmX4_walk Y [.ref (sa 0), .ref (ea 0), .int a2, .int a3] (kfl [gE Y ea er e_cn e_M, gS Y sa s_fi s_ta s_st s_qu]) (kfl [gE Y ea er e_cn e_M, gS Y sa s_fi o.1 o.2.1 o.2.2]) := by
  refine ctV_intro (cc := cX4_walk) (maxL := 6) (own := RX4) (by decide +kernel) rfl rfl (Nat.le_of_ble_eq_true rfl) rfl ?_
  intro X A hX _ hret
  have hin4 : ∀ w ∈ u_ws RX4 TX4 4, w ∈ wsX4_walk := by decide +kernel
  have f0 := hX.w (Cond.fieldLink RX4 18 "PeriodicNet$Search" "first" "I") (by decide +kernel)
  have f1 := hX.w (Cond.fieldLink RX4 22 "PeriodicNet$Search" "tail" "I") (by decide +kernel)
  have f2 := hX.w (Cond.fieldLink RX4 15 "PeriodicNet$Search" "queue" "[I") (by decide +kernel)
  have f3 := hX.w (Cond.fieldLink RX4 11 "PeriodicNet$Search" "stepsOf" "[I") (by decide +kernel)
  have L6 : ∀ (n : Nat) (l2 : Int32) (l3 : Int32) (l4 : Int32) (z_s_ta : Int32) (z_s_st : Nat → Int32) (z_s_qu : Nat → Int32), pX4_walk_L6 n l2 l3 l4 e_cn e_M s_fi z_s_ta z_s_st z_s_qu = some o → KW X Y A 6 0 0 (kfl [gE Y ea er e_cn e_M, gS Y sa s_fi z_s_ta z_s_st z_s_qu]) [(0, .ref (sa 0)), (1, .ref (ea 0)), (2, .int l2), (3, .int l3), (4, .int l4)] 6 [] := by
    intro n
    induction n with
    | zero => intro l2 l3 l4 z_s_ta z_s_st z_s_qu h; cases h
    | succ n ih =>
      intro l2 l3 l4 z_s_ta z_s_st z_s_qu h
      rw [pX4_walk_L6] at h
      refine kw_iload hX 6 dX4_walk_6 4 rfl ?_
      refine kw_sipush hX 8 dX4_walk_8 kcs_6534 ?_
      refine kw_icmp_ge hX 11 66 dX4_walk_11 (by decide) (fun c1 => ?_) (fun c1 => ?_)
      · have h := kif_t c1 h
        obtain rfl := Option.some.inj h
        exact hret _ _ dX4_walk_66
      · have h := kif_f c1 h
        refine kw_iload hX 14 dX4_walk_14 4 rfl ?_
        refine kw_aload_n hX 16 dX4_walk_16 rfl 0 rfl ?_
        refine kw_get hX 17 (C := RX4) (T := TX4) (N := 4) hin4 3 f1 (fun _ h => h) 23 rfl rfl (by decide) rfl dX4_walk_17 ?_
        refine kw_icmp_ge hX 20 66 dX4_walk_20 (by decide) (fun c2 => ?_) (fun c2 => ?_)
        · have h := kif_t c2 h
          obtain rfl := Option.some.inj h
          exact hret _ _ dX4_walk_66
        · have h := kif_f c2 h
          refine kw_aload_n hX 23 dX4_walk_23 rfl 0 rfl ?_
          refine kw_get hX 24 (C := RX4) (T := TX4) (N := 4) hin4 1 f2 (fun _ h => h) 23 rfl rfl (by decide) rfl dX4_walk_24 ?_
          refine kw_iload hX 27 dX4_walk_27 4 rfl ?_
          obtain ⟨g3, h⟩ := kgd_some h
          refine kw_iald hX 29 25 rfl g3 dX4_walk_29 ?_
          refine kw_istore (lv' := [(5, .int (z_s_qu (l4 : Int32).toNatClampNeg)), (0, .ref (sa 0)), (1, .ref (ea 0)), (2, .int l2), (3, .int l3), (4, .int l4)]) hX 30 dX4_walk_30 (by decide) rfl ?_
          refine kw_aload_n hX 32 dX4_walk_32 rfl 1 rfl ?_
          refine kw_get hX 33 (C := RX4) (T := TX4) (N := 4) hin4 0 f3 (fun _ h => h) 23 rfl rfl (by decide) rfl dX4_walk_33 ?_
          refine kw_iload hX 36 dX4_walk_36 0 rfl ?_
          obtain ⟨g4, h⟩ := kgd_some h
          refine kw_iald hX 38 24 rfl g4 dX4_walk_38 ?_
          refine kw_iload_n hX 39 dX4_walk_39 rfl 3 rfl ?_
          refine kw_icmp_ge hX 40 52 dX4_walk_40 (by decide) (fun c5 => ?_) (fun c5 => ?_)
          · have h := kif_t c5 h
            obtain rfl := Option.some.inj h
            exact hret _ _ dX4_walk_52
          · have h := kif_f c5 h
            refine kw_aload_n hX 43 dX4_walk_43 rfl 1 rfl ?_
            refine kw_iload_n hX 44 dX4_walk_44 rfl 4 rfl ?_
            obtain ⟨v6, hc7, h⟩ := kb_some h
            refine kw_callV_I hX 45 (As := [.int l3]) (rest := []) (kX4_stepsTo (kx_l X) Y sa s_fi z_s_ta z_s_st z_s_qu l3 hc7) gX4_walk_X4_stepsTo rfl 1 rfl hdV_X4_stepsTo ⟨rfl, rfl⟩ ⟨by decide, by decide⟩ ⟨Nat.zero_le _, Nat.zero_le _⟩ rfl (Nat.le_of_ble_eq_true rfl) [1] (by decide) rfl (kfc rfl kfn0) (gs1 := [gE Y ea er e_cn e_M, gS Y sa s_fi z_s_ta z_s_st z_s_qu]) rfl 23 4 rfl rfl rfl dX4_walk_45 ?_
            refine kw_iconst hX 48 dX4_walk_48 kci_m1 ?_
            refine kw_icmp_eq hX 49 53 dX4_walk_49 (by decide) (fun c8 => ?_) (fun c8 => ?_)
            · have h := kif_t c8 h
              refine kw_aload_n hX 53 dX4_walk_53 rfl 1 rfl ?_
              refine kw_aload_n hX 54 dX4_walk_54 rfl 2 rfl ?_
              refine kw_iload hX 55 dX4_walk_55 0 rfl ?_
              obtain ⟨v9, hc10, h⟩ := kb_some h
              refine kw_callV_V hX 57 (As := [.ref (ea 0), .int (z_s_qu (l4 : Int32).toNatClampNeg)]) (rest := []) (kX4_leave (kx_l X) Y ea er sa e_cn e_M s_fi z_s_ta z_s_st z_s_qu (z_s_qu (l4 : Int32).toNatClampNeg) hc10) gX4_walk_X4_leave rfl 2 rfl hdV_X4_leave ⟨rfl, rfl⟩ ⟨by decide, by decide⟩ ⟨Nat.zero_le _, Nat.zero_le _⟩ rfl (Nat.le_of_ble_eq_true rfl) [0, 1] (by decide) rfl (kfc rfl (kfc gS_f kfn0)) (gs1 := [gE Y ea er e_cn e_M, gS Y sa s_fi v9.1 v9.2.1 v9.2.2]) rfl 23 4 rfl rfl rfl dX4_walk_57 ?_
              refine kw_iinc (v := (l4 + 1)) (lv' := [(4, .int (l4 + 1)), (5, .int (z_s_qu (l4 : Int32).toNatClampNeg)), (0, .ref (sa 0)), (1, .ref (ea 0)), (2, .int l2), (3, .int l3)]) hX 60 dX4_walk_60 5 rfl (kinc_1 _) (by decide) rfl ?_
              refine kw_goto hX 63 6 dX4_walk_63 (by decide) ?_
              refine kw_lv (lv' := [(0, .ref (sa 0)), (1, .ref (ea 0)), (2, .int l2), (3, .int l3), (4, .int (l4 + 1))]) [2, 3, 4, 5, 0] rfl ?_
              exact ih l2 l3 (l4 + 1) v9.1 v9.2.1 v9.2.2 h
            · have h := kif_f c8 h
              obtain rfl := Option.some.inj h
              exact hret _ _ dX4_walk_52
  unfold pX4_walk at h
  refine kw_lv (lv' := [(0, .ref (sa 0)), (1, .ref (ea 0)), (2, .int a2), (3, .int a3)]) [0, 1, 2, 3] rfl ?_
  refine kw_aload_n hX 0 dX4_walk_0 rfl 0 rfl ?_
  refine kw_get hX 1 (C := RX4) (T := TX4) (N := 4) hin4 2 f0 (fun _ h => h) 23 rfl rfl (by decide) rfl dX4_walk_1 ?_
  refine kw_istore (lv' := [(4, .int s_fi), (0, .ref (sa 0)), (1, .ref (ea 0)), (2, .int a2), (3, .int a3)]) hX 4 dX4_walk_4 (by decide) rfl ?_
  refine kw_lv (lv' := [(0, .ref (sa 0)), (1, .ref (ea 0)), (2, .int a2), (3, .int a3), (4, .int s_fi)]) [1, 2, 3, 4, 0] rfl ?_
  exact L6 KF a2 a3 s_fi s_ta s_st s_qu h
def pX4_nodesAfter_L7 : Nat → Int32 → Int32 → Int32 → Int32 → (Nat → Int32) → (Nat → Int32) → Option (Int32 × Int32)
  | 0, _, _, _, _, _, _ => none
  | n + 1, l1, l2, l3, z_s_ta, z_s_st, z_s_qu => (if z_s_ta ≤ l3 then some (l2, l3) else kgd (kin l3 6534) (kgd (kin (z_s_qu (l3 : Int32).toNatClampNeg) 6534) (kb ((if (z_s_st ((z_s_qu (l3 : Int32).toNatClampNeg) : Int32).toNatClampNeg) = l1 then some (l2 + 1) else some l2) : Option (Int32)) (fun v5 => pX4_nodesAfter_L7 n l1 v5 (l3 + 1) z_s_ta z_s_st z_s_qu))))
def pX4_nodesAfter (a1 : Int32) (s_fi : Int32) (s_ta : Int32) (s_st : Nat → Int32) (s_qu : Nat → Int32) : Option (Int32) := kb (pX4_nodesAfter_L7 KF a1 0 s_fi s_ta s_st s_qu) (fun v8 => some v8.1)
def rmX4_nodesAfter : Room := { frames := 0, cells := 0, slots := 0, locals := 0 }
theorem hdV_X4_nodesAfter : yX4_nodesAfter.cls = RX4 ∧ yX4_nodesAfter.cls ≠ "java/lang/invoke/MethodHandle" ∧ yX4_nodesAfter.cls ≠ "java/lang/invoke/VarHandle" ∧ (parseMethodDescriptor yX4_nodesAfter.desc).map (fun d => d.parameters.length) = some 1 := ⟨rfl, by decide +kernel, by decide +kernel, by decide +kernel⟩
set_option maxHeartbeats 4000000 in
set_option maxRecDepth 100000 in
theorem kX4_nodesAfter (l : Launch) (Y : KY) (sa : Nat → Nat) (s_fi : Int32) (s_ta : Int32) (s_st : Nat → Int32) (s_qu : Nat → Int32) (a1 : Int32) {o : Int32} (h : pX4_nodesAfter a1 s_fi s_ta s_st s_qu = some o) : CtI l yX4_nodesAfter wsX4_nodesAfter rmX4_nodesAfter Y [.ref (sa 0), .int a1] (kfl [gS Y sa s_fi s_ta s_st s_qu]) o (kfl [gS Y sa s_fi s_ta s_st s_qu]) := by
  refine ctI_intro (cc := cX4_nodesAfter) (maxL := 4) (own := RX4) (by decide +kernel) rfl rfl (Nat.le_of_ble_eq_true rfl) rfl ?_
  intro X A hX _ hret
  have hin4 : ∀ w ∈ u_ws RX4 TX4 4, w ∈ wsX4_nodesAfter := by decide +kernel
  have f0 := hX.w (Cond.fieldLink RX4 18 "PeriodicNet$Search" "first" "I") (by decide +kernel)
  have f1 := hX.w (Cond.fieldLink RX4 22 "PeriodicNet$Search" "tail" "I") (by decide +kernel)
  have f2 := hX.w (Cond.fieldLink RX4 11 "PeriodicNet$Search" "stepsOf" "[I") (by decide +kernel)
  have f3 := hX.w (Cond.fieldLink RX4 15 "PeriodicNet$Search" "queue" "[I") (by decide +kernel)
  have L7 : ∀ (n : Nat) (l1 : Int32) (l2 : Int32) (l3 : Int32) (z_s_fi : Int32) (z_s_ta : Int32) (z_s_st : Nat → Int32) (z_s_qu : Nat → Int32) (o : Int32 × Int32), pX4_nodesAfter_L7 n l1 l2 l3 z_s_ta z_s_st z_s_qu = some o → KW X Y A 4 0 0 (kfl [gS Y sa z_s_fi z_s_ta z_s_st z_s_qu]) [(0, .ref (sa 0)), (1, .int l1), (2, .int o.1), (3, .int o.2)] 39 [] → KW X Y A 4 0 0 (kfl [gS Y sa z_s_fi z_s_ta z_s_st z_s_qu]) [(0, .ref (sa 0)), (1, .int l1), (2, .int l2), (3, .int l3)] 7 [] := by
    intro n
    induction n with
    | zero => intro l1 l2 l3 z_s_fi z_s_ta z_s_st z_s_qu o h; cases h
    | succ n ih =>
      intro l1 l2 l3 z_s_fi z_s_ta z_s_st z_s_qu o h hK
      rw [pX4_nodesAfter_L7] at h
      refine kw_iload_n hX 7 dX4_nodesAfter_7 rfl 3 rfl ?_
      refine kw_aload_n hX 8 dX4_nodesAfter_8 rfl 0 rfl ?_
      refine kw_get hX 9 (C := RX4) (T := TX4) (N := 4) hin4 3 f1 (fun _ h => h) 0 rfl rfl (by decide) rfl dX4_nodesAfter_9 ?_
      refine kw_icmp_ge hX 12 39 dX4_nodesAfter_12 (by decide) (fun c1 => ?_) (fun c1 => ?_)
      · have h := kif_t c1 h
        obtain rfl := Option.some.inj h
        refine kw_lv (lv' := [(0, .ref (sa 0)), (1, .int l1), (2, .int l2), (3, .int l3)]) [0, 1, 2, 3] rfl ?_
        exact hK
      · have h := kif_f c1 h
        refine kw_aload_n hX 15 dX4_nodesAfter_15 rfl 0 rfl ?_
        refine kw_get hX 16 (C := RX4) (T := TX4) (N := 4) hin4 0 f2 (fun _ h => h) 0 rfl rfl (by decide) rfl dX4_nodesAfter_16 ?_
        refine kw_aload_n hX 19 dX4_nodesAfter_19 rfl 0 rfl ?_
        refine kw_get hX 20 (C := RX4) (T := TX4) (N := 4) hin4 1 f3 (fun _ h => h) 0 rfl rfl (by decide) rfl dX4_nodesAfter_20 ?_
        refine kw_iload_n hX 23 dX4_nodesAfter_23 rfl 3 rfl ?_
        obtain ⟨g2, h⟩ := kgd_some h
        refine kw_iald hX 24 2 rfl g2 dX4_nodesAfter_24 ?_
        obtain ⟨g3, h⟩ := kgd_some h
        refine kw_iald hX 25 1 rfl g3 dX4_nodesAfter_25 ?_
        refine kw_iload_n hX 26 dX4_nodesAfter_26 rfl 1 rfl ?_
        obtain ⟨v5, hj7, h⟩ := kb_some h
        have J6 : KW X Y A 4 0 0 (kfl [gS Y sa z_s_fi z_s_ta z_s_st z_s_qu]) [(0, .ref (sa 0)), (1, .int l1), (2, .int v5), (3, .int l3)] 33 [] := by
          refine kw_iinc (v := (l3 + 1)) (lv' := [(3, .int (l3 + 1)), (0, .ref (sa 0)), (1, .int l1), (2, .int v5)]) hX 33 dX4_nodesAfter_33 3 rfl (kinc_1 _) (by decide) rfl ?_
          refine kw_goto hX 36 7 dX4_nodesAfter_36 (by decide) ?_
          refine kw_lv (lv' := [(0, .ref (sa 0)), (1, .int l1), (2, .int v5), (3, .int (l3 + 1))]) [1, 2, 3, 0] rfl ?_
          exact ih l1 v5 (l3 + 1) z_s_fi z_s_ta z_s_st z_s_qu o h hK
        have h := hj7
        refine kw_icmp_ne hX 27 33 dX4_nodesAfter_27 (by decide) (fun c4 => ?_) (fun c4 => ?_)
        · have h := kif_f c4 h
          obtain rfl := Option.some.inj h
          refine kw_lv (lv' := [(0, .ref (sa 0)), (1, .int l1), (2, .int l2), (3, .int l3)]) [0, 1, 2, 3] rfl ?_
          exact J6
        · have h := kif_t c4 h
          refine kw_iinc (v := (l2 + 1)) (lv' := [(2, .int (l2 + 1)), (0, .ref (sa 0)), (1, .int l1), (3, .int l3)]) hX 30 dX4_nodesAfter_30 2 rfl (kinc_1 _) (by decide) rfl ?_
          obtain rfl := Option.some.inj h
          refine kw_lv (lv' := [(0, .ref (sa 0)), (1, .int l1), (2, .int (l2 + 1)), (3, .int l3)]) [1, 2, 0, 3] rfl ?_
          exact J6
  unfold pX4_nodesAfter at h
  refine kw_lv (lv' := [(0, .ref (sa 0)), (1, .int a1)]) [0, 1] rfl ?_
  refine kw_iconst hX 0 dX4_nodesAfter_0 kci_0 ?_
  refine kw_istore_n (lv' := [(2, .int 0), (0, .ref (sa 0)), (1, .int a1)]) hX 1 dX4_nodesAfter_1 rfl (by decide) rfl ?_
  refine kw_aload_n hX 2 dX4_nodesAfter_2 rfl 1 rfl ?_
  refine kw_get hX 3 (C := RX4) (T := TX4) (N := 4) hin4 2 f0 (fun _ h => h) 0 rfl rfl (by decide) rfl dX4_nodesAfter_3 ?_
  refine kw_istore_n (lv' := [(3, .int s_fi), (2, .int 0), (0, .ref (sa 0)), (1, .int a1)]) hX 6 dX4_nodesAfter_6 rfl (by decide) rfl ?_
  obtain ⟨v8, hl9, h⟩ := kb_some h
  refine kw_lv (lv' := [(0, .ref (sa 0)), (1, .int a1), (2, .int 0), (3, .int s_fi)]) [2, 3, 1, 0] rfl ?_
  refine L7 KF a1 0 s_fi s_fi s_ta s_st s_qu v8 hl9 ?_
  refine kw_iload_n hX 39 dX4_nodesAfter_39 rfl 2 rfl ?_
  obtain rfl := Option.some.inj h
  exact hret _ _ dX4_nodesAfter_40 rfl
