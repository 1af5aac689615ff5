def pX5_isShift (a1 : Int32)  : Option (Int32) := (if a1 < ((-2) : Int32) then some 0 else (if (2 : Int32) < a1 then some 0 else some 1))
def rmX5_isShift : Room := { frames := 0, cells := 0, slots := 0, locals := 0 }
theorem hdS_X5_isShift : yX5_isShift.cls ≠ "java/lang/invoke/MethodHandle" ∧ yX5_isShift.cls ≠ "java/lang/invoke/VarHandle" ∧ (parseMethodDescriptor yX5_isShift.desc).map (fun d => d.parameters.length) = some 1 := ⟨by decide +kernel, by decide +kernel, by decide +kernel⟩
set_option maxHeartbeats 4000000 in
set_option maxRecDepth 100000 in
theorem kX5_isShift (l : Launch) (Y : KY)   (a1 : Int32) {o : Int32} (h : pX5_isShift a1 = some o) : CtI l yX5_isShift wsX5_isShift rmX5_isShift Y [.int a1] (kfl []) o (kfl []) := by
  refine ctI_intro (cc := cX5_isShift) (maxL := 1) (own := RX5) (by decide +kernel) rfl rfl (Nat.le_of_ble_eq_true rfl) rfl ?_
  intro X A hX _ hret
  unfold pX5_isShift at h
  refine kw_lv (lv' := [(0, .int a1)]) [0] rfl ?_
  refine kw_iload_n hX 0 dX5_isShift_0 rfl 0 rfl ?_
  refine kw_bipush hX 1 dX5_isShift_1 kcb_m2 ?_
  refine kw_icmp_lt hX 3 15 dX5_isShift_3 (by decide) (fun c1 => ?_) (fun c1 => ?_)
  · have h := kif_t c1 h
    refine kw_iconst hX 15 dX5_isShift_15 kci_0 ?_
    obtain rfl := Option.some.inj h
    exact hret _ _ dX5_isShift_16 rfl
  · have h := kif_f c1 h
    refine kw_iload_n hX 6 dX5_isShift_6 rfl 0 rfl ?_
    refine kw_iconst hX 7 dX5_isShift_7 kci_2 ?_
    refine kw_icmp_gt hX 8 15 dX5_isShift_8 (by decide) (fun c2 => ?_) (fun c2 => ?_)
    · have h := kif_t c2 h
      refine kw_iconst hX 15 dX5_isShift_15 kci_0 ?_
      obtain rfl := Option.some.inj h
      exact hret _ _ dX5_isShift_16 rfl
    · have h := kif_f c2 h
      refine kw_iconst hX 11 dX5_isShift_11 kci_1 ?_
      refine kw_goto hX 12 16 dX5_isShift_12 (by decide) ?_
      obtain rfl := Option.some.inj h
      exact hret _ _ dX5_isShift_16 rfl
def pX5_greatestDivisor_L31 : Nat → Int64 → Int64 → Int32 → Option (Int64 × Int64 × Int32)
  | 0, _, _, _ => none
  | n + 1, l4, l6, l8 => (if (100 : Int32) ≤ l8 then some (l4, l6, l8) else (if (lg_cmp l6 0) = 0 then some (l4, l6, l8) else kgd (decide (¬ l6 = 0)) (pX5_greatestDivisor_L31 n l6 (l4 - l4 / l6 * l6) (l8 + 1))))
def pX5_greatestDivisor (a1 : Int64) (a2 : Int64)  : Option (Int64) := kb ((if 0 ≤ (lg_cmp a1 0) then some a1 else some (-a1)) : Option (Int64)) (fun v2 => kb ((if 0 ≤ (lg_cmp a2 0) then some a2 else some (-a2)) : Option (Int64)) (fun v5 => kb (pX5_greatestDivisor_L31 KF v2 v5 0) (fun v10 => some v10.1)))
def rmX5_greatestDivisor : Room := { frames := 0, cells := 0, slots := 0, locals := 0 }
theorem hdS_X5_greatestDivisor : yX5_greatestDivisor.cls ≠ "java/lang/invoke/MethodHandle" ∧ yX5_greatestDivisor.cls ≠ "java/lang/invoke/VarHandle" ∧ (parseMethodDescriptor yX5_greatestDivisor.desc).map (fun d => d.parameters.length) = some 2 := ⟨by decide +kernel, by decide +kernel, by decide +kernel⟩
set_option maxHeartbeats 4000000 in
set_option maxRecDepth 100000 in
theorem kX5_greatestDivisor (l : Launch) (Y : KY)   (a1 : Int64) (a2 : Int64) {o : Int64} (h : pX5_greatestDivisor a1 a2 = some o) : CtL l yX5_greatestDivisor wsX5_greatestDivisor rmX5_greatestDivisor Y [.long a1, .long a2] (kfl []) o (kfl []) := by
  refine ctL_intro (cc := cX5_greatestDivisor) (maxL := 11) (own := RX5) (by decide +kernel) rfl rfl (Nat.le_of_ble_eq_true rfl) rfl ?_
  intro X A hX _ hret
  have L31 : ∀ (n : Nat) (l4 : Int64) (l6 : Int64) (l8 : Int32)  (o : Int64 × Int64 × Int32), pX5_greatestDivisor_L31 n l4 l6 l8 = some o → KW X Y A 11 0 0 (kfl []) [(4, .long o.1), (6, .long o.2.1), (8, .int o.2.2)] 66 [] → KW X Y A 11 0 0 (kfl []) [(4, .long l4), (6, .long l6), (8, .int l8)] 31 [] := by
    intro n
    induction n with
    | zero => intro l4 l6 l8 o h; cases h
    | succ n ih =>
      intro l4 l6 l8 o h hK
      rw [pX5_greatestDivisor_L31] at h
      refine kw_iload hX 31 dX5_greatestDivisor_31 2 rfl ?_
      refine kw_bipush hX 33 dX5_greatestDivisor_33 kcb_100 ?_
      refine kw_icmp_ge hX 35 66 dX5_greatestDivisor_35 (by decide) (fun c7 => ?_) (fun c7 => ?_)
      · have h := kif_t c7 h
        obtain rfl := Option.some.inj h
        refine kw_lv (lv' := [(4, .long l4), (6, .long l6), (8, .int l8)]) [0, 1, 2] rfl ?_
        exact hK
      · have h := kif_f c7 h
        refine kw_lload hX 38 dX5_greatestDivisor_38 1 rfl ?_
        refine kw_lconst hX 40 dX5_greatestDivisor_40 kcl_0 ?_
        refine kw_lcmp hX 41 dX5_greatestDivisor_41 ?_
        refine kw_if_eq hX 42 66 dX5_greatestDivisor_42 (by decide) (fun c8 => ?_) (fun c8 => ?_)
        · have h := kif_t c8 h
          obtain rfl := Option.some.inj h
          refine kw_lv (lv' := [(4, .long l4), (6, .long l6), (8, .int l8)]) [0, 1, 2] rfl ?_
          exact hK
        · have h := kif_f c8 h
          refine kw_lload hX 45 dX5_greatestDivisor_45 0 rfl ?_
          refine kw_lload hX 47 dX5_greatestDivisor_47 1 rfl ?_
          obtain ⟨g9, h⟩ := kgd_some h
          refine kw_lrem hX 49 dX5_greatestDivisor_49 (of_decide_eq_true g9) ?_
          refine kw_lstore (lv' := [(9, .long (l4 - l4 / l6 * l6)), (4, .long l4), (6, .long l6), (8, .int l8)]) hX 50 dX5_greatestDivisor_50 (by decide) rfl ?_
          refine kw_lload hX 52 dX5_greatestDivisor_52 2 rfl ?_
          refine kw_lstore (lv' := [(4, .long l6), (9, .long (l4 - l4 / l6 * l6)), (6, .long l6), (8, .int l8)]) hX 54 dX5_greatestDivisor_54 (by decide) rfl ?_
          refine kw_lload hX 56 dX5_greatestDivisor_56 1 rfl ?_
          refine kw_lstore (lv' := [(6, .long (l4 - l4 / l6 * l6)), (4, .long l6), (9, .long (l4 - l4 / l6 * l6)), (8, .int l8)]) hX 58 dX5_greatestDivisor_58 (by decide) rfl ?_
          refine kw_iinc (v := (l8 + 1)) (lv' := [(8, .int (l8 + 1)), (6, .long (l4 - l4 / l6 * l6)), (4, .long l6), (9, .long (l4 - l4 / l6 * l6))]) hX 60 dX5_greatestDivisor_60 3 rfl (kinc_1 _) (by decide) rfl ?_
          refine kw_goto hX 63 31 dX5_greatestDivisor_63 (by decide) ?_
          refine kw_lv (lv' := [(4, .long l6), (6, .long (l4 - l4 / l6 * l6)), (8, .int (l8 + 1))]) [2, 1, 0] rfl ?_
          exact ih l6 (l4 - l4 / l6 * l6) (l8 + 1) o h hK
  unfold pX5_greatestDivisor at h
  refine kw_lv (lv' := [(0, .long a1), (2, .long a2)]) [0, 1] rfl ?_
  refine kw_lload_n hX 0 dX5_greatestDivisor_0 rfl 0 rfl ?_
  refine kw_lconst hX 1 dX5_greatestDivisor_1 kcl_0 ?_
  refine kw_lcmp hX 2 dX5_greatestDivisor_2 ?_
  obtain ⟨v2, hj13, h⟩ := kb_some h
  have J3 : KW X Y A 11 0 0 (kfl []) [(2, .long a2)] 12 [.long v2] := by
    refine kw_lstore (lv' := [(4, .long v2), (2, .long a2)]) hX 12 dX5_greatestDivisor_12 (by decide) rfl ?_
    refine kw_lload_n hX 14 dX5_greatestDivisor_14 rfl 1 rfl ?_
    refine kw_lconst hX 15 dX5_greatestDivisor_15 kcl_0 ?_
    refine kw_lcmp hX 16 dX5_greatestDivisor_16 ?_
    obtain ⟨v5, hj12, h⟩ := kb_some h
    have J6 : KW X Y A 11 0 0 (kfl []) [(4, .long v2)] 26 [.long v5] := by
      refine kw_lstore (lv' := [(6, .long v5), (4, .long v2)]) hX 26 dX5_greatestDivisor_26 (by decide) rfl ?_
      refine kw_iconst hX 28 dX5_greatestDivisor_28 kci_0 ?_
      refine kw_istore (lv' := [(8, .int 0), (6, .long v5), (4, .long v2)]) hX 29 dX5_greatestDivisor_29 (by decide) rfl ?_
      obtain ⟨v10, hl11, h⟩ := kb_some h
      refine kw_lv (lv' := [(4, .long v2), (6, .long v5), (8, .int 0)]) [2, 1, 0] rfl ?_
      refine L31 KF v2 v5 0 v10 hl11 ?_
      refine kw_lload hX 66 dX5_greatestDivisor_66 0 rfl ?_
      obtain rfl := Option.some.inj h
      exact hret _ _ dX5_greatestDivisor_68
    have h := hj12
    refine kw_if_ge hX 17 25 dX5_greatestDivisor_17 (by decide) (fun c4 => ?_) (fun c4 => ?_)
    · have h := kif_t c4 h
      refine kw_lload_n hX 25 dX5_greatestDivisor_25 rfl 1 rfl ?_
      obtain rfl := Option.some.inj h
      refine kw_lv (lv' := [(4, .long v2)]) [0] rfl ?_
      exact J6
    · have h := kif_f c4 h
      refine kw_lload_n hX 20 dX5_greatestDivisor_20 rfl 1 rfl ?_
      refine kw_lneg hX 21 dX5_greatestDivisor_21 ?_
      refine kw_goto hX 22 26 dX5_greatestDivisor_22 (by decide) ?_
      obtain rfl := Option.some.inj h
      refine kw_lv (lv' := [(4, .long v2)]) [0] rfl ?_
      exact J6
  have h := hj13
  refine kw_if_ge hX 3 11 dX5_greatestDivisor_3 (by decide) (fun c1 => ?_) (fun c1 => ?_)
  · have h := kif_t c1 h
    refine kw_lload_n hX 11 dX5_greatestDivisor_11 rfl 0 rfl ?_
    obtain rfl := Option.some.inj h
    refine kw_lv (lv' := [(2, .long a2)]) [1] rfl ?_
    exact J3
  · have h := kif_f c1 h
    refine kw_lload_n hX 6 dX5_greatestDivisor_6 rfl 0 rfl ?_
    refine kw_lneg hX 7 dX5_greatestDivisor_7 ?_
    refine kw_goto hX 8 12 dX5_greatestDivisor_8 (by decide) ?_
    obtain rfl := Option.some.inj h
    refine kw_lv (lv' := [(2, .long a2)]) [1] rfl ?_
    exact J3
def pX5_isCell (a1 : Int32)  : Option (Int32) := (if a1 < ((-8) : Int32) then some 0 else (if (8 : Int32) < a1 then some 0 else some 1))
def rmX5_isCell : Room := { frames := 0, cells := 0, slots := 0, locals := 0 }
theorem hdS_X5_isCell : yX5_isCell.cls ≠ "java/lang/invoke/MethodHandle" ∧ yX5_isCell.cls ≠ "java/lang/invoke/VarHandle" ∧ (parseMethodDescriptor yX5_isCell.desc).map (fun d => d.parameters.length) = some 1 := ⟨by decide +kernel, by decide +kernel, by decide +kernel⟩
set_option maxHeartbeats 4000000 in
set_option maxRecDepth 100000 in
theorem kX5_isCell (l : Launch) (Y : KY)   (a1 : Int32) {o : Int32} (h : pX5_isCell a1 = some o) : CtI l yX5_isCell wsX5_isCell rmX5_isCell Y [.int a1] (kfl []) o (kfl []) := by
  refine ctI_intro (cc := cX5_isCell) (maxL := 1) (own := RX5) (by decide +kernel) rfl rfl (Nat.le_of_ble_eq_true rfl) rfl ?_
  intro X A hX _ hret
  unfold pX5_isCell at h
  refine kw_lv (lv' := [(0, .int a1)]) [0] rfl ?_
  refine kw_iload_n hX 0 dX5_isCell_0 rfl 0 rfl ?_
  refine kw_bipush hX 1 dX5_isCell_1 kcb_m8 ?_
  refine kw_icmp_lt hX 3 16 dX5_isCell_3 (by decide) (fun c1 => ?_) (fun c1 => ?_)
  · have h := kif_t c1 h
    refine kw_iconst hX 16 dX5_isCell_16 kci_0 ?_
    obtain rfl := Option.some.inj h
    exact hret _ _ dX5_isCell_17 rfl
  · have h := kif_f c1 h
    refine kw_iload_n hX 6 dX5_isCell_6 rfl 0 rfl ?_
    refine kw_bipush hX 7 dX5_isCell_7 kcb_8 ?_
    refine kw_icmp_gt hX 9 16 dX5_isCell_9 (by decide) (fun c2 => ?_) (fun c2 => ?_)
    · have h := kif_t c2 h
      refine kw_iconst hX 16 dX5_isCell_16 kci_0 ?_
      obtain rfl := Option.some.inj h
      exact hret _ _ dX5_isCell_17 rfl
    · have h := kif_f c2 h
      refine kw_iconst hX 12 dX5_isCell_12 kci_1 ?_
      refine kw_goto hX 13 17 dX5_isCell_13 (by decide) ?_
      obtain rfl := Option.some.inj h
      exact hret _ _ dX5_isCell_17 rfl
def pX5_floatBits_L24 : Nat → UInt32 → UInt32 → Int32 → Option (UInt32 × Int32)
  | 0, _, _, _ => none
  | n + 1, l0, l1, l2 => (if (Op.cmpValue (FP.fcmp l1 FP.fconst2) CmpOp.l) < 0 then some (l1, l2) else (if (254 : Int32) ≤ l2 then some (l1, l2) else kgd (kfn (FP.fdiv l1 FP.fconst2)) (pX5_floatBits_L24 n l0 (FP.fdiv l1 FP.fconst2) (l2 + 1))))
def pX5_floatBits_L47 : Nat → UInt32 → UInt32 → Int32 → Option (UInt32 × Int32)
  | 0, _, _, _ => none
  | n + 1, l0, l1, l2 => (if 0 ≤ (Op.cmpValue (FP.fcmp l1 FP.fconst1) CmpOp.g) then some (l1, l2) else (if l2 ≤ (1 : Int32) then some (l1, l2) else kgd (kfn (FP.fmul l1 FP.fconst2)) (pX5_floatBits_L47 n l0 (FP.fmul l1 FP.fconst2) (l2 + (-1)))))
def pX5_floatBits (a1 : UInt32)  : Option (Int32) := (if (Op.cmpValue (FP.fcmp a1 FP.fconst0) CmpOp.l) = 0 then some 0 else kb ((if 0 ≤ (Op.cmpValue (FP.fcmp a1 FP.fconst0) CmpOp.g) then some a1 else some (FP.fneg a1)) : Option (UInt32)) (fun v3 => kb (pX5_floatBits_L24 KF a1 v3 127) (fun v8 => kb (pX5_floatBits_L47 KF a1 v8.1 v8.2) (fun v13 => kgd (kfn (FP.fmul v13.1 (1258291200 : UInt32))) (kb ((if 0 ≤ (Op.cmpValue (FP.fcmp a1 FP.fconst0) CmpOp.g) then some 0 else some (-2147483648)) : Option (Int32)) (fun v17 => some ((v17 ||| (v13.2 <<< (23 &&& 31))) ||| ((FP.f2i (FP.fmul v13.1 (1258291200 : UInt32))) - 8388608))))))))
def rmX5_floatBits : Room := { frames := 0, cells := 0, slots := 0, locals := 0 }
theorem hdS_X5_floatBits : yX5_floatBits.cls ≠ "java/lang/invoke/MethodHandle" ∧ yX5_floatBits.cls ≠ "java/lang/invoke/VarHandle" ∧ (parseMethodDescriptor yX5_floatBits.desc).map (fun d => d.parameters.length) = some 1 := ⟨by decide +kernel, by decide +kernel, by decide +kernel⟩
set_option maxHeartbeats 4000000 in
set_option maxRecDepth 100000 in
theorem kX5_floatBits (l : Launch) (Y : KY)   (a1 : UInt32) {o : Int32} (h : pX5_floatBits a1 = some o) : CtI l yX5_floatBits wsX5_floatBits rmX5_floatBits Y [.float a1] (kfl []) o (kfl []) := by
  refine ctI_intro (cc := cX5_floatBits) (maxL := 4) (own := RX5) (by decide +kernel) rfl rfl (Nat.le_of_ble_eq_true rfl) rfl ?_
  intro X A hX _ hret
  have f0 := hX.w (Cond.constantFloat RX5 239 (1258291200)) (by decide +kernel)
  have f1 := hX.w (Cond.constant RX5 240 (8388608)) (by decide +kernel)
  have f2 := hX.w (Cond.constant RX5 241 (-2147483648)) (by decide +kernel)
  have L24 : ∀ (n : Nat) (l0 : UInt32) (l1 : UInt32) (l2 : Int32)  (o : UInt32 × Int32), pX5_floatBits_L24 n l0 l1 l2 = some o → KW X Y A 4 0 0 (kfl []) [(0, .float l0), (1, .float o.1), (2, .int o.2)] 47 [] → KW X Y A 4 0 0 (kfl []) [(0, .float l0), (1, .float l1), (2, .int l2)] 24 [] := by
    intro n
    induction n with
    | zero => intro l0 l1 l2 o h; cases h
    | succ n ih =>
      intro l0 l1 l2 o h hK
      rw [pX5_floatBits_L24] at h
      refine kw_fload_n hX 24 dX5_floatBits_24 rfl 1 rfl ?_
      refine kw_fconst2 hX 25 dX5_floatBits_25 ?_
      refine kw_fcmp hX 26 dX5_floatBits_26 ?_
      refine kw_if_lt hX 27 47 dX5_floatBits_27 (by decide) (fun c5 => ?_) (fun c5 => ?_)
      · have h := kif_t c5 h
        obtain rfl := Option.some.inj h
        refine kw_lv (lv' := [(0, .float l0), (1, .float l1), (2, .int l2)]) [0, 1, 2] rfl ?_
        exact hK
      · have h := kif_f c5 h
        refine kw_iload_n hX 30 dX5_floatBits_30 rfl 2 rfl ?_
        refine kw_sipush hX 31 dX5_floatBits_31 kcs_254 ?_
        refine kw_icmp_ge hX 34 47 dX5_floatBits_34 (by decide) (fun c6 => ?_) (fun c6 => ?_)
        · have h := kif_t c6 h
          obtain rfl := Option.some.inj h
          refine kw_lv (lv' := [(0, .float l0), (1, .float l1), (2, .int l2)]) [0, 1, 2] rfl ?_
          exact hK
        · have h := kif_f c6 h
          refine kw_fload_n hX 37 dX5_floatBits_37 rfl 1 rfl ?_
          refine kw_fconst2 hX 38 dX5_floatBits_38 ?_
          obtain ⟨g7, h⟩ := kgd_some h
          refine kw_fdiv hX 39 dX5_floatBits_39 g7 ?_
          refine kw_fstore_n (lv' := [(1, .float (FP.fdiv l1 FP.fconst2)), (0, .float l0), (2, .int l2)]) hX 40 dX5_floatBits_40 rfl (by decide) rfl ?_
          refine kw_iinc (v := (l2 + 1)) (lv' := [(2, .int (l2 + 1)), (1, .float (FP.fdiv l1 FP.fconst2)), (0, .float l0)]) hX 41 dX5_floatBits_41 2 rfl (kinc_1 _) (by decide) rfl ?_
          refine kw_goto hX 44 24 dX5_floatBits_44 (by decide) ?_
          refine kw_lv (lv' := [(0, .float l0), (1, .float (FP.fdiv l1 FP.fconst2)), (2, .int (l2 + 1))]) [2, 1, 0] rfl ?_
          exact ih l0 (FP.fdiv l1 FP.fconst2) (l2 + 1) o h hK
  have L47 : ∀ (n : Nat) (l0 : UInt32) (l1 : UInt32) (l2 : Int32)  (o : UInt32 × Int32), pX5_floatBits_L47 n l0 l1 l2 = some o → KW X Y A 4 0 0 (kfl []) [(0, .float l0), (1, .float o.1), (2, .int o.2)] 68 [] → KW X Y A 4 0 0 (kfl []) [(0, .float l0), (1, .float l1), (2, .int l2)] 47 [] := by
    intro n
    induction n with
    | zero => intro l0 l1 l2 o h; cases h
    | succ n ih =>
      intro l0 l1 l2 o h hK
      rw [pX5_floatBits_L47] at h
      refine kw_fload_n hX 47 dX5_floatBits_47 rfl 1 rfl ?_
      refine kw_fconst1 hX 48 dX5_floatBits_48 ?_
      refine kw_fcmp hX 49 dX5_floatBits_49 ?_
      refine kw_if_ge hX 50 68 dX5_floatBits_50 (by decide) (fun c10 => ?_) (fun c10 => ?_)
      · have h := kif_t c10 h
        obtain rfl := Option.some.inj h
        refine kw_lv (lv' := [(0, .float l0), (1, .float l1), (2, .int l2)]) [0, 1, 2] rfl ?_
        exact hK
      · have h := kif_f c10 h
        refine kw_iload_n hX 53 dX5_floatBits_53 rfl 2 rfl ?_
        refine kw_iconst hX 54 dX5_floatBits_54 kci_1 ?_
        refine kw_icmp_le hX 55 68 dX5_floatBits_55 (by decide) (fun c11 => ?_) (fun c11 => ?_)
        · have h := kif_t c11 h
          obtain rfl := Option.some.inj h
          refine kw_lv (lv' := [(0, .float l0), (1, .float l1), (2, .int l2)]) [0, 1, 2] rfl ?_
          exact hK
        · have h := kif_f c11 h
          refine kw_fload_n hX 58 dX5_floatBits_58 rfl 1 rfl ?_
          refine kw_fconst2 hX 59 dX5_floatBits_59 ?_
          obtain ⟨g12, h⟩ := kgd_some h
          refine kw_fmul hX 60 dX5_floatBits_60 g12 ?_
          refine kw_fstore_n (lv' := [(1, .float (FP.fmul l1 FP.fconst2)), (0, .float l0), (2, .int l2)]) hX 61 dX5_floatBits_61 rfl (by decide) rfl ?_
          refine kw_iinc (v := (l2 + (-1))) (lv' := [(2, .int (l2 + (-1))), (1, .float (FP.fmul l1 FP.fconst2)), (0, .float l0)]) hX 62 dX5_floatBits_62 2 rfl (kinc_m1 _) (by decide) rfl ?_
          refine kw_goto hX 65 47 dX5_floatBits_65 (by decide) ?_
          refine kw_lv (lv' := [(0, .float l0), (1, .float (FP.fmul l1 FP.fconst2)), (2, .int (l2 + (-1)))]) [2, 1, 0] rfl ?_
          exact ih l0 (FP.fmul l1 FP.fconst2) (l2 + (-1)) o h hK
  unfold pX5_floatBits at h
  refine kw_lv (lv' := [(0, .float a1)]) [0] rfl ?_
  refine kw_fload_n hX 0 dX5_floatBits_0 rfl 0 rfl ?_
  refine kw_fconst0 hX 1 dX5_floatBits_1 ?_
  refine kw_fcmp hX 2 dX5_floatBits_2 ?_
  refine kw_if_ne hX 3 8 dX5_floatBits_3 (by decide) (fun c1 => ?_) (fun c1 => ?_)
  · have h := kif_f c1 h
    refine kw_fload_n hX 8 dX5_floatBits_8 rfl 0 rfl ?_
    refine kw_fconst0 hX 9 dX5_floatBits_9 ?_
    refine kw_fcmp hX 10 dX5_floatBits_10 ?_
    obtain ⟨v3, hj20, h⟩ := kb_some h
    have J4 : KW X Y A 4 0 0 (kfl []) [(0, .float a1)] 20 [.float v3] := by
      refine kw_fstore_n (lv' := [(1, .float v3), (0, .float a1)]) hX 20 dX5_floatBits_20 rfl (by decide) rfl ?_
      refine kw_bipush hX 21 dX5_floatBits_21 kcb_127 ?_
      refine kw_istore_n (lv' := [(2, .int 127), (1, .float v3), (0, .float a1)]) hX 23 dX5_floatBits_23 rfl (by decide) rfl ?_
      obtain ⟨v8, hl9, h⟩ := kb_some h
      refine kw_lv (lv' := [(0, .float a1), (1, .float v3), (2, .int 127)]) [2, 1, 0] rfl ?_
      refine L24 KF a1 v3 127 v8 hl9 ?_
      obtain ⟨v13, hl14, h⟩ := kb_some h
      refine kw_lv (lv' := [(0, .float a1), (1, .float v8.1), (2, .int v8.2)]) [0, 1, 2] rfl ?_
      refine L47 KF a1 v8.1 v8.2 v13 hl14 ?_
      refine kw_fload_n hX 68 dX5_floatBits_68 rfl 1 rfl ?_
      refine kw_ldcf hX 69 dX5_floatBits_69 f0 ?_
      obtain ⟨g15, h⟩ := kgd_some h
      refine kw_fmul hX 71 dX5_floatBits_71 g15 ?_
      refine kw_f2i hX 72 dX5_floatBits_72 ?_
      refine kw_ldc hX 73 dX5_floatBits_73 f1 ?_
      refine kw_isub hX 75 dX5_floatBits_75 ?_
      refine kw_istore_n (lv' := [(3, .int ((FP.f2i (FP.fmul v13.1 (1258291200 : UInt32))) - 8388608)), (0, .float a1), (1, .float v13.1), (2, .int v13.2)]) hX 76 dX5_floatBits_76 rfl (by decide) rfl ?_
      refine kw_fload_n hX 77 dX5_floatBits_77 rfl 1 rfl ?_
      refine kw_fconst0 hX 78 dX5_floatBits_78 ?_
      refine kw_fcmp hX 79 dX5_floatBits_79 ?_
      obtain ⟨v17, hj19, h⟩ := kb_some h
      have J18 : KW X Y A 4 0 0 (kfl []) [(2, .int v13.2), (3, .int ((FP.f2i (FP.fmul v13.1 (1258291200 : UInt32))) - 8388608))] 89 [.int v17] := by
        refine kw_iload_n hX 89 dX5_floatBits_89 rfl 0 rfl ?_
        refine kw_bipush hX 90 dX5_floatBits_90 kcb_23 ?_
        refine kw_ishl hX 92 dX5_floatBits_92 ?_
        refine kw_ior hX 93 dX5_floatBits_93 ?_
        refine kw_iload_n hX 94 dX5_floatBits_94 rfl 1 rfl ?_
        refine kw_ior hX 95 dX5_floatBits_95 ?_
        obtain rfl := Option.some.inj h
        exact hret _ _ dX5_floatBits_96 rfl
      have h := hj19
      refine kw_if_ge hX 80 88 dX5_floatBits_80 (by decide) (fun c16 => ?_) (fun c16 => ?_)
      · have h := kif_t c16 h
        refine kw_iconst hX 88 dX5_floatBits_88 kci_0 ?_
        obtain rfl := Option.some.inj h
        refine kw_lv (lv' := [(2, .int v13.2), (3, .int ((FP.f2i (FP.fmul v13.1 (1258291200 : UInt32))) - 8388608))]) [3, 0] rfl ?_
        exact J18
      · have h := kif_f c16 h
        refine kw_ldc hX 83 dX5_floatBits_83 f2 ?_
        refine kw_goto hX 85 89 dX5_floatBits_85 (by decide) ?_
        obtain rfl := Option.some.inj h
        refine kw_lv (lv' := [(2, .int v13.2), (3, .int ((FP.f2i (FP.fmul v13.1 (1258291200 : UInt32))) - 8388608))]) [3, 0] rfl ?_
        exact J18
    have h := hj20
    refine kw_if_ge hX 11 19 dX5_floatBits_11 (by decide) (fun c2 => ?_) (fun c2 => ?_)
    · have h := kif_t c2 h
      refine kw_fload_n hX 19 dX5_floatBits_19 rfl 0 rfl ?_
      obtain rfl := Option.some.inj h
      refine kw_lv (lv' := [(0, .float a1)]) [0] rfl ?_
      exact J4
    · have h := kif_f c2 h
      refine kw_fload_n hX 14 dX5_floatBits_14 rfl 0 rfl ?_
      refine kw_fneg hX 15 dX5_floatBits_15 ?_
      refine kw_goto hX 16 20 dX5_floatBits_16 (by decide) ?_
      obtain rfl := Option.some.inj h
      refine kw_lv (lv' := [(0, .float a1)]) [0] rfl ?_
      exact J4
  · have h := kif_t c1 h
    refine kw_iconst hX 6 dX5_floatBits_6 kci_0 ?_
    obtain rfl := Option.some.inj h
    exact hret _ _ dX5_floatBits_7 rfl
def pX5_mix (a1 : Int64) (a2 : Int64)  : Option (Int64) := some ((31 * a1) + a2)
def rmX5_mix : Room := { frames := 0, cells := 0, slots := 0, locals := 0 }
theorem hdS_X5_mix : yX5_mix.cls ≠ "java/lang/invoke/MethodHandle" ∧ yX5_mix.cls ≠ "java/lang/invoke/VarHandle" ∧ (parseMethodDescriptor yX5_mix.desc).map (fun d => d.parameters.length) = some 2 := ⟨by decide +kernel, by decide +kernel, by decide +kernel⟩
set_option maxHeartbeats 4000000 in
set_option maxRecDepth 100000 in
theorem kX5_mix (l : Launch) (Y : KY)   (a1 : Int64) (a2 : Int64) {o : Int64} (h : pX5_mix a1 a2 = some o) : CtL l yX5_mix wsX5_mix rmX5_mix Y [.long a1, .long a2] (kfl []) o (kfl []) := by
  refine ctL_intro (cc := cX5_mix) (maxL := 4) (own := RX5) (by decide +kernel) rfl rfl (Nat.le_of_ble_eq_true rfl) rfl ?_
  intro X A hX _ hret
  have f0 := hX.w (Cond.constantLong RX5 225 (31)) (by decide +kernel)
  unfold pX5_mix at h
  refine kw_lv (lv' := [(0, .long a1), (2, .long a2)]) [0, 1] rfl ?_
  refine kw_ldc2 hX 0 dX5_mix_0 f0 ?_
  refine kw_lload_n hX 3 dX5_mix_3 rfl 0 rfl ?_
  refine kw_lmul hX 4 dX5_mix_4 ?_
  refine kw_lload_n hX 5 dX5_mix_5 rfl 1 rfl ?_
  refine kw_ladd hX 6 dX5_mix_6 ?_
  obtain rfl := Option.some.inj h
  exact hret _ _ dX5_mix_7
def pX2_clear (a1 : Int32) (g_vc : Int32) (g_ec : Int32) : Option (Int32 × Int32) := some (a1, 0)
def rmX2_clear : Room := { frames := 0, cells := 0, slots := 0, locals := 0 }
theorem hdV_X2_clear : yX2_clear.cls = RX2 ∧ yX2_clear.cls ≠ "java/lang/invoke/MethodHandle" ∧ yX2_clear.cls ≠ "java/lang/invoke/VarHandle" ∧ (parseMethodDescriptor yX2_clear.desc).map (fun d => d.parameters.length) = some 1 := ⟨rfl, by decide +kernel, by decide +kernel, by decide +kernel⟩
set_option maxHeartbeats 4000000 in
set_option maxRecDepth 100000 in
theorem kX2_clear (l : Launch) (Y : KY) (ga : Nat → Nat) (g_vc : Int32) (g_ec : Int32) (g_F : Nat → Int32) (g_T : Nat → Int32) (g_X : Nat → Int32) (g_Z : Nat → Int32) (a1 : Int32) {o : Int32 × Int32} (h : pX2_clear a1 g_vc g_ec = some o) : CtV l yX2_clear wsX2_clear rmX2_clear Y [.ref (ga 0), .int a1] (kfl [gG Y ga g_vc g_ec g_F g_T g_X g_Z]) (kfl [gG Y ga o.1 o.2 g_F g_T g_X g_Z]) := by
  refine ctV_intro (cc := cX2_clear) (maxL := 2) (own := RX2) (by decide +kernel) rfl rfl (Nat.le_of_ble_eq_true rfl) rfl ?_
  intro X A hX _ hret
  have hin2 : ∀ w ∈ u_ws RX2 TX2 6, w ∈ wsX2_clear := by decide +kernel
  have f0 := hX.w (Cond.fieldLink RX2 9 "PeriodicNet$Graph" "vertexCount" "I") (by decide +kernel)
  have f1 := hX.w (Cond.fieldLink RX2 15 "PeriodicNet$Graph" "edgeCount" "I") (by decide +kernel)
  unfold pX2_clear at h
  refine kw_lv (lv' := [(0, .ref (ga 0)), (1, .int a1)]) [0, 1] rfl ?_
  refine kw_aload_n hX 0 dX2_clear_0 rfl 0 rfl ?_
  refine kw_iload_n hX 1 dX2_clear_1 rfl 1 rfl ?_
  refine kw_put hX 2 (C := RX2) (T := TX2) (N := 6) (ws' := (kfl [gG Y ga a1 g_ec g_F g_T g_X g_Z])) hin2 tyX2 tyX2_ok nmX2 0 f0 (fun _ h => h) 0 rfl rfl (by decide) rfl (ty := .int) (tyX2_ok 0 (by decide)) rfl rfl (Nat.le_of_ble_eq_true rfl) rfl dX2_clear_2 ?_
  refine kw_aload_n hX 5 dX2_clear_5 rfl 0 rfl ?_
  refine kw_iconst hX 6 dX2_clear_6 kci_0 ?_
  refine kw_put hX 7 (C := RX2) (T := TX2) (N := 6) (ws' := (kfl [gG Y ga a1 0 g_F g_T g_X g_Z])) hin2 tyX2 tyX2_ok nmX2 1 f1 (fun _ h => h) 0 rfl rfl (by decide) rfl (ty := .int) (tyX2_ok 1 (by decide)) rfl rfl (Nat.le_of_ble_eq_true rfl) rfl dX2_clear_7 ?_
  obtain rfl := Option.some.inj h
  exact hret _ _ dX2_clear_10
def pX2_setEdge (a1 : Int32) (a2 : Int32) (a3 : Int32) (a4 : Int32) (a5 : Int32) (g_F : Nat → Int32) (g_T : Nat → Int32) (g_X : Nat → Int32) (g_Z : Nat → Int32) : Option ((Nat → Int32) × (Nat → Int32) × (Nat → Int32) × (Nat → Int32)) := kgd (kin a1 12) (kgd (kin a1 12) (kgd (kin a1 12) (kgd (kin a1 12) (some ((upd g_F (a1 : Int32).toNatClampNeg a2), (upd g_T (a1 : Int32).toNatClampNeg a3), (upd g_X (a1 : Int32).toNatClampNeg a4), (upd g_Z (a1 : Int32).toNatClampNeg a5))))))
def rmX2_setEdge : Room := { frames := 0, cells := 0, slots := 0, locals := 0 }
theorem hdV_X2_setEdge : yX2_setEdge.cls = RX2 ∧ yX2_setEdge.cls ≠ "java/lang/invoke/MethodHandle" ∧ yX2_setEdge.cls ≠ "java/lang/invoke/VarHandle" ∧ (parseMethodDescriptor yX2_setEdge.desc).map (fun d => d.parameters.length) = some 5 := ⟨rfl, by decide +kernel, by decide +kernel, by decide +kernel⟩
set_option maxHeartbeats 4000000 in
set_option maxRecDepth 100000 in
theorem kX2_setEdge (l : Launch) (Y : KY) (ga : Nat → Nat) (g_vc : Int32) (g_ec : Int32) (g_F : Nat → Int32) (g_T : Nat → Int32) (g_X : Nat → Int32) (g_Z : Nat → Int32) (a1 : Int32) (a2 : Int32) (a3 : Int32) (a4 : Int32) (a5 : Int32) {o : (Nat → Int32) × (Nat → Int32) × (Nat → Int32) × (Nat → Int32)} (h : pX2_setEdge a1 a2 a3 a4 a5 g_F g_T g_X g_Z = some o) : CtV l yX2_setEdge wsX2_setEdge rmX2_setEdge Y [.ref (ga 0), .int a1, .int a2, .int a3, .int a4, .int a5] (kfl [gG Y ga g_vc g_ec g_F g_T g_X g_Z]) (kfl [gG Y ga g_vc g_ec o.1 o.2.1 o.2.2.1 o.2.2.2]) := by
  refine ctV_intro (cc := cX2_setEdge) (maxL := 6) (own := RX2) (by decide +kernel) rfl rfl (Nat.le_of_ble_eq_true rfl) rfl ?_
  intro X A hX _ hret
  have hin2 : ∀ w ∈ u_ws RX2 TX2 6, w ∈ wsX2_setEdge := by decide +kernel
  have f0 := hX.w (Cond.fieldLink RX2 18 "PeriodicNet$Graph" "from" "[I") (by decide +kernel)
  have f1 := hX.w (Cond.fieldLink RX2 22 "PeriodicNet$Graph" "to" "[I") (by decide +kernel)
  have f2 := hX.w (Cond.fieldLink RX2 25 "PeriodicNet$Graph" "shiftX" "[I") (by decide +kernel)
  have f3 := hX.w (Cond.fieldLink RX2 28 "PeriodicNet$Graph" "shiftY" "[I") (by decide +kernel)
  unfold pX2_setEdge at h
  refine kw_lv (lv' := [(0, .ref (ga 0)), (1, .int a1), (2, .int a2), (3, .int a3), (4, .int a4), (5, .int a5)]) [0, 1, 2, 3, 4, 5] rfl ?_
  refine kw_aload_n hX 0 dX2_setEdge_0 rfl 0 rfl ?_
  refine kw_get hX 1 (C := RX2) (T := TX2) (N := 6) hin2 2 f0 (fun _ h => h) 0 rfl rfl (by decide) rfl dX2_setEdge_1 ?_
  refine kw_iload_n hX 4 dX2_setEdge_4 rfl 1 rfl ?_
  refine kw_iload_n hX 5 dX2_setEdge_5 rfl 2 rfl ?_
  obtain ⟨g1, h⟩ := kgd_some h
  refine kw_iast hX 6 (ws' := (kfl [gG Y ga g_vc g_ec (upd g_F (a1 : Int32).toNatClampNeg a2) g_T g_X g_Z])) 1 rfl g1 rfl dX2_setEdge_6 ?_
  refine kw_aload_n hX 7 dX2_setEdge_7 rfl 0 rfl ?_
  refine kw_get hX 8 (C := RX2) (T := TX2) (N := 6) hin2 3 f1 (fun _ h => h) 0 rfl rfl (by decide) rfl dX2_setEdge_8 ?_
  refine kw_iload_n hX 11 dX2_setEdge_11 rfl 1 rfl ?_
  refine kw_iload_n hX 12 dX2_setEdge_12 rfl 3 rfl ?_
  obtain ⟨g2, h⟩ := kgd_some h
  refine kw_iast hX 13 (ws' := (kfl [gG Y ga g_vc g_ec (upd g_F (a1 : Int32).toNatClampNeg a2) (upd g_T (a1 : Int32).toNatClampNeg a3) g_X g_Z])) 2 rfl g2 rfl dX2_setEdge_13 ?_
  refine kw_aload_n hX 14 dX2_setEdge_14 rfl 0 rfl ?_
  refine kw_get hX 15 (C := RX2) (T := TX2) (N := 6) hin2 4 f2 (fun _ h => h) 0 rfl rfl (by decide) rfl dX2_setEdge_15 ?_
  refine kw_iload_n hX 18 dX2_setEdge_18 rfl 1 rfl ?_
  refine kw_iload hX 19 dX2_setEdge_19 4 rfl ?_
  obtain ⟨g3, h⟩ := kgd_some h
  refine kw_iast hX 21 (ws' := (kfl [gG Y ga g_vc g_ec (upd g_F (a1 : Int32).toNatClampNeg a2) (upd g_T (a1 : Int32).toNatClampNeg a3) (upd g_X (a1 : Int32).toNatClampNeg a4) g_Z])) 3 rfl g3 rfl dX2_setEdge_21 ?_
  refine kw_aload_n hX 22 dX2_setEdge_22 rfl 0 rfl ?_
  refine kw_get hX 23 (C := RX2) (T := TX2) (N := 6) hin2 5 f3 (fun _ h => h) 0 rfl rfl (by decide) rfl dX2_setEdge_23 ?_
  refine kw_iload_n hX 26 dX2_setEdge_26 rfl 1 rfl ?_
  refine kw_iload hX 27 dX2_setEdge_27 5 rfl ?_
  obtain ⟨g4, h⟩ := kgd_some h
  refine kw_iast hX 29 (ws' := (kfl [gG Y ga g_vc g_ec (upd g_F (a1 : Int32).toNatClampNeg a2) (upd g_T (a1 : Int32).toNatClampNeg a3) (upd g_X (a1 : Int32).toNatClampNeg a4) (upd g_Z (a1 : Int32).toNatClampNeg a5)])) 4 rfl g4 rfl dX2_setEdge_29 ?_
  obtain rfl := Option.some.inj h
  exact hret _ _ dX2_setEdge_30
def pX2_append (a1 : Int32) (a2 : Int32) (a3 : Int32) (a4 : Int32) (g_ec : Int32) (g_F : Nat → Int32) (g_T : Nat → Int32) (g_X : Nat → Int32) (g_Z : Nat → Int32) : Option (Int32 × (Nat → Int32) × (Nat → Int32) × (Nat → Int32) × (Nat → Int32)) := (if (12 : Int32) ≤ g_ec then some (g_ec, g_F, g_T, g_X, g_Z) else kb (pX2_setEdge g_ec a1 a2 a3 a4 g_F g_T g_X g_Z) (fun v2 => some ((g_ec + 1), v2.1, v2.2.1, v2.2.2.1, v2.2.2.2)))
def rmX2_append : Room := { frames := 1, cells := 0, slots := 0, locals := 25 }
theorem hdV_X2_append : yX2_append.cls = RX2 ∧ yX2_append.cls ≠ "java/lang/invoke/MethodHandle" ∧ yX2_append.cls ≠ "java/lang/invoke/VarHandle" ∧ (parseMethodDescriptor yX2_append.desc).map (fun d => d.parameters.length) = some 4 := ⟨rfl, by decide +kernel, by decide +kernel, by decide +kernel⟩
set_option maxHeartbeats 4000000 in
set_option maxRecDepth 100000 in
theorem kX2_append (l : Launch) (Y : KY) (ga : Nat → Nat) (g_vc : Int32) (g_ec : Int32) (g_F : Nat → Int32) (g_T : Nat → Int32) (g_X : Nat → Int32) (g_Z : Nat → Int32) (a1 : Int32) (a2 : Int32) (a3 : Int32) (a4 : Int32) {o : Int32 × (Nat → Int32) × (Nat → Int32) × (Nat → Int32) × (Nat → Int32)} (h : pX2_append a1 a2 a3 a4 g_ec g_F g_T g_X g_Z = some o) : CtV l yX2_append wsX2_append rmX2_append Y [.ref (ga 0), .int a1, .int a2, .int a3, .int a4] (kfl [gG Y ga g_vc g_ec g_F g_T g_X g_Z]) (kfl [gG Y ga g_vc o.1 o.2.1 o.2.2.1 o.2.2.2.1 o.2.2.2.2]) := by
  refine ctV_intro (cc := cX2_append) (maxL := 5) (own := RX2) (by decide +kernel) rfl rfl (Nat.le_of_ble_eq_true rfl) rfl ?_
  intro X A hX _ hret
  have hin2 : ∀ w ∈ u_ws RX2 TX2 6, w ∈ wsX2_append := by decide +kernel
  have f0 := hX.w (Cond.fieldLink RX2 15 "PeriodicNet$Graph" "edgeCount" "I") (by decide +kernel)
  unfold pX2_append at h
  refine kw_lv (lv' := [(0, .ref (ga 0)), (1, .int a1), (2, .int a2), (3, .int a3), (4, .int a4)]) [0, 1, 2, 3, 4] rfl ?_
  refine kw_aload_n hX 0 dX2_append_0 rfl 0 rfl ?_
  refine kw_get hX 1 (C := RX2) (T := TX2) (N := 6) hin2 1 f0 (fun _ h => h) 0 rfl rfl (by decide) rfl dX2_append_1 ?_
  refine kw_bipush hX 4 dX2_append_4 kcb_12 ?_
  refine kw_icmp_ge hX 6 32 dX2_append_6 (by decide) (fun c1 => ?_) (fun c1 => ?_)
  · have h := kif_t c1 h
    obtain rfl := Option.some.inj h
    exact hret _ _ dX2_append_32
  · have h := kif_f c1 h
    refine kw_aload_n hX 9 dX2_append_9 rfl 0 rfl ?_
    refine kw_aload_n hX 10 dX2_append_10 rfl 0 rfl ?_
    refine kw_get hX 11 (C := RX2) (T := TX2) (N := 6) hin2 1 f0 (fun _ h => h) 0 rfl rfl (by decide) rfl dX2_append_11 ?_
    refine kw_iload_n hX 14 dX2_append_14 rfl 1 rfl ?_
    refine kw_iload_n hX 15 dX2_append_15 rfl 2 rfl ?_
    refine kw_iload_n hX 16 dX2_append_16 rfl 3 rfl ?_
    refine kw_iload hX 17 dX2_append_17 4 rfl ?_
    obtain ⟨v2, hc3, h⟩ := kb_some h
    refine kw_callV_V hX 19 (As := [.int g_ec, .int a1, .int a2, .int a3, .int a4]) (rest := []) (kX2_setEdge (kx_l X) Y ga g_vc g_ec g_F g_T g_X g_Z g_ec a1 a2 a3 a4 hc3) gX2_append_X2_setEdge rfl 5 rfl hdV_X2_setEdge ⟨rfl, rfl⟩ ⟨by decide, by decide⟩ ⟨Nat.zero_le _, Nat.zero_le _⟩ rfl (Nat.le_of_ble_eq_true rfl) [0] (by decide) rfl (kfc gG_f kfn0) (gs1 := [gG Y ga g_vc g_ec v2.1 v2.2.1 v2.2.2.1 v2.2.2.2]) rfl 0 2 rfl rfl rfl dX2_append_19 ?_
    refine kw_aload_n hX 22 dX2_append_22 rfl 0 rfl ?_
    refine kw_dup hX 23 dX2_append_23 rfl ?_
    refine kw_get hX 24 (C := RX2) (T := TX2) (N := 6) hin2 1 f0 (fun _ h => h) 0 rfl rfl (by decide) rfl dX2_append_24 ?_
    refine kw_iconst hX 27 dX2_append_27 kci_1 ?_
    refine kw_iadd hX 28 dX2_append_28 ?_
    refine kw_put hX 29 (C := RX2) (T := TX2) (N := 6) (ws' := (kfl [gG Y ga g_vc (g_ec + 1) v2.1 v2.2.1 v2.2.2.1 v2.2.2.2])) hin2 tyX2 tyX2_ok nmX2 1 f0 (fun _ h => h) 0 rfl rfl (by decide) rfl (ty := .int) (tyX2_ok 1 (by decide)) rfl rfl (Nat.le_of_ble_eq_true rfl) rfl dX2_append_29 ?_
    obtain rfl := Option.some.inj h
    exact hret _ _ dX2_append_32
def pX2_copyFrom_L10 : Nat → Int32 → Int32 → (Nat → Int32) → (Nat → Int32) → (Nat → Int32) → (Nat → Int32) → Int32 → (Nat → Int32) → (Nat → Int32) → (Nat → Int32) → (Nat → Int32) → Option (Int32 × Int32 × (Nat → Int32) × (Nat → Int32) × (Nat → Int32) × (Nat → Int32))
  | 0, _, _, _, _, _, _, _, _, _, _, _ => none
  | n + 1, l2, z_g_ec, z_g_F, z_g_T, z_g_X, z_g_Z, z_o_ec, z_o_F, z_o_T, z_o_X, z_o_Z => (if z_o_ec ≤ l2 then some (l2, z_g_ec, z_g_F, z_g_T, z_g_X, z_g_Z) else kgd (kin l2 12) (kgd (kin l2 12) (kgd (kin l2 12) (kgd (kin l2 12) (kb (pX2_append (z_o_F (l2 : Int32).toNatClampNeg) (z_o_T (l2 : Int32).toNatClampNeg) (z_o_X (l2 : Int32).toNatClampNeg) (z_o_Z (l2 : Int32).toNatClampNeg) z_g_ec z_g_F z_g_T z_g_X z_g_Z) (fun v8 => pX2_copyFrom_L10 n (l2 + 1) v8.1 v8.2.1 v8.2.2.1 v8.2.2.2.1 v8.2.2.2.2 z_o_ec z_o_F z_o_T z_o_X z_o_Z))))))
def pX2_copyFrom  (g_vc : Int32) (g_ec : Int32) (g_F : Nat → Int32) (g_T : Nat → Int32) (g_X : Nat → Int32) (g_Z : Nat → Int32) (o_vc : Int32) (o_ec : Int32) (o_F : Nat → Int32) (o_T : Nat → Int32) (o_X : Nat → Int32) (o_Z : Nat → Int32) : Option (Int32 × Int32 × (Nat → Int32) × (Nat → Int32) × (Nat → Int32) × (Nat → Int32)) := kb (pX2_clear o_vc g_vc g_ec) (fun v1 => kb (pX2_copyFrom_L10 KF 0 v1.2 g_F g_T g_X g_Z o_ec o_F o_T o_X o_Z) (fun v10 => some (v1.1, v10.2.1, v10.2.2.1, v10.2.2.2.1, v10.2.2.2.2.1, v10.2.2.2.2.2)))
def rmX2_copyFrom : Room := { frames := 2, cells := 0, slots := 0, locals := 49 }
theorem hdV_X2_copyFrom : yX2_copyFrom.cls = RX2 ∧ yX2_copyFrom.cls ≠ "java/lang/invoke/MethodHandle" ∧ yX2_copyFrom.cls ≠ "java/lang/invoke/VarHandle" ∧ (parseMethodDescriptor yX2_copyFrom.desc).map (fun d => d.parameters.length) = some 1 := ⟨rfl, by decide +kernel, by decide +kernel, by decide +kernel⟩
set_option maxHeartbeats 4000000 in
set_option maxRecDepth 100000 in
theorem kX2_copyFrom (l : Launch) (Y : KY) (ga : Nat → Nat) (oa : Nat → Nat) (g_vc : Int32) (g_ec : Int32) (g_F : Nat → Int32) (g_T : Nat → Int32) (g_X : Nat → Int32) (g_Z : Nat → Int32) (o_vc : Int32) (o_ec : Int32) (o_F : Nat → Int32) (o_T : Nat → Int32) (o_X : Nat → Int32) (o_Z : Nat → Int32)  {o : Int32 × Int32 × (Nat → Int32) × (Nat → Int32) × (Nat → Int32) × (Nat → Int32)} (h : pX2_copyFrom g_vc g_ec g_F g_T g_X g_Z o_vc o_ec o_F o_T o_X o_Z = some o) : CtV l yX2_copyFrom wsX2_copyFrom rmX2_copyFrom Y [.ref (ga 0), .ref (oa 0)] (kfl [gG Y ga g_vc g_ec g_F g_T g_X g_Z, gG Y oa o_vc o_ec o_F o_T o_X o_Z]) (kfl [gG Y ga o.1 o.2.1 o.2.2.1 o.2.2.2.1 o.2.2.2.2.1 o.2.2.2.2.2, gG Y oa o_vc o_ec o_F o_T o_X o_Z]) := by
  refine ctV_intro (cc := cX2_copyFrom) (maxL := 3) (own := RX2) (by decide +kernel) rfl rfl (Nat.le_of_ble_eq_true rfl) rfl ?_
  intro X A hX _ hret
  have hin2 : ∀ w ∈ u_ws RX2 TX2 6, w ∈ wsX2_copyFrom := by decide +kernel
  have f0 := hX.w (Cond.fieldLink RX2 9 "PeriodicNet$Graph" "vertexCount" "I") (by decide +kernel)
  have f1 := hX.w (Cond.fieldLink RX2 15 "PeriodicNet$Graph" "edgeCount" "I") (by decide +kernel)
  have f2 := hX.w (Cond.fieldLink RX2 18 "PeriodicNet$Graph" "from" "[I") (by decide +kernel)
  have f3 := hX.w (Cond.fieldLink RX2 22 "PeriodicNet$Graph" "to" "[I") (by decide +kernel)
  have f4 := hX.w (Cond.fieldLink RX2 25 "PeriodicNet$Graph" "shiftX" "[I") (by decide +kernel)
  have f5 := hX.w (Cond.fieldLink RX2 28 "PeriodicNet$Graph" "shiftY" "[I") (by decide +kernel)
  have L10 : ∀ (n : Nat) (l2 : Int32) (z_g_vc : Int32) (z_g_ec : Int32) (z_g_F : Nat → Int32) (z_g_T : Nat → Int32) (z_g_X : Nat → Int32) (z_g_Z : Nat → Int32) (z_o_vc : Int32) (z_o_ec : Int32) (z_o_F : Nat → Int32) (z_o_T : Nat → Int32) (z_o_X : Nat → Int32) (z_o_Z : Nat → Int32) (o : Int32 × Int32 × (Nat → Int32) × (Nat → Int32) × (Nat → Int32) × (Nat → Int32)), pX2_copyFrom_L10 n l2 z_g_ec z_g_F z_g_T z_g_X z_g_Z z_o_ec z_o_F z_o_T z_o_X z_o_Z = some o → KW X Y A 3 0 0 (kfl [gG Y ga z_g_vc o.2.1 o.2.2.1 o.2.2.2.1 o.2.2.2.2.1 o.2.2.2.2.2, gG Y oa z_o_vc z_o_ec z_o_F z_o_T z_o_X z_o_Z]) [(0, .ref (ga 0)), (1, .ref (oa 0)), (2, .int o.1)] 52 [] → KW X Y A 3 0 0 (kfl [gG Y ga z_g_vc z_g_ec z_g_F z_g_T z_g_X z_g_Z, gG Y oa z_o_vc z_o_ec z_o_F z_o_T z_o_X z_o_Z]) [(0, .ref (ga 0)), (1, .ref (oa 0)), (2, .int l2)] 10 [] := by
    intro n
    induction n with
    | zero => intro l2 z_g_vc z_g_ec z_g_F z_g_T z_g_X z_g_Z z_o_vc z_o_ec z_o_F z_o_T z_o_X z_o_Z o h; cases h
    | succ n ih =>
      intro l2 z_g_vc z_g_ec z_g_F z_g_T z_g_X z_g_Z z_o_vc z_o_ec z_o_F z_o_T z_o_X z_o_Z o h hK
      rw [pX2_copyFrom_L10] at h
      refine kw_iload_n hX 10 dX2_copyFrom_10 rfl 2 rfl ?_
      refine kw_aload_n hX 11 dX2_copyFrom_11 rfl 1 rfl ?_
      refine kw_get hX 12 (C := RX2) (T := TX2) (N := 6) hin2 1 f1 (fun _ h => h) 5 rfl rfl (by decide) rfl dX2_copyFrom_12 ?_
      refine kw_icmp_ge hX 15 52 dX2_copyFrom_15 (by decide) (fun c3 => ?_) (fun c3 => ?_)
      · have h := kif_t c3 h
        obtain rfl := Option.some.inj h
        refine kw_lv (lv' := [(0, .ref (ga 0)), (1, .ref (oa 0)), (2, .int l2)]) [0, 1, 2] rfl ?_
        exact hK
      · have h := kif_f c3 h
        refine kw_aload_n hX 18 dX2_copyFrom_18 rfl 0 rfl ?_
        refine kw_aload_n hX 19 dX2_copyFrom_19 rfl 1 rfl ?_
        refine kw_get hX 20 (C := RX2) (T := TX2) (N := 6) hin2 2 f2 (fun _ h => h) 5 rfl rfl (by decide) rfl dX2_copyFrom_20 ?_
        refine kw_iload_n hX 23 dX2_copyFrom_23 rfl 2 rfl ?_
        obtain ⟨g4, h⟩ := kgd_some h
        refine kw_iald hX 24 6 rfl g4 dX2_copyFrom_24 ?_
        refine kw_aload_n hX 25 dX2_copyFrom_25 rfl 1 rfl ?_
        refine kw_get hX 26 (C := RX2) (T := TX2) (N := 6) hin2 3 f3 (fun _ h => h) 5 rfl rfl (by decide) rfl dX2_copyFrom_26 ?_
        refine kw_iload_n hX 29 dX2_copyFrom_29 rfl 2 rfl ?_
        obtain ⟨g5, h⟩ := kgd_some h
        refine kw_iald hX 30 7 rfl g5 dX2_copyFrom_30 ?_
        refine kw_aload_n hX 31 dX2_copyFrom_31 rfl 1 rfl ?_
        refine kw_get hX 32 (C := RX2) (T := TX2) (N := 6) hin2 4 f4 (fun _ h => h) 5 rfl rfl (by decide) rfl dX2_copyFrom_32 ?_
        refine kw_iload_n hX 35 dX2_copyFrom_35 rfl 2 rfl ?_
        obtain ⟨g6, h⟩ := kgd_some h
        refine kw_iald hX 36 8 rfl g6 dX2_copyFrom_36 ?_
        refine kw_aload_n hX 37 dX2_copyFrom_37 rfl 1 rfl ?_
        refine kw_get hX 38 (C := RX2) (T := TX2) (N := 6) hin2 5 f5 (fun _ h => h) 5 rfl rfl (by decide) rfl dX2_copyFrom_38 ?_
        refine kw_iload_n hX 41 dX2_copyFrom_41 rfl 2 rfl ?_
        obtain ⟨g7, h⟩ := kgd_some h
        refine kw_iald hX 42 9 rfl g7 dX2_copyFrom_42 ?_
        obtain ⟨v8, hc9, h⟩ := kb_some h
        refine kw_callV_V hX 43 (As := [.int (z_o_F (l2 : Int32).toNatClampNeg), .int (z_o_T (l2 : Int32).toNatClampNeg), .int (z_o_X (l2 : Int32).toNatClampNeg), .int (z_o_Z (l2 : Int32).toNatClampNeg)]) (rest := []) (kX2_append (kx_l X) Y ga z_g_vc z_g_ec z_g_F z_g_T z_g_X z_g_Z (z_o_F (l2 : Int32).toNatClampNeg) (z_o_T (l2 : Int32).toNatClampNeg) (z_o_X (l2 : Int32).toNatClampNeg) (z_o_Z (l2 : Int32).toNatClampNeg) hc9) gX2_copyFrom_X2_append rfl 4 rfl hdV_X2_append ⟨rfl, rfl⟩ ⟨by decide, by decide⟩ ⟨Nat.zero_le _, Nat.zero_le _⟩ rfl (Nat.le_of_ble_eq_true rfl) [0] (by decide) rfl (kfc gG_f kfn0) (gs1 := [gG Y ga z_g_vc v8.1 v8.2.1 v8.2.2.1 v8.2.2.2.1 v8.2.2.2.2, gG Y oa z_o_vc z_o_ec z_o_F z_o_T z_o_X z_o_Z]) rfl 0 2 rfl rfl rfl dX2_copyFrom_43 ?_
        refine kw_iinc (v := (l2 + 1)) (lv' := [(2, .int (l2 + 1)), (0, .ref (ga 0)), (1, .ref (oa 0))]) hX 46 dX2_copyFrom_46 2 rfl (kinc_1 _) (by decide) rfl ?_
        refine kw_goto hX 49 10 dX2_copyFrom_49 (by decide) ?_
        refine kw_lv (lv' := [(0, .ref (ga 0)), (1, .ref (oa 0)), (2, .int (l2 + 1))]) [1, 2, 0] rfl ?_
        exact ih (l2 + 1) z_g_vc v8.1 v8.2.1 v8.2.2.1 v8.2.2.2.1 v8.2.2.2.2 z_o_vc z_o_ec z_o_F z_o_T z_o_X z_o_Z o h hK
  unfold pX2_copyFrom at h
  refine kw_lv (lv' := [(0, .ref (ga 0)), (1, .ref (oa 0))]) [0, 1] rfl ?_
  refine kw_aload_n hX 0 dX2_copyFrom_0 rfl 0 rfl ?_
  refine kw_aload_n hX 1 dX2_copyFrom_1 rfl 1 rfl ?_
  refine kw_get hX 2 (C := RX2) (T := TX2) (N := 6) hin2 0 f0 (fun _ h => h) 5 rfl rfl (by decide) rfl dX2_copyFrom_2 ?_
  obtain ⟨v1, hc2, h⟩ := kb_some h
  refine kw_callV_V hX 5 (As := [.int o_vc]) (rest := []) (kX2_clear (kx_l X) Y ga g_vc g_ec g_F g_T g_X g_Z o_vc hc2) gX2_copyFrom_X2_clear rfl 1 rfl hdV_X2_clear ⟨rfl, rfl⟩ ⟨by decide, by decide⟩ ⟨Nat.zero_le _, Nat.zero_le _⟩ rfl (Nat.le_of_ble_eq_true rfl) [0] (by decide) rfl (kfc gG_f kfn0) (gs1 := [gG Y ga v1.1 v1.2 g_F g_T g_X g_Z, gG Y oa o_vc o_ec o_F o_T o_X o_Z]) rfl 0 2 rfl rfl rfl dX2_copyFrom_5 ?_
  refine kw_iconst hX 8 dX2_copyFrom_8 kci_0 ?_
  refine kw_istore_n (lv' := [(2, .int 0), (0, .ref (ga 0)), (1, .ref (oa 0))]) hX 9 dX2_copyFrom_9 rfl (by decide) rfl ?_
  obtain ⟨v10, hl11, h⟩ := kb_some h
  refine kw_lv (lv' := [(0, .ref (ga 0)), (1, .ref (oa 0)), (2, .int 0)]) [1, 2, 0] rfl ?_
  refine L10 KF 0 v1.1 v1.2 g_F g_T g_X g_Z o_vc o_ec o_F o_T o_X o_Z v10 hl11 ?_
  obtain rfl := Option.some.inj h
  exact hret _ _ dX2_copyFrom_52
def pX2_dropEdge_L4 : Nat → Int32 → Int32 → (Nat → Int32) → (Nat → Int32) → (Nat → Int32) → (Nat → Int32) → Option (Int32 × (Nat → Int32) × (Nat → Int32) × (Nat → Int32) × (Nat → Int32))
  | 0, _, _, _, _, _, _ => none
  | n + 1, l2, z_g_ec, z_g_F, z_g_T, z_g_X, z_g_Z => (if z_g_ec ≤ l2 then some (l2, z_g_F, z_g_T, z_g_X, z_g_Z) else kgd (kin l2 12) (kgd (kin l2 12) (kgd (kin l2 12) (kgd (kin l2 12) (kb (pX2_setEdge (l2 - 1) (z_g_F (l2 : Int32).toNatClampNeg) (z_g_T (l2 : Int32).toNatClampNeg) (z_g_X (l2 : Int32).toNatClampNeg) (z_g_Z (l2 : Int32).toNatClampNeg) z_g_F z_g_T z_g_X z_g_Z) (fun v6 => pX2_dropEdge_L4 n (l2 + 1) z_g_ec v6.1 v6.2.1 v6.2.2.1 v6.2.2.2))))))
def pX2_dropEdge (a1 : Int32) (g_ec : Int32) (g_F : Nat → Int32) (g_T : Nat → Int32) (g_X : Nat → Int32) (g_Z : Nat → Int32) : Option (Int32 × (Nat → Int32) × (Nat → Int32) × (Nat → Int32) × (Nat → Int32)) := kb (pX2_dropEdge_L4 KF (a1 + 1) g_ec g_F g_T g_X g_Z) (fun v8 => some ((g_ec - 1), v8.2.1, v8.2.2.1, v8.2.2.2.1, v8.2.2.2.2))
def rmX2_dropEdge : Room := { frames := 1, cells := 0, slots := 0, locals := 25 }
theorem hdV_X2_dropEdge : yX2_dropEdge.cls = RX2 ∧ yX2_dropEdge.cls ≠ "java/lang/invoke/MethodHandle" ∧ yX2_dropEdge.cls ≠ "java/lang/invoke/VarHandle" ∧ (parseMethodDescriptor yX2_dropEdge.desc).map (fun d => d.parameters.length) = some 1 := ⟨rfl, by decide +kernel, by decide +kernel, by decide +kernel⟩
set_option maxHeartbeats 4000000 in
set_option maxRecDepth 100000 in
theorem kX2_dropEdge (l : Launch) (Y : KY) (ga : Nat → Nat) (g_vc : Int32) (g_ec : Int32) (g_F : Nat → Int32) (g_T : Nat → Int32) (g_X : Nat → Int32) (g_Z : Nat → Int32) (a1 : Int32) {o : Int32 × (Nat → Int32) × (Nat → Int32) × (Nat → Int32) × (Nat → Int32)} (h : pX2_dropEdge a1 g_ec g_F g_T g_X g_Z = some o) : CtV l yX2_dropEdge wsX2_dropEdge rmX2_dropEdge Y [.ref (ga 0), .int a1] (kfl [gG Y ga g_vc g_ec g_F g_T g_X g_Z]) (kfl [gG Y ga g_vc o.1 o.2.1 o.2.2.1 o.2.2.2.1 o.2.2.2.2]) := by
  refine ctV_intro (cc := cX2_dropEdge) (maxL := 3) (own := RX2) (by decide +kernel) rfl rfl (Nat.le_of_ble_eq_true rfl) rfl ?_
  intro X A hX _ hret
  have hin2 : ∀ w ∈ u_ws RX2 TX2 6, w ∈ wsX2_dropEdge := by decide +kernel
  have f0 := hX.w (Cond.fieldLink RX2 15 "PeriodicNet$Graph" "edgeCount" "I") (by decide +kernel)
  have f1 := hX.w (Cond.fieldLink RX2 18 "PeriodicNet$Graph" "from" "[I") (by decide +kernel)
  have f2 := hX.w (Cond.fieldLink RX2 22 "PeriodicNet$Graph" "to" "[I") (by decide +kernel)
  have f3 := hX.w (Cond.fieldLink RX2 25 "PeriodicNet$Graph" "shiftX" "[I") (by decide +kernel)
  have f4 := hX.w (Cond.fieldLink RX2 28 "PeriodicNet$Graph" "shiftY" "[I") (by decide +kernel)
  have L4 : ∀ (n : Nat) (l2 : Int32) (z_g_vc : Int32) (z_g_ec : Int32) (z_g_F : Nat → Int32) (z_g_T : Nat → Int32) (z_g_X : Nat → Int32) (z_g_Z : Nat → Int32) (o : Int32 × (Nat → Int32) × (Nat → Int32) × (Nat → Int32) × (Nat → Int32)), pX2_dropEdge_L4 n l2 z_g_ec z_g_F z_g_T z_g_X z_g_Z = some o → KW X Y A 3 0 0 (kfl [gG Y ga z_g_vc z_g_ec o.2.1 o.2.2.1 o.2.2.2.1 o.2.2.2.2]) [(0, .ref (ga 0)), (2, .int o.1)] 49 [] → KW X Y A 3 0 0 (kfl [gG Y ga z_g_vc z_g_ec z_g_F z_g_T z_g_X z_g_Z]) [(0, .ref (ga 0)), (2, .int l2)] 4 [] := by
    intro n
    induction n with
    | zero => intro l2 z_g_vc z_g_ec z_g_F z_g_T z_g_X z_g_Z o h; cases h
    | succ n ih =>
      intro l2 z_g_vc z_g_ec z_g_F z_g_T z_g_X z_g_Z o h hK
      rw [pX2_dropEdge_L4] at h
      refine kw_iload_n hX 4 dX2_dropEdge_4 rfl 1 rfl ?_
      refine kw_aload_n hX 5 dX2_dropEdge_5 rfl 0 rfl ?_
      refine kw_get hX 6 (C := RX2) (T := TX2) (N := 6) hin2 1 f0 (fun _ h => h) 0 rfl rfl (by decide) rfl dX2_dropEdge_6 ?_
      refine kw_icmp_ge hX 9 49 dX2_dropEdge_9 (by decide) (fun c1 => ?_) (fun c1 => ?_)
      · have h := kif_t c1 h
        obtain rfl := Option.some.inj h
        refine kw_lv (lv' := [(0, .ref (ga 0)), (2, .int l2)]) [0, 1] rfl ?_
        exact hK
      · have h := kif_f c1 h
        refine kw_aload_n hX 12 dX2_dropEdge_12 rfl 0 rfl ?_
        refine kw_iload_n hX 13 dX2_dropEdge_13 rfl 1 rfl ?_
        refine kw_iconst hX 14 dX2_dropEdge_14 kci_1 ?_
        refine kw_isub hX 15 dX2_dropEdge_15 ?_
        refine kw_aload_n hX 16 dX2_dropEdge_16 rfl 0 rfl ?_
        refine kw_get hX 17 (C := RX2) (T := TX2) (N := 6) hin2 2 f1 (fun _ h => h) 0 rfl rfl (by decide) rfl dX2_dropEdge_17 ?_
        refine kw_iload_n hX 20 dX2_dropEdge_20 rfl 1 rfl ?_
        obtain ⟨g2, h⟩ := kgd_some h
        refine kw_iald hX 21 1 rfl g2 dX2_dropEdge_21 ?_
        refine kw_aload_n hX 22 dX2_dropEdge_22 rfl 0 rfl ?_
        refine kw_get hX 23 (C := RX2) (T := TX2) (N := 6) hin2 3 f2 (fun _ h => h) 0 rfl rfl (by decide) rfl dX2_dropEdge_23 ?_
        refine kw_iload_n hX 26 dX2_dropEdge_26 rfl 1 rfl ?_
        obtain ⟨g3, h⟩ := kgd_some h
        refine kw_iald hX 27 2 rfl g3 dX2_dropEdge_27 ?_
        refine kw_aload_n hX 28 dX2_dropEdge_28 rfl 0 rfl ?_
        refine kw_get hX 29 (C := RX2) (T := TX2) (N := 6) hin2 4 f3 (fun _ h => h) 0 rfl rfl (by decide) rfl dX2_dropEdge_29 ?_
        refine kw_iload_n hX 32 dX2_dropEdge_32 rfl 1 rfl ?_
        obtain ⟨g4, h⟩ := kgd_some h
        refine kw_iald hX 33 3 rfl g4 dX2_dropEdge_33 ?_
        refine kw_aload_n hX 34 dX2_dropEdge_34 rfl 0 rfl ?_
        refine kw_get hX 35 (C := RX2) (T := TX2) (N := 6) hin2 5 f4 (fun _ h => h) 0 rfl rfl (by decide) rfl dX2_dropEdge_35 ?_
        refine kw_iload_n hX 38 dX2_dropEdge_38 rfl 1 rfl ?_
        obtain ⟨g5, h⟩ := kgd_some h
        refine kw_iald hX 39 4 rfl g5 dX2_dropEdge_39 ?_
        obtain ⟨v6, hc7, h⟩ := kb_some h
        refine kw_callV_V hX 40 (As := [.int (l2 - 1), .int (z_g_F (l2 : Int32).toNatClampNeg), .int (z_g_T (l2 : Int32).toNatClampNeg), .int (z_g_X (l2 : Int32).toNatClampNeg), .int (z_g_Z (l2 : Int32).toNatClampNeg)]) (rest := []) (kX2_setEdge (kx_l X) Y ga z_g_vc z_g_ec z_g_F z_g_T z_g_X z_g_Z (l2 - 1) (z_g_F (l2 : Int32).toNatClampNeg) (z_g_T (l2 : Int32).toNatClampNeg) (z_g_X (l2 : Int32).toNatClampNeg) (z_g_Z (l2 : Int32).toNatClampNeg) hc7) gX2_dropEdge_X2_setEdge rfl 5 rfl hdV_X2_setEdge ⟨rfl, rfl⟩ ⟨by decide, by decide⟩ ⟨Nat.zero_le _, Nat.zero_le _⟩ rfl (Nat.le_of_ble_eq_true rfl) [0] (by decide) rfl (kfc gG_f kfn0) (gs1 := [gG Y ga z_g_vc z_g_ec v6.1 v6.2.1 v6.2.2.1 v6.2.2.2]) rfl 0 2 rfl rfl rfl dX2_dropEdge_40 ?_
        refine kw_iinc (v := (l2 + 1)) (lv' := [(2, .int (l2 + 1)), (0, .ref (ga 0))]) hX 43 dX2_dropEdge_43 1 rfl (kinc_1 _) (by decide) rfl ?_
        refine kw_goto hX 46 4 dX2_dropEdge_46 (by decide) ?_
        refine kw_lv (lv' := [(0, .ref (ga 0)), (2, .int (l2 + 1))]) [1, 0] rfl ?_
        exact ih (l2 + 1) z_g_vc z_g_ec v6.1 v6.2.1 v6.2.2.1 v6.2.2.2 o h hK
  unfold pX2_dropEdge at h
  refine kw_lv (lv' := [(0, .ref (ga 0)), (1, .int a1)]) [0, 1] rfl ?_
  refine kw_iload_n hX 0 dX2_dropEdge_0 rfl 1 rfl ?_
  refine kw_iconst hX 1 dX2_dropEdge_1 kci_1 ?_
  refine kw_iadd hX 2 dX2_dropEdge_2 ?_
  refine kw_istore_n (lv' := [(2, .int (a1 + 1)), (0, .ref (ga 0)), (1, .int a1)]) hX 3 dX2_dropEdge_3 rfl (by decide) rfl ?_
  obtain ⟨v8, hl9, h⟩ := kb_some h
  refine kw_lv (lv' := [(0, .ref (ga 0)), (2, .int (a1 + 1))]) [1, 0] rfl ?_
  refine L4 KF (a1 + 1) g_vc g_ec g_F g_T g_X g_Z v8 hl9 ?_
  refine kw_aload_n hX 49 dX2_dropEdge_49 rfl 0 rfl ?_
  refine kw_dup hX 50 dX2_dropEdge_50 rfl ?_
  refine kw_get hX 51 (C := RX2) (T := TX2) (N := 6) hin2 1 f0 (fun _ h => h) 0 rfl rfl (by decide) rfl dX2_dropEdge_51 ?_
  refine kw_iconst hX 54 dX2_dropEdge_54 kci_1 ?_
  refine kw_isub hX 55 dX2_dropEdge_55 ?_
  refine kw_put hX 56 (C := RX2) (T := TX2) (N := 6) (ws' := (kfl [gG Y ga g_vc (g_ec - 1) v8.2.1 v8.2.2.1 v8.2.2.2.1 v8.2.2.2.2])) hin2 tyX2 tyX2_ok nmX2 1 f0 (fun _ h => h) 0 rfl rfl (by decide) rfl (ty := .int) (tyX2_ok 1 (by decide)) rfl rfl (Nat.le_of_ble_eq_true rfl) rfl dX2_dropEdge_56 ?_
  obtain rfl := Option.some.inj h
  exact hret _ _ dX2_dropEdge_59
def pX2_isStored (a1 : Int32) (a2 : Int32) (a3 : Int32) (a4 : Int32) (a5 : Int32) (g_F : Nat → Int32) (g_T : Nat → Int32) (g_X : Nat → Int32) (g_Z : Nat → Int32) : Option (Int32) := kgd (kin a1 12) ((if (g_F (a1 : Int32).toNatClampNeg) = a2 then kgd (kin a1 12) ((if (g_T (a1 : Int32).toNatClampNeg) = a3 then kgd (kin a1 12) ((if (g_X (a1 : Int32).toNatClampNeg) = a4 then kgd (kin a1 12) ((if (g_Z (a1 : Int32).toNatClampNeg) = a5 then some 1 else some 0)) else some 0)) else some 0)) else some 0))
def rmX2_isStored : Room := { frames := 0, cells := 0, slots := 0, locals := 0 }
theorem hdV_X2_isStored : yX2_isStored.cls = RX2 ∧ yX2_isStored.cls ≠ "java/lang/invoke/MethodHandle" ∧ yX2_isStored.cls ≠ "java/lang/invoke/VarHandle" ∧ (parseMethodDescriptor yX2_isStored.desc).map (fun d => d.parameters.length) = some 5 := ⟨rfl, by decide +kernel, by decide +kernel, by decide +kernel⟩
set_option maxHeartbeats 4000000 in
set_option maxRecDepth 100000 in
theorem kX2_isStored (l : Launch) (Y : KY) (ga : Nat → Nat) (g_vc : Int32) (g_ec : Int32) (g_F : Nat → Int32) (g_T : Nat → Int32) (g_X : Nat → Int32) (g_Z : Nat → Int32) (a1 : Int32) (a2 : Int32) (a3 : Int32) (a4 : Int32) (a5 : Int32) {o : Int32} (h : pX2_isStored a1 a2 a3 a4 a5 g_F g_T g_X g_Z = some o) : CtI l yX2_isStored wsX2_isStored rmX2_isStored Y [.ref (ga 0), .int a1, .int a2, .int a3, .int a4, .int a5] (kfl [gG Y ga g_vc g_ec g_F g_T g_X g_Z]) o (kfl [gG Y ga g_vc g_ec g_F g_T g_X g_Z]) := by
  refine ctI_intro (cc := cX2_isStored) (maxL := 6) (own := RX2) (by decide +kernel) rfl rfl (Nat.le_of_ble_eq_true rfl) rfl ?_
  intro X A hX _ hret
  have hin2 : ∀ w ∈ u_ws RX2 TX2 6, w ∈ wsX2_isStored := by decide +kernel
  have f0 := hX.w (Cond.fieldLink RX2 18 "PeriodicNet$Graph" "from" "[I") (by decide +kernel)
  have f1 := hX.w (Cond.fieldLink RX2 22 "PeriodicNet$Graph" "to" "[I") (by decide +kernel)
  have f2 := hX.w (Cond.fieldLink RX2 25 "PeriodicNet$Graph" "shiftX" "[I") (by decide +kernel)
  have f3 := hX.w (Cond.fieldLink RX2 28 "PeriodicNet$Graph" "shiftY" "[I") (by decide +kernel)
  unfold pX2_isStored at h
  refine kw_lv (lv' := [(0, .ref (ga 0)), (1, .int a1), (2, .int a2), (3, .int a3), (4, .int a4), (5, .int a5)]) [0, 1, 2, 3, 4, 5] rfl ?_
  refine kw_aload_n hX 0 dX2_isStored_0 rfl 0 rfl ?_
  refine kw_get hX 1 (C := RX2) (T := TX2) (N := 6) hin2 2 f0 (fun _ h => h) 0 rfl rfl (by decide) rfl dX2_isStored_1 ?_
  refine kw_iload_n hX 4 dX2_isStored_4 rfl 1 rfl ?_
  obtain ⟨g1, h⟩ := kgd_some h
  refine kw_iald hX 5 1 rfl g1 dX2_isStored_5 ?_
  refine kw_iload_n hX 6 dX2_isStored_6 rfl 2 rfl ?_
  refine kw_icmp_ne hX 7 46 dX2_isStored_7 (by decide) (fun c2 => ?_) (fun c2 => ?_)
  · have h := kif_f c2 h
    refine kw_iconst hX 46 dX2_isStored_46 kci_0 ?_
    obtain rfl := Option.some.inj h
    exact hret _ _ dX2_isStored_47 rfl
  · have h := kif_t c2 h
    refine kw_aload_n hX 10 dX2_isStored_10 rfl 0 rfl ?_
    refine kw_get hX 11 (C := RX2) (T := TX2) (N := 6) hin2 3 f1 (fun _ h => h) 0 rfl rfl (by decide) rfl dX2_isStored_11 ?_
    refine kw_iload_n hX 14 dX2_isStored_14 rfl 1 rfl ?_
    obtain ⟨g3, h⟩ := kgd_some h
    refine kw_iald hX 15 2 rfl g3 dX2_isStored_15 ?_
    refine kw_iload_n hX 16 dX2_isStored_16 rfl 3 rfl ?_
    refine kw_icmp_ne hX 17 46 dX2_isStored_17 (by decide) (fun c4 => ?_) (fun c4 => ?_)
    · have h := kif_f c4 h
      refine kw_iconst hX 46 dX2_isStored_46 kci_0 ?_
      obtain rfl := Option.some.inj h
      exact hret _ _ dX2_isStored_47 rfl
    · have h := kif_t c4 h
      refine kw_aload_n hX 20 dX2_isStored_20 rfl 0 rfl ?_
      refine kw_get hX 21 (C := RX2) (T := TX2) (N := 6) hin2 4 f2 (fun _ h => h) 0 rfl rfl (by decide) rfl dX2_isStored_21 ?_
      refine kw_iload_n hX 24 dX2_isStored_24 rfl 1 rfl ?_
      obtain ⟨g5, h⟩ := kgd_some h
      refine kw_iald hX 25 3 rfl g5 dX2_isStored_25 ?_
      refine kw_iload hX 26 dX2_isStored_26 4 rfl ?_
      refine kw_icmp_ne hX 28 46 dX2_isStored_28 (by decide) (fun c6 => ?_) (fun c6 => ?_)
      · have h := kif_f c6 h
        refine kw_iconst hX 46 dX2_isStored_46 kci_0 ?_
        obtain rfl := Option.some.inj h
        exact hret _ _ dX2_isStored_47 rfl
      · have h := kif_t c6 h
        refine kw_aload_n hX 31 dX2_isStored_31 rfl 0 rfl ?_
        refine kw_get hX 32 (C := RX2) (T := TX2) (N := 6) hin2 5 f3 (fun _ h => h) 0 rfl rfl (by decide) rfl dX2_isStored_32 ?_
        refine kw_iload_n hX 35 dX2_isStored_35 rfl 1 rfl ?_
        obtain ⟨g7, h⟩ := kgd_some h
        refine kw_iald hX 36 4 rfl g7 dX2_isStored_36 ?_
        refine kw_iload hX 37 dX2_isStored_37 5 rfl ?_
        refine kw_icmp_ne hX 39 46 dX2_isStored_39 (by decide) (fun c8 => ?_) (fun c8 => ?_)
        · have h := kif_f c8 h
          refine kw_iconst hX 46 dX2_isStored_46 kci_0 ?_
          obtain rfl := Option.some.inj h
          exact hret _ _ dX2_isStored_47 rfl
        · have h := kif_t c8 h
          refine kw_iconst hX 42 dX2_isStored_42 kci_1 ?_
          refine kw_goto hX 43 47 dX2_isStored_43 (by decide) ?_
          obtain rfl := Option.some.inj h
          exact hret _ _ dX2_isStored_47 rfl
def pX2_edgeBetween_L3 : Nat → Int32 → Int32 → Int32 → Int32 → Int32 → Int32 → (Nat → Int32) → (Nat → Int32) → (Nat → Int32) → (Nat → Int32) → Option (Int32)
  | 0, _, _, _, _, _, _, _, _, _, _ => none
  | n + 1, l1, l2, l3, l4, l5, g_ec, g_F, g_T, g_X, g_Z => (if g_ec ≤ l5 then some (-1) else kb (pX2_isStored l5 l1 l2 l3 l4 g_F g_T g_X g_Z) (fun v2 => (if v2 = 0 then kb (pX2_isStored l5 l2 l1 (-l3) (-l4) g_F g_T g_X g_Z) (fun v5 => (if v5 = 0 then pX2_edgeBetween_L3 n l1 l2 l3 l4 (l5 + 1) g_ec g_F g_T g_X g_Z else some l5)) else some l5)))
def pX2_edgeBetween (a1 : Int32) (a2 : Int32) (a3 : Int32) (a4 : Int32) (g_ec : Int32) (g_F : Nat → Int32) (g_T : Nat → Int32) (g_X : Nat → Int32) (g_Z : Nat → Int32) : Option (Int32) := pX2_edgeBetween_L3 KF a1 a2 a3 a4 0 g_ec g_F g_T g_X g_Z
def rmX2_edgeBetween : Room := { frames := 1, cells := 0, slots := 0, locals := 25 }
theorem hdV_X2_edgeBetween : yX2_edgeBetween.cls = RX2 ∧ yX2_edgeBetween.cls ≠ "java/lang/invoke/MethodHandle" ∧ yX2_edgeBetween.cls ≠ "java/lang/invoke/VarHandle" ∧ (parseMethodDescriptor yX2_edgeBetween.desc).map (fun d => d.parameters.length) = some 4 := ⟨rfl, by decide +kernel, by decide +kernel, by decide +kernel⟩
set_option maxHeartbeats 4000000 in
set_option maxRecDepth 100000 in
theorem kX2_edgeBetween (l : Launch) (Y : KY) (ga : Nat → Nat) (g_vc : Int32) (g_ec : Int32) (g_F : Nat → Int32) (g_T : Nat → Int32) (g_X : Nat → Int32) (g_Z : Nat → Int32) (a1 : Int32) (a2 : Int32) (a3 : Int32) (a4 : Int32) {o : Int32} (h : pX2_edgeBetween a1 a2 a3 a4 g_ec g_F g_T g_X g_Z = some o) : CtI l yX2_edgeBetween wsX2_edgeBetween rmX2_edgeBetween Y [.ref (ga 0), .int a1, .int a2, .int a3, .int a4] (kfl [gG Y ga g_vc g_ec g_F g_T g_X g_Z]) o (kfl [gG Y ga g_vc g_ec g_F g_T g_X g_Z]) := by
  refine ctI_intro (cc := cX2_edgeBetween) (maxL := 6) (own := RX2) (by decide +kernel) rfl rfl (Nat.le_of_ble_eq_true rfl) rfl ?_
  intro X A hX _ hret
  have hin2 : ∀ w ∈ u_ws RX2 TX2 6, w ∈ wsX2_edgeBetween := by decide +kernel
  have f0 := hX.w (Cond.fieldLink RX2 15 "PeriodicNet$Graph" "edgeCount" "I") (by decide +kernel)
  have L3 : ∀ (n : Nat) (l1 : Int32) (l2 : Int32) (l3 : Int32) (l4 : Int32) (l5 : Int32) , pX2_edgeBetween_L3 n l1 l2 l3 l4 l5 g_ec g_F g_T g_X g_Z = some o → KW X Y A 6 0 0 (kfl [gG Y ga g_vc g_ec g_F g_T g_X g_Z]) [(0, .ref (ga 0)), (1, .int l1), (2, .int l2), (3, .int l3), (4, .int l4), (5, .int l5)] 3 [] := by
    intro n
    induction n with
    | zero => intro l1 l2 l3 l4 l5 h; cases h
    | succ n ih =>
      intro l1 l2 l3 l4 l5 h
      rw [pX2_edgeBetween_L3] at h
      refine kw_iload hX 3 dX2_edgeBetween_3 5 rfl ?_
      refine kw_aload_n hX 5 dX2_edgeBetween_5 rfl 0 rfl ?_
      refine kw_get hX 6 (C := RX2) (T := TX2) (N := 6) hin2 1 f0 (fun _ h => h) 0 rfl rfl (by decide) rfl dX2_edgeBetween_6 ?_
      refine kw_icmp_ge hX 9 51 dX2_edgeBetween_9 (by decide) (fun c1 => ?_) (fun c1 => ?_)
      · have h := kif_t c1 h
        refine kw_iconst hX 51 dX2_edgeBetween_51 kci_m1 ?_
        obtain rfl := Option.some.inj h
        exact hret _ _ dX2_edgeBetween_52 rfl
      · have h := kif_f c1 h
        refine kw_aload_n hX 12 dX2_edgeBetween_12 rfl 0 rfl ?_
        refine kw_iload hX 13 dX2_edgeBetween_13 5 rfl ?_
        refine kw_iload_n hX 15 dX2_edgeBetween_15 rfl 1 rfl ?_
        refine kw_iload_n hX 16 dX2_edgeBetween_16 rfl 2 rfl ?_
        refine kw_iload_n hX 17 dX2_edgeBetween_17 rfl 3 rfl ?_
        refine kw_iload hX 18 dX2_edgeBetween_18 4 rfl ?_
        obtain ⟨v2, hc3, h⟩ := kb_some h
        refine kw_callV_I hX 20 (As := [.int l5, .int l1, .int l2, .int l3, .int l4]) (rest := []) (kX2_isStored (kx_l X) Y ga g_vc g_ec g_F g_T g_X g_Z l5 l1 l2 l3 l4 hc3) gX2_edgeBetween_X2_isStored rfl 5 rfl hdV_X2_isStored ⟨rfl, rfl⟩ ⟨by decide, by decide⟩ ⟨Nat.zero_le _, Nat.zero_le _⟩ rfl (Nat.le_of_ble_eq_true rfl) [0] (by decide) rfl (kfc rfl kfn0) (gs1 := [gG Y ga g_vc g_ec g_F g_T g_X g_Z]) rfl 0 2 rfl rfl rfl dX2_edgeBetween_20 ?_
        refine kw_if_ne hX 23 42 dX2_edgeBetween_23 (by decide) (fun c4 => ?_) (fun c4 => ?_)
        · have h := kif_f c4 h
          refine kw_iload hX 42 dX2_edgeBetween_42 5 rfl ?_
          obtain rfl := Option.some.inj h
          exact hret _ _ dX2_edgeBetween_44 rfl
        · have h := kif_t c4 h
          refine kw_aload_n hX 26 dX2_edgeBetween_26 rfl 0 rfl ?_
          refine kw_iload hX 27 dX2_edgeBetween_27 5 rfl ?_
          refine kw_iload_n hX 29 dX2_edgeBetween_29 rfl 2 rfl ?_
          refine kw_iload_n hX 30 dX2_edgeBetween_30 rfl 1 rfl ?_
          refine kw_iload_n hX 31 dX2_edgeBetween_31 rfl 3 rfl ?_
          refine kw_ineg hX 32 dX2_edgeBetween_32 ?_
          refine kw_iload hX 33 dX2_edgeBetween_33 4 rfl ?_
          refine kw_ineg hX 35 dX2_edgeBetween_35 ?_
          obtain ⟨v5, hc6, h⟩ := kb_some h
          refine kw_callV_I hX 36 (As := [.int l5, .int l2, .int l1, .int (-l3), .int (-l4)]) (rest := []) (kX2_isStored (kx_l X) Y ga g_vc g_ec g_F g_T g_X g_Z l5 l2 l1 (-l3) (-l4) hc6) gX2_edgeBetween_X2_isStored rfl 5 rfl hdV_X2_isStored ⟨rfl, rfl⟩ ⟨by decide, by decide⟩ ⟨Nat.zero_le _, Nat.zero_le _⟩ rfl (Nat.le_of_ble_eq_true rfl) [0] (by decide) rfl (kfc rfl kfn0) (gs1 := [gG Y ga g_vc g_ec g_F g_T g_X g_Z]) rfl 0 2 rfl rfl rfl dX2_edgeBetween_36 ?_
          refine kw_if_eq hX 39 45 dX2_edgeBetween_39 (by decide) (fun c7 => ?_) (fun c7 => ?_)
          · have h := kif_t c7 h
            refine kw_iinc (v := (l5 + 1)) (lv' := [(5, .int (l5 + 1)), (0, .ref (ga 0)), (1, .int l1), (2, .int l2), (3, .int l3), (4, .int l4)]) hX 45 dX2_edgeBetween_45 5 rfl (kinc_1 _) (by decide) rfl ?_
            refine kw_goto hX 48 3 dX2_edgeBetween_48 (by decide) ?_
            refine kw_lv (lv' := [(0, .ref (ga 0)), (1, .int l1), (2, .int l2), (3, .int l3), (4, .int l4), (5, .int (l5 + 1))]) [1, 2, 3, 4, 5, 0] rfl ?_
            exact ih l1 l2 l3 l4 (l5 + 1) h
          · have h := kif_f c7 h
            refine kw_iload hX 42 dX2_edgeBetween_42 5 rfl ?_
            obtain rfl := Option.some.inj h
            exact hret _ _ dX2_edgeBetween_44 rfl
  unfold pX2_edgeBetween at h
  refine kw_lv (lv' := [(0, .ref (ga 0)), (1, .int a1), (2, .int a2), (3, .int a3), (4, .int a4)]) [0, 1, 2, 3, 4] rfl ?_
  refine kw_iconst hX 0 dX2_edgeBetween_0 kci_0 ?_
  refine kw_istore (lv' := [(5, .int 0), (0, .ref (ga 0)), (1, .int a1), (2, .int a2), (3, .int a3), (4, .int a4)]) hX 1 dX2_edgeBetween_1 (by decide) rfl ?_
  refine kw_lv (lv' := [(0, .ref (ga 0)), (1, .int a1), (2, .int a2), (3, .int a3), (4, .int a4), (5, .int 0)]) [1, 2, 3, 4, 5, 0] rfl ?_
  exact L3 KF a1 a2 a3 a4 0 h
def pX2_renameNodes_L3 : Nat → Int32 → Int32 → Int32 → Int32 → Int32 → (Nat → Int32) → (Nat → Int32) → (Nat → Int32) → (Nat → Int32) → Option (Int32 × (Nat → Int32) × (Nat → Int32))
  | 0, _, _, _, _, _, _, _, _, _ => none
  | n + 1, l1, l2, l3, l4, z_g_ec, z_g_F, z_g_T, z_g_X, z_g_Z => (if z_g_ec ≤ l4 then some (l4, z_g_X, z_g_Z) else kgd (kin l4 12) (kb ((if (z_g_F (l4 : Int32).toNatClampNeg) = l1 then kgd (kin l4 12) (kgd (kin l4 12) (kgd (kin l4 12) (kgd (kin l4 12) (some ((upd z_g_X (l4 : Int32).toNatClampNeg ((z_g_X (l4 : Int32).toNatClampNeg) - l2)), (upd z_g_Z (l4 : Int32).toNatClampNeg ((z_g_Z (l4 : Int32).toNatClampNeg) - l3))))))) else some (z_g_X, z_g_Z)) : Option ((Nat → Int32) × (Nat → Int32))) (fun v8 => kgd (kin l4 12) (kb ((if (z_g_T (l4 : Int32).toNatClampNeg) = l1 then kgd (kin l4 12) (kgd (kin l4 12) (kgd (kin l4 12) (kgd (kin l4 12) (some ((upd v8.1 (l4 : Int32).toNatClampNeg ((v8.1 (l4 : Int32).toNatClampNeg) + l2)), (upd v8.2 (l4 : Int32).toNatClampNeg ((v8.2 (l4 : Int32).toNatClampNeg) + l3))))))) else some (v8.1, v8.2)) : Option ((Nat → Int32) × (Nat → Int32))) (fun v16 => pX2_renameNodes_L3 n l1 l2 l3 (l4 + 1) z_g_ec z_g_F z_g_T v16.1 v16.2)))))
def pX2_renameNodes (a1 : Int32) (a2 : Int32) (a3 : Int32) (g_ec : Int32) (g_F : Nat → Int32) (g_T : Nat → Int32) (g_X : Nat → Int32) (g_Z : Nat → Int32) : Option ((Nat → Int32) × (Nat → Int32)) := kb (pX2_renameNodes_L3 KF a1 a2 a3 0 g_ec g_F g_T g_X g_Z) (fun v20 => some (v20.2.1, v20.2.2))
def rmX2_renameNodes : Room := { frames := 0, cells := 0, slots := 0, locals := 0 }
theorem hdV_X2_renameNodes : yX2_renameNodes.cls = RX2 ∧ yX2_renameNodes.cls ≠ "java/lang/invoke/MethodHandle" ∧ yX2_renameNodes.cls ≠ "java/lang/invoke/VarHandle" ∧ (parseMethodDescriptor yX2_renameNodes.desc).map (fun d => d.parameters.length) = some 3 := ⟨rfl, by decide +kernel, by decide +kernel, by decide +kernel⟩
set_option maxHeartbeats 4000000 in
set_option maxRecDepth 100000 in
theorem kX2_renameNodes (l : Launch) (Y : KY) (ga : Nat → Nat) (g_vc : Int32) (g_ec : Int32) (g_F : Nat → Int32) (g_T : Nat → Int32) (g_X : Nat → Int32) (g_Z : Nat → Int32) (a1 : Int32) (a2 : Int32) (a3 : Int32) {o : (Nat → Int32) × (Nat → Int32)} (h : pX2_renameNodes a1 a2 a3 g_ec g_F g_T g_X g_Z = some o) : CtV l yX2_renameNodes wsX2_renameNodes rmX2_renameNodes Y [.ref (ga 0), .int a1, .int a2, .int a3] (kfl [gG Y ga g_vc g_ec g_F g_T g_X g_Z]) (kfl [gG Y ga g_vc g_ec g_F g_T o.1 o.2]) := by
  refine ctV_intro (cc := cX2_renameNodes) (maxL := 5) (own := RX2) (by decide +kernel) rfl rfl (Nat.le_of_ble_eq_true rfl) rfl ?_
  intro X A hX _ hret
  have hin2 : ∀ w ∈ u_ws RX2 TX2 6, w ∈ wsX2_renameNodes := by decide +kernel
  have f0 := hX.w (Cond.fieldLink RX2 15 "PeriodicNet$Graph" "edgeCount" "I") (by decide +kernel)
  have f1 := hX.w (Cond.fieldLink RX2 18 "PeriodicNet$Graph" "from" "[I") (by decide +kernel)
  have f2 := hX.w (Cond.fieldLink RX2 25 "PeriodicNet$Graph" "shiftX" "[I") (by decide +kernel)
  have f3 := hX.w (Cond.fieldLink RX2 28 "PeriodicNet$Graph" "shiftY" "[I") (by decide +kernel)
  have f4 := hX.w (Cond.fieldLink RX2 22 "PeriodicNet$Graph" "to" "[I") (by decide +kernel)
  have L3 : ∀ (n : Nat) (l1 : Int32) (l2 : Int32) (l3 : Int32) (l4 : Int32) (z_g_vc : Int32) (z_g_ec : Int32) (z_g_F : Nat → Int32) (z_g_T : Nat → Int32) (z_g_X : Nat → Int32) (z_g_Z : Nat → Int32) (o : Int32 × (Nat → Int32) × (Nat → Int32)), pX2_renameNodes_L3 n l1 l2 l3 l4 z_g_ec z_g_F z_g_T z_g_X z_g_Z = some o → KW X Y A 5 0 0 (kfl [gG Y ga z_g_vc z_g_ec z_g_F z_g_T o.2.1 o.2.2]) [(0, .ref (ga 0)), (1, .int l1), (2, .int l2), (3, .int l3), (4, .int o.1)] 84 [] → KW X Y A 5 0 0 (kfl [gG Y ga z_g_vc z_g_ec z_g_F z_g_T z_g_X z_g_Z]) [(0, .ref (ga 0)), (1, .int l1), (2, .int l2), (3, .int l3), (4, .int l4)] 3 [] := by
    intro n
    induction n with
    | zero => intro l1 l2 l3 l4 z_g_vc z_g_ec z_g_F z_g_T z_g_X z_g_Z o h; cases h
    | succ n ih =>
      intro l1 l2 l3 l4 z_g_vc z_g_ec z_g_F z_g_T z_g_X z_g_Z o h hK
      rw [pX2_renameNodes_L3] at h
      refine kw_iload hX 3 dX2_renameNodes_3 4 rfl ?_
      refine kw_aload_n hX 5 dX2_renameNodes_5 rfl 0 rfl ?_
      refine kw_get hX 6 (C := RX2) (T := TX2) (N := 6) hin2 1 f0 (fun _ h => h) 0 rfl rfl (by decide) rfl dX2_renameNodes_6 ?_
      refine kw_icmp_ge hX 9 84 dX2_renameNodes_9 (by decide) (fun c1 => ?_) (fun c1 => ?_)
      · have h := kif_t c1 h
        obtain rfl := Option.some.inj h
        refine kw_lv (lv' := [(0, .ref (ga 0)), (1, .int l1), (2, .int l2), (3, .int l3), (4, .int l4)]) [0, 1, 2, 3, 4] rfl ?_
        exact hK
      · have h := kif_f c1 h
        refine kw_aload_n hX 12 dX2_renameNodes_12 rfl 0 rfl ?_
        refine kw_get hX 13 (C := RX2) (T := TX2) (N := 6) hin2 2 f1 (fun _ h => h) 0 rfl rfl (by decide) rfl dX2_renameNodes_13 ?_
        refine kw_iload hX 16 dX2_renameNodes_16 4 rfl ?_
        obtain ⟨g2, h⟩ := kgd_some h
        refine kw_iald hX 18 1 rfl g2 dX2_renameNodes_18 ?_
        refine kw_iload_n hX 19 dX2_renameNodes_19 rfl 1 rfl ?_
        obtain ⟨v8, hj19, h⟩ := kb_some h
        have J9 : KW X Y A 5 0 0 (kfl [gG Y ga z_g_vc z_g_ec z_g_F z_g_T v8.1 v8.2]) [(0, .ref (ga 0)), (1, .int l1), (2, .int l2), (3, .int l3), (4, .int l4)] 45 [] := by
          refine kw_aload_n hX 45 dX2_renameNodes_45 rfl 0 rfl ?_
          refine kw_get hX 46 (C := RX2) (T := TX2) (N := 6) hin2 3 f4 (fun _ h => h) 0 rfl rfl (by decide) rfl dX2_renameNodes_46 ?_
          refine kw_iload hX 49 dX2_renameNodes_49 4 rfl ?_
          obtain ⟨g10, h⟩ := kgd_some h
          refine kw_iald hX 51 2 rfl g10 dX2_renameNodes_51 ?_
          refine kw_iload_n hX 52 dX2_renameNodes_52 rfl 1 rfl ?_
          obtain ⟨v16, hj18, h⟩ := kb_some h
          have J17 : KW X Y A 5 0 0 (kfl [gG Y ga z_g_vc z_g_ec z_g_F z_g_T v16.1 v16.2]) [(0, .ref (ga 0)), (1, .int l1), (2, .int l2), (3, .int l3), (4, .int l4)] 78 [] := by
            refine kw_iinc (v := (l4 + 1)) (lv' := [(4, .int (l4 + 1)), (0, .ref (ga 0)), (1, .int l1), (2, .int l2), (3, .int l3)]) hX 78 dX2_renameNodes_78 4 rfl (kinc_1 _) (by decide) rfl ?_
            refine kw_goto hX 81 3 dX2_renameNodes_81 (by decide) ?_
            refine kw_lv (lv' := [(0, .ref (ga 0)), (1, .int l1), (2, .int l2), (3, .int l3), (4, .int (l4 + 1))]) [1, 2, 3, 4, 0] rfl ?_
            exact ih l1 l2 l3 (l4 + 1) z_g_vc z_g_ec z_g_F z_g_T v16.1 v16.2 o h hK
          have h := hj18
          refine kw_icmp_ne hX 53 78 dX2_renameNodes_53 (by decide) (fun c11 => ?_) (fun c11 => ?_)
          · have h := kif_f c11 h
            obtain rfl := Option.some.inj h
            refine kw_lv (lv' := [(0, .ref (ga 0)), (1, .int l1), (2, .int l2), (3, .int l3), (4, .int l4)]) [0, 1, 2, 3, 4] rfl ?_
            exact J17
          · have h := kif_t c11 h
            refine kw_aload_n hX 56 dX2_renameNodes_56 rfl 0 rfl ?_
            refine kw_get hX 57 (C := RX2) (T := TX2) (N := 6) hin2 4 f2 (fun _ h => h) 0 rfl rfl (by decide) rfl dX2_renameNodes_57 ?_
            refine kw_iload hX 60 dX2_renameNodes_60 4 rfl ?_
            refine kw_dup2 hX 62 dX2_renameNodes_62 rfl rfl ?_
            obtain ⟨g12, h⟩ := kgd_some h
            refine kw_iald hX 63 3 rfl g12 dX2_renameNodes_63 ?_
            refine kw_iload_n hX 64 dX2_renameNodes_64 rfl 2 rfl ?_
            refine kw_iadd hX 65 dX2_renameNodes_65 ?_
            obtain ⟨g13, h⟩ := kgd_some h
            refine kw_iast hX 66 (ws' := (kfl [gG Y ga z_g_vc z_g_ec z_g_F z_g_T (upd v8.1 (l4 : Int32).toNatClampNeg ((v8.1 (l4 : Int32).toNatClampNeg) + l2)) v8.2])) 3 rfl g13 rfl dX2_renameNodes_66 ?_
            refine kw_aload_n hX 67 dX2_renameNodes_67 rfl 0 rfl ?_
            refine kw_get hX 68 (C := RX2) (T := TX2) (N := 6) hin2 5 f3 (fun _ h => h) 0 rfl rfl (by decide) rfl dX2_renameNodes_68 ?_
            refine kw_iload hX 71 dX2_renameNodes_71 4 rfl ?_
            refine kw_dup2 hX 73 dX2_renameNodes_73 rfl rfl ?_
            obtain ⟨g14, h⟩ := kgd_some h
            refine kw_iald hX 74 4 rfl g14 dX2_renameNodes_74 ?_
            refine kw_iload_n hX 75 dX2_renameNodes_75 rfl 3 rfl ?_
            refine kw_iadd hX 76 dX2_renameNodes_76 ?_
            obtain ⟨g15, h⟩ := kgd_some h
            refine kw_iast hX 77 (ws' := (kfl [gG Y ga z_g_vc z_g_ec z_g_F z_g_T (upd v8.1 (l4 : Int32).toNatClampNeg ((v8.1 (l4 : Int32).toNatClampNeg) + l2)) (upd v8.2 (l4 : Int32).toNatClampNeg ((v8.2 (l4 : Int32).toNatClampNeg) + l3))])) 4 rfl g15 rfl dX2_renameNodes_77 ?_
            obtain rfl := Option.some.inj h
            refine kw_lv (lv' := [(0, .ref (ga 0)), (1, .int l1), (2, .int l2), (3, .int l3), (4, .int l4)]) [0, 1, 2, 3, 4] rfl ?_
            exact J17
        have h := hj19
        refine kw_icmp_ne hX 20 45 dX2_renameNodes_20 (by decide) (fun c3 => ?_) (fun c3 => ?_)
        · have h := kif_f c3 h
          obtain rfl := Option.some.inj h
          refine kw_lv (lv' := [(0, .ref (ga 0)), (1, .int l1), (2, .int l2), (3, .int l3), (4, .int l4)]) [0, 1, 2, 3, 4] rfl ?_
          exact J9
        · have h := kif_t c3 h
          refine kw_aload_n hX 23 dX2_renameNodes_23 rfl 0 rfl ?_
          refine kw_get hX 24 (C := RX2) (T := TX2) (N := 6) hin2 4 f2 (fun _ h => h) 0 rfl rfl (by decide) rfl dX2_renameNodes_24 ?_
          refine kw_iload hX 27 dX2_renameNodes_27 4 rfl ?_
          refine kw_dup2 hX 29 dX2_renameNodes_29 rfl rfl ?_
          obtain ⟨g4, h⟩ := kgd_some h
          refine kw_iald hX 30 3 rfl g4 dX2_renameNodes_30 ?_
          refine kw_iload_n hX 31 dX2_renameNodes_31 rfl 2 rfl ?_
          refine kw_isub hX 32 dX2_renameNodes_32 ?_
          obtain ⟨g5, h⟩ := kgd_some h
          refine kw_iast hX 33 (ws' := (kfl [gG Y ga z_g_vc z_g_ec z_g_F z_g_T (upd z_g_X (l4 : Int32).toNatClampNeg ((z_g_X (l4 : Int32).toNatClampNeg) - l2)) z_g_Z])) 3 rfl g5 rfl dX2_renameNodes_33 ?_
          refine kw_aload_n hX 34 dX2_renameNodes_34 rfl 0 rfl ?_
          refine kw_get hX 35 (C := RX2) (T := TX2) (N := 6) hin2 5 f3 (fun _ h => h) 0 rfl rfl (by decide) rfl dX2_renameNodes_35 ?_
          refine kw_iload hX 38 dX2_renameNodes_38 4 rfl ?_
          refine kw_dup2 hX 40 dX2_renameNodes_40 rfl rfl ?_
          obtain ⟨g6, h⟩ := kgd_some h
          refine kw_iald hX 41 4 rfl g6 dX2_renameNodes_41 ?_
          refine kw_iload_n hX 42 dX2_renameNodes_42 rfl 3 rfl ?_
          refine kw_isub hX 43 dX2_renameNodes_43 ?_
          obtain ⟨g7, h⟩ := kgd_some h
          refine kw_iast hX 44 (ws' := (kfl [gG Y ga z_g_vc z_g_ec z_g_F z_g_T (upd z_g_X (l4 : Int32).toNatClampNeg ((z_g_X (l4 : Int32).toNatClampNeg) - l2)) (upd z_g_Z (l4 : Int32).toNatClampNeg ((z_g_Z (l4 : Int32).toNatClampNeg) - l3))])) 4 rfl g7 rfl dX2_renameNodes_44 ?_
          obtain rfl := Option.some.inj h
          refine kw_lv (lv' := [(0, .ref (ga 0)), (1, .int l1), (2, .int l2), (3, .int l3), (4, .int l4)]) [0, 1, 2, 3, 4] rfl ?_
          exact J9
  unfold pX2_renameNodes at h
  refine kw_lv (lv' := [(0, .ref (ga 0)), (1, .int a1), (2, .int a2), (3, .int a3)]) [0, 1, 2, 3] rfl ?_
  refine kw_iconst hX 0 dX2_renameNodes_0 kci_0 ?_
  refine kw_istore (lv' := [(4, .int 0), (0, .ref (ga 0)), (1, .int a1), (2, .int a2), (3, .int a3)]) hX 1 dX2_renameNodes_1 (by decide) rfl ?_
  obtain ⟨v20, hl21, h⟩ := kb_some h
  refine kw_lv (lv' := [(0, .ref (ga 0)), (1, .int a1), (2, .int a2), (3, .int a3), (4, .int 0)]) [1, 2, 3, 4, 0] rfl ?_
  refine L3 KF a1 a2 a3 0 g_vc g_ec g_F g_T g_X g_Z v20 hl21 ?_
  obtain rfl := Option.some.inj h
  exact hret _ _ dX2_renameNodes_84
def pX2_turnShifts_L2 : Nat → Int32 → Int32 → Int32 → (Nat → Int32) → (Nat → Int32) → Option (Int32 × (Nat → Int32) × (Nat → Int32))
  | 0, _, _, _, _, _ => none
  | n + 1, l1, l2, z_g_ec, z_g_X, z_g_Z => (if z_g_ec ≤ l2 then some (l2, z_g_X, z_g_Z) else kgd (kin l2 12) (kgd (kin l2 12) ((if l1 = (0 : Int32) then kgd (kin l2 12) (kgd (kin l2 12) (pX2_turnShifts_L2 n l1 (l2 + 1) z_g_ec (upd z_g_X (l2 : Int32).toNatClampNeg (z_g_Z (l2 : Int32).toNatClampNeg)) (upd z_g_Z (l2 : Int32).toNatClampNeg (z_g_X (l2 : Int32).toNatClampNeg)))) else (if l1 = (1 : Int32) then kgd (kin l2 12) (pX2_turnShifts_L2 n l1 (l2 + 1) z_g_ec (upd z_g_X (l2 : Int32).toNatClampNeg ((z_g_X (l2 : Int32).toNatClampNeg) + (z_g_Z (l2 : Int32).toNatClampNeg))) z_g_Z) else (if l1 = (2 : Int32) then kgd (kin l2 12) (pX2_turnShifts_L2 n l1 (l2 + 1) z_g_ec (upd z_g_X (l2 : Int32).toNatClampNeg ((z_g_X (l2 : Int32).toNatClampNeg) - (z_g_Z (l2 : Int32).toNatClampNeg))) z_g_Z) else kgd (kin l2 12) (pX2_turnShifts_L2 n l1 (l2 + 1) z_g_ec (upd z_g_X (l2 : Int32).toNatClampNeg (-(z_g_X (l2 : Int32).toNatClampNeg))) z_g_Z)))))))
def pX2_turnShifts (a1 : Int32) (g_ec : Int32) (g_X : Nat → Int32) (g_Z : Nat → Int32) : Option ((Nat → Int32) × (Nat → Int32)) := kb (pX2_turnShifts_L2 KF a1 0 g_ec g_X g_Z) (fun v12 => some (v12.2.1, v12.2.2))
def rmX2_turnShifts : Room := { frames := 0, cells := 0, slots := 0, locals := 0 }
theorem hdV_X2_turnShifts : yX2_turnShifts.cls = RX2 ∧ yX2_turnShifts.cls ≠ "java/lang/invoke/MethodHandle" ∧ yX2_turnShifts.cls ≠ "java/lang/invoke/VarHandle" ∧ (parseMethodDescriptor yX2_turnShifts.desc).map (fun d => d.parameters.length) = some 1 := ⟨rfl, by decide +kernel, by decide +kernel, by decide +kernel⟩
set_option maxHeartbeats 4000000 in
set_option maxRecDepth 100000 in
theorem kX2_turnShifts (l : Launch) (Y : KY) (ga : Nat → Nat) (g_vc : Int32) (g_ec : Int32) (g_F : Nat → Int32) (g_T : Nat → Int32) (g_X : Nat → Int32) (g_Z : Nat → Int32) (a1 : Int32) {o : (Nat → Int32) × (Nat → Int32)} (h : pX2_turnShifts a1 g_ec g_X g_Z = some o) : CtV l yX2_turnShifts wsX2_turnShifts rmX2_turnShifts Y [.ref (ga 0), .int a1] (kfl [gG Y ga g_vc g_ec g_F g_T g_X g_Z]) (kfl [gG Y ga g_vc g_ec g_F g_T o.1 o.2]) := by
  refine ctV_intro (cc := cX2_turnShifts) (maxL := 5) (own := RX2) (by decide +kernel) rfl rfl (Nat.le_of_ble_eq_true rfl) rfl ?_
  intro X A hX _ hret
  have hin2 : ∀ w ∈ u_ws RX2 TX2 6, w ∈ wsX2_turnShifts := by decide +kernel
  have f0 := hX.w (Cond.fieldLink RX2 15 "PeriodicNet$Graph" "edgeCount" "I") (by decide +kernel)
  have f1 := hX.w (Cond.fieldLink RX2 25 "PeriodicNet$Graph" "shiftX" "[I") (by decide +kernel)
  have f2 := hX.w (Cond.fieldLink RX2 28 "PeriodicNet$Graph" "shiftY" "[I") (by decide +kernel)
  have L2 : ∀ (n : Nat) (l1 : Int32) (l2 : Int32) (z_g_vc : Int32) (z_g_ec : Int32) (z_g_F : Nat → Int32) (z_g_T : Nat → Int32) (z_g_X : Nat → Int32) (z_g_Z : Nat → Int32) (o : Int32 × (Nat → Int32) × (Nat → Int32)), pX2_turnShifts_L2 n l1 l2 z_g_ec z_g_X z_g_Z = some o → KW X Y A 5 0 0 (kfl [gG Y ga z_g_vc z_g_ec z_g_F z_g_T o.2.1 o.2.2]) [(0, .ref (ga 0)), (1, .int l1), (2, .int o.1)] 110 [] → KW X Y A 5 0 0 (kfl [gG Y ga z_g_vc z_g_ec z_g_F z_g_T z_g_X z_g_Z]) [(0, .ref (ga 0)), (1, .int l1), (2, .int l2)] 2 [] := by
    intro n
    induction n with
    | zero => intro l1 l2 z_g_vc z_g_ec z_g_F z_g_T z_g_X z_g_Z o h; cases h
    | succ n ih =>
      intro l1 l2 z_g_vc z_g_ec z_g_F z_g_T z_g_X z_g_Z o h hK
      rw [pX2_turnShifts_L2] at h
      refine kw_iload_n hX 2 dX2_turnShifts_2 rfl 2 rfl ?_
      refine kw_aload_n hX 3 dX2_turnShifts_3 rfl 0 rfl ?_
      refine kw_get hX 4 (C := RX2) (T := TX2) (N := 6) hin2 1 f0 (fun _ h => h) 0 rfl rfl (by decide) rfl dX2_turnShifts_4 ?_
      refine kw_icmp_ge hX 7 110 dX2_turnShifts_7 (by decide) (fun c1 => ?_) (fun c1 => ?_)
      · have h := kif_t c1 h
        obtain rfl := Option.some.inj h
        refine kw_lv (lv' := [(0, .ref (ga 0)), (1, .int l1), (2, .int l2)]) [0, 1, 2] rfl ?_
        exact hK
      · have h := kif_f c1 h
        refine kw_aload_n hX 10 dX2_turnShifts_10 rfl 0 rfl ?_
        refine kw_get hX 11 (C := RX2) (T := TX2) (N := 6) hin2 4 f1 (fun _ h => h) 0 rfl rfl (by decide) rfl dX2_turnShifts_11 ?_
        refine kw_iload_n hX 14 dX2_turnShifts_14 rfl 2 rfl ?_
        obtain ⟨g2, h⟩ := kgd_some h
        refine kw_iald hX 15 3 rfl g2 dX2_turnShifts_15 ?_
        refine kw_istore_n (lv' := [(3, .int (z_g_X (l2 : Int32).toNatClampNeg)), (0, .ref (ga 0)), (1, .int l1), (2, .int l2)]) hX 16 dX2_turnShifts_16 rfl (by decide) rfl ?_
        refine kw_aload_n hX 17 dX2_turnShifts_17 rfl 1 rfl ?_
        refine kw_get hX 18 (C := RX2) (T := TX2) (N := 6) hin2 5 f2 (fun _ h => h) 0 rfl rfl (by decide) rfl dX2_turnShifts_18 ?_
        refine kw_iload_n hX 21 dX2_turnShifts_21 rfl 3 rfl ?_
        obtain ⟨g3, h⟩ := kgd_some h
        refine kw_iald hX 22 4 rfl g3 dX2_turnShifts_22 ?_
        refine kw_istore (lv' := [(4, .int (z_g_Z (l2 : Int32).toNatClampNeg)), (3, .int (z_g_X (l2 : Int32).toNatClampNeg)), (0, .ref (ga 0)), (1, .int l1), (2, .int l2)]) hX 23 dX2_turnShifts_23 (by decide) rfl ?_
        refine kw_iload_n hX 25 dX2_turnShifts_25 rfl 3 rfl ?_
        by_cases c4 : l1 = (0 : Int32)
        · have h := kif_t c4 h
          refine kw_tabIn hX 26 52 dX2_turnShifts_26 (by rw [c4]; decide) (by rw [c4]; decide) (by rw [c4]; rfl) (by decide) ?_
          refine kw_aload_n hX 52 dX2_turnShifts_52 rfl 2 rfl ?_
          refine kw_get hX 53 (C := RX2) (T := TX2) (N := 6) hin2 4 f1 (fun _ h => h) 0 rfl rfl (by decide) rfl dX2_turnShifts_53 ?_
          refine kw_iload_n hX 56 dX2_turnShifts_56 rfl 4 rfl ?_
          refine kw_iload hX 57 dX2_turnShifts_57 0 rfl ?_
          obtain ⟨g5, h⟩ := kgd_some h
          refine kw_iast hX 59 (ws' := (kfl [gG Y ga z_g_vc z_g_ec z_g_F z_g_T (upd z_g_X (l2 : Int32).toNatClampNeg (z_g_Z (l2 : Int32).toNatClampNeg)) z_g_Z])) 3 rfl g5 rfl dX2_turnShifts_59 ?_
          refine kw_aload_n hX 60 dX2_turnShifts_60 rfl 2 rfl ?_
          refine kw_get hX 61 (C := RX2) (T := TX2) (N := 6) hin2 5 f2 (fun _ h => h) 0 rfl rfl (by decide) rfl dX2_turnShifts_61 ?_
          refine kw_iload_n hX 64 dX2_turnShifts_64 rfl 4 rfl ?_
          refine kw_iload_n hX 65 dX2_turnShifts_65 rfl 1 rfl ?_
          obtain ⟨g6, h⟩ := kgd_some h
          refine kw_iast hX 66 (ws' := (kfl [gG Y ga z_g_vc z_g_ec z_g_F z_g_T (upd z_g_X (l2 : Int32).toNatClampNeg (z_g_Z (l2 : Int32).toNatClampNeg)) (upd z_g_Z (l2 : Int32).toNatClampNeg (z_g_X (l2 : Int32).toNatClampNeg))])) 4 rfl g6 rfl dX2_turnShifts_66 ?_
          refine kw_goto hX 67 104 dX2_turnShifts_67 (by decide) ?_
          refine kw_iinc (v := (l2 + 1)) (lv' := [(2, .int (l2 + 1)), (4, .int (z_g_Z (l2 : Int32).toNatClampNeg)), (3, .int (z_g_X (l2 : Int32).toNatClampNeg)), (0, .ref (ga 0)), (1, .int l1)]) hX 104 dX2_turnShifts_104 4 rfl (kinc_1 _) (by decide) rfl ?_
          refine kw_goto hX 107 2 dX2_turnShifts_107 (by decide) ?_
          refine kw_lv (lv' := [(0, .ref (ga 0)), (1, .int l1), (2, .int (l2 + 1))]) [3, 4, 0] rfl ?_
          exact ih l1 (l2 + 1) z_g_vc z_g_ec z_g_F z_g_T (upd z_g_X (l2 : Int32).toNatClampNeg (z_g_Z (l2 : Int32).toNatClampNeg)) (upd z_g_Z (l2 : Int32).toNatClampNeg (z_g_X (l2 : Int32).toNatClampNeg)) o h hK
        · have h := kif_f c4 h
          by_cases c7 : l1 = (1 : Int32)
          · have h := kif_t c7 h
            refine kw_tabIn hX 26 70 dX2_turnShifts_26 (by rw [c7]; decide) (by rw [c7]; decide) (by rw [c7]; rfl) (by decide) ?_
            refine kw_aload_n hX 70 dX2_turnShifts_70 rfl 2 rfl ?_
            refine kw_get hX 71 (C := RX2) (T := TX2) (N := 6) hin2 4 f1 (fun _ h => h) 0 rfl rfl (by decide) rfl dX2_turnShifts_71 ?_
            refine kw_iload_n hX 74 dX2_turnShifts_74 rfl 4 rfl ?_
            refine kw_iload_n hX 75 dX2_turnShifts_75 rfl 1 rfl ?_
            refine kw_iload hX 76 dX2_turnShifts_76 0 rfl ?_
            refine kw_iadd hX 78 dX2_turnShifts_78 ?_
            obtain ⟨g8, h⟩ := kgd_some h
            refine kw_iast hX 79 (ws' := (kfl [gG Y ga z_g_vc z_g_ec z_g_F z_g_T (upd z_g_X (l2 : Int32).toNatClampNeg ((z_g_X (l2 : Int32).toNatClampNeg) + (z_g_Z (l2 : Int32).toNatClampNeg))) z_g_Z])) 3 rfl g8 rfl dX2_turnShifts_79 ?_
            refine kw_goto hX 80 104 dX2_turnShifts_80 (by decide) ?_
            refine kw_iinc (v := (l2 + 1)) (lv' := [(2, .int (l2 + 1)), (4, .int (z_g_Z (l2 : Int32).toNatClampNeg)), (3, .int (z_g_X (l2 : Int32).toNatClampNeg)), (0, .ref (ga 0)), (1, .int l1)]) hX 104 dX2_turnShifts_104 4 rfl (kinc_1 _) (by decide) rfl ?_
            refine kw_goto hX 107 2 dX2_turnShifts_107 (by decide) ?_
            refine kw_lv (lv' := [(0, .ref (ga 0)), (1, .int l1), (2, .int (l2 + 1))]) [3, 4, 0] rfl ?_
            exact ih l1 (l2 + 1) z_g_vc z_g_ec z_g_F z_g_T (upd z_g_X (l2 : Int32).toNatClampNeg ((z_g_X (l2 : Int32).toNatClampNeg) + (z_g_Z (l2 : Int32).toNatClampNeg))) z_g_Z o h hK
          · have h := kif_f c7 h
            by_cases c9 : l1 = (2 : Int32)
            · have h := kif_t c9 h
              refine kw_tabIn hX 26 83 dX2_turnShifts_26 (by rw [c9]; decide) (by rw [c9]; decide) (by rw [c9]; rfl) (by decide) ?_
              refine kw_aload_n hX 83 dX2_turnShifts_83 rfl 2 rfl ?_
              refine kw_get hX 84 (C := RX2) (T := TX2) (N := 6) hin2 4 f1 (fun _ h => h) 0 rfl rfl (by decide) rfl dX2_turnShifts_84 ?_
              refine kw_iload_n hX 87 dX2_turnShifts_87 rfl 4 rfl ?_
              refine kw_iload_n hX 88 dX2_turnShifts_88 rfl 1 rfl ?_
              refine kw_iload hX 89 dX2_turnShifts_89 0 rfl ?_
              refine kw_isub hX 91 dX2_turnShifts_91 ?_
              obtain ⟨g10, h⟩ := kgd_some h
              refine kw_iast hX 92 (ws' := (kfl [gG Y ga z_g_vc z_g_ec z_g_F z_g_T (upd z_g_X (l2 : Int32).toNatClampNeg ((z_g_X (l2 : Int32).toNatClampNeg) - (z_g_Z (l2 : Int32).toNatClampNeg))) z_g_Z])) 3 rfl g10 rfl dX2_turnShifts_92 ?_
              refine kw_goto hX 93 104 dX2_turnShifts_93 (by decide) ?_
              refine kw_iinc (v := (l2 + 1)) (lv' := [(2, .int (l2 + 1)), (4, .int (z_g_Z (l2 : Int32).toNatClampNeg)), (3, .int (z_g_X (l2 : Int32).toNatClampNeg)), (0, .ref (ga 0)), (1, .int l1)]) hX 104 dX2_turnShifts_104 4 rfl (kinc_1 _) (by decide) rfl ?_
              refine kw_goto hX 107 2 dX2_turnShifts_107 (by decide) ?_
              refine kw_lv (lv' := [(0, .ref (ga 0)), (1, .int l1), (2, .int (l2 + 1))]) [3, 4, 0] rfl ?_
              exact ih l1 (l2 + 1) z_g_vc z_g_ec z_g_F z_g_T (upd z_g_X (l2 : Int32).toNatClampNeg ((z_g_X (l2 : Int32).toNatClampNeg) - (z_g_Z (l2 : Int32).toNatClampNeg))) z_g_Z o h hK
            · have h := kif_f c9 h
              refine kw_tabOut hX 26 96 dX2_turnShifts_26 (kw_tab0_2 _ c4 c7 c9) (by decide) ?_
              refine kw_aload_n hX 96 dX2_turnShifts_96 rfl 2 rfl ?_
              refine kw_get hX 97 (C := RX2) (T := TX2) (N := 6) hin2 4 f1 (fun _ h => h) 0 rfl rfl (by decide) rfl dX2_turnShifts_97 ?_
              refine kw_iload_n hX 100 dX2_turnShifts_100 rfl 4 rfl ?_
              refine kw_iload_n hX 101 dX2_turnShifts_101 rfl 1 rfl ?_
              refine kw_ineg hX 102 dX2_turnShifts_102 ?_
              obtain ⟨g11, h⟩ := kgd_some h
              refine kw_iast hX 103 (ws' := (kfl [gG Y ga z_g_vc z_g_ec z_g_F z_g_T (upd z_g_X (l2 : Int32).toNatClampNeg (-(z_g_X (l2 : Int32).toNatClampNeg))) z_g_Z])) 3 rfl g11 rfl dX2_turnShifts_103 ?_
              refine kw_iinc (v := (l2 + 1)) (lv' := [(2, .int (l2 + 1)), (4, .int (z_g_Z (l2 : Int32).toNatClampNeg)), (3, .int (z_g_X (l2 : Int32).toNatClampNeg)), (0, .ref (ga 0)), (1, .int l1)]) hX 104 dX2_turnShifts_104 4 rfl (kinc_1 _) (by decide) rfl ?_
              refine kw_goto hX 107 2 dX2_turnShifts_107 (by decide) ?_
              refine kw_lv (lv' := [(0, .ref (ga 0)), (1, .int l1), (2, .int (l2 + 1))]) [3, 4, 0] rfl ?_
              exact ih l1 (l2 + 1) z_g_vc z_g_ec z_g_F z_g_T (upd z_g_X (l2 : Int32).toNatClampNeg (-(z_g_X (l2 : Int32).toNatClampNeg))) z_g_Z o h hK
  unfold pX2_turnShifts at h
  refine kw_lv (lv' := [(0, .ref (ga 0)), (1, .int a1)]) [0, 1] rfl ?_
  refine kw_iconst hX 0 dX2_turnShifts_0 kci_0 ?_
  refine kw_istore_n (lv' := [(2, .int 0), (0, .ref (ga 0)), (1, .int a1)]) hX 1 dX2_turnShifts_1 rfl (by decide) rfl ?_
  obtain ⟨v12, hl13, h⟩ := kb_some h
  refine kw_lv (lv' := [(0, .ref (ga 0)), (1, .int a1), (2, .int 0)]) [1, 2, 0] rfl ?_
  refine L2 KF a1 0 g_vc g_ec g_F g_T g_X g_Z v12 hl13 ?_
  obtain rfl := Option.some.inj h
  exact hret _ _ dX2_turnShifts_110
def pX2_hasShiftsInRange_L2 : Nat → Int32 → Int32 → (Nat → Int32) → (Nat → Int32) → Option (Int32)
  | 0, _, _, _, _ => none
  | n + 1, l1, g_ec, g_X, g_Z => (if g_ec ≤ l1 then some 1 else kgd (kin l1 12) (kb (pX5_isShift (g_X (l1 : Int32).toNatClampNeg)) (fun v3 => (if v3 = 0 then some 0 else kgd (kin l1 12) (kb (pX5_isShift (g_Z (l1 : Int32).toNatClampNeg)) (fun v7 => (if v7 = 0 then some 0 else pX2_hasShiftsInRange_L2 n (l1 + 1) g_ec g_X g_Z)))))))
def pX2_hasShiftsInRange  (g_ec : Int32) (g_X : Nat → Int32) (g_Z : Nat → Int32) : Option (Int32) := pX2_hasShiftsInRange_L2 KF 0 g_ec g_X g_Z
def rmX2_hasShiftsInRange : Room := { frames := 1, cells := 0, slots := 0, locals := 20 }
theorem hdV_X2_hasShiftsInRange : yX2_hasShiftsInRange.cls = RX2 ∧ yX2_hasShiftsInRange.cls ≠ "java/lang/invoke/MethodHandle" ∧ yX2_hasShiftsInRange.cls ≠ "java/lang/invoke/VarHandle" ∧ (parseMethodDescriptor yX2_hasShiftsInRange.desc).map (fun d => d.parameters.length) = some 0 := ⟨rfl, by decide +kernel, by decide +kernel, by decide +kernel⟩
set_option maxHeartbeats 4000000 in
set_option maxRecDepth 100000 in
theorem kX2_hasShiftsInRange (l : Launch) (Y : KY) (ga : Nat → Nat) (g_vc : Int32) (g_ec : Int32) (g_F : Nat → Int32) (g_T : Nat → Int32) (g_X : Nat → Int32) (g_Z : Nat → Int32)  {o : Int32} (h : pX2_hasShiftsInRange g_ec g_X g_Z = some o) : CtI l yX2_hasShiftsInRange wsX2_hasShiftsInRange rmX2_hasShiftsInRange Y [.ref (ga 0)] (kfl [gG Y ga g_vc g_ec g_F g_T g_X g_Z]) o (kfl [gG Y ga g_vc g_ec g_F g_T g_X g_Z]) := by
  refine ctI_intro (cc := cX2_hasShiftsInRange) (maxL := 2) (own := RX2) (by decide +kernel) rfl rfl (Nat.le_of_ble_eq_true rfl) rfl ?_
  intro X A hX _ hret
  have hin2 : ∀ w ∈ u_ws RX2 TX2 6, w ∈ wsX2_hasShiftsInRange := by decide +kernel
  have f0 := hX.w (Cond.fieldLink RX2 15 "PeriodicNet$Graph" "edgeCount" "I") (by decide +kernel)
  have f1 := hX.w (Cond.fieldLink RX2 25 "PeriodicNet$Graph" "shiftX" "[I") (by decide +kernel)
  have f2 := hX.w (Cond.fieldLink RX2 28 "PeriodicNet$Graph" "shiftY" "[I") (by decide +kernel)
  have iniX5 := hX.w (Cond.initialized yX5_isShift.cls) (by decide +kernel)
  have staX5_isShift := hX.w (Cond.static yX5_isShift) (by decide +kernel)
  have L2 : ∀ (n : Nat) (l1 : Int32) , pX2_hasShiftsInRange_L2 n l1 g_ec g_X g_Z = some o → KW X Y A 2 0 0 (kfl [gG Y ga g_vc g_ec g_F g_T g_X g_Z]) [(0, .ref (ga 0)), (1, .int l1)] 2 [] := by
    intro n
    induction n with
    | zero => intro l1 h; cases h
    | succ n ih =>
      intro l1 h
      rw [pX2_hasShiftsInRange_L2] at h
      refine kw_iload_n hX 2 dX2_hasShiftsInRange_2 rfl 1 rfl ?_
      refine kw_aload_n hX 3 dX2_hasShiftsInRange_3 rfl 0 rfl ?_
      refine kw_get hX 4 (C := RX2) (T := TX2) (N := 6) hin2 1 f0 (fun _ h => h) 0 rfl rfl (by decide) rfl dX2_hasShiftsInRange_4 ?_
      refine kw_icmp_ge hX 7 42 dX2_hasShiftsInRange_7 (by decide) (fun c1 => ?_) (fun c1 => ?_)
      · have h := kif_t c1 h
        refine kw_iconst hX 42 dX2_hasShiftsInRange_42 kci_1 ?_
        obtain rfl := Option.some.inj h
        exact hret _ _ dX2_hasShiftsInRange_43 rfl
      · have h := kif_f c1 h
        refine kw_aload_n hX 10 dX2_hasShiftsInRange_10 rfl 0 rfl ?_
        refine kw_get hX 11 (C := RX2) (T := TX2) (N := 6) hin2 4 f1 (fun _ h => h) 0 rfl rfl (by decide) rfl dX2_hasShiftsInRange_11 ?_
        refine kw_iload_n hX 14 dX2_hasShiftsInRange_14 rfl 1 rfl ?_
        obtain ⟨g2, h⟩ := kgd_some h
        refine kw_iald hX 15 3 rfl g2 dX2_hasShiftsInRange_15 ?_
        obtain ⟨v3, hc4, h⟩ := kb_some h
        refine kw_callSN_I hX 16 (As := [.int (g_X (l1 : Int32).toNatClampNeg)]) (rest := []) (kX5_isShift (kx_l X) Y (g_X (l1 : Int32).toNatClampNeg) hc4) gX2_hasShiftsInRange_X5_isShift_n47 (kn0 hX) iniX5 staX5_isShift rfl 1 rfl hdS_X5_isShift ⟨rfl, rfl⟩ ⟨by decide, by decide⟩ ⟨Nat.zero_le _, Nat.zero_le _⟩ rfl (Nat.le_of_ble_eq_true rfl) [] (by decide) rfl kfn0 (gs1 := [gG Y ga g_vc g_ec g_F g_T g_X g_Z]) rfl dX2_hasShiftsInRange_16 ?_
        refine kw_if_eq hX 19 34 dX2_hasShiftsInRange_19 (by decide) (fun c5 => ?_) (fun c5 => ?_)
        · have h := kif_t c5 h
          refine kw_iconst hX 34 dX2_hasShiftsInRange_34 kci_0 ?_
          obtain rfl := Option.some.inj h
          exact hret _ _ dX2_hasShiftsInRange_35 rfl
        · have h := kif_f c5 h
          refine kw_aload_n hX 22 dX2_hasShiftsInRange_22 rfl 0 rfl ?_
          refine kw_get hX 23 (C := RX2) (T := TX2) (N := 6) hin2 5 f2 (fun _ h => h) 0 rfl rfl (by decide) rfl dX2_hasShiftsInRange_23 ?_
          refine kw_iload_n hX 26 dX2_hasShiftsInRange_26 rfl 1 rfl ?_
          obtain ⟨g6, h⟩ := kgd_some h
          refine kw_iald hX 27 4 rfl g6 dX2_hasShiftsInRange_27 ?_
          obtain ⟨v7, hc8, h⟩ := kb_some h
          refine kw_callSN_I hX 28 (As := [.int (g_Z (l1 : Int32).toNatClampNeg)]) (rest := []) (kX5_isShift (kx_l X) Y (g_Z (l1 : Int32).toNatClampNeg) hc8) gX2_hasShiftsInRange_X5_isShift_n47 (kn0 hX) iniX5 staX5_isShift rfl 1 rfl hdS_X5_isShift ⟨rfl, rfl⟩ ⟨by decide, by decide⟩ ⟨Nat.zero_le _, Nat.zero_le _⟩ rfl (Nat.le_of_ble_eq_true rfl) [] (by decide) rfl kfn0 (gs1 := [gG Y ga g_vc g_ec g_F g_T g_X g_Z]) rfl dX2_hasShiftsInRange_28 ?_
          refine kw_if_ne hX 31 36 dX2_hasShiftsInRange_31 (by decide) (fun c9 => ?_) (fun c9 => ?_)
          · have h := kif_f c9 h
            refine kw_iinc (v := (l1 + 1)) (lv' := [(1, .int (l1 + 1)), (0, .ref (ga 0))]) hX 36 dX2_hasShiftsInRange_36 1 rfl (kinc_1 _) (by decide) rfl ?_
            refine kw_goto hX 39 2 dX2_hasShiftsInRange_39 (by decide) ?_
            refine kw_lv (lv' := [(0, .ref (ga 0)), (1, .int (l1 + 1))]) [1, 0] rfl ?_
            exact ih (l1 + 1) h
          · have h := kif_t c9 h
            refine kw_iconst hX 34 dX2_hasShiftsInRange_34 kci_0 ?_
            obtain rfl := Option.some.inj h
            exact hret _ _ dX2_hasShiftsInRange_35 rfl
  unfold pX2_hasShiftsInRange at h
  refine kw_lv (lv' := [(0, .ref (ga 0))]) [0] rfl ?_
  refine kw_iconst hX 0 dX2_hasShiftsInRange_0 kci_0 ?_
  refine kw_istore_n (lv' := [(1, .int 0), (0, .ref (ga 0))]) hX 1 dX2_hasShiftsInRange_1 rfl (by decide) rfl ?_
  refine kw_lv (lv' := [(0, .ref (ga 0)), (1, .int 0)]) [1, 0] rfl ?_
  exact L2 KF 0 h
def pX2_shiftsUnlike_L4 : Nat → Int32 → Int32 → Int32 → (Nat → Int32) → (Nat → Int32) → Int32 → (Nat → Int32) → (Nat → Int32) → Option (Int32 × Int32)
  | 0, _, _, _, _, _, _, _, _ => none
  | n + 1, l2, l3, z_g_ec, z_g_X, z_g_Z, z_o_ec, z_o_X, z_o_Z => (if z_g_ec ≤ l3 then some (l2, l3) else (if z_o_ec ≤ l3 then some (l2, l3) else kgd (kin l3 12) (kgd (kin l3 12) (kb ((if (z_g_X (l3 : Int32).toNatClampNeg) = (z_o_X (l3 : Int32).toNatClampNeg) then kgd (kin l3 12) (kgd (kin l3 12) ((if (z_g_Z (l3 : Int32).toNatClampNeg) = (z_o_Z (l3 : Int32).toNatClampNeg) then some l2 else some (l2 + 1)))) else some (l2 + 1)) : Option (Int32)) (fun v9 => pX2_shiftsUnlike_L4 n v9 (l3 + 1) z_g_ec z_g_X z_g_Z z_o_ec z_o_X z_o_Z)))))
def pX2_shiftsUnlike  (g_ec : Int32) (g_X : Nat → Int32) (g_Z : Nat → Int32) (o_ec : Int32) (o_X : Nat → Int32) (o_Z : Nat → Int32) : Option (Int32) := kb (pX2_shiftsUnlike_L4 KF 0 0 g_ec g_X g_Z o_ec o_X o_Z) (fun v12 => some v12.1)
def rmX2_shiftsUnlike : Room := { frames := 0, cells := 0, slots := 0, locals := 0 }
theorem hdV_X2_shiftsUnlike : yX2_shiftsUnlike.cls = RX2 ∧ yX2_shiftsUnlike.cls ≠ "java/lang/invoke/MethodHandle" ∧ yX2_shiftsUnlike.cls ≠ "java/lang/invoke/VarHandle" ∧ (parseMethodDescriptor yX2_shiftsUnlike.desc).map (fun d => d.parameters.length) = some 1 := ⟨rfl, by decide +kernel, by decide +kernel, by decide +kernel⟩
set_option maxHeartbeats 4000000 in
set_option maxRecDepth 100000 in
theorem kX2_shiftsUnlike (l : Launch) (Y : KY) (ga : Nat → Nat) (oa : Nat → Nat) (g_vc : Int32) (g_ec : Int32) (g_F : Nat → Int32) (g_T : Nat → Int32) (g_X : Nat → Int32) (g_Z : Nat → Int32) (o_vc : Int32) (o_ec : Int32) (o_F : Nat → Int32) (o_T : Nat → Int32) (o_X : Nat → Int32) (o_Z : Nat → Int32)  {o : Int32} (h : pX2_shiftsUnlike g_ec g_X g_Z o_ec o_X o_Z = some o) : CtI l yX2_shiftsUnlike wsX2_shiftsUnlike rmX2_shiftsUnlike Y [.ref (ga 0), .ref (oa 0)] (kfl [gG Y ga g_vc g_ec g_F g_T g_X g_Z, gG Y oa o_vc o_ec o_F o_T o_X o_Z]) o (kfl [gG Y ga g_vc g_ec g_F g_T g_X g_Z, gG Y oa o_vc o_ec o_F o_T o_X o_Z]) := by
  refine ctI_intro (cc := cX2_shiftsUnlike) (maxL := 4) (own := RX2) (by decide +kernel) rfl rfl (Nat.le_of_ble_eq_true rfl) rfl ?_
  intro X A hX _ hret
  have hin2 : ∀ w ∈ u_ws RX2 TX2 6, w ∈ wsX2_shiftsUnlike := by decide +kernel
  have f0 := hX.w (Cond.fieldLink RX2 15 "PeriodicNet$Graph" "edgeCount" "I") (by decide +kernel)
  have f1 := hX.w (Cond.fieldLink RX2 25 "PeriodicNet$Graph" "shiftX" "[I") (by decide +kernel)
  have f2 := hX.w (Cond.fieldLink RX2 28 "PeriodicNet$Graph" "shiftY" "[I") (by decide +kernel)
  have L4 : ∀ (n : Nat) (l2 : Int32) (l3 : Int32) (z_g_vc : Int32) (z_g_ec : Int32) (z_g_F : Nat → Int32) (z_g_T : Nat → Int32) (z_g_X : Nat → Int32) (z_g_Z : Nat → Int32) (z_o_vc : Int32) (z_o_ec : Int32) (z_o_F : Nat → Int32) (z_o_T : Nat → Int32) (z_o_X : Nat → Int32) (z_o_Z : Nat → Int32) (o : Int32 × Int32), pX2_shiftsUnlike_L4 n l2 l3 z_g_ec z_g_X z_g_Z z_o_ec z_o_X z_o_Z = some o → KW X Y A 4 0 0 (kfl [gG Y ga z_g_vc z_g_ec z_g_F z_g_T z_g_X z_g_Z, gG Y oa z_o_vc z_o_ec z_o_F z_o_T z_o_X z_o_Z]) [(0, .ref (ga 0)), (1, .ref (oa 0)), (2, .int o.1), (3, .int o.2)] 59 [] → KW X Y A 4 0 0 (kfl [gG Y ga z_g_vc z_g_ec z_g_F z_g_T z_g_X z_g_Z, gG Y oa z_o_vc z_o_ec z_o_F z_o_T z_o_X z_o_Z]) [(0, .ref (ga 0)), (1, .ref (oa 0)), (2, .int l2), (3, .int l3)] 4 [] := by
    intro n
    induction n with
    | zero => intro l2 l3 z_g_vc z_g_ec z_g_F z_g_T z_g_X z_g_Z z_o_vc z_o_ec z_o_F z_o_T z_o_X z_o_Z o h; cases h
    | succ n ih =>
      intro l2 l3 z_g_vc z_g_ec z_g_F z_g_T z_g_X z_g_Z z_o_vc z_o_ec z_o_F z_o_T z_o_X z_o_Z o h hK
      rw [pX2_shiftsUnlike_L4] at h
      refine kw_iload_n hX 4 dX2_shiftsUnlike_4 rfl 3 rfl ?_
      refine kw_aload_n hX 5 dX2_shiftsUnlike_5 rfl 0 rfl ?_
      refine kw_get hX 6 (C := RX2) (T := TX2) (N := 6) hin2 1 f0 (fun _ h => h) 0 rfl rfl (by decide) rfl dX2_shiftsUnlike_6 ?_
      refine kw_icmp_ge hX 9 59 dX2_shiftsUnlike_9 (by decide) (fun c1 => ?_) (fun c1 => ?_)
      · have h := kif_t c1 h
        obtain rfl := Option.some.inj h
        refine kw_lv (lv' := [(0, .ref (ga 0)), (1, .ref (oa 0)), (2, .int l2), (3, .int l3)]) [0, 1, 2, 3] rfl ?_
        exact hK
      · have h := kif_f c1 h
        refine kw_iload_n hX 12 dX2_shiftsUnlike_12 rfl 3 rfl ?_
        refine kw_aload_n hX 13 dX2_shiftsUnlike_13 rfl 1 rfl ?_
        refine kw_get hX 14 (C := RX2) (T := TX2) (N := 6) hin2 1 f0 (fun _ h => h) 5 rfl rfl (by decide) rfl dX2_shiftsUnlike_14 ?_
        refine kw_icmp_ge hX 17 59 dX2_shiftsUnlike_17 (by decide) (fun c2 => ?_) (fun c2 => ?_)
        · have h := kif_t c2 h
          obtain rfl := Option.some.inj h
          refine kw_lv (lv' := [(0, .ref (ga 0)), (1, .ref (oa 0)), (2, .int l2), (3, .int l3)]) [0, 1, 2, 3] rfl ?_
          exact hK
        · have h := kif_f c2 h
          refine kw_aload_n hX 20 dX2_shiftsUnlike_20 rfl 0 rfl ?_
          refine kw_get hX 21 (C := RX2) (T := TX2) (N := 6) hin2 4 f1 (fun _ h => h) 0 rfl rfl (by decide) rfl dX2_shiftsUnlike_21 ?_
          refine kw_iload_n hX 24 dX2_shiftsUnlike_24 rfl 3 rfl ?_
          obtain ⟨g3, h⟩ := kgd_some h
          refine kw_iald hX 25 3 rfl g3 dX2_shiftsUnlike_25 ?_
          refine kw_aload_n hX 26 dX2_shiftsUnlike_26 rfl 1 rfl ?_
          refine kw_get hX 27 (C := RX2) (T := TX2) (N := 6) hin2 4 f1 (fun _ h => h) 5 rfl rfl (by decide) rfl dX2_shiftsUnlike_27 ?_
          refine kw_iload_n hX 30 dX2_shiftsUnlike_30 rfl 3 rfl ?_
          obtain ⟨g4, h⟩ := kgd_some h
          refine kw_iald hX 31 8 rfl g4 dX2_shiftsUnlike_31 ?_
          obtain ⟨v9, hj11, h⟩ := kb_some h
          have J10 : KW X Y A 4 0 0 (kfl [gG Y ga z_g_vc z_g_ec z_g_F z_g_T z_g_X z_g_Z, gG Y oa z_o_vc z_o_ec z_o_F z_o_T z_o_X z_o_Z]) [(0, .ref (ga 0)), (1, .ref (oa 0)), (2, .int v9), (3, .int l3)] 53 [] := by
            refine kw_iinc (v := (l3 + 1)) (lv' := [(3, .int (l3 + 1)), (0, .ref (ga 0)), (1, .ref (oa 0)), (2, .int v9)]) hX 53 dX2_shiftsUnlike_53 3 rfl (kinc_1 _) (by decide) rfl ?_
            refine kw_goto hX 56 4 dX2_shiftsUnlike_56 (by decide) ?_
            refine kw_lv (lv' := [(0, .ref (ga 0)), (1, .ref (oa 0)), (2, .int v9), (3, .int (l3 + 1))]) [1, 2, 3, 0] rfl ?_
            exact ih v9 (l3 + 1) z_g_vc z_g_ec z_g_F z_g_T z_g_X z_g_Z z_o_vc z_o_ec z_o_F z_o_T z_o_X z_o_Z o h hK
          have h := hj11
          refine kw_icmp_ne hX 32 50 dX2_shiftsUnlike_32 (by decide) (fun c5 => ?_) (fun c5 => ?_)
          · have h := kif_f c5 h
            refine kw_iinc (v := (l2 + 1)) (lv' := [(2, .int (l2 + 1)), (0, .ref (ga 0)), (1, .ref (oa 0)), (3, .int l3)]) hX 50 dX2_shiftsUnlike_50 2 rfl (kinc_1 _) (by decide) rfl ?_
            obtain rfl := Option.some.inj h
            refine kw_lv (lv' := [(0, .ref (ga 0)), (1, .ref (oa 0)), (2, .int (l2 + 1)), (3, .int l3)]) [1, 2, 0, 3] rfl ?_
            exact J10
          · have h := kif_t c5 h
            refine kw_aload_n hX 35 dX2_shiftsUnlike_35 rfl 0 rfl ?_
            refine kw_get hX 36 (C := RX2) (T := TX2) (N := 6) hin2 5 f2 (fun _ h => h) 0 rfl rfl (by decide) rfl dX2_shiftsUnlike_36 ?_
            refine kw_iload_n hX 39 dX2_shiftsUnlike_39 rfl 3 rfl ?_
            obtain ⟨g6, h⟩ := kgd_some h
            refine kw_iald hX 40 4 rfl g6 dX2_shiftsUnlike_40 ?_
            refine kw_aload_n hX 41 dX2_shiftsUnlike_41 rfl 1 rfl ?_
            refine kw_get hX 42 (C := RX2) (T := TX2) (N := 6) hin2 5 f2 (fun _ h => h) 5 rfl rfl (by decide) rfl dX2_shiftsUnlike_42 ?_
            refine kw_iload_n hX 45 dX2_shiftsUnlike_45 rfl 3 rfl ?_
            obtain ⟨g7, h⟩ := kgd_some h
            refine kw_iald hX 46 9 rfl g7 dX2_shiftsUnlike_46 ?_
            refine kw_icmp_eq hX 47 53 dX2_shiftsUnlike_47 (by decide) (fun c8 => ?_) (fun c8 => ?_)
            · have h := kif_t c8 h
              obtain rfl := Option.some.inj h
              refine kw_lv (lv' := [(0, .ref (ga 0)), (1, .ref (oa 0)), (2, .int l2), (3, .int l3)]) [0, 1, 2, 3] rfl ?_
              exact J10
            · have h := kif_f c8 h
              refine kw_iinc (v := (l2 + 1)) (lv' := [(2, .int (l2 + 1)), (0, .ref (ga 0)), (1, .ref (oa 0)), (3, .int l3)]) hX 50 dX2_shiftsUnlike_50 2 rfl (kinc_1 _) (by decide) rfl ?_
              obtain rfl := Option.some.inj h
              refine kw_lv (lv' := [(0, .ref (ga 0)), (1, .ref (oa 0)), (2, .int (l2 + 1)), (3, .int l3)]) [1, 2, 0, 3] rfl ?_
              exact J10
  unfold pX2_shiftsUnlike at h
  refine kw_lv (lv' := [(0, .ref (ga 0)), (1, .ref (oa 0))]) [0, 1] rfl ?_
  refine kw_iconst hX 0 dX2_shiftsUnlike_0 kci_0 ?_
  refine kw_istore_n (lv' := [(2, .int 0), (0, .ref (ga 0)), (1, .ref (oa 0))]) hX 1 dX2_shiftsUnlike_1 rfl (by decide) rfl ?_
  refine kw_iconst hX 2 dX2_shiftsUnlike_2 kci_0 ?_
  refine kw_istore_n (lv' := [(3, .int 0), (2, .int 0), (0, .ref (ga 0)), (1, .ref (oa 0))]) hX 3 dX2_shiftsUnlike_3 rfl (by decide) rfl ?_
  obtain ⟨v12, hl13, h⟩ := kb_some h
  refine kw_lv (lv' := [(0, .ref (ga 0)), (1, .ref (oa 0)), (2, .int 0), (3, .int 0)]) [2, 3, 1, 0] rfl ?_
  refine L4 KF 0 0 g_vc g_ec g_F g_T g_X g_Z o_vc o_ec o_F o_T o_X o_Z v12 hl13 ?_
  refine kw_iload_n hX 59 dX2_shiftsUnlike_59 rfl 2 rfl ?_
  obtain rfl := Option.some.inj h
  exact hret _ _ dX2_shiftsUnlike_60 rfl
