/-! Float.isNaN and Float.floatToIntBits of the JDK -/
def pJ_isNaN (x : UInt32) : Option Int32 := if Op.cmpValue (FP.fcmp x x) CmpOp.l = 0 then some 0 else some 1
def rmJ_isNaN : Room := { frames := 0, cells := 0, slots := 0, locals := 0 }
def pJ_ftib (x : UInt32) : Option Int32 := kb (pJ_isNaN x) (fun v => if v = 0 then some x.toInt32 else some 2143289344)
def rmJ_ftib : Room := { frames := 1, cells := 0, slots := 0, locals := 20 }
theorem hdS_Jn : yJxf58ca_isNaN_12338.cls ≠ "java/lang/invoke/MethodHandle" ∧ yJxf58ca_isNaN_12338.cls ≠ "java/lang/invoke/VarHandle" ∧ (parseMethodDescriptor yJxf58ca_isNaN_12338.desc).map (fun d => d.parameters.length) = some 1 := ⟨by decide +kernel, by decide +kernel, by decide +kernel⟩
theorem hdS_J : yJxf58ca_floatToIntBits_5c35a.cls ≠ "java/lang/invoke/MethodHandle" ∧ yJxf58ca_floatToIntBits_5c35a.cls ≠ "java/lang/invoke/VarHandle" ∧ (parseMethodDescriptor yJxf58ca_floatToIntBits_5c35a.desc).map (fun d => d.parameters.length) = some 1 := ⟨by decide +kernel, by decide +kernel, by decide +kernel⟩
set_option maxHeartbeats 4000000 in
set_option maxRecDepth 100000 in
theorem kJ_isNaN (l : Launch) (Y : KY) (x : UInt32) {o : Int32} (h : pJ_isNaN x = some o) : CtI l yJxf58ca_isNaN_12338 wsJxf58ca_isNaN_12338 rmJ_isNaN Y [.float x] (kfl []) o (kfl []) := by
  refine ctIF_intro (cc := cJxf58ca_isNaN_12338) (maxL := 1) (own := RJxf58ca) (by decide +kernel) rfl rfl (Nat.le_of_ble_eq_true rfl) rfl ?_
  intro X A hX _ hret
  unfold pJ_isNaN at h
  refine kw_lv (lv' := [(0, .float x)]) [0] rfl ?_
  refine kw_fload_n hX 0 dJxf58ca_isNaN_12338_0 rfl 0 rfl ?_
  refine kw_fload_n hX 1 dJxf58ca_isNaN_12338_1 rfl 0 rfl ?_
  refine kw_fcmp hX 2 dJxf58ca_isNaN_12338_2 ?_
  refine kw_if_eq hX 3 10 dJxf58ca_isNaN_12338_3 (by decide) (fun c1 => ?_) (fun c1 => ?_)
  · have h := kif_t c1 h
    refine kw_iconst hX 10 dJxf58ca_isNaN_12338_10 kci_0 ?_
    cases h
    exact hret _ _ dJxf58ca_isNaN_12338_11 rfl
  · have h := kif_f c1 h
    refine kw_iconst hX 6 dJxf58ca_isNaN_12338_6 kci_1 ?_
    refine kw_goto hX 7 11 dJxf58ca_isNaN_12338_7 (by decide) ?_
    cases h
    exact hret _ _ dJxf58ca_isNaN_12338_11 rfl
set_option maxHeartbeats 4000000 in
set_option maxRecDepth 100000 in
theorem kJ_ftib (l : Launch) (Y : KY) (x : UInt32) {o : Int32} (h : pJ_ftib x = some o) : CtI l yJxf58ca_floatToIntBits_5c35a wsJxf58ca_floatToIntBits_5c35a rmJ_ftib Y [.float x] (kfl []) o (kfl []) := by
  refine ctIF_intro (cc := cJxf58ca_floatToIntBits_5c35a) (maxL := 1) (own := RJxf58ca) (by decide +kernel) rfl rfl (Nat.le_of_ble_eq_true rfl) rfl ?_
  intro X A hX _ hret
  unfold pJ_ftib at h
  refine kw_lv (lv' := [(0, .float x)]) [0] rfl ?_
  refine kw_fload_n hX 0 dJxf58ca_floatToIntBits_5c35a_0 rfl 0 rfl ?_
  obtain ⟨v1, hc2, h⟩ := kb_some h
  refine kw_callS_I hX 1 (As := [.float x]) (rest := []) (kJ_isNaN (kx_l X) Y x hc2) gJxf58ca_floatToIntBits_5c35a_Jxf58ca_isNaN_12338 rfl 1 rfl hdS_Jn ⟨rfl, rfl⟩ ⟨by decide, by decide⟩ ⟨Nat.zero_le _, Nat.zero_le _⟩ rfl (Nat.le_of_ble_eq_true rfl) [] (by decide) rfl kfn0 (gs1 := []) rfl dJxf58ca_floatToIntBits_5c35a_1 ?_
  refine kw_if_ne hX 4 12 dJxf58ca_floatToIntBits_5c35a_4 (by decide) (fun c1 => ?_) (fun c1 => ?_)
  · have h := kif_f c1 h
    refine kw_ldc hX 12 dJxf58ca_floatToIntBits_5c35a_12 (hX.w (Cond.constant RJxf58ca 77 (2143289344)) (by decide +kernel)) ?_
    cases h
    exact hret _ _ dJxf58ca_floatToIntBits_5c35a_14 rfl
  · have h := kif_t c1 h
    refine kw_fload_n hX 7 dJxf58ca_floatToIntBits_5c35a_7 rfl 0 rfl ?_
    refine kw_ftraw hX 8 (hX.w (Cond.methodLink RJxf58ca 74 ⟨"java/lang/Float", "floatToRawIntBits", "(F)I"⟩) (by decide +kernel)) (hX.w (Cond.native ⟨"java/lang/Float", "floatToRawIntBits", "(F)I"⟩) (by decide +kernel)) (hX.w (Cond.static ⟨"java/lang/Float", "floatToRawIntBits", "(F)I"⟩) (by decide +kernel)) (hX.w (Cond.initialized "java/lang/Float") (by decide +kernel)) (by decide) (by decide) dJxf58ca_floatToIntBits_5c35a_8 ?_
    cases h
    exact hret _ _ dJxf58ca_floatToIntBits_5c35a_11 rfl
