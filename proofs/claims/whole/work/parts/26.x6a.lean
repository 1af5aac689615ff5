def pX6_in (a1 : Int32) (a2 : Int32) (a3 : Int32)  : Option (Int32) := (if a1 < a2 then some 0 else (if a3 < a1 then some 0 else some 1))
def rmX6_in : Room := { frames := 0, cells := 0, slots := 0, locals := 0 }
theorem hdS_X6_in : yX6_in.cls ≠ "java/lang/invoke/MethodHandle" ∧ yX6_in.cls ≠ "java/lang/invoke/VarHandle" ∧ (parseMethodDescriptor yX6_in.desc).map (fun d => d.parameters.length) = some 3 := ⟨by decide +kernel, by decide +kernel, by decide +kernel⟩
set_option maxHeartbeats 4000000 in
set_option maxRecDepth 100000 in
theorem kX6_in (l : Launch) (Y : KY)   (a1 : Int32) (a2 : Int32) (a3 : Int32) {o : Int32} (h : pX6_in a1 a2 a3 = some o) : CtI l yX6_in wsX6_in rmX6_in Y [.int a1, .int a2, .int a3] (kfl []) o (kfl []) := by
  refine ctI_intro (cc := cX6_in) (maxL := 3) (own := RX6) (by decide +kernel) rfl rfl (Nat.le_of_ble_eq_true rfl) rfl ?_
  intro X A hX _ hret
  unfold pX6_in at h
  refine kw_lv (lv' := [(0, .int a1), (1, .int a2), (2, .int a3)]) [0, 1, 2] rfl ?_
  refine kw_iload_n hX 0 dX6_in_0 rfl 0 rfl ?_
  refine kw_iload_n hX 1 dX6_in_1 rfl 1 rfl ?_
  refine kw_icmp_lt hX 2 14 dX6_in_2 (by decide) (fun c1 => ?_) (fun c1 => ?_)
  · have h := kif_t c1 h
    refine kw_iconst hX 14 dX6_in_14 kci_0 ?_
    obtain rfl := Option.some.inj h
    exact hret _ _ dX6_in_15 rfl
  · have h := kif_f c1 h
    refine kw_iload_n hX 5 dX6_in_5 rfl 0 rfl ?_
    refine kw_iload_n hX 6 dX6_in_6 rfl 2 rfl ?_
    refine kw_icmp_gt hX 7 14 dX6_in_7 (by decide) (fun c2 => ?_) (fun c2 => ?_)
    · have h := kif_t c2 h
      refine kw_iconst hX 14 dX6_in_14 kci_0 ?_
      obtain rfl := Option.some.inj h
      exact hret _ _ dX6_in_15 rfl
    · have h := kif_f c2 h
      refine kw_iconst hX 10 dX6_in_10 kci_1 ?_
      refine kw_goto hX 11 15 dX6_in_11 (by decide) ?_
      obtain rfl := Option.some.inj h
      exact hret _ _ dX6_in_15 rfl
def pX6_error (a1 : Int32) (m_err : Nat → Int32) : Option (Int32 × (Nat → Int32)) := kgd (kin ((-2) - a1) 6) (kgd (kin ((-2) - a1) 6) (some (a1, (upd m_err (((-2) - a1) : Int32).toNatClampNeg ((m_err (((-2) - a1) : Int32).toNatClampNeg) + 1)))))
def rmX6_error : Room := { frames := 0, cells := 0, slots := 0, locals := 0 }
theorem hdV_X6_error : yX6_error.cls = RX6 ∧ yX6_error.cls ≠ "java/lang/invoke/MethodHandle" ∧ yX6_error.cls ≠ "java/lang/invoke/VarHandle" ∧ (parseMethodDescriptor yX6_error.desc).map (fun d => d.parameters.length) = some 1 := ⟨rfl, by decide +kernel, by decide +kernel, by decide +kernel⟩
set_option maxHeartbeats 4000000 in
set_option maxRecDepth 100000 in
theorem kX6_error (l : Launch) (Y : KY) (ma : Nat → Nat) (m_now : Nat → Int32) (m_sav : Nat → Int32) (m_sc : Int32) (m_err : Nat → Int32) (m_shf : Nat → Int32) (m_stp : Nat → Int32) (m_que : Nat → Int32) (m_qd : Int32) (m_qx : Nat → Int32) (m_qy : Nat → Int32) (m_met : Nat → Int32) (m_per : Nat → Int32) (m_row : Nat → Int64) (m_det : Int64) (m_h : Int64) (a1 : Int32) {o : Int32 × (Nat → Int32)} (h : pX6_error a1 m_err = some o) : CtI l yX6_error wsX6_error rmX6_error Y [.ref (ma 0), .int a1] (kfl [gM Y ma m_now m_sav m_sc m_err m_shf m_stp m_que m_qd m_qx m_qy m_met m_per m_row m_det m_h]) o.1 (kfl [gM Y ma m_now m_sav m_sc o.2 m_shf m_stp m_que m_qd m_qx m_qy m_met m_per m_row m_det m_h]) := by
  refine ctI_intro (cc := cX6_error) (maxL := 2) (own := RX6) (by decide +kernel) rfl rfl (Nat.le_of_ble_eq_true rfl) rfl ?_
  intro X A hX _ hret
  have hin6 : ∀ w ∈ u_ws RX6 TX6 15, w ∈ wsX6_error := by decide +kernel
  have f0 := hX.w (Cond.fieldLink RX6 16 "PeriodicNetModel" "errors" "[I") (by decide +kernel)
  unfold pX6_error at h
  refine kw_lv (lv' := [(0, .ref (ma 0)), (1, .int a1)]) [0, 1] rfl ?_
  refine kw_aload_n hX 0 dX6_error_0 rfl 0 rfl ?_
  refine kw_get hX 1 (C := RX6) (T := TX6) (N := 15) hin6 3 f0 (fun _ h => h) 0 rfl rfl (by decide) rfl dX6_error_1 ?_
  refine kw_bipush hX 4 dX6_error_4 kcb_m2 ?_
  refine kw_iload_n hX 6 dX6_error_6 rfl 1 rfl ?_
  refine kw_isub hX 7 dX6_error_7 ?_
  refine kw_dup2 hX 8 dX6_error_8 rfl rfl ?_
  obtain ⟨g1, h⟩ := kgd_some h
  refine kw_iald hX 9 3 rfl g1 dX6_error_9 ?_
  refine kw_iconst hX 10 dX6_error_10 kci_1 ?_
  refine kw_iadd hX 11 dX6_error_11 ?_
  obtain ⟨g2, h⟩ := kgd_some h
  refine kw_iast hX 12 (ws' := (kfl [gM Y ma m_now m_sav m_sc (upd m_err (((-2) - a1) : Int32).toNatClampNeg ((m_err (((-2) - a1) : Int32).toNatClampNeg) + 1)) m_shf m_stp m_que m_qd m_qx m_qy m_met m_per m_row m_det m_h])) 3 rfl g2 rfl dX6_error_12 ?_
  refine kw_iload_n hX 13 dX6_error_13 rfl 1 rfl ?_
  obtain rfl := Option.some.inj h
  exact hret _ _ dX6_error_14 rfl
def pX6_save_L10 : Nat → Int32 → (Nat → Int32) → Option (Int32 × (Nat → Int32))
  | 0, _, _ => none
  | n + 1, l1, z_m_sav => (if (200 : Int32) ≤ l1 then some (l1, z_m_sav) else kgd (kin (l1 + 50) 250) (kgd (kin l1 250) (pX6_save_L10 n (l1 + 1) (upd z_m_sav (l1 : Int32).toNatClampNeg (z_m_sav ((l1 + 50) : Int32).toNatClampNeg)))))
def pX6_save_L50 : Nat → Int32 → (Nat → Int32) → (Nat → Int32) → Int32 → Option (Int32 × (Nat → Int32))
  | 0, _, _, _, _ => none
  | n + 1, l1, z_m_now, z_m_sav, z_m_sc => (if (50 : Int32) ≤ l1 then some (l1, z_m_sav) else kgd (kin l1 50) (kgd (kin ((50 * z_m_sc) + l1) 250) (pX6_save_L50 n (l1 + 1) z_m_now (upd z_m_sav (((50 * z_m_sc) + l1) : Int32).toNatClampNeg (z_m_now (l1 : Int32).toNatClampNeg)) z_m_sc)))
def pX6_save  (m_now : Nat → Int32) (m_sav : Nat → Int32) (m_sc : Int32) : Option ((Nat → Int32) × Int32) := kb ((if m_sc = (5 : Int32) then kb (pX6_save_L10 KF 0 m_sav) (fun v5 => some (v5.2, (m_sc - 1))) else some (m_sav, m_sc)) : Option ((Nat → Int32) × Int32)) (fun v7 => kb (pX6_save_L50 KF 0 m_now v7.1 v7.2) (fun v12 => some (v12.2, (v7.2 + 1))))
def rmX6_save : Room := { frames := 0, cells := 0, slots := 0, locals := 0 }
theorem hdV_X6_save : yX6_save.cls = RX6 ∧ yX6_save.cls ≠ "java/lang/invoke/MethodHandle" ∧ yX6_save.cls ≠ "java/lang/invoke/VarHandle" ∧ (parseMethodDescriptor yX6_save.desc).map (fun d => d.parameters.length) = some 0 := ⟨rfl, by decide +kernel, by decide +kernel, by decide +kernel⟩
set_option maxHeartbeats 4000000 in
set_option maxRecDepth 100000 in
theorem kX6_save (l : Launch) (Y : KY) (ma : Nat → Nat) (m_now : Nat → Int32) (m_sav : Nat → Int32) (m_sc : Int32) (m_err : Nat → Int32) (m_shf : Nat → Int32) (m_stp : Nat → Int32) (m_que : Nat → Int32) (m_qd : Int32) (m_qx : Nat → Int32) (m_qy : Nat → Int32) (m_met : Nat → Int32) (m_per : Nat → Int32) (m_row : Nat → Int64) (m_det : Int64) (m_h : Int64)  {o : (Nat → Int32) × Int32} (h : pX6_save m_now m_sav m_sc = some o) : CtV l yX6_save wsX6_save rmX6_save Y [.ref (ma 0)] (kfl [gM Y ma m_now m_sav m_sc m_err m_shf m_stp m_que m_qd m_qx m_qy m_met m_per m_row m_det m_h]) (kfl [gM Y ma m_now o.1 o.2 m_err m_shf m_stp m_que m_qd m_qx m_qy m_met m_per m_row m_det m_h]) := by
  refine ctV_intro (cc := cX6_save) (maxL := 2) (own := RX6) (by decide +kernel) rfl rfl (Nat.le_of_ble_eq_true rfl) rfl ?_
  intro X A hX _ hret
  have hin6 : ∀ w ∈ u_ws RX6 TX6 15, w ∈ wsX6_save := by decide +kernel
  have f0 := hX.w (Cond.fieldLink RX6 45 "PeriodicNetModel" "savedCount" "I") (by decide +kernel)
  have f1 := hX.w (Cond.fieldLink RX6 13 "PeriodicNetModel" "saved" "[I") (by decide +kernel)
  have f2 := hX.w (Cond.fieldLink RX6 7 "PeriodicNetModel" "now" "[I") (by decide +kernel)
  have L10 : ∀ (n : Nat) (l1 : Int32) (z_m_now : Nat → Int32) (z_m_sav : Nat → Int32) (z_m_sc : Int32) (z_m_err : Nat → Int32) (z_m_shf : Nat → Int32) (z_m_stp : Nat → Int32) (z_m_que : Nat → Int32) (z_m_qd : Int32) (z_m_qx : Nat → Int32) (z_m_qy : Nat → Int32) (z_m_met : Nat → Int32) (z_m_per : Nat → Int32) (z_m_row : Nat → Int64) (z_m_det : Int64) (z_m_h : Int64) (o : Int32 × (Nat → Int32)), pX6_save_L10 n l1 z_m_sav = some o → KW X Y A 2 0 0 (kfl [gM Y ma z_m_now o.2 z_m_sc z_m_err z_m_shf z_m_stp z_m_que z_m_qd z_m_qx z_m_qy z_m_met z_m_per z_m_row z_m_det z_m_h]) [(0, .ref (ma 0)), (1, .int o.1)] 38 [] → KW X Y A 2 0 0 (kfl [gM Y ma z_m_now z_m_sav z_m_sc z_m_err z_m_shf z_m_stp z_m_que z_m_qd z_m_qx z_m_qy z_m_met z_m_per z_m_row z_m_det z_m_h]) [(0, .ref (ma 0)), (1, .int l1)] 10 [] := by
    intro n
    induction n with
    | zero => intro l1 z_m_now z_m_sav z_m_sc z_m_err z_m_shf z_m_stp z_m_que z_m_qd z_m_qx z_m_qy z_m_met z_m_per z_m_row z_m_det z_m_h o h; cases h
    | succ n ih =>
      intro l1 z_m_now z_m_sav z_m_sc z_m_err z_m_shf z_m_stp z_m_que z_m_qd z_m_qx z_m_qy z_m_met z_m_per z_m_row z_m_det z_m_h o h hK
      rw [pX6_save_L10] at h
      refine kw_iload_n hX 10 dX6_save_10 rfl 1 rfl ?_
      refine kw_sipush hX 11 dX6_save_11 kcs_200 ?_
      refine kw_icmp_ge hX 14 38 dX6_save_14 (by decide) (fun c2 => ?_) (fun c2 => ?_)
      · have h := kif_t c2 h
        obtain rfl := Option.some.inj h
        refine kw_lv (lv' := [(0, .ref (ma 0)), (1, .int l1)]) [0, 1] rfl ?_
        exact hK
      · have h := kif_f c2 h
        refine kw_aload_n hX 17 dX6_save_17 rfl 0 rfl ?_
        refine kw_get hX 18 (C := RX6) (T := TX6) (N := 15) hin6 1 f1 (fun _ h => h) 0 rfl rfl (by decide) rfl dX6_save_18 ?_
        refine kw_iload_n hX 21 dX6_save_21 rfl 1 rfl ?_
        refine kw_aload_n hX 22 dX6_save_22 rfl 0 rfl ?_
        refine kw_get hX 23 (C := RX6) (T := TX6) (N := 15) hin6 1 f1 (fun _ h => h) 0 rfl rfl (by decide) rfl dX6_save_23 ?_
        refine kw_iload_n hX 26 dX6_save_26 rfl 1 rfl ?_
        refine kw_bipush hX 27 dX6_save_27 kcb_50 ?_
        refine kw_iadd hX 29 dX6_save_29 ?_
        obtain ⟨g3, h⟩ := kgd_some h
        refine kw_iald hX 30 2 rfl g3 dX6_save_30 ?_
        obtain ⟨g4, h⟩ := kgd_some h
        refine kw_iast hX 31 (ws' := (kfl [gM Y ma z_m_now (upd z_m_sav (l1 : Int32).toNatClampNeg (z_m_sav ((l1 + 50) : Int32).toNatClampNeg)) z_m_sc z_m_err z_m_shf z_m_stp z_m_que z_m_qd z_m_qx z_m_qy z_m_met z_m_per z_m_row z_m_det z_m_h])) 2 rfl g4 rfl dX6_save_31 ?_
        refine kw_iinc (v := (l1 + 1)) (lv' := [(1, .int (l1 + 1)), (0, .ref (ma 0))]) hX 32 dX6_save_32 1 rfl (kinc_1 _) (by decide) rfl ?_
        refine kw_goto hX 35 10 dX6_save_35 (by decide) ?_
        refine kw_lv (lv' := [(0, .ref (ma 0)), (1, .int (l1 + 1))]) [1, 0] rfl ?_
        exact ih (l1 + 1) z_m_now (upd z_m_sav (l1 : Int32).toNatClampNeg (z_m_sav ((l1 + 50) : Int32).toNatClampNeg)) z_m_sc z_m_err z_m_shf z_m_stp z_m_que z_m_qd z_m_qx z_m_qy z_m_met z_m_per z_m_row z_m_det z_m_h o h hK
  have L50 : ∀ (n : Nat) (l1 : Int32) (z_m_now : Nat → Int32) (z_m_sav : Nat → Int32) (z_m_sc : Int32) (z_m_err : Nat → Int32) (z_m_shf : Nat → Int32) (z_m_stp : Nat → Int32) (z_m_que : Nat → Int32) (z_m_qd : Int32) (z_m_qx : Nat → Int32) (z_m_qy : Nat → Int32) (z_m_met : Nat → Int32) (z_m_per : Nat → Int32) (z_m_row : Nat → Int64) (z_m_det : Int64) (z_m_h : Int64) (o : Int32 × (Nat → Int32)), pX6_save_L50 n l1 z_m_now z_m_sav z_m_sc = some o → KW X Y A 2 0 0 (kfl [gM Y ma z_m_now o.2 z_m_sc z_m_err z_m_shf z_m_stp z_m_que z_m_qd z_m_qx z_m_qy z_m_met z_m_per z_m_row z_m_det z_m_h]) [(0, .ref (ma 0)), (1, .int o.1)] 82 [] → KW X Y A 2 0 0 (kfl [gM Y ma z_m_now z_m_sav z_m_sc z_m_err z_m_shf z_m_stp z_m_que z_m_qd z_m_qx z_m_qy z_m_met z_m_per z_m_row z_m_det z_m_h]) [(0, .ref (ma 0)), (1, .int l1)] 50 [] := by
    intro n
    induction n with
    | zero => intro l1 z_m_now z_m_sav z_m_sc z_m_err z_m_shf z_m_stp z_m_que z_m_qd z_m_qx z_m_qy z_m_met z_m_per z_m_row z_m_det z_m_h o h; cases h
    | succ n ih =>
      intro l1 z_m_now z_m_sav z_m_sc z_m_err z_m_shf z_m_stp z_m_que z_m_qd z_m_qx z_m_qy z_m_met z_m_per z_m_row z_m_det z_m_h o h hK
      rw [pX6_save_L50] at h
      refine kw_iload_n hX 50 dX6_save_50 rfl 1 rfl ?_
      refine kw_bipush hX 51 dX6_save_51 kcb_50 ?_
      refine kw_icmp_ge hX 53 82 dX6_save_53 (by decide) (fun c9 => ?_) (fun c9 => ?_)
      · have h := kif_t c9 h
        obtain rfl := Option.some.inj h
        refine kw_lv (lv' := [(0, .ref (ma 0)), (1, .int l1)]) [0, 1] rfl ?_
        exact hK
      · have h := kif_f c9 h
        refine kw_aload_n hX 56 dX6_save_56 rfl 0 rfl ?_
        refine kw_get hX 57 (C := RX6) (T := TX6) (N := 15) hin6 1 f1 (fun _ h => h) 0 rfl rfl (by decide) rfl dX6_save_57 ?_
        refine kw_bipush hX 60 dX6_save_60 kcb_50 ?_
        refine kw_aload_n hX 62 dX6_save_62 rfl 0 rfl ?_
        refine kw_get hX 63 (C := RX6) (T := TX6) (N := 15) hin6 2 f0 (fun _ h => h) 0 rfl rfl (by decide) rfl dX6_save_63 ?_
        refine kw_imul hX 66 dX6_save_66 ?_
        refine kw_iload_n hX 67 dX6_save_67 rfl 1 rfl ?_
        refine kw_iadd hX 68 dX6_save_68 ?_
        refine kw_aload_n hX 69 dX6_save_69 rfl 0 rfl ?_
        refine kw_get hX 70 (C := RX6) (T := TX6) (N := 15) hin6 0 f2 (fun _ h => h) 0 rfl rfl (by decide) rfl dX6_save_70 ?_
        refine kw_iload_n hX 73 dX6_save_73 rfl 1 rfl ?_
        obtain ⟨g10, h⟩ := kgd_some h
        refine kw_iald hX 74 1 rfl g10 dX6_save_74 ?_
        obtain ⟨g11, h⟩ := kgd_some h
        refine kw_iast hX 75 (ws' := (kfl [gM Y ma z_m_now (upd z_m_sav (((50 * z_m_sc) + l1) : Int32).toNatClampNeg (z_m_now (l1 : Int32).toNatClampNeg)) z_m_sc z_m_err z_m_shf z_m_stp z_m_que z_m_qd z_m_qx z_m_qy z_m_met z_m_per z_m_row z_m_det z_m_h])) 2 rfl g11 rfl dX6_save_75 ?_
        refine kw_iinc (v := (l1 + 1)) (lv' := [(1, .int (l1 + 1)), (0, .ref (ma 0))]) hX 76 dX6_save_76 1 rfl (kinc_1 _) (by decide) rfl ?_
        refine kw_goto hX 79 50 dX6_save_79 (by decide) ?_
        refine kw_lv (lv' := [(0, .ref (ma 0)), (1, .int (l1 + 1))]) [1, 0] rfl ?_
        exact ih (l1 + 1) z_m_now (upd z_m_sav (((50 * z_m_sc) + l1) : Int32).toNatClampNeg (z_m_now (l1 : Int32).toNatClampNeg)) z_m_sc z_m_err z_m_shf z_m_stp z_m_que z_m_qd z_m_qx z_m_qy z_m_met z_m_per z_m_row z_m_det z_m_h o h hK
  unfold pX6_save at h
  refine kw_lv (lv' := [(0, .ref (ma 0))]) [0] rfl ?_
  refine kw_aload_n hX 0 dX6_save_0 rfl 0 rfl ?_
  refine kw_get hX 1 (C := RX6) (T := TX6) (N := 15) hin6 2 f0 (fun _ h => h) 0 rfl rfl (by decide) rfl dX6_save_1 ?_
  refine kw_iconst hX 4 dX6_save_4 kci_5 ?_
  obtain ⟨v7, hj14, h⟩ := kb_some h
  have J8 : KW X Y A 2 0 0 (kfl [gM Y ma m_now v7.1 v7.2 m_err m_shf m_stp m_que m_qd m_qx m_qy m_met m_per m_row m_det m_h]) [(0, .ref (ma 0))] 48 [] := by
    refine kw_iconst hX 48 dX6_save_48 kci_0 ?_
    refine kw_istore_n (lv' := [(1, .int 0), (0, .ref (ma 0))]) hX 49 dX6_save_49 rfl (by decide) rfl ?_
    obtain ⟨v12, hl13, h⟩ := kb_some h
    refine kw_lv (lv' := [(0, .ref (ma 0)), (1, .int 0)]) [1, 0] rfl ?_
    refine L50 KF 0 m_now v7.1 v7.2 m_err m_shf m_stp m_que m_qd m_qx m_qy m_met m_per m_row m_det m_h v12 hl13 ?_
    refine kw_aload_n hX 82 dX6_save_82 rfl 0 rfl ?_
    refine kw_dup hX 83 dX6_save_83 rfl ?_
    refine kw_get hX 84 (C := RX6) (T := TX6) (N := 15) hin6 2 f0 (fun _ h => h) 0 rfl rfl (by decide) rfl dX6_save_84 ?_
    refine kw_iconst hX 87 dX6_save_87 kci_1 ?_
    refine kw_iadd hX 88 dX6_save_88 ?_
    refine kw_put hX 89 (C := RX6) (T := TX6) (N := 15) (ws' := (kfl [gM Y ma m_now v12.2 (v7.2 + 1) m_err m_shf m_stp m_que m_qd m_qx m_qy m_met m_per m_row m_det m_h])) hin6 tyX6 tyX6_ok nmX6 2 f0 (fun _ h => h) 0 rfl rfl (by decide) rfl (ty := .int) (tyX6_ok 2 (by decide)) rfl rfl (Nat.le_of_ble_eq_true rfl) rfl dX6_save_89 ?_
    obtain rfl := Option.some.inj h
    exact hret _ _ dX6_save_92
  have h := hj14
  refine kw_icmp_ne hX 5 48 dX6_save_5 (by decide) (fun c1 => ?_) (fun c1 => ?_)
  · have h := kif_f c1 h
    obtain rfl := Option.some.inj h
    refine kw_lv (lv' := [(0, .ref (ma 0))]) [0] rfl ?_
    exact J8
  · have h := kif_t c1 h
    refine kw_iconst hX 8 dX6_save_8 kci_0 ?_
    refine kw_istore_n (lv' := [(1, .int 0), (0, .ref (ma 0))]) hX 9 dX6_save_9 rfl (by decide) rfl ?_
    obtain ⟨v5, hl6, h⟩ := kb_some h
    refine kw_lv (lv' := [(0, .ref (ma 0)), (1, .int 0)]) [1, 0] rfl ?_
    refine L10 KF 0 m_now m_sav m_sc m_err m_shf m_stp m_que m_qd m_qx m_qy m_met m_per m_row m_det m_h v5 hl6 ?_
    refine kw_aload_n hX 38 dX6_save_38 rfl 0 rfl ?_
    refine kw_dup hX 39 dX6_save_39 rfl ?_
    refine kw_get hX 40 (C := RX6) (T := TX6) (N := 15) hin6 2 f0 (fun _ h => h) 0 rfl rfl (by decide) rfl dX6_save_40 ?_
    refine kw_iconst hX 43 dX6_save_43 kci_1 ?_
    refine kw_isub hX 44 dX6_save_44 ?_
    refine kw_put hX 45 (C := RX6) (T := TX6) (N := 15) (ws' := (kfl [gM Y ma m_now v5.2 (m_sc - 1) m_err m_shf m_stp m_que m_qd m_qx m_qy m_met m_per m_row m_det m_h])) hin6 tyX6 tyX6_ok nmX6 2 f0 (fun _ h => h) 0 rfl rfl (by decide) rfl (ty := .int) (tyX6_ok 2 (by decide)) rfl rfl (Nat.le_of_ble_eq_true rfl) rfl dX6_save_45 ?_
    obtain rfl := Option.some.inj h
    refine kw_lv (lv' := [(0, .ref (ma 0))]) [0] rfl ?_
    exact J8
def pX6_undo_L26 : Nat → Int32 → (Nat → Int32) → (Nat → Int32) → Int32 → Option (Int32 × (Nat → Int32))
  | 0, _, _, _, _ => none
  | n + 1, l1, z_m_now, z_m_sav, z_m_sc => (if (50 : Int32) ≤ l1 then some (l1, z_m_now) else kgd (kin ((50 * z_m_sc) + l1) 250) (kgd (kin l1 50) (pX6_undo_L26 n (l1 + 1) (upd z_m_now (l1 : Int32).toNatClampNeg (z_m_sav (((50 * z_m_sc) + l1) : Int32).toNatClampNeg)) z_m_sav z_m_sc)))
def pX6_undo  (m_now : Nat → Int32) (m_sav : Nat → Int32) (m_sc : Int32) (m_err : Nat → Int32) : Option (Int32 × (Nat → Int32) × Int32 × (Nat → Int32)) := (if m_sc = 0 then kb (pX6_error (-7) m_err) (fun v7 => some (v7.1, m_now, m_sc, v7.2)) else kb (pX6_undo_L26 KF 0 m_now m_sav (m_sc - 1)) (fun v5 => some ((m_sc - 1), v5.2, (m_sc - 1), m_err)))
def rmX6_undo : Room := { frames := 1, cells := 0, slots := 0, locals := 21 }
theorem hdV_X6_undo : yX6_undo.cls = RX6 ∧ yX6_undo.cls ≠ "java/lang/invoke/MethodHandle" ∧ yX6_undo.cls ≠ "java/lang/invoke/VarHandle" ∧ (parseMethodDescriptor yX6_undo.desc).map (fun d => d.parameters.length) = some 0 := ⟨rfl, by decide +kernel, by decide +kernel, by decide +kernel⟩
set_option maxHeartbeats 4000000 in
set_option maxRecDepth 100000 in
theorem kX6_undo (l : Launch) (Y : KY) (ma : Nat → Nat) (m_now : Nat → Int32) (m_sav : Nat → Int32) (m_sc : Int32) (m_err : Nat → Int32) (m_shf : Nat → Int32) (m_stp : Nat → Int32) (m_que : Nat → Int32) (m_qd : Int32) (m_qx : Nat → Int32) (m_qy : Nat → Int32) (m_met : Nat → Int32) (m_per : Nat → Int32) (m_row : Nat → Int64) (m_det : Int64) (m_h : Int64)  {o : Int32 × (Nat → Int32) × Int32 × (Nat → Int32)} (h : pX6_undo m_now m_sav m_sc m_err = some o) : CtI l yX6_undo wsX6_undo rmX6_undo Y [.ref (ma 0)] (kfl [gM Y ma m_now m_sav m_sc m_err m_shf m_stp m_que m_qd m_qx m_qy m_met m_per m_row m_det m_h]) o.1 (kfl [gM Y ma o.2.1 m_sav o.2.2.1 o.2.2.2 m_shf m_stp m_que m_qd m_qx m_qy m_met m_per m_row m_det m_h]) := by
  refine ctI_intro (cc := cX6_undo) (maxL := 2) (own := RX6) (by decide +kernel) rfl rfl (Nat.le_of_ble_eq_true rfl) rfl ?_
  intro X A hX _ hret
  have hin6 : ∀ w ∈ u_ws RX6 TX6 15, w ∈ wsX6_undo := by decide +kernel
  have f0 := hX.w (Cond.fieldLink RX6 45 "PeriodicNetModel" "savedCount" "I") (by decide +kernel)
  have f1 := hX.w (Cond.fieldLink RX6 7 "PeriodicNetModel" "now" "[I") (by decide +kernel)
  have f2 := hX.w (Cond.fieldLink RX6 13 "PeriodicNetModel" "saved" "[I") (by decide +kernel)
  have L26 : ∀ (n : Nat) (l1 : Int32) (z_m_now : Nat → Int32) (z_m_sav : Nat → Int32) (z_m_sc : Int32) (z_m_err : Nat → Int32) (z_m_shf : Nat → Int32) (z_m_stp : Nat → Int32) (z_m_que : Nat → Int32) (z_m_qd : Int32) (z_m_qx : Nat → Int32) (z_m_qy : Nat → Int32) (z_m_met : Nat → Int32) (z_m_per : Nat → Int32) (z_m_row : Nat → Int64) (z_m_det : Int64) (z_m_h : Int64) (o : Int32 × (Nat → Int32)), pX6_undo_L26 n l1 z_m_now z_m_sav z_m_sc = some o → KW X Y A 2 0 0 (kfl [gM Y ma o.2 z_m_sav z_m_sc z_m_err z_m_shf z_m_stp z_m_que z_m_qd z_m_qx z_m_qy z_m_met z_m_per z_m_row z_m_det z_m_h]) [(0, .ref (ma 0)), (1, .int o.1)] 58 [] → KW X Y A 2 0 0 (kfl [gM Y ma z_m_now z_m_sav z_m_sc z_m_err z_m_shf z_m_stp z_m_que z_m_qd z_m_qx z_m_qy z_m_met z_m_per z_m_row z_m_det z_m_h]) [(0, .ref (ma 0)), (1, .int l1)] 26 [] := by
    intro n
    induction n with
    | zero => intro l1 z_m_now z_m_sav z_m_sc z_m_err z_m_shf z_m_stp z_m_que z_m_qd z_m_qx z_m_qy z_m_met z_m_per z_m_row z_m_det z_m_h o h; cases h
    | succ n ih =>
      intro l1 z_m_now z_m_sav z_m_sc z_m_err z_m_shf z_m_stp z_m_que z_m_qd z_m_qx z_m_qy z_m_met z_m_per z_m_row z_m_det z_m_h o h hK
      rw [pX6_undo_L26] at h
      refine kw_iload_n hX 26 dX6_undo_26 rfl 1 rfl ?_
      refine kw_bipush hX 27 dX6_undo_27 kcb_50 ?_
      refine kw_icmp_ge hX 29 58 dX6_undo_29 (by decide) (fun c2 => ?_) (fun c2 => ?_)
      · have h := kif_t c2 h
        obtain rfl := Option.some.inj h
        refine kw_lv (lv' := [(0, .ref (ma 0)), (1, .int l1)]) [0, 1] rfl ?_
        exact hK
      · have h := kif_f c2 h
        refine kw_aload_n hX 32 dX6_undo_32 rfl 0 rfl ?_
        refine kw_get hX 33 (C := RX6) (T := TX6) (N := 15) hin6 0 f1 (fun _ h => h) 0 rfl rfl (by decide) rfl dX6_undo_33 ?_
        refine kw_iload_n hX 36 dX6_undo_36 rfl 1 rfl ?_
        refine kw_aload_n hX 37 dX6_undo_37 rfl 0 rfl ?_
        refine kw_get hX 38 (C := RX6) (T := TX6) (N := 15) hin6 1 f2 (fun _ h => h) 0 rfl rfl (by decide) rfl dX6_undo_38 ?_
        refine kw_bipush hX 41 dX6_undo_41 kcb_50 ?_
        refine kw_aload_n hX 43 dX6_undo_43 rfl 0 rfl ?_
        refine kw_get hX 44 (C := RX6) (T := TX6) (N := 15) hin6 2 f0 (fun _ h => h) 0 rfl rfl (by decide) rfl dX6_undo_44 ?_
        refine kw_imul hX 47 dX6_undo_47 ?_
        refine kw_iload_n hX 48 dX6_undo_48 rfl 1 rfl ?_
        refine kw_iadd hX 49 dX6_undo_49 ?_
        obtain ⟨g3, h⟩ := kgd_some h
        refine kw_iald hX 50 2 rfl g3 dX6_undo_50 ?_
        obtain ⟨g4, h⟩ := kgd_some h
        refine kw_iast hX 51 (ws' := (kfl [gM Y ma (upd z_m_now (l1 : Int32).toNatClampNeg (z_m_sav (((50 * z_m_sc) + l1) : Int32).toNatClampNeg)) z_m_sav z_m_sc z_m_err z_m_shf z_m_stp z_m_que z_m_qd z_m_qx z_m_qy z_m_met z_m_per z_m_row z_m_det z_m_h])) 1 rfl g4 rfl dX6_undo_51 ?_
        refine kw_iinc (v := (l1 + 1)) (lv' := [(1, .int (l1 + 1)), (0, .ref (ma 0))]) hX 52 dX6_undo_52 1 rfl (kinc_1 _) (by decide) rfl ?_
        refine kw_goto hX 55 26 dX6_undo_55 (by decide) ?_
        refine kw_lv (lv' := [(0, .ref (ma 0)), (1, .int (l1 + 1))]) [1, 0] rfl ?_
        exact ih (l1 + 1) (upd z_m_now (l1 : Int32).toNatClampNeg (z_m_sav (((50 * z_m_sc) + l1) : Int32).toNatClampNeg)) z_m_sav z_m_sc z_m_err z_m_shf z_m_stp z_m_que z_m_qd z_m_qx z_m_qy z_m_met z_m_per z_m_row z_m_det z_m_h o h hK
  unfold pX6_undo at h
  refine kw_lv (lv' := [(0, .ref (ma 0))]) [0] rfl ?_
  refine kw_aload_n hX 0 dX6_undo_0 rfl 0 rfl ?_
  refine kw_get hX 1 (C := RX6) (T := TX6) (N := 15) hin6 2 f0 (fun _ h => h) 0 rfl rfl (by decide) rfl dX6_undo_1 ?_
  refine kw_if_ne hX 4 14 dX6_undo_4 (by decide) (fun c1 => ?_) (fun c1 => ?_)
  · have h := kif_f c1 h
    refine kw_aload_n hX 14 dX6_undo_14 rfl 0 rfl ?_
    refine kw_dup hX 15 dX6_undo_15 rfl ?_
    refine kw_get hX 16 (C := RX6) (T := TX6) (N := 15) hin6 2 f0 (fun _ h => h) 0 rfl rfl (by decide) rfl dX6_undo_16 ?_
    refine kw_iconst hX 19 dX6_undo_19 kci_1 ?_
    refine kw_isub hX 20 dX6_undo_20 ?_
    refine kw_put hX 21 (C := RX6) (T := TX6) (N := 15) (ws' := (kfl [gM Y ma m_now m_sav (m_sc - 1) m_err m_shf m_stp m_que m_qd m_qx m_qy m_met m_per m_row m_det m_h])) hin6 tyX6 tyX6_ok nmX6 2 f0 (fun _ h => h) 0 rfl rfl (by decide) rfl (ty := .int) (tyX6_ok 2 (by decide)) rfl rfl (Nat.le_of_ble_eq_true rfl) rfl dX6_undo_21 ?_
    refine kw_iconst hX 24 dX6_undo_24 kci_0 ?_
    refine kw_istore_n (lv' := [(1, .int 0), (0, .ref (ma 0))]) hX 25 dX6_undo_25 rfl (by decide) rfl ?_
    obtain ⟨v5, hl6, h⟩ := kb_some h
    refine kw_lv (lv' := [(0, .ref (ma 0)), (1, .int 0)]) [1, 0] rfl ?_
    refine L26 KF 0 m_now m_sav (m_sc - 1) m_err m_shf m_stp m_que m_qd m_qx m_qy m_met m_per m_row m_det m_h v5 hl6 ?_
    refine kw_aload_n hX 58 dX6_undo_58 rfl 0 rfl ?_
    refine kw_get hX 59 (C := RX6) (T := TX6) (N := 15) hin6 2 f0 (fun _ h => h) 0 rfl rfl (by decide) rfl dX6_undo_59 ?_
    obtain rfl := Option.some.inj h
    exact hret _ _ dX6_undo_62 rfl
  · have h := kif_t c1 h
    refine kw_aload_n hX 7 dX6_undo_7 rfl 0 rfl ?_
    refine kw_bipush hX 8 dX6_undo_8 kcb_m7 ?_
    obtain ⟨v7, hc8, h⟩ := kb_some h
    refine kw_callV_I hX 10 (As := [.int (-7)]) (rest := []) (kX6_error (kx_l X) Y ma m_now m_sav m_sc m_err m_shf m_stp m_que m_qd m_qx m_qy m_met m_per m_row m_det m_h (-7) hc8) gX6_undo_X6_error rfl 1 rfl hdV_X6_error ⟨rfl, rfl⟩ ⟨by decide, by decide⟩ ⟨Nat.zero_le _, Nat.zero_le _⟩ rfl (Nat.le_of_ble_eq_true rfl) [0] (by decide) rfl (kfc gM_f kfn0) (gs1 := [gM Y ma m_now m_sav m_sc v7.2 m_shf m_stp m_que m_qd m_qx m_qy m_met m_per m_row m_det m_h]) rfl 0 6 rfl rfl rfl dX6_undo_10 ?_
    obtain rfl := Option.some.inj h
    exact hret _ _ dX6_undo_13 rfl
def pX6_of (a1 : Int32) (a2 : Int32) (m_now : Nat → Int32) : Option (Int32) := kgd (kin ((2 + (4 * a1)) + a2) 50) (some (m_now (((2 + (4 * a1)) + a2) : Int32).toNatClampNeg))
def rmX6_of : Room := { frames := 0, cells := 0, slots := 0, locals := 0 }
theorem hdV_X6_of : yX6_of.cls = RX6 ∧ yX6_of.cls ≠ "java/lang/invoke/MethodHandle" ∧ yX6_of.cls ≠ "java/lang/invoke/VarHandle" ∧ (parseMethodDescriptor yX6_of.desc).map (fun d => d.parameters.length) = some 2 := ⟨rfl, by decide +kernel, by decide +kernel, by decide +kernel⟩
set_option maxHeartbeats 4000000 in
set_option maxRecDepth 100000 in
theorem kX6_of (l : Launch) (Y : KY) (ma : Nat → Nat) (m_now : Nat → Int32) (m_sav : Nat → Int32) (m_sc : Int32) (m_err : Nat → Int32) (m_shf : Nat → Int32) (m_stp : Nat → Int32) (m_que : Nat → Int32) (m_qd : Int32) (m_qx : Nat → Int32) (m_qy : Nat → Int32) (m_met : Nat → Int32) (m_per : Nat → Int32) (m_row : Nat → Int64) (m_det : Int64) (m_h : Int64) (a1 : Int32) (a2 : Int32) {o : Int32} (h : pX6_of a1 a2 m_now = some o) : CtI l yX6_of wsX6_of rmX6_of Y [.ref (ma 0), .int a1, .int a2] (kfl [gM Y ma m_now m_sav m_sc m_err m_shf m_stp m_que m_qd m_qx m_qy m_met m_per m_row m_det m_h]) o (kfl [gM Y ma m_now m_sav m_sc m_err m_shf m_stp m_que m_qd m_qx m_qy m_met m_per m_row m_det m_h]) := by
  refine ctI_intro (cc := cX6_of) (maxL := 3) (own := RX6) (by decide +kernel) rfl rfl (Nat.le_of_ble_eq_true rfl) rfl ?_
  intro X A hX _ hret
  have hin6 : ∀ w ∈ u_ws RX6 TX6 15, w ∈ wsX6_of := by decide +kernel
  have f0 := hX.w (Cond.fieldLink RX6 7 "PeriodicNetModel" "now" "[I") (by decide +kernel)
  unfold pX6_of at h
  refine kw_lv (lv' := [(0, .ref (ma 0)), (1, .int a1), (2, .int a2)]) [0, 1, 2] rfl ?_
  refine kw_aload_n hX 0 dX6_of_0 rfl 0 rfl ?_
  refine kw_get hX 1 (C := RX6) (T := TX6) (N := 15) hin6 0 f0 (fun _ h => h) 0 rfl rfl (by decide) rfl dX6_of_1 ?_
  refine kw_iconst hX 4 dX6_of_4 kci_2 ?_
  refine kw_iconst hX 5 dX6_of_5 kci_4 ?_
  refine kw_iload_n hX 6 dX6_of_6 rfl 1 rfl ?_
  refine kw_imul hX 7 dX6_of_7 ?_
  refine kw_iadd hX 8 dX6_of_8 ?_
  refine kw_iload_n hX 9 dX6_of_9 rfl 2 rfl ?_
  refine kw_iadd hX 10 dX6_of_10 ?_
  obtain ⟨g1, h⟩ := kgd_some h
  refine kw_iald hX 11 1 rfl g1 dX6_of_11 ?_
  obtain rfl := Option.some.inj h
  exact hret _ _ dX6_of_12 rfl
def pX6_isVertex (a1 : Int32) (m_now : Nat → Int32) : Option (Int32) := kgd (kin 0 50) (kb (pX6_in a1 0 ((m_now (0 : Int32).toNatClampNeg) - 1)) (fun v2 => kgd (kzb v2) (some v2)))
def rmX6_isVertex : Room := { frames := 1, cells := 0, slots := 0, locals := 22 }
theorem hdV_X6_isVertex : yX6_isVertex.cls = RX6 ∧ yX6_isVertex.cls ≠ "java/lang/invoke/MethodHandle" ∧ yX6_isVertex.cls ≠ "java/lang/invoke/VarHandle" ∧ (parseMethodDescriptor yX6_isVertex.desc).map (fun d => d.parameters.length) = some 1 := ⟨rfl, by decide +kernel, by decide +kernel, by decide +kernel⟩
set_option maxHeartbeats 4000000 in
set_option maxRecDepth 100000 in
theorem kX6_isVertex (l : Launch) (Y : KY) (ma : Nat → Nat) (m_now : Nat → Int32) (m_sav : Nat → Int32) (m_sc : Int32) (m_err : Nat → Int32) (m_shf : Nat → Int32) (m_stp : Nat → Int32) (m_que : Nat → Int32) (m_qd : Int32) (m_qx : Nat → Int32) (m_qy : Nat → Int32) (m_met : Nat → Int32) (m_per : Nat → Int32) (m_row : Nat → Int64) (m_det : Int64) (m_h : Int64) (a1 : Int32) {o : Int32} (h : pX6_isVertex a1 m_now = some o) : CtI l yX6_isVertex wsX6_isVertex rmX6_isVertex Y [.ref (ma 0), .int a1] (kfl [gM Y ma m_now m_sav m_sc m_err m_shf m_stp m_que m_qd m_qx m_qy m_met m_per m_row m_det m_h]) o (kfl [gM Y ma m_now m_sav m_sc m_err m_shf m_stp m_que m_qd m_qx m_qy m_met m_per m_row m_det m_h]) := by
  refine ctI_intro (cc := cX6_isVertex) (maxL := 2) (own := RX6) (by decide +kernel) rfl rfl (Nat.le_of_ble_eq_true rfl) rfl ?_
  intro X A hX _ hret
  have hin6 : ∀ w ∈ u_ws RX6 TX6 15, w ∈ wsX6_isVertex := by decide +kernel
  have f0 := hX.w (Cond.fieldLink RX6 7 "PeriodicNetModel" "now" "[I") (by decide +kernel)
  unfold pX6_isVertex at h
  refine kw_lv (lv' := [(0, .ref (ma 0)), (1, .int a1)]) [0, 1] rfl ?_
  refine kw_iload_n hX 0 dX6_isVertex_0 rfl 1 rfl ?_
  refine kw_iconst hX 1 dX6_isVertex_1 kci_0 ?_
  refine kw_aload_n hX 2 dX6_isVertex_2 rfl 0 rfl ?_
  refine kw_get hX 3 (C := RX6) (T := TX6) (N := 15) hin6 0 f0 (fun _ h => h) 0 rfl rfl (by decide) rfl dX6_isVertex_3 ?_
  refine kw_iconst hX 6 dX6_isVertex_6 kci_0 ?_
  obtain ⟨g1, h⟩ := kgd_some h
  refine kw_iald hX 7 1 rfl g1 dX6_isVertex_7 ?_
  refine kw_iconst hX 8 dX6_isVertex_8 kci_1 ?_
  refine kw_isub hX 9 dX6_isVertex_9 ?_
  obtain ⟨v2, hc3, h⟩ := kb_some h
  refine kw_callS_I hX 10 (As := [.int a1, .int 0, .int ((m_now (0 : Int32).toNatClampNeg) - 1)]) (rest := []) (kX6_in (kx_l X) Y a1 0 ((m_now (0 : Int32).toNatClampNeg) - 1) hc3) gX6_isVertex_X6_in rfl 3 rfl hdS_X6_in ⟨rfl, rfl⟩ ⟨by decide, by decide⟩ ⟨Nat.zero_le _, Nat.zero_le _⟩ rfl (Nat.le_of_ble_eq_true rfl) [] (by decide) rfl kfn0 (gs1 := [gM Y ma m_now m_sav m_sc m_err m_shf m_stp m_que m_qd m_qx m_qy m_met m_per m_row m_det m_h]) rfl dX6_isVertex_10 ?_
  obtain ⟨g4, h⟩ := kgd_some h
  obtain rfl := Option.some.inj h
  exact hret _ _ dX6_isVertex_13 (kzb_nar g4)
def pX6_isShift (a1 : Int32) (a2 : Int32)  : Option (Int32) := kb (pX6_in a1 (-2) 2) (fun v1 => (if v1 = 0 then some 0 else kb (pX6_in a2 (-2) 2) (fun v4 => (if v4 = 0 then some 0 else some 1))))
def rmX6_isShift : Room := { frames := 1, cells := 0, slots := 0, locals := 22 }
theorem hdS_X6_isShift : yX6_isShift.cls ≠ "java/lang/invoke/MethodHandle" ∧ yX6_isShift.cls ≠ "java/lang/invoke/VarHandle" ∧ (parseMethodDescriptor yX6_isShift.desc).map (fun d => d.parameters.length) = some 2 := ⟨by decide +kernel, by decide +kernel, by decide +kernel⟩
set_option maxHeartbeats 4000000 in
set_option maxRecDepth 100000 in
theorem kX6_isShift (l : Launch) (Y : KY)   (a1 : Int32) (a2 : Int32) {o : Int32} (h : pX6_isShift a1 a2 = some o) : CtI l yX6_isShift wsX6_isShift rmX6_isShift Y [.int a1, .int a2] (kfl []) o (kfl []) := by
  refine ctI_intro (cc := cX6_isShift) (maxL := 2) (own := RX6) (by decide +kernel) rfl rfl (Nat.le_of_ble_eq_true rfl) rfl ?_
  intro X A hX _ hret
  unfold pX6_isShift at h
  refine kw_lv (lv' := [(0, .int a1), (1, .int a2)]) [0, 1] rfl ?_
  refine kw_iload_n hX 0 dX6_isShift_0 rfl 0 rfl ?_
  refine kw_bipush hX 1 dX6_isShift_1 kcb_m2 ?_
  refine kw_iconst hX 3 dX6_isShift_3 kci_2 ?_
  obtain ⟨v1, hc2, h⟩ := kb_some h
  refine kw_callS_I hX 4 (As := [.int a1, .int (-2), .int 2]) (rest := []) (kX6_in (kx_l X) Y a1 (-2) 2 hc2) gX6_isShift_X6_in rfl 3 rfl hdS_X6_in ⟨rfl, rfl⟩ ⟨by decide, by decide⟩ ⟨Nat.zero_le _, Nat.zero_le _⟩ rfl (Nat.le_of_ble_eq_true rfl) [] (by decide) rfl kfn0 (gs1 := []) rfl dX6_isShift_4 ?_
  refine kw_if_eq hX 7 24 dX6_isShift_7 (by decide) (fun c3 => ?_) (fun c3 => ?_)
  · have h := kif_t c3 h
    refine kw_iconst hX 24 dX6_isShift_24 kci_0 ?_
    obtain rfl := Option.some.inj h
    exact hret _ _ dX6_isShift_25 rfl
  · have h := kif_f c3 h
    refine kw_iload_n hX 10 dX6_isShift_10 rfl 1 rfl ?_
    refine kw_bipush hX 11 dX6_isShift_11 kcb_m2 ?_
    refine kw_iconst hX 13 dX6_isShift_13 kci_2 ?_
    obtain ⟨v4, hc5, h⟩ := kb_some h
    refine kw_callS_I hX 14 (As := [.int a2, .int (-2), .int 2]) (rest := []) (kX6_in (kx_l X) Y a2 (-2) 2 hc5) gX6_isShift_X6_in rfl 3 rfl hdS_X6_in ⟨rfl, rfl⟩ ⟨by decide, by decide⟩ ⟨Nat.zero_le _, Nat.zero_le _⟩ rfl (Nat.le_of_ble_eq_true rfl) [] (by decide) rfl kfn0 (gs1 := []) rfl dX6_isShift_14 ?_
    refine kw_if_eq hX 17 24 dX6_isShift_17 (by decide) (fun c6 => ?_) (fun c6 => ?_)
    · have h := kif_t c6 h
      refine kw_iconst hX 24 dX6_isShift_24 kci_0 ?_
      obtain rfl := Option.some.inj h
      exact hret _ _ dX6_isShift_25 rfl
    · have h := kif_f c6 h
      refine kw_iconst hX 20 dX6_isShift_20 kci_1 ?_
      refine kw_goto hX 21 25 dX6_isShift_21 (by decide) ?_
      obtain rfl := Option.some.inj h
      exact hret _ _ dX6_isShift_25 rfl
def pX6_isEdge (a1 : Int32) (a2 : Int32) (a3 : Int32) (a4 : Int32) (a5 : Int32) (m_now : Nat → Int32) : Option (Int32) := kb (pX6_of a1 0 m_now) (fun v1 => (if v1 = a2 then kb (pX6_of a1 1 m_now) (fun v4 => (if v4 = a3 then kb (pX6_of a1 2 m_now) (fun v7 => (if v7 = a4 then kb (pX6_of a1 3 m_now) (fun v10 => (if v10 = a5 then some 1 else some 0)) else some 0)) else some 0)) else some 0))
def rmX6_isEdge : Room := { frames := 1, cells := 0, slots := 0, locals := 22 }
theorem hdV_X6_isEdge : yX6_isEdge.cls = RX6 ∧ yX6_isEdge.cls ≠ "java/lang/invoke/MethodHandle" ∧ yX6_isEdge.cls ≠ "java/lang/invoke/VarHandle" ∧ (parseMethodDescriptor yX6_isEdge.desc).map (fun d => d.parameters.length) = some 5 := ⟨rfl, by decide +kernel, by decide +kernel, by decide +kernel⟩
set_option maxHeartbeats 4000000 in
set_option maxRecDepth 100000 in
theorem kX6_isEdge (l : Launch) (Y : KY) (ma : Nat → Nat) (m_now : Nat → Int32) (m_sav : Nat → Int32) (m_sc : Int32) (m_err : Nat → Int32) (m_shf : Nat → Int32) (m_stp : Nat → Int32) (m_que : Nat → Int32) (m_qd : Int32) (m_qx : Nat → Int32) (m_qy : Nat → Int32) (m_met : Nat → Int32) (m_per : Nat → Int32) (m_row : Nat → Int64) (m_det : Int64) (m_h : Int64) (a1 : Int32) (a2 : Int32) (a3 : Int32) (a4 : Int32) (a5 : Int32) {o : Int32} (h : pX6_isEdge a1 a2 a3 a4 a5 m_now = some o) : CtI l yX6_isEdge wsX6_isEdge rmX6_isEdge Y [.ref (ma 0), .int a1, .int a2, .int a3, .int a4, .int a5] (kfl [gM Y ma m_now m_sav m_sc m_err m_shf m_stp m_que m_qd m_qx m_qy m_met m_per m_row m_det m_h]) o (kfl [gM Y ma m_now m_sav m_sc m_err m_shf m_stp m_que m_qd m_qx m_qy m_met m_per m_row m_det m_h]) := by
  refine ctI_intro (cc := cX6_isEdge) (maxL := 6) (own := RX6) (by decide +kernel) rfl rfl (Nat.le_of_ble_eq_true rfl) rfl ?_
  intro X A hX _ hret
  unfold pX6_isEdge at h
  refine kw_lv (lv' := [(0, .ref (ma 0)), (1, .int a1), (2, .int a2), (3, .int a3), (4, .int a4), (5, .int a5)]) [0, 1, 2, 3, 4, 5] rfl ?_
  refine kw_aload_n hX 0 dX6_isEdge_0 rfl 0 rfl ?_
  refine kw_iload_n hX 1 dX6_isEdge_1 rfl 1 rfl ?_
  refine kw_iconst hX 2 dX6_isEdge_2 kci_0 ?_
  obtain ⟨v1, hc2, h⟩ := kb_some h
  refine kw_callV_I hX 3 (As := [.int a1, .int 0]) (rest := []) (kX6_of (kx_l X) Y ma m_now m_sav m_sc m_err m_shf m_stp m_que m_qd m_qx m_qy m_met m_per m_row m_det m_h a1 0 hc2) gX6_isEdge_X6_of rfl 2 rfl hdV_X6_of ⟨rfl, rfl⟩ ⟨by decide, by decide⟩ ⟨Nat.zero_le _, Nat.zero_le _⟩ rfl (Nat.le_of_ble_eq_true rfl) [0] (by decide) rfl (kfc rfl kfn0) (gs1 := [gM Y ma m_now m_sav m_sc m_err m_shf m_stp m_que m_qd m_qx m_qy m_met m_per m_row m_det m_h]) rfl 0 6 rfl rfl rfl dX6_isEdge_3 ?_
  refine kw_iload_n hX 6 dX6_isEdge_6 rfl 2 rfl ?_
  refine kw_icmp_ne hX 7 46 dX6_isEdge_7 (by decide) (fun c3 => ?_) (fun c3 => ?_)
  · have h := kif_f c3 h
    refine kw_iconst hX 46 dX6_isEdge_46 kci_0 ?_
    obtain rfl := Option.some.inj h
    exact hret _ _ dX6_isEdge_47 rfl
  · have h := kif_t c3 h
    refine kw_aload_n hX 10 dX6_isEdge_10 rfl 0 rfl ?_
    refine kw_iload_n hX 11 dX6_isEdge_11 rfl 1 rfl ?_
    refine kw_iconst hX 12 dX6_isEdge_12 kci_1 ?_
    obtain ⟨v4, hc5, h⟩ := kb_some h
    refine kw_callV_I hX 13 (As := [.int a1, .int 1]) (rest := []) (kX6_of (kx_l X) Y ma m_now m_sav m_sc m_err m_shf m_stp m_que m_qd m_qx m_qy m_met m_per m_row m_det m_h a1 1 hc5) gX6_isEdge_X6_of rfl 2 rfl hdV_X6_of ⟨rfl, rfl⟩ ⟨by decide, by decide⟩ ⟨Nat.zero_le _, Nat.zero_le _⟩ rfl (Nat.le_of_ble_eq_true rfl) [0] (by decide) rfl (kfc rfl kfn0) (gs1 := [gM Y ma m_now m_sav m_sc m_err m_shf m_stp m_que m_qd m_qx m_qy m_met m_per m_row m_det m_h]) rfl 0 6 rfl rfl rfl dX6_isEdge_13 ?_
    refine kw_iload_n hX 16 dX6_isEdge_16 rfl 3 rfl ?_
    refine kw_icmp_ne hX 17 46 dX6_isEdge_17 (by decide) (fun c6 => ?_) (fun c6 => ?_)
    · have h := kif_f c6 h
      refine kw_iconst hX 46 dX6_isEdge_46 kci_0 ?_
      obtain rfl := Option.some.inj h
      exact hret _ _ dX6_isEdge_47 rfl
    · have h := kif_t c6 h
      refine kw_aload_n hX 20 dX6_isEdge_20 rfl 0 rfl ?_
      refine kw_iload_n hX 21 dX6_isEdge_21 rfl 1 rfl ?_
      refine kw_iconst hX 22 dX6_isEdge_22 kci_2 ?_
      obtain ⟨v7, hc8, h⟩ := kb_some h
      refine kw_callV_I hX 23 (As := [.int a1, .int 2]) (rest := []) (kX6_of (kx_l X) Y ma m_now m_sav m_sc m_err m_shf m_stp m_que m_qd m_qx m_qy m_met m_per m_row m_det m_h a1 2 hc8) gX6_isEdge_X6_of rfl 2 rfl hdV_X6_of ⟨rfl, rfl⟩ ⟨by decide, by decide⟩ ⟨Nat.zero_le _, Nat.zero_le _⟩ rfl (Nat.le_of_ble_eq_true rfl) [0] (by decide) rfl (kfc rfl kfn0) (gs1 := [gM Y ma m_now m_sav m_sc m_err m_shf m_stp m_que m_qd m_qx m_qy m_met m_per m_row m_det m_h]) rfl 0 6 rfl rfl rfl dX6_isEdge_23 ?_
      refine kw_iload hX 26 dX6_isEdge_26 4 rfl ?_
      refine kw_icmp_ne hX 28 46 dX6_isEdge_28 (by decide) (fun c9 => ?_) (fun c9 => ?_)
      · have h := kif_f c9 h
        refine kw_iconst hX 46 dX6_isEdge_46 kci_0 ?_
        obtain rfl := Option.some.inj h
        exact hret _ _ dX6_isEdge_47 rfl
      · have h := kif_t c9 h
        refine kw_aload_n hX 31 dX6_isEdge_31 rfl 0 rfl ?_
        refine kw_iload_n hX 32 dX6_isEdge_32 rfl 1 rfl ?_
        refine kw_iconst hX 33 dX6_isEdge_33 kci_3 ?_
        obtain ⟨v10, hc11, h⟩ := kb_some h
        refine kw_callV_I hX 34 (As := [.int a1, .int 3]) (rest := []) (kX6_of (kx_l X) Y ma m_now m_sav m_sc m_err m_shf m_stp m_que m_qd m_qx m_qy m_met m_per m_row m_det m_h a1 3 hc11) gX6_isEdge_X6_of rfl 2 rfl hdV_X6_of ⟨rfl, rfl⟩ ⟨by decide, by decide⟩ ⟨Nat.zero_le _, Nat.zero_le _⟩ rfl (Nat.le_of_ble_eq_true rfl) [0] (by decide) rfl (kfc rfl kfn0) (gs1 := [gM Y ma m_now m_sav m_sc m_err m_shf m_stp m_que m_qd m_qx m_qy m_met m_per m_row m_det m_h]) rfl 0 6 rfl rfl rfl dX6_isEdge_34 ?_
        refine kw_iload hX 37 dX6_isEdge_37 5 rfl ?_
        refine kw_icmp_ne hX 39 46 dX6_isEdge_39 (by decide) (fun c12 => ?_) (fun c12 => ?_)
        · have h := kif_f c12 h
          refine kw_iconst hX 46 dX6_isEdge_46 kci_0 ?_
          obtain rfl := Option.some.inj h
          exact hret _ _ dX6_isEdge_47 rfl
        · have h := kif_t c12 h
          refine kw_iconst hX 42 dX6_isEdge_42 kci_1 ?_
          refine kw_goto hX 43 47 dX6_isEdge_43 (by decide) ?_
          obtain rfl := Option.some.inj h
          exact hret _ _ dX6_isEdge_47 rfl
def pX6_find_L6 : Nat → Int32 → Int32 → Int32 → Int32 → Int32 → Int32 → (Nat → Int32) → Option (Int32 × Int32)
  | 0, _, _, _, _, _, _, _ => none
  | n + 1, l1, l2, l3, l4, l5, l6, z_m_now => kgd (kin 1 50) ((if (z_m_now (1 : Int32).toNatClampNeg) ≤ l6 then some (l5, l6) else kb (pX6_isEdge l6 l1 l2 l3 l4 z_m_now) (fun v3 => kb ((if v3 = 0 then kb (pX6_isEdge l6 l2 l1 (-l3) (-l4) z_m_now) (fun v6 => (if v6 = 0 then some l5 else some l6)) else some l6) : Option (Int32)) (fun v9 => pX6_find_L6 n l1 l2 l3 l4 v9 (l6 + 1) z_m_now))))
def pX6_find (a1 : Int32) (a2 : Int32) (a3 : Int32) (a4 : Int32) (m_now : Nat → Int32) : Option (Int32) := kb (pX6_find_L6 KF a1 a2 a3 a4 (-1) 0 m_now) (fun v12 => some v12.1)
def rmX6_find : Room := { frames := 2, cells := 0, slots := 0, locals := 47 }
theorem hdV_X6_find : yX6_find.cls = RX6 ∧ yX6_find.cls ≠ "java/lang/invoke/MethodHandle" ∧ yX6_find.cls ≠ "java/lang/invoke/VarHandle" ∧ (parseMethodDescriptor yX6_find.desc).map (fun d => d.parameters.length) = some 4 := ⟨rfl, by decide +kernel, by decide +kernel, by decide +kernel⟩
set_option maxHeartbeats 4000000 in
set_option maxRecDepth 100000 in
theorem kX6_find (l : Launch) (Y : KY) (ma : Nat → Nat) (m_now : Nat → Int32) (m_sav : Nat → Int32) (m_sc : Int32) (m_err : Nat → Int32) (m_shf : Nat → Int32) (m_stp : Nat → Int32) (m_que : Nat → Int32) (m_qd : Int32) (m_qx : Nat → Int32) (m_qy : Nat → Int32) (m_met : Nat → Int32) (m_per : Nat → Int32) (m_row : Nat → Int64) (m_det : Int64) (m_h : Int64) (a1 : Int32) (a2 : Int32) (a3 : Int32) (a4 : Int32) {o : Int32} (h : pX6_find a1 a2 a3 a4 m_now = some o) : CtI l yX6_find wsX6_find rmX6_find Y [.ref (ma 0), .int a1, .int a2, .int a3, .int a4] (kfl [gM Y ma m_now m_sav m_sc m_err m_shf m_stp m_que m_qd m_qx m_qy m_met m_per m_row m_det m_h]) o (kfl [gM Y ma m_now m_sav m_sc m_err m_shf m_stp m_que m_qd m_qx m_qy m_met m_per m_row m_det m_h]) := by
  refine ctI_intro (cc := cX6_find) (maxL := 7) (own := RX6) (by decide +kernel) rfl rfl (Nat.le_of_ble_eq_true rfl) rfl ?_
  intro X A hX _ hret
  have hin6 : ∀ w ∈ u_ws RX6 TX6 15, w ∈ wsX6_find := by decide +kernel
  have f0 := hX.w (Cond.fieldLink RX6 7 "PeriodicNetModel" "now" "[I") (by decide +kernel)
  have L6 : ∀ (n : Nat) (l1 : Int32) (l2 : Int32) (l3 : Int32) (l4 : Int32) (l5 : Int32) (l6 : Int32) (z_m_now : Nat → Int32) (z_m_sav : Nat → Int32) (z_m_sc : Int32) (z_m_err : Nat → Int32) (z_m_shf : Nat → Int32) (z_m_stp : Nat → Int32) (z_m_que : Nat → Int32) (z_m_qd : Int32) (z_m_qx : Nat → Int32) (z_m_qy : Nat → Int32) (z_m_met : Nat → Int32) (z_m_per : Nat → Int32) (z_m_row : Nat → Int64) (z_m_det : Int64) (z_m_h : Int64) (o : Int32 × Int32), pX6_find_L6 n l1 l2 l3 l4 l5 l6 z_m_now = some o → KW X Y A 7 0 0 (kfl [gM Y ma z_m_now z_m_sav z_m_sc z_m_err z_m_shf z_m_stp z_m_que z_m_qd z_m_qx z_m_qy z_m_met z_m_per z_m_row z_m_det z_m_h]) [(0, .ref (ma 0)), (1, .int l1), (2, .int l2), (3, .int l3), (4, .int l4), (5, .int o.1), (6, .int o.2)] 62 [] → KW X Y A 7 0 0 (kfl [gM Y ma z_m_now z_m_sav z_m_sc z_m_err z_m_shf z_m_stp z_m_que z_m_qd z_m_qx z_m_qy z_m_met z_m_per z_m_row z_m_det z_m_h]) [(0, .ref (ma 0)), (1, .int l1), (2, .int l2), (3, .int l3), (4, .int l4), (5, .int l5), (6, .int l6)] 6 [] := by
    intro n
    induction n with
    | zero => intro l1 l2 l3 l4 l5 l6 z_m_now z_m_sav z_m_sc z_m_err z_m_shf z_m_stp z_m_que z_m_qd z_m_qx z_m_qy z_m_met z_m_per z_m_row z_m_det z_m_h o h; cases h
    | succ n ih =>
      intro l1 l2 l3 l4 l5 l6 z_m_now z_m_sav z_m_sc z_m_err z_m_shf z_m_stp z_m_que z_m_qd z_m_qx z_m_qy z_m_met z_m_per z_m_row z_m_det z_m_h o h hK
      rw [pX6_find_L6] at h
      refine kw_iload hX 6 dX6_find_6 6 rfl ?_
      refine kw_aload_n hX 8 dX6_find_8 rfl 0 rfl ?_
      refine kw_get hX 9 (C := RX6) (T := TX6) (N := 15) hin6 0 f0 (fun _ h => h) 0 rfl rfl (by decide) rfl dX6_find_9 ?_
      refine kw_iconst hX 12 dX6_find_12 kci_1 ?_
      obtain ⟨g1, h⟩ := kgd_some h
      refine kw_iald hX 13 1 rfl g1 dX6_find_13 ?_
      refine kw_icmp_ge hX 14 62 dX6_find_14 (by decide) (fun c2 => ?_) (fun c2 => ?_)
      · have h := kif_t c2 h
        obtain rfl := Option.some.inj h
        refine kw_lv (lv' := [(0, .ref (ma 0)), (1, .int l1), (2, .int l2), (3, .int l3), (4, .int l4), (5, .int l5), (6, .int l6)]) [0, 1, 2, 3, 4, 5, 6] rfl ?_
        exact hK
      · have h := kif_f c2 h
        refine kw_aload_n hX 17 dX6_find_17 rfl 0 rfl ?_
        refine kw_iload hX 18 dX6_find_18 6 rfl ?_
        refine kw_iload_n hX 20 dX6_find_20 rfl 1 rfl ?_
        refine kw_iload_n hX 21 dX6_find_21 rfl 2 rfl ?_
        refine kw_iload_n hX 22 dX6_find_22 rfl 3 rfl ?_
        refine kw_iload hX 23 dX6_find_23 4 rfl ?_
        obtain ⟨v3, hc4, h⟩ := kb_some h
        refine kw_callV_I hX 25 (As := [.int l6, .int l1, .int l2, .int l3, .int l4]) (rest := []) (kX6_isEdge (kx_l X) Y ma z_m_now z_m_sav z_m_sc z_m_err z_m_shf z_m_stp z_m_que z_m_qd z_m_qx z_m_qy z_m_met z_m_per z_m_row z_m_det z_m_h l6 l1 l2 l3 l4 hc4) gX6_find_X6_isEdge rfl 5 rfl hdV_X6_isEdge ⟨rfl, rfl⟩ ⟨by decide, by decide⟩ ⟨Nat.zero_le _, Nat.zero_le _⟩ rfl (Nat.le_of_ble_eq_true rfl) [0] (by decide) rfl (kfc rfl kfn0) (gs1 := [gM Y ma z_m_now z_m_sav z_m_sc z_m_err z_m_shf z_m_stp z_m_que z_m_qd z_m_qx z_m_qy z_m_met z_m_per z_m_row z_m_det z_m_h]) rfl 0 6 rfl rfl rfl dX6_find_25 ?_
        obtain ⟨v9, hj11, h⟩ := kb_some h
        have J10 : KW X Y A 7 0 0 (kfl [gM Y ma z_m_now z_m_sav z_m_sc z_m_err z_m_shf z_m_stp z_m_que z_m_qd z_m_qx z_m_qy z_m_met z_m_per z_m_row z_m_det z_m_h]) [(0, .ref (ma 0)), (1, .int l1), (2, .int l2), (3, .int l3), (4, .int l4), (6, .int l6)] 54 [.int v9] := by
          refine kw_istore (lv' := [(5, .int v9), (0, .ref (ma 0)), (1, .int l1), (2, .int l2), (3, .int l3), (4, .int l4), (6, .int l6)]) hX 54 dX6_find_54 (by decide) rfl ?_
          refine kw_iinc (v := (l6 + 1)) (lv' := [(6, .int (l6 + 1)), (5, .int v9), (0, .ref (ma 0)), (1, .int l1), (2, .int l2), (3, .int l3), (4, .int l4)]) hX 56 dX6_find_56 6 rfl (kinc_1 _) (by decide) rfl ?_
          refine kw_goto hX 59 6 dX6_find_59 (by decide) ?_
          refine kw_lv (lv' := [(0, .ref (ma 0)), (1, .int l1), (2, .int l2), (3, .int l3), (4, .int l4), (5, .int v9), (6, .int (l6 + 1))]) [2, 3, 4, 5, 6, 1, 0] rfl ?_
          exact ih l1 l2 l3 l4 v9 (l6 + 1) z_m_now z_m_sav z_m_sc z_m_err z_m_shf z_m_stp z_m_que z_m_qd z_m_qx z_m_qy z_m_met z_m_per z_m_row z_m_det z_m_h o h hK
        have h := hj11
        refine kw_if_ne hX 28 47 dX6_find_28 (by decide) (fun c5 => ?_) (fun c5 => ?_)
        · have h := kif_f c5 h
          refine kw_iload hX 47 dX6_find_47 6 rfl ?_
          refine kw_goto hX 49 54 dX6_find_49 (by decide) ?_
          obtain rfl := Option.some.inj h
          refine kw_lv (lv' := [(0, .ref (ma 0)), (1, .int l1), (2, .int l2), (3, .int l3), (4, .int l4), (6, .int l6)]) [0, 1, 2, 3, 4, 6] rfl ?_
          exact J10
        · have h := kif_t c5 h
          refine kw_aload_n hX 31 dX6_find_31 rfl 0 rfl ?_
          refine kw_iload hX 32 dX6_find_32 6 rfl ?_
          refine kw_iload_n hX 34 dX6_find_34 rfl 2 rfl ?_
          refine kw_iload_n hX 35 dX6_find_35 rfl 1 rfl ?_
          refine kw_iload_n hX 36 dX6_find_36 rfl 3 rfl ?_
          refine kw_ineg hX 37 dX6_find_37 ?_
          refine kw_iload hX 38 dX6_find_38 4 rfl ?_
          refine kw_ineg hX 40 dX6_find_40 ?_
          obtain ⟨v6, hc7, h⟩ := kb_some h
          refine kw_callV_I hX 41 (As := [.int l6, .int l2, .int l1, .int (-l3), .int (-l4)]) (rest := []) (kX6_isEdge (kx_l X) Y ma z_m_now z_m_sav z_m_sc z_m_err z_m_shf z_m_stp z_m_que z_m_qd z_m_qx z_m_qy z_m_met z_m_per z_m_row z_m_det z_m_h l6 l2 l1 (-l3) (-l4) hc7) gX6_find_X6_isEdge rfl 5 rfl hdV_X6_isEdge ⟨rfl, rfl⟩ ⟨by decide, by decide⟩ ⟨Nat.zero_le _, Nat.zero_le _⟩ rfl (Nat.le_of_ble_eq_true rfl) [0] (by decide) rfl (kfc rfl kfn0) (gs1 := [gM Y ma z_m_now z_m_sav z_m_sc z_m_err z_m_shf z_m_stp z_m_que z_m_qd z_m_qx z_m_qy z_m_met z_m_per z_m_row z_m_det z_m_h]) rfl 0 6 rfl rfl rfl dX6_find_41 ?_
          refine kw_if_eq hX 44 52 dX6_find_44 (by decide) (fun c8 => ?_) (fun c8 => ?_)
          · have h := kif_t c8 h
            refine kw_iload hX 52 dX6_find_52 5 rfl ?_
            obtain rfl := Option.some.inj h
            refine kw_lv (lv' := [(0, .ref (ma 0)), (1, .int l1), (2, .int l2), (3, .int l3), (4, .int l4), (6, .int l6)]) [0, 1, 2, 3, 4, 6] rfl ?_
            exact J10
          · have h := kif_f c8 h
            refine kw_iload hX 47 dX6_find_47 6 rfl ?_
            refine kw_goto hX 49 54 dX6_find_49 (by decide) ?_
            obtain rfl := Option.some.inj h
            refine kw_lv (lv' := [(0, .ref (ma 0)), (1, .int l1), (2, .int l2), (3, .int l3), (4, .int l4), (6, .int l6)]) [0, 1, 2, 3, 4, 6] rfl ?_
            exact J10
  unfold pX6_find at h
  refine kw_lv (lv' := [(0, .ref (ma 0)), (1, .int a1), (2, .int a2), (3, .int a3), (4, .int a4)]) [0, 1, 2, 3, 4] rfl ?_
  refine kw_iconst hX 0 dX6_find_0 kci_m1 ?_
  refine kw_istore (lv' := [(5, .int (-1)), (0, .ref (ma 0)), (1, .int a1), (2, .int a2), (3, .int a3), (4, .int a4)]) hX 1 dX6_find_1 (by decide) rfl ?_
  refine kw_iconst hX 3 dX6_find_3 kci_0 ?_
  refine kw_istore (lv' := [(6, .int 0), (5, .int (-1)), (0, .ref (ma 0)), (1, .int a1), (2, .int a2), (3, .int a3), (4, .int a4)]) hX 4 dX6_find_4 (by decide) rfl ?_
  obtain ⟨v12, hl13, h⟩ := kb_some h
  refine kw_lv (lv' := [(0, .ref (ma 0)), (1, .int a1), (2, .int a2), (3, .int a3), (4, .int a4), (5, .int (-1)), (6, .int 0)]) [2, 3, 4, 5, 6, 1, 0] rfl ?_
  refine L6 KF a1 a2 a3 a4 (-1) 0 m_now m_sav m_sc m_err m_shf m_stp m_que m_qd m_qx m_qy m_met m_per m_row m_det m_h v12 hl13 ?_
  refine kw_iload hX 62 dX6_find_62 5 rfl ?_
  obtain rfl := Option.some.inj h
  exact hret _ _ dX6_find_64 rfl
def pX6_reset (a1 : Int32) (m_now : Nat → Int32) (m_sav : Nat → Int32) (m_sc : Int32) (m_err : Nat → Int32) : Option (Int32 × (Nat → Int32) × (Nat → Int32) × Int32 × (Nat → Int32)) := kb (pX6_in a1 1 6) (fun v1 => (if v1 = 0 then kb (pX6_error (-2) m_err) (fun v9 => some (v9.1, m_now, m_sav, m_sc, v9.2)) else kb (pX6_save m_now m_sav m_sc) (fun v4 => kgd (kin 0 50) (kgd (kin 0 50) (kgd (kin 1 50) (some ((m_now (0 : Int32).toNatClampNeg), (upd (upd m_now (0 : Int32).toNatClampNeg a1) (1 : Int32).toNatClampNeg 0), v4.1, v4.2, m_err)))))))
def rmX6_reset : Room := { frames := 1, cells := 0, slots := 0, locals := 22 }
theorem hdV_X6_reset : yX6_reset.cls = RX6 ∧ yX6_reset.cls ≠ "java/lang/invoke/MethodHandle" ∧ yX6_reset.cls ≠ "java/lang/invoke/VarHandle" ∧ (parseMethodDescriptor yX6_reset.desc).map (fun d => d.parameters.length) = some 1 := ⟨rfl, by decide +kernel, by decide +kernel, by decide +kernel⟩
set_option maxHeartbeats 4000000 in
set_option maxRecDepth 100000 in
theorem kX6_reset (l : Launch) (Y : KY) (ma : Nat → Nat) (m_now : Nat → Int32) (m_sav : Nat → Int32) (m_sc : Int32) (m_err : Nat → Int32) (m_shf : Nat → Int32) (m_stp : Nat → Int32) (m_que : Nat → Int32) (m_qd : Int32) (m_qx : Nat → Int32) (m_qy : Nat → Int32) (m_met : Nat → Int32) (m_per : Nat → Int32) (m_row : Nat → Int64) (m_det : Int64) (m_h : Int64) (a1 : Int32) {o : Int32 × (Nat → Int32) × (Nat → Int32) × Int32 × (Nat → Int32)} (h : pX6_reset a1 m_now m_sav m_sc m_err = some o) : CtI l yX6_reset wsX6_reset rmX6_reset Y [.ref (ma 0), .int a1] (kfl [gM Y ma m_now m_sav m_sc m_err m_shf m_stp m_que m_qd m_qx m_qy m_met m_per m_row m_det m_h]) o.1 (kfl [gM Y ma o.2.1 o.2.2.1 o.2.2.2.1 o.2.2.2.2 m_shf m_stp m_que m_qd m_qx m_qy m_met m_per m_row m_det m_h]) := by
  refine ctI_intro (cc := cX6_reset) (maxL := 3) (own := RX6) (by decide +kernel) rfl rfl (Nat.le_of_ble_eq_true rfl) rfl ?_
  intro X A hX _ hret
  have hin6 : ∀ w ∈ u_ws RX6 TX6 15, w ∈ wsX6_reset := by decide +kernel
  have f0 := hX.w (Cond.fieldLink RX6 7 "PeriodicNetModel" "now" "[I") (by decide +kernel)
  unfold pX6_reset at h
  refine kw_lv (lv' := [(0, .ref (ma 0)), (1, .int a1)]) [0, 1] rfl ?_
  refine kw_iload_n hX 0 dX6_reset_0 rfl 1 rfl ?_
  refine kw_iconst hX 1 dX6_reset_1 kci_1 ?_
  refine kw_bipush hX 2 dX6_reset_2 kcb_6 ?_
  obtain ⟨v1, hc2, h⟩ := kb_some h
  refine kw_callS_I hX 4 (As := [.int a1, .int 1, .int 6]) (rest := []) (kX6_in (kx_l X) Y a1 1 6 hc2) gX6_reset_X6_in rfl 3 rfl hdS_X6_in ⟨rfl, rfl⟩ ⟨by decide, by decide⟩ ⟨Nat.zero_le _, Nat.zero_le _⟩ rfl (Nat.le_of_ble_eq_true rfl) [] (by decide) rfl kfn0 (gs1 := [gM Y ma m_now m_sav m_sc m_err m_shf m_stp m_que m_qd m_qx m_qy m_met m_per m_row m_det m_h]) rfl dX6_reset_4 ?_
  refine kw_if_ne hX 7 17 dX6_reset_7 (by decide) (fun c3 => ?_) (fun c3 => ?_)
  · have h := kif_f c3 h
    refine kw_aload_n hX 17 dX6_reset_17 rfl 0 rfl ?_
    obtain ⟨v4, hc5, h⟩ := kb_some h
    refine kw_callV_V hX 18 (As := []) (rest := []) (kX6_save (kx_l X) Y ma m_now m_sav m_sc m_err m_shf m_stp m_que m_qd m_qx m_qy m_met m_per m_row m_det m_h hc5) gX6_reset_X6_save rfl 0 rfl hdV_X6_save ⟨rfl, rfl⟩ ⟨by decide, by decide⟩ ⟨Nat.zero_le _, Nat.zero_le _⟩ rfl (Nat.le_of_ble_eq_true rfl) [0] (by decide) rfl (kfc gM_f kfn0) (gs1 := [gM Y ma m_now v4.1 v4.2 m_err m_shf m_stp m_que m_qd m_qx m_qy m_met m_per m_row m_det m_h]) rfl 0 6 rfl rfl rfl dX6_reset_18 ?_
    refine kw_aload_n hX 21 dX6_reset_21 rfl 0 rfl ?_
    refine kw_get hX 22 (C := RX6) (T := TX6) (N := 15) hin6 0 f0 (fun _ h => h) 0 rfl rfl (by decide) rfl dX6_reset_22 ?_
    refine kw_iconst hX 25 dX6_reset_25 kci_0 ?_
    obtain ⟨g6, h⟩ := kgd_some h
    refine kw_iald hX 26 1 rfl g6 dX6_reset_26 ?_
    refine kw_istore_n (lv' := [(2, .int (m_now (0 : Int32).toNatClampNeg)), (0, .ref (ma 0)), (1, .int a1)]) hX 27 dX6_reset_27 rfl (by decide) rfl ?_
    refine kw_aload_n hX 28 dX6_reset_28 rfl 1 rfl ?_
    refine kw_get hX 29 (C := RX6) (T := TX6) (N := 15) hin6 0 f0 (fun _ h => h) 0 rfl rfl (by decide) rfl dX6_reset_29 ?_
    refine kw_iconst hX 32 dX6_reset_32 kci_0 ?_
    refine kw_iload_n hX 33 dX6_reset_33 rfl 2 rfl ?_
    obtain ⟨g7, h⟩ := kgd_some h
    refine kw_iast hX 34 (ws' := (kfl [gM Y ma (upd m_now (0 : Int32).toNatClampNeg a1) v4.1 v4.2 m_err m_shf m_stp m_que m_qd m_qx m_qy m_met m_per m_row m_det m_h])) 1 rfl g7 rfl dX6_reset_34 ?_
    refine kw_aload_n hX 35 dX6_reset_35 rfl 1 rfl ?_
    refine kw_get hX 36 (C := RX6) (T := TX6) (N := 15) hin6 0 f0 (fun _ h => h) 0 rfl rfl (by decide) rfl dX6_reset_36 ?_
    refine kw_iconst hX 39 dX6_reset_39 kci_1 ?_
    refine kw_iconst hX 40 dX6_reset_40 kci_0 ?_
    obtain ⟨g8, h⟩ := kgd_some h
    refine kw_iast hX 41 (ws' := (kfl [gM Y ma (upd (upd m_now (0 : Int32).toNatClampNeg a1) (1 : Int32).toNatClampNeg 0) v4.1 v4.2 m_err m_shf m_stp m_que m_qd m_qx m_qy m_met m_per m_row m_det m_h])) 1 rfl g8 rfl dX6_reset_41 ?_
    refine kw_iload_n hX 42 dX6_reset_42 rfl 0 rfl ?_
    obtain rfl := Option.some.inj h
    exact hret _ _ dX6_reset_43 rfl
  · have h := kif_t c3 h
    refine kw_aload_n hX 10 dX6_reset_10 rfl 0 rfl ?_
    refine kw_bipush hX 11 dX6_reset_11 kcb_m2 ?_
    obtain ⟨v9, hc10, h⟩ := kb_some h
    refine kw_callV_I hX 13 (As := [.int (-2)]) (rest := []) (kX6_error (kx_l X) Y ma m_now m_sav m_sc m_err m_shf m_stp m_que m_qd m_qx m_qy m_met m_per m_row m_det m_h (-2) hc10) gX6_reset_X6_error rfl 1 rfl hdV_X6_error ⟨rfl, rfl⟩ ⟨by decide, by decide⟩ ⟨Nat.zero_le _, Nat.zero_le _⟩ rfl (Nat.le_of_ble_eq_true rfl) [0] (by decide) rfl (kfc gM_f kfn0) (gs1 := [gM Y ma m_now m_sav m_sc v9.2 m_shf m_stp m_que m_qd m_qx m_qy m_met m_per m_row m_det m_h]) rfl 0 6 rfl rfl rfl dX6_reset_13 ?_
    obtain rfl := Option.some.inj h
    exact hret _ _ dX6_reset_16 rfl
def pX6_addEdge (a1 : Int32) (a2 : Int32) (a3 : Int32) (a4 : Int32) (m_now : Nat → Int32) (m_sav : Nat → Int32) (m_sc : Int32) (m_err : Nat → Int32) : Option (Int32 × (Nat → Int32) × (Nat → Int32) × Int32 × (Nat → Int32)) := kb (pX6_isVertex a1 m_now) (fun v1 => (if v1 = 0 then kb (pX6_error (-2) m_err) (fun v4 => some (v4.1, m_now, m_sav, m_sc, v4.2)) else kb (pX6_isVertex a2 m_now) (fun v6 => (if v6 = 0 then kb (pX6_error (-2) m_err) (fun v9 => some (v9.1, m_now, m_sav, m_sc, v9.2)) else kb (pX6_isShift a3 a4) (fun v11 => (if v11 = 0 then kb (pX6_error (-2) m_err) (fun v14 => some (v14.1, m_now, m_sav, m_sc, v14.2)) else (if a1 = a2 then (if a3 = 0 then (if a4 = 0 then kb (pX6_error (-2) m_err) (fun v76 => some (v76.1, m_now, m_sav, m_sc, v76.2)) else kb (pX6_find a1 a2 a3 a4 m_now) (fun v57 => (if v57 = ((-1) : Int32) then kgd (kin 1 50) ((if (m_now (1 : Int32).toNatClampNeg) = (12 : Int32) then kb (pX6_error (-4) m_err) (fun v72 => some (v72.1, m_now, m_sav, m_sc, v72.2)) else kb (pX6_save m_now m_sav m_sc) (fun v62 => kgd (kin 1 50) (kgd (kin (2 + (4 * (m_now (1 : Int32).toNatClampNeg))) 50) (kgd (kin ((2 + (4 * (m_now (1 : Int32).toNatClampNeg))) + 1) 50) (kgd (kin ((2 + (4 * (m_now (1 : Int32).toNatClampNeg))) + 2) 50) (kgd (kin ((2 + (4 * (m_now (1 : Int32).toNatClampNeg))) + 3) 50) (kgd (kin 1 50) (kgd (kin 1 50) (kgd (kin 1 50) (some ((((upd (upd (upd (upd (upd m_now ((2 + (4 * (m_now (1 : Int32).toNatClampNeg))) : Int32).toNatClampNeg a1) (((2 + (4 * (m_now (1 : Int32).toNatClampNeg))) + 1) : Int32).toNatClampNeg a2) (((2 + (4 * (m_now (1 : Int32).toNatClampNeg))) + 2) : Int32).toNatClampNeg a3) (((2 + (4 * (m_now (1 : Int32).toNatClampNeg))) + 3) : Int32).toNatClampNeg a4) (1 : Int32).toNatClampNeg (((upd (upd (upd (upd m_now ((2 + (4 * (m_now (1 : Int32).toNatClampNeg))) : Int32).toNatClampNeg a1) (((2 + (4 * (m_now (1 : Int32).toNatClampNeg))) + 1) : Int32).toNatClampNeg a2) (((2 + (4 * (m_now (1 : Int32).toNatClampNeg))) + 2) : Int32).toNatClampNeg a3) (((2 + (4 * (m_now (1 : Int32).toNatClampNeg))) + 3) : Int32).toNatClampNeg a4) (1 : Int32).toNatClampNeg) + 1)) (1 : Int32).toNatClampNeg) - 1), (upd (upd (upd (upd (upd m_now ((2 + (4 * (m_now (1 : Int32).toNatClampNeg))) : Int32).toNatClampNeg a1) (((2 + (4 * (m_now (1 : Int32).toNatClampNeg))) + 1) : Int32).toNatClampNeg a2) (((2 + (4 * (m_now (1 : Int32).toNatClampNeg))) + 2) : Int32).toNatClampNeg a3) (((2 + (4 * (m_now (1 : Int32).toNatClampNeg))) + 3) : Int32).toNatClampNeg a4) (1 : Int32).toNatClampNeg (((upd (upd (upd (upd m_now ((2 + (4 * (m_now (1 : Int32).toNatClampNeg))) : Int32).toNatClampNeg a1) (((2 + (4 * (m_now (1 : Int32).toNatClampNeg))) + 1) : Int32).toNatClampNeg a2) (((2 + (4 * (m_now (1 : Int32).toNatClampNeg))) + 2) : Int32).toNatClampNeg a3) (((2 + (4 * (m_now (1 : Int32).toNatClampNeg))) + 3) : Int32).toNatClampNeg a4) (1 : Int32).toNatClampNeg) + 1)), v62.1, v62.2, m_err)))))))))))) else kb (pX6_error (-3) m_err) (fun v74 => some (v74.1, m_now, m_sav, m_sc, v74.2))))) else kb (pX6_find a1 a2 a3 a4 m_now) (fun v37 => (if v37 = ((-1) : Int32) then kgd (kin 1 50) ((if (m_now (1 : Int32).toNatClampNeg) = (12 : Int32) then kb (pX6_error (-4) m_err) (fun v52 => some (v52.1, m_now, m_sav, m_sc, v52.2)) else kb (pX6_save m_now m_sav m_sc) (fun v42 => kgd (kin 1 50) (kgd (kin (2 + (4 * (m_now (1 : Int32).toNatClampNeg))) 50) (kgd (kin ((2 + (4 * (m_now (1 : Int32).toNatClampNeg))) + 1) 50) (kgd (kin ((2 + (4 * (m_now (1 : Int32).toNatClampNeg))) + 2) 50) (kgd (kin ((2 + (4 * (m_now (1 : Int32).toNatClampNeg))) + 3) 50) (kgd (kin 1 50) (kgd (kin 1 50) (kgd (kin 1 50) (some ((((upd (upd (upd (upd (upd m_now ((2 + (4 * (m_now (1 : Int32).toNatClampNeg))) : Int32).toNatClampNeg a1) (((2 + (4 * (m_now (1 : Int32).toNatClampNeg))) + 1) : Int32).toNatClampNeg a2) (((2 + (4 * (m_now (1 : Int32).toNatClampNeg))) + 2) : Int32).toNatClampNeg a3) (((2 + (4 * (m_now (1 : Int32).toNatClampNeg))) + 3) : Int32).toNatClampNeg a4) (1 : Int32).toNatClampNeg (((upd (upd (upd (upd m_now ((2 + (4 * (m_now (1 : Int32).toNatClampNeg))) : Int32).toNatClampNeg a1) (((2 + (4 * (m_now (1 : Int32).toNatClampNeg))) + 1) : Int32).toNatClampNeg a2) (((2 + (4 * (m_now (1 : Int32).toNatClampNeg))) + 2) : Int32).toNatClampNeg a3) (((2 + (4 * (m_now (1 : Int32).toNatClampNeg))) + 3) : Int32).toNatClampNeg a4) (1 : Int32).toNatClampNeg) + 1)) (1 : Int32).toNatClampNeg) - 1), (upd (upd (upd (upd (upd m_now ((2 + (4 * (m_now (1 : Int32).toNatClampNeg))) : Int32).toNatClampNeg a1) (((2 + (4 * (m_now (1 : Int32).toNatClampNeg))) + 1) : Int32).toNatClampNeg a2) (((2 + (4 * (m_now (1 : Int32).toNatClampNeg))) + 2) : Int32).toNatClampNeg a3) (((2 + (4 * (m_now (1 : Int32).toNatClampNeg))) + 3) : Int32).toNatClampNeg a4) (1 : Int32).toNatClampNeg (((upd (upd (upd (upd m_now ((2 + (4 * (m_now (1 : Int32).toNatClampNeg))) : Int32).toNatClampNeg a1) (((2 + (4 * (m_now (1 : Int32).toNatClampNeg))) + 1) : Int32).toNatClampNeg a2) (((2 + (4 * (m_now (1 : Int32).toNatClampNeg))) + 2) : Int32).toNatClampNeg a3) (((2 + (4 * (m_now (1 : Int32).toNatClampNeg))) + 3) : Int32).toNatClampNeg a4) (1 : Int32).toNatClampNeg) + 1)), v42.1, v42.2, m_err)))))))))))) else kb (pX6_error (-3) m_err) (fun v54 => some (v54.1, m_now, m_sav, m_sc, v54.2))))) else kb (pX6_find a1 a2 a3 a4 m_now) (fun v17 => (if v17 = ((-1) : Int32) then kgd (kin 1 50) ((if (m_now (1 : Int32).toNatClampNeg) = (12 : Int32) then kb (pX6_error (-4) m_err) (fun v32 => some (v32.1, m_now, m_sav, m_sc, v32.2)) else kb (pX6_save m_now m_sav m_sc) (fun v22 => kgd (kin 1 50) (kgd (kin (2 + (4 * (m_now (1 : Int32).toNatClampNeg))) 50) (kgd (kin ((2 + (4 * (m_now (1 : Int32).toNatClampNeg))) + 1) 50) (kgd (kin ((2 + (4 * (m_now (1 : Int32).toNatClampNeg))) + 2) 50) (kgd (kin ((2 + (4 * (m_now (1 : Int32).toNatClampNeg))) + 3) 50) (kgd (kin 1 50) (kgd (kin 1 50) (kgd (kin 1 50) (some ((((upd (upd (upd (upd (upd m_now ((2 + (4 * (m_now (1 : Int32).toNatClampNeg))) : Int32).toNatClampNeg a1) (((2 + (4 * (m_now (1 : Int32).toNatClampNeg))) + 1) : Int32).toNatClampNeg a2) (((2 + (4 * (m_now (1 : Int32).toNatClampNeg))) + 2) : Int32).toNatClampNeg a3) (((2 + (4 * (m_now (1 : Int32).toNatClampNeg))) + 3) : Int32).toNatClampNeg a4) (1 : Int32).toNatClampNeg (((upd (upd (upd (upd m_now ((2 + (4 * (m_now (1 : Int32).toNatClampNeg))) : Int32).toNatClampNeg a1) (((2 + (4 * (m_now (1 : Int32).toNatClampNeg))) + 1) : Int32).toNatClampNeg a2) (((2 + (4 * (m_now (1 : Int32).toNatClampNeg))) + 2) : Int32).toNatClampNeg a3) (((2 + (4 * (m_now (1 : Int32).toNatClampNeg))) + 3) : Int32).toNatClampNeg a4) (1 : Int32).toNatClampNeg) + 1)) (1 : Int32).toNatClampNeg) - 1), (upd (upd (upd (upd (upd m_now ((2 + (4 * (m_now (1 : Int32).toNatClampNeg))) : Int32).toNatClampNeg a1) (((2 + (4 * (m_now (1 : Int32).toNatClampNeg))) + 1) : Int32).toNatClampNeg a2) (((2 + (4 * (m_now (1 : Int32).toNatClampNeg))) + 2) : Int32).toNatClampNeg a3) (((2 + (4 * (m_now (1 : Int32).toNatClampNeg))) + 3) : Int32).toNatClampNeg a4) (1 : Int32).toNatClampNeg (((upd (upd (upd (upd m_now ((2 + (4 * (m_now (1 : Int32).toNatClampNeg))) : Int32).toNatClampNeg a1) (((2 + (4 * (m_now (1 : Int32).toNatClampNeg))) + 1) : Int32).toNatClampNeg a2) (((2 + (4 * (m_now (1 : Int32).toNatClampNeg))) + 2) : Int32).toNatClampNeg a3) (((2 + (4 * (m_now (1 : Int32).toNatClampNeg))) + 3) : Int32).toNatClampNeg a4) (1 : Int32).toNatClampNeg) + 1)), v22.1, v22.2, m_err)))))))))))) else kb (pX6_error (-3) m_err) (fun v34 => some (v34.1, m_now, m_sav, m_sc, v34.2)))))))))))
def rmX6_addEdge : Room := { frames := 3, cells := 0, slots := 0, locals := 73 }
theorem hdV_X6_addEdge : yX6_addEdge.cls = RX6 ∧ yX6_addEdge.cls ≠ "java/lang/invoke/MethodHandle" ∧ yX6_addEdge.cls ≠ "java/lang/invoke/VarHandle" ∧ (parseMethodDescriptor yX6_addEdge.desc).map (fun d => d.parameters.length) = some 4 := ⟨rfl, by decide +kernel, by decide +kernel, by decide +kernel⟩
set_option maxHeartbeats 4000000 in
set_option maxRecDepth 100000 in
theorem kX6_addEdge (l : Launch) (Y : KY) (ma : Nat → Nat) (m_now : Nat → Int32) (m_sav : Nat → Int32) (m_sc : Int32) (m_err : Nat → Int32) (m_shf : Nat → Int32) (m_stp : Nat → Int32) (m_que : Nat → Int32) (m_qd : Int32) (m_qx : Nat → Int32) (m_qy : Nat → Int32) (m_met : Nat → Int32) (m_per : Nat → Int32) (m_row : Nat → Int64) (m_det : Int64) (m_h : Int64) (a1 : Int32) (a2 : Int32) (a3 : Int32) (a4 : Int32) {o : Int32 × (Nat → Int32) × (Nat → Int32) × Int32 × (Nat → Int32)} (h : pX6_addEdge a1 a2 a3 a4 m_now m_sav m_sc m_err = some o) : CtI l yX6_addEdge wsX6_addEdge rmX6_addEdge Y [.ref (ma 0), .int a1, .int a2, .int a3, .int a4] (kfl [gM Y ma m_now m_sav m_sc m_err m_shf m_stp m_que m_qd m_qx m_qy m_met m_per m_row m_det m_h]) o.1 (kfl [gM Y ma o.2.1 o.2.2.1 o.2.2.2.1 o.2.2.2.2 m_shf m_stp m_que m_qd m_qx m_qy m_met m_per m_row m_det m_h]) := by
  refine ctI_intro (cc := cX6_addEdge) (maxL := 6) (own := RX6) (by decide +kernel) rfl rfl (Nat.le_of_ble_eq_true rfl) rfl ?_
  intro X A hX _ hret
  have hin6 : ∀ w ∈ u_ws RX6 TX6 15, w ∈ wsX6_addEdge := by decide +kernel
  have f0 := hX.w (Cond.fieldLink RX6 7 "PeriodicNetModel" "now" "[I") (by decide +kernel)
  unfold pX6_addEdge at h
  refine kw_lv (lv' := [(0, .ref (ma 0)), (1, .int a1), (2, .int a2), (3, .int a3), (4, .int a4)]) [0, 1, 2, 3, 4] rfl ?_
  refine kw_aload_n hX 0 dX6_addEdge_0 rfl 0 rfl ?_
  refine kw_iload_n hX 1 dX6_addEdge_1 rfl 1 rfl ?_
  obtain ⟨v1, hc2, h⟩ := kb_some h
  refine kw_callV_I hX 2 (As := [.int a1]) (rest := []) (kX6_isVertex (kx_l X) Y ma m_now m_sav m_sc m_err m_shf m_stp m_que m_qd m_qx m_qy m_met m_per m_row m_det m_h a1 hc2) gX6_addEdge_X6_isVertex rfl 1 rfl hdV_X6_isVertex ⟨rfl, rfl⟩ ⟨by decide, by decide⟩ ⟨Nat.zero_le _, Nat.zero_le _⟩ rfl (Nat.le_of_ble_eq_true rfl) [0] (by decide) rfl (kfc rfl kfn0) (gs1 := [gM Y ma m_now m_sav m_sc m_err m_shf m_stp m_que m_qd m_qx m_qy m_met m_per m_row m_det m_h]) rfl 0 6 rfl rfl rfl dX6_addEdge_2 ?_
  refine kw_if_eq hX 5 39 dX6_addEdge_5 (by decide) (fun c3 => ?_) (fun c3 => ?_)
  · have h := kif_t c3 h
    refine kw_aload_n hX 39 dX6_addEdge_39 rfl 0 rfl ?_
    refine kw_bipush hX 40 dX6_addEdge_40 kcb_m2 ?_
    obtain ⟨v4, hc5, h⟩ := kb_some h
    refine kw_callV_I hX 42 (As := [.int (-2)]) (rest := []) (kX6_error (kx_l X) Y ma m_now m_sav m_sc m_err m_shf m_stp m_que m_qd m_qx m_qy m_met m_per m_row m_det m_h (-2) hc5) gX6_addEdge_X6_error rfl 1 rfl hdV_X6_error ⟨rfl, rfl⟩ ⟨by decide, by decide⟩ ⟨Nat.zero_le _, Nat.zero_le _⟩ rfl (Nat.le_of_ble_eq_true rfl) [0] (by decide) rfl (kfc gM_f kfn0) (gs1 := [gM Y ma m_now m_sav m_sc v4.2 m_shf m_stp m_que m_qd m_qx m_qy m_met m_per m_row m_det m_h]) rfl 0 6 rfl rfl rfl dX6_addEdge_42 ?_
    obtain rfl := Option.some.inj h
    exact hret _ _ dX6_addEdge_45 rfl
  · have h := kif_f c3 h
    refine kw_aload_n hX 8 dX6_addEdge_8 rfl 0 rfl ?_
    refine kw_iload_n hX 9 dX6_addEdge_9 rfl 2 rfl ?_
    obtain ⟨v6, hc7, h⟩ := kb_some h
    refine kw_callV_I hX 10 (As := [.int a2]) (rest := []) (kX6_isVertex (kx_l X) Y ma m_now m_sav m_sc m_err m_shf m_stp m_que m_qd m_qx m_qy m_met m_per m_row m_det m_h a2 hc7) gX6_addEdge_X6_isVertex rfl 1 rfl hdV_X6_isVertex ⟨rfl, rfl⟩ ⟨by decide, by decide⟩ ⟨Nat.zero_le _, Nat.zero_le _⟩ rfl (Nat.le_of_ble_eq_true rfl) [0] (by decide) rfl (kfc rfl kfn0) (gs1 := [gM Y ma m_now m_sav m_sc m_err m_shf m_stp m_que m_qd m_qx m_qy m_met m_per m_row m_det m_h]) rfl 0 6 rfl rfl rfl dX6_addEdge_10 ?_
    refine kw_if_eq hX 13 39 dX6_addEdge_13 (by decide) (fun c8 => ?_) (fun c8 => ?_)
    · have h := kif_t c8 h
      refine kw_aload_n hX 39 dX6_addEdge_39 rfl 0 rfl ?_
      refine kw_bipush hX 40 dX6_addEdge_40 kcb_m2 ?_
      obtain ⟨v9, hc10, h⟩ := kb_some h
      refine kw_callV_I hX 42 (As := [.int (-2)]) (rest := []) (kX6_error (kx_l X) Y ma m_now m_sav m_sc m_err m_shf m_stp m_que m_qd m_qx m_qy m_met m_per m_row m_det m_h (-2) hc10) gX6_addEdge_X6_error rfl 1 rfl hdV_X6_error ⟨rfl, rfl⟩ ⟨by decide, by decide⟩ ⟨Nat.zero_le _, Nat.zero_le _⟩ rfl (Nat.le_of_ble_eq_true rfl) [0] (by decide) rfl (kfc gM_f kfn0) (gs1 := [gM Y ma m_now m_sav m_sc v9.2 m_shf m_stp m_que m_qd m_qx m_qy m_met m_per m_row m_det m_h]) rfl 0 6 rfl rfl rfl dX6_addEdge_42 ?_
      obtain rfl := Option.some.inj h
      exact hret _ _ dX6_addEdge_45 rfl
    · have h := kif_f c8 h
      refine kw_iload_n hX 16 dX6_addEdge_16 rfl 3 rfl ?_
      refine kw_iload hX 17 dX6_addEdge_17 4 rfl ?_
      obtain ⟨v11, hc12, h⟩ := kb_some h
      refine kw_callS_I hX 19 (As := [.int a3, .int a4]) (rest := []) (kX6_isShift (kx_l X) Y a3 a4 hc12) gX6_addEdge_X6_isShift rfl 2 rfl hdS_X6_isShift ⟨rfl, rfl⟩ ⟨by decide, by decide⟩ ⟨Nat.zero_le _, Nat.zero_le _⟩ rfl (Nat.le_of_ble_eq_true rfl) [] (by decide) rfl kfn0 (gs1 := [gM Y ma m_now m_sav m_sc m_err m_shf m_stp m_que m_qd m_qx m_qy m_met m_per m_row m_det m_h]) rfl dX6_addEdge_19 ?_
      refine kw_if_eq hX 22 39 dX6_addEdge_22 (by decide) (fun c13 => ?_) (fun c13 => ?_)
      · have h := kif_t c13 h
        refine kw_aload_n hX 39 dX6_addEdge_39 rfl 0 rfl ?_
        refine kw_bipush hX 40 dX6_addEdge_40 kcb_m2 ?_
        obtain ⟨v14, hc15, h⟩ := kb_some h
        refine kw_callV_I hX 42 (As := [.int (-2)]) (rest := []) (kX6_error (kx_l X) Y ma m_now m_sav m_sc m_err m_shf m_stp m_que m_qd m_qx m_qy m_met m_per m_row m_det m_h (-2) hc15) gX6_addEdge_X6_error rfl 1 rfl hdV_X6_error ⟨rfl, rfl⟩ ⟨by decide, by decide⟩ ⟨Nat.zero_le _, Nat.zero_le _⟩ rfl (Nat.le_of_ble_eq_true rfl) [0] (by decide) rfl (kfc gM_f kfn0) (gs1 := [gM Y ma m_now m_sav m_sc v14.2 m_shf m_stp m_que m_qd m_qx m_qy m_met m_per m_row m_det m_h]) rfl 0 6 rfl rfl rfl dX6_addEdge_42 ?_
        obtain rfl := Option.some.inj h
        exact hret _ _ dX6_addEdge_45 rfl
      · have h := kif_f c13 h
        refine kw_iload_n hX 25 dX6_addEdge_25 rfl 1 rfl ?_
        refine kw_iload_n hX 26 dX6_addEdge_26 rfl 2 rfl ?_
        refine kw_icmp_ne hX 27 46 dX6_addEdge_27 (by decide) (fun c16 => ?_) (fun c16 => ?_)
        · have h := kif_f c16 h
          refine kw_aload_n hX 46 dX6_addEdge_46 rfl 0 rfl ?_
          refine kw_iload_n hX 47 dX6_addEdge_47 rfl 1 rfl ?_
          refine kw_iload_n hX 48 dX6_addEdge_48 rfl 2 rfl ?_
          refine kw_iload_n hX 49 dX6_addEdge_49 rfl 3 rfl ?_
          refine kw_iload hX 50 dX6_addEdge_50 4 rfl ?_
          obtain ⟨v17, hc18, h⟩ := kb_some h
          refine kw_callV_I hX 52 (As := [.int a1, .int a2, .int a3, .int a4]) (rest := []) (kX6_find (kx_l X) Y ma m_now m_sav m_sc m_err m_shf m_stp m_que m_qd m_qx m_qy m_met m_per m_row m_det m_h a1 a2 a3 a4 hc18) gX6_addEdge_X6_find rfl 4 rfl hdV_X6_find ⟨rfl, rfl⟩ ⟨by decide, by decide⟩ ⟨Nat.zero_le _, Nat.zero_le _⟩ rfl (Nat.le_of_ble_eq_true rfl) [0] (by decide) rfl (kfc rfl kfn0) (gs1 := [gM Y ma m_now m_sav m_sc m_err m_shf m_stp m_que m_qd m_qx m_qy m_met m_per m_row m_det m_h]) rfl 0 6 rfl rfl rfl dX6_addEdge_52 ?_
          refine kw_iconst hX 55 dX6_addEdge_55 kci_m1 ?_
          refine kw_icmp_eq hX 56 66 dX6_addEdge_56 (by decide) (fun c19 => ?_) (fun c19 => ?_)
          · have h := kif_t c19 h
            refine kw_aload_n hX 66 dX6_addEdge_66 rfl 0 rfl ?_
            refine kw_get hX 67 (C := RX6) (T := TX6) (N := 15) hin6 0 f0 (fun _ h => h) 0 rfl rfl (by decide) rfl dX6_addEdge_67 ?_
            refine kw_iconst hX 70 dX6_addEdge_70 kci_1 ?_
            obtain ⟨g20, h⟩ := kgd_some h
            refine kw_iald hX 71 1 rfl g20 dX6_addEdge_71 ?_
            refine kw_bipush hX 72 dX6_addEdge_72 kcb_12 ?_
            refine kw_icmp_ne hX 74 84 dX6_addEdge_74 (by decide) (fun c21 => ?_) (fun c21 => ?_)
            · have h := kif_f c21 h
              refine kw_aload_n hX 84 dX6_addEdge_84 rfl 0 rfl ?_
              obtain ⟨v22, hc23, h⟩ := kb_some h
              refine kw_callV_V hX 85 (As := []) (rest := []) (kX6_save (kx_l X) Y ma m_now m_sav m_sc m_err m_shf m_stp m_que m_qd m_qx m_qy m_met m_per m_row m_det m_h hc23) gX6_addEdge_X6_save rfl 0 rfl hdV_X6_save ⟨rfl, rfl⟩ ⟨by decide, by decide⟩ ⟨Nat.zero_le _, Nat.zero_le _⟩ rfl (Nat.le_of_ble_eq_true rfl) [0] (by decide) rfl (kfc gM_f kfn0) (gs1 := [gM Y ma m_now v22.1 v22.2 m_err m_shf m_stp m_que m_qd m_qx m_qy m_met m_per m_row m_det m_h]) rfl 0 6 rfl rfl rfl dX6_addEdge_85 ?_
              refine kw_iconst hX 88 dX6_addEdge_88 kci_2 ?_
              refine kw_iconst hX 89 dX6_addEdge_89 kci_4 ?_
              refine kw_aload_n hX 90 dX6_addEdge_90 rfl 0 rfl ?_
              refine kw_get hX 91 (C := RX6) (T := TX6) (N := 15) hin6 0 f0 (fun _ h => h) 0 rfl rfl (by decide) rfl dX6_addEdge_91 ?_
              refine kw_iconst hX 94 dX6_addEdge_94 kci_1 ?_
              obtain ⟨g24, h⟩ := kgd_some h
              refine kw_iald hX 95 1 rfl g24 dX6_addEdge_95 ?_
              refine kw_imul hX 96 dX6_addEdge_96 ?_
              refine kw_iadd hX 97 dX6_addEdge_97 ?_
              refine kw_istore (lv' := [(5, .int (2 + (4 * (m_now (1 : Int32).toNatClampNeg)))), (0, .ref (ma 0)), (1, .int a1), (2, .int a2), (3, .int a3), (4, .int a4)]) hX 98 dX6_addEdge_98 (by decide) rfl ?_
              refine kw_aload_n hX 100 dX6_addEdge_100 rfl 1 rfl ?_
              refine kw_get hX 101 (C := RX6) (T := TX6) (N := 15) hin6 0 f0 (fun _ h => h) 0 rfl rfl (by decide) rfl dX6_addEdge_101 ?_
              refine kw_iload hX 104 dX6_addEdge_104 0 rfl ?_
              refine kw_iload_n hX 106 dX6_addEdge_106 rfl 2 rfl ?_
              obtain ⟨g25, h⟩ := kgd_some h
              refine kw_iast hX 107 (ws' := (kfl [gM Y ma (upd m_now ((2 + (4 * (m_now (1 : Int32).toNatClampNeg))) : Int32).toNatClampNeg a1) v22.1 v22.2 m_err m_shf m_stp m_que m_qd m_qx m_qy m_met m_per m_row m_det m_h])) 1 rfl g25 rfl dX6_addEdge_107 ?_
              refine kw_aload_n hX 108 dX6_addEdge_108 rfl 1 rfl ?_
              refine kw_get hX 109 (C := RX6) (T := TX6) (N := 15) hin6 0 f0 (fun _ h => h) 0 rfl rfl (by decide) rfl dX6_addEdge_109 ?_
              refine kw_iload hX 112 dX6_addEdge_112 0 rfl ?_
              refine kw_iconst hX 114 dX6_addEdge_114 kci_1 ?_
              refine kw_iadd hX 115 dX6_addEdge_115 ?_
              refine kw_iload_n hX 116 dX6_addEdge_116 rfl 3 rfl ?_
              obtain ⟨g26, h⟩ := kgd_some h
              refine kw_iast hX 117 (ws' := (kfl [gM Y ma (upd (upd m_now ((2 + (4 * (m_now (1 : Int32).toNatClampNeg))) : Int32).toNatClampNeg a1) (((2 + (4 * (m_now (1 : Int32).toNatClampNeg))) + 1) : Int32).toNatClampNeg a2) v22.1 v22.2 m_err m_shf m_stp m_que m_qd m_qx m_qy m_met m_per m_row m_det m_h])) 1 rfl g26 rfl dX6_addEdge_117 ?_
              refine kw_aload_n hX 118 dX6_addEdge_118 rfl 1 rfl ?_
              refine kw_get hX 119 (C := RX6) (T := TX6) (N := 15) hin6 0 f0 (fun _ h => h) 0 rfl rfl (by decide) rfl dX6_addEdge_119 ?_
              refine kw_iload hX 122 dX6_addEdge_122 0 rfl ?_
              refine kw_iconst hX 124 dX6_addEdge_124 kci_2 ?_
              refine kw_iadd hX 125 dX6_addEdge_125 ?_
              refine kw_iload_n hX 126 dX6_addEdge_126 rfl 4 rfl ?_
              obtain ⟨g27, h⟩ := kgd_some h
              refine kw_iast hX 127 (ws' := (kfl [gM Y ma (upd (upd (upd m_now ((2 + (4 * (m_now (1 : Int32).toNatClampNeg))) : Int32).toNatClampNeg a1) (((2 + (4 * (m_now (1 : Int32).toNatClampNeg))) + 1) : Int32).toNatClampNeg a2) (((2 + (4 * (m_now (1 : Int32).toNatClampNeg))) + 2) : Int32).toNatClampNeg a3) v22.1 v22.2 m_err m_shf m_stp m_que m_qd m_qx m_qy m_met m_per m_row m_det m_h])) 1 rfl g27 rfl dX6_addEdge_127 ?_
              refine kw_aload_n hX 128 dX6_addEdge_128 rfl 1 rfl ?_
              refine kw_get hX 129 (C := RX6) (T := TX6) (N := 15) hin6 0 f0 (fun _ h => h) 0 rfl rfl (by decide) rfl dX6_addEdge_129 ?_
              refine kw_iload hX 132 dX6_addEdge_132 0 rfl ?_
              refine kw_iconst hX 134 dX6_addEdge_134 kci_3 ?_
              refine kw_iadd hX 135 dX6_addEdge_135 ?_
              refine kw_iload hX 136 dX6_addEdge_136 5 rfl ?_
              obtain ⟨g28, h⟩ := kgd_some h
              refine kw_iast hX 138 (ws' := (kfl [gM Y ma (upd (upd (upd (upd m_now ((2 + (4 * (m_now (1 : Int32).toNatClampNeg))) : Int32).toNatClampNeg a1) (((2 + (4 * (m_now (1 : Int32).toNatClampNeg))) + 1) : Int32).toNatClampNeg a2) (((2 + (4 * (m_now (1 : Int32).toNatClampNeg))) + 2) : Int32).toNatClampNeg a3) (((2 + (4 * (m_now (1 : Int32).toNatClampNeg))) + 3) : Int32).toNatClampNeg a4) v22.1 v22.2 m_err m_shf m_stp m_que m_qd m_qx m_qy m_met m_per m_row m_det m_h])) 1 rfl g28 rfl dX6_addEdge_138 ?_
              refine kw_aload_n hX 139 dX6_addEdge_139 rfl 1 rfl ?_
              refine kw_get hX 140 (C := RX6) (T := TX6) (N := 15) hin6 0 f0 (fun _ h => h) 0 rfl rfl (by decide) rfl dX6_addEdge_140 ?_
              refine kw_iconst hX 143 dX6_addEdge_143 kci_1 ?_
              refine kw_dup2 hX 144 dX6_addEdge_144 rfl rfl ?_
              obtain ⟨g29, h⟩ := kgd_some h
              refine kw_iald hX 145 1 rfl g29 dX6_addEdge_145 ?_
              refine kw_iconst hX 146 dX6_addEdge_146 kci_1 ?_
              refine kw_iadd hX 147 dX6_addEdge_147 ?_
              obtain ⟨g30, h⟩ := kgd_some h
              refine kw_iast hX 148 (ws' := (kfl [gM Y ma (upd (upd (upd (upd (upd m_now ((2 + (4 * (m_now (1 : Int32).toNatClampNeg))) : Int32).toNatClampNeg a1) (((2 + (4 * (m_now (1 : Int32).toNatClampNeg))) + 1) : Int32).toNatClampNeg a2) (((2 + (4 * (m_now (1 : Int32).toNatClampNeg))) + 2) : Int32).toNatClampNeg a3) (((2 + (4 * (m_now (1 : Int32).toNatClampNeg))) + 3) : Int32).toNatClampNeg a4) (1 : Int32).toNatClampNeg (((upd (upd (upd (upd m_now ((2 + (4 * (m_now (1 : Int32).toNatClampNeg))) : Int32).toNatClampNeg a1) (((2 + (4 * (m_now (1 : Int32).toNatClampNeg))) + 1) : Int32).toNatClampNeg a2) (((2 + (4 * (m_now (1 : Int32).toNatClampNeg))) + 2) : Int32).toNatClampNeg a3) (((2 + (4 * (m_now (1 : Int32).toNatClampNeg))) + 3) : Int32).toNatClampNeg a4) (1 : Int32).toNatClampNeg) + 1)) v22.1 v22.2 m_err m_shf m_stp m_que m_qd m_qx m_qy m_met m_per m_row m_det m_h])) 1 rfl g30 rfl dX6_addEdge_148 ?_
              refine kw_aload_n hX 149 dX6_addEdge_149 rfl 1 rfl ?_
              refine kw_get hX 150 (C := RX6) (T := TX6) (N := 15) hin6 0 f0 (fun _ h => h) 0 rfl rfl (by decide) rfl dX6_addEdge_150 ?_
              refine kw_iconst hX 153 dX6_addEdge_153 kci_1 ?_
              obtain ⟨g31, h⟩ := kgd_some h
              refine kw_iald hX 154 1 rfl g31 dX6_addEdge_154 ?_
              refine kw_iconst hX 155 dX6_addEdge_155 kci_1 ?_
              refine kw_isub hX 156 dX6_addEdge_156 ?_
              obtain rfl := Option.some.inj h
              exact hret _ _ dX6_addEdge_157 rfl
            · have h := kif_t c21 h
              refine kw_aload_n hX 77 dX6_addEdge_77 rfl 0 rfl ?_
              refine kw_bipush hX 78 dX6_addEdge_78 kcb_m4 ?_
              obtain ⟨v32, hc33, h⟩ := kb_some h
              refine kw_callV_I hX 80 (As := [.int (-4)]) (rest := []) (kX6_error (kx_l X) Y ma m_now m_sav m_sc m_err m_shf m_stp m_que m_qd m_qx m_qy m_met m_per m_row m_det m_h (-4) hc33) gX6_addEdge_X6_error rfl 1 rfl hdV_X6_error ⟨rfl, rfl⟩ ⟨by decide, by decide⟩ ⟨Nat.zero_le _, Nat.zero_le _⟩ rfl (Nat.le_of_ble_eq_true rfl) [0] (by decide) rfl (kfc gM_f kfn0) (gs1 := [gM Y ma m_now m_sav m_sc v32.2 m_shf m_stp m_que m_qd m_qx m_qy m_met m_per m_row m_det m_h]) rfl 0 6 rfl rfl rfl dX6_addEdge_80 ?_
              obtain rfl := Option.some.inj h
              exact hret _ _ dX6_addEdge_83 rfl
          · have h := kif_f c19 h
            refine kw_aload_n hX 59 dX6_addEdge_59 rfl 0 rfl ?_
            refine kw_bipush hX 60 dX6_addEdge_60 kcb_m3 ?_
            obtain ⟨v34, hc35, h⟩ := kb_some h
            refine kw_callV_I hX 62 (As := [.int (-3)]) (rest := []) (kX6_error (kx_l X) Y ma m_now m_sav m_sc m_err m_shf m_stp m_que m_qd m_qx m_qy m_met m_per m_row m_det m_h (-3) hc35) gX6_addEdge_X6_error rfl 1 rfl hdV_X6_error ⟨rfl, rfl⟩ ⟨by decide, by decide⟩ ⟨Nat.zero_le _, Nat.zero_le _⟩ rfl (Nat.le_of_ble_eq_true rfl) [0] (by decide) rfl (kfc gM_f kfn0) (gs1 := [gM Y ma m_now m_sav m_sc v34.2 m_shf m_stp m_que m_qd m_qx m_qy m_met m_per m_row m_det m_h]) rfl 0 6 rfl rfl rfl dX6_addEdge_62 ?_
            obtain rfl := Option.some.inj h
            exact hret _ _ dX6_addEdge_65 rfl
        · have h := kif_t c16 h
          refine kw_iload_n hX 30 dX6_addEdge_30 rfl 3 rfl ?_
          refine kw_if_ne hX 31 46 dX6_addEdge_31 (by decide) (fun c36 => ?_) (fun c36 => ?_)
          · have h := kif_f c36 h
            refine kw_aload_n hX 46 dX6_addEdge_46 rfl 0 rfl ?_
            refine kw_iload_n hX 47 dX6_addEdge_47 rfl 1 rfl ?_
            refine kw_iload_n hX 48 dX6_addEdge_48 rfl 2 rfl ?_
            refine kw_iload_n hX 49 dX6_addEdge_49 rfl 3 rfl ?_
            refine kw_iload hX 50 dX6_addEdge_50 4 rfl ?_
            obtain ⟨v37, hc38, h⟩ := kb_some h
            refine kw_callV_I hX 52 (As := [.int a1, .int a2, .int a3, .int a4]) (rest := []) (kX6_find (kx_l X) Y ma m_now m_sav m_sc m_err m_shf m_stp m_que m_qd m_qx m_qy m_met m_per m_row m_det m_h a1 a2 a3 a4 hc38) gX6_addEdge_X6_find rfl 4 rfl hdV_X6_find ⟨rfl, rfl⟩ ⟨by decide, by decide⟩ ⟨Nat.zero_le _, Nat.zero_le _⟩ rfl (Nat.le_of_ble_eq_true rfl) [0] (by decide) rfl (kfc rfl kfn0) (gs1 := [gM Y ma m_now m_sav m_sc m_err m_shf m_stp m_que m_qd m_qx m_qy m_met m_per m_row m_det m_h]) rfl 0 6 rfl rfl rfl dX6_addEdge_52 ?_
            refine kw_iconst hX 55 dX6_addEdge_55 kci_m1 ?_
            refine kw_icmp_eq hX 56 66 dX6_addEdge_56 (by decide) (fun c39 => ?_) (fun c39 => ?_)
            · have h := kif_t c39 h
              refine kw_aload_n hX 66 dX6_addEdge_66 rfl 0 rfl ?_
              refine kw_get hX 67 (C := RX6) (T := TX6) (N := 15) hin6 0 f0 (fun _ h => h) 0 rfl rfl (by decide) rfl dX6_addEdge_67 ?_
              refine kw_iconst hX 70 dX6_addEdge_70 kci_1 ?_
              obtain ⟨g40, h⟩ := kgd_some h
              refine kw_iald hX 71 1 rfl g40 dX6_addEdge_71 ?_
              refine kw_bipush hX 72 dX6_addEdge_72 kcb_12 ?_
              refine kw_icmp_ne hX 74 84 dX6_addEdge_74 (by decide) (fun c41 => ?_) (fun c41 => ?_)
              · have h := kif_f c41 h
                refine kw_aload_n hX 84 dX6_addEdge_84 rfl 0 rfl ?_
                obtain ⟨v42, hc43, h⟩ := kb_some h
                refine kw_callV_V hX 85 (As := []) (rest := []) (kX6_save (kx_l X) Y ma m_now m_sav m_sc m_err m_shf m_stp m_que m_qd m_qx m_qy m_met m_per m_row m_det m_h hc43) gX6_addEdge_X6_save rfl 0 rfl hdV_X6_save ⟨rfl, rfl⟩ ⟨by decide, by decide⟩ ⟨Nat.zero_le _, Nat.zero_le _⟩ rfl (Nat.le_of_ble_eq_true rfl) [0] (by decide) rfl (kfc gM_f kfn0) (gs1 := [gM Y ma m_now v42.1 v42.2 m_err m_shf m_stp m_que m_qd m_qx m_qy m_met m_per m_row m_det m_h]) rfl 0 6 rfl rfl rfl dX6_addEdge_85 ?_
                refine kw_iconst hX 88 dX6_addEdge_88 kci_2 ?_
                refine kw_iconst hX 89 dX6_addEdge_89 kci_4 ?_
                refine kw_aload_n hX 90 dX6_addEdge_90 rfl 0 rfl ?_
                refine kw_get hX 91 (C := RX6) (T := TX6) (N := 15) hin6 0 f0 (fun _ h => h) 0 rfl rfl (by decide) rfl dX6_addEdge_91 ?_
                refine kw_iconst hX 94 dX6_addEdge_94 kci_1 ?_
                obtain ⟨g44, h⟩ := kgd_some h
                refine kw_iald hX 95 1 rfl g44 dX6_addEdge_95 ?_
                refine kw_imul hX 96 dX6_addEdge_96 ?_
                refine kw_iadd hX 97 dX6_addEdge_97 ?_
                refine kw_istore (lv' := [(5, .int (2 + (4 * (m_now (1 : Int32).toNatClampNeg)))), (0, .ref (ma 0)), (1, .int a1), (2, .int a2), (3, .int a3), (4, .int a4)]) hX 98 dX6_addEdge_98 (by decide) rfl ?_
                refine kw_aload_n hX 100 dX6_addEdge_100 rfl 1 rfl ?_
                refine kw_get hX 101 (C := RX6) (T := TX6) (N := 15) hin6 0 f0 (fun _ h => h) 0 rfl rfl (by decide) rfl dX6_addEdge_101 ?_
                refine kw_iload hX 104 dX6_addEdge_104 0 rfl ?_
                refine kw_iload_n hX 106 dX6_addEdge_106 rfl 2 rfl ?_
                obtain ⟨g45, h⟩ := kgd_some h
                refine kw_iast hX 107 (ws' := (kfl [gM Y ma (upd m_now ((2 + (4 * (m_now (1 : Int32).toNatClampNeg))) : Int32).toNatClampNeg a1) v42.1 v42.2 m_err m_shf m_stp m_que m_qd m_qx m_qy m_met m_per m_row m_det m_h])) 1 rfl g45 rfl dX6_addEdge_107 ?_
                refine kw_aload_n hX 108 dX6_addEdge_108 rfl 1 rfl ?_
                refine kw_get hX 109 (C := RX6) (T := TX6) (N := 15) hin6 0 f0 (fun _ h => h) 0 rfl rfl (by decide) rfl dX6_addEdge_109 ?_
                refine kw_iload hX 112 dX6_addEdge_112 0 rfl ?_
                refine kw_iconst hX 114 dX6_addEdge_114 kci_1 ?_
                refine kw_iadd hX 115 dX6_addEdge_115 ?_
                refine kw_iload_n hX 116 dX6_addEdge_116 rfl 3 rfl ?_
                obtain ⟨g46, h⟩ := kgd_some h
                refine kw_iast hX 117 (ws' := (kfl [gM Y ma (upd (upd m_now ((2 + (4 * (m_now (1 : Int32).toNatClampNeg))) : Int32).toNatClampNeg a1) (((2 + (4 * (m_now (1 : Int32).toNatClampNeg))) + 1) : Int32).toNatClampNeg a2) v42.1 v42.2 m_err m_shf m_stp m_que m_qd m_qx m_qy m_met m_per m_row m_det m_h])) 1 rfl g46 rfl dX6_addEdge_117 ?_
                refine kw_aload_n hX 118 dX6_addEdge_118 rfl 1 rfl ?_
                refine kw_get hX 119 (C := RX6) (T := TX6) (N := 15) hin6 0 f0 (fun _ h => h) 0 rfl rfl (by decide) rfl dX6_addEdge_119 ?_
                refine kw_iload hX 122 dX6_addEdge_122 0 rfl ?_
                refine kw_iconst hX 124 dX6_addEdge_124 kci_2 ?_
                refine kw_iadd hX 125 dX6_addEdge_125 ?_
                refine kw_iload_n hX 126 dX6_addEdge_126 rfl 4 rfl ?_
                obtain ⟨g47, h⟩ := kgd_some h
                refine kw_iast hX 127 (ws' := (kfl [gM Y ma (upd (upd (upd m_now ((2 + (4 * (m_now (1 : Int32).toNatClampNeg))) : Int32).toNatClampNeg a1) (((2 + (4 * (m_now (1 : Int32).toNatClampNeg))) + 1) : Int32).toNatClampNeg a2) (((2 + (4 * (m_now (1 : Int32).toNatClampNeg))) + 2) : Int32).toNatClampNeg a3) v42.1 v42.2 m_err m_shf m_stp m_que m_qd m_qx m_qy m_met m_per m_row m_det m_h])) 1 rfl g47 rfl dX6_addEdge_127 ?_
                refine kw_aload_n hX 128 dX6_addEdge_128 rfl 1 rfl ?_
                refine kw_get hX 129 (C := RX6) (T := TX6) (N := 15) hin6 0 f0 (fun _ h => h) 0 rfl rfl (by decide) rfl dX6_addEdge_129 ?_
                refine kw_iload hX 132 dX6_addEdge_132 0 rfl ?_
                refine kw_iconst hX 134 dX6_addEdge_134 kci_3 ?_
                refine kw_iadd hX 135 dX6_addEdge_135 ?_
                refine kw_iload hX 136 dX6_addEdge_136 5 rfl ?_
                obtain ⟨g48, h⟩ := kgd_some h
                refine kw_iast hX 138 (ws' := (kfl [gM Y ma (upd (upd (upd (upd m_now ((2 + (4 * (m_now (1 : Int32).toNatClampNeg))) : Int32).toNatClampNeg a1) (((2 + (4 * (m_now (1 : Int32).toNatClampNeg))) + 1) : Int32).toNatClampNeg a2) (((2 + (4 * (m_now (1 : Int32).toNatClampNeg))) + 2) : Int32).toNatClampNeg a3) (((2 + (4 * (m_now (1 : Int32).toNatClampNeg))) + 3) : Int32).toNatClampNeg a4) v42.1 v42.2 m_err m_shf m_stp m_que m_qd m_qx m_qy m_met m_per m_row m_det m_h])) 1 rfl g48 rfl dX6_addEdge_138 ?_
                refine kw_aload_n hX 139 dX6_addEdge_139 rfl 1 rfl ?_
                refine kw_get hX 140 (C := RX6) (T := TX6) (N := 15) hin6 0 f0 (fun _ h => h) 0 rfl rfl (by decide) rfl dX6_addEdge_140 ?_
                refine kw_iconst hX 143 dX6_addEdge_143 kci_1 ?_
                refine kw_dup2 hX 144 dX6_addEdge_144 rfl rfl ?_
                obtain ⟨g49, h⟩ := kgd_some h
                refine kw_iald hX 145 1 rfl g49 dX6_addEdge_145 ?_
                refine kw_iconst hX 146 dX6_addEdge_146 kci_1 ?_
                refine kw_iadd hX 147 dX6_addEdge_147 ?_
                obtain ⟨g50, h⟩ := kgd_some h
                refine kw_iast hX 148 (ws' := (kfl [gM Y ma (upd (upd (upd (upd (upd m_now ((2 + (4 * (m_now (1 : Int32).toNatClampNeg))) : Int32).toNatClampNeg a1) (((2 + (4 * (m_now (1 : Int32).toNatClampNeg))) + 1) : Int32).toNatClampNeg a2) (((2 + (4 * (m_now (1 : Int32).toNatClampNeg))) + 2) : Int32).toNatClampNeg a3) (((2 + (4 * (m_now (1 : Int32).toNatClampNeg))) + 3) : Int32).toNatClampNeg a4) (1 : Int32).toNatClampNeg (((upd (upd (upd (upd m_now ((2 + (4 * (m_now (1 : Int32).toNatClampNeg))) : Int32).toNatClampNeg a1) (((2 + (4 * (m_now (1 : Int32).toNatClampNeg))) + 1) : Int32).toNatClampNeg a2) (((2 + (4 * (m_now (1 : Int32).toNatClampNeg))) + 2) : Int32).toNatClampNeg a3) (((2 + (4 * (m_now (1 : Int32).toNatClampNeg))) + 3) : Int32).toNatClampNeg a4) (1 : Int32).toNatClampNeg) + 1)) v42.1 v42.2 m_err m_shf m_stp m_que m_qd m_qx m_qy m_met m_per m_row m_det m_h])) 1 rfl g50 rfl dX6_addEdge_148 ?_
                refine kw_aload_n hX 149 dX6_addEdge_149 rfl 1 rfl ?_
                refine kw_get hX 150 (C := RX6) (T := TX6) (N := 15) hin6 0 f0 (fun _ h => h) 0 rfl rfl (by decide) rfl dX6_addEdge_150 ?_
                refine kw_iconst hX 153 dX6_addEdge_153 kci_1 ?_
                obtain ⟨g51, h⟩ := kgd_some h
                refine kw_iald hX 154 1 rfl g51 dX6_addEdge_154 ?_
                refine kw_iconst hX 155 dX6_addEdge_155 kci_1 ?_
                refine kw_isub hX 156 dX6_addEdge_156 ?_
                obtain rfl := Option.some.inj h
                exact hret _ _ dX6_addEdge_157 rfl
              · have h := kif_t c41 h
                refine kw_aload_n hX 77 dX6_addEdge_77 rfl 0 rfl ?_
                refine kw_bipush hX 78 dX6_addEdge_78 kcb_m4 ?_
                obtain ⟨v52, hc53, h⟩ := kb_some h
                refine kw_callV_I hX 80 (As := [.int (-4)]) (rest := []) (kX6_error (kx_l X) Y ma m_now m_sav m_sc m_err m_shf m_stp m_que m_qd m_qx m_qy m_met m_per m_row m_det m_h (-4) hc53) gX6_addEdge_X6_error rfl 1 rfl hdV_X6_error ⟨rfl, rfl⟩ ⟨by decide, by decide⟩ ⟨Nat.zero_le _, Nat.zero_le _⟩ rfl (Nat.le_of_ble_eq_true rfl) [0] (by decide) rfl (kfc gM_f kfn0) (gs1 := [gM Y ma m_now m_sav m_sc v52.2 m_shf m_stp m_que m_qd m_qx m_qy m_met m_per m_row m_det m_h]) rfl 0 6 rfl rfl rfl dX6_addEdge_80 ?_
                obtain rfl := Option.some.inj h
                exact hret _ _ dX6_addEdge_83 rfl
            · have h := kif_f c39 h
              refine kw_aload_n hX 59 dX6_addEdge_59 rfl 0 rfl ?_
              refine kw_bipush hX 60 dX6_addEdge_60 kcb_m3 ?_
              obtain ⟨v54, hc55, h⟩ := kb_some h
              refine kw_callV_I hX 62 (As := [.int (-3)]) (rest := []) (kX6_error (kx_l X) Y ma m_now m_sav m_sc m_err m_shf m_stp m_que m_qd m_qx m_qy m_met m_per m_row m_det m_h (-3) hc55) gX6_addEdge_X6_error rfl 1 rfl hdV_X6_error ⟨rfl, rfl⟩ ⟨by decide, by decide⟩ ⟨Nat.zero_le _, Nat.zero_le _⟩ rfl (Nat.le_of_ble_eq_true rfl) [0] (by decide) rfl (kfc gM_f kfn0) (gs1 := [gM Y ma m_now m_sav m_sc v54.2 m_shf m_stp m_que m_qd m_qx m_qy m_met m_per m_row m_det m_h]) rfl 0 6 rfl rfl rfl dX6_addEdge_62 ?_
              obtain rfl := Option.some.inj h
              exact hret _ _ dX6_addEdge_65 rfl
          · have h := kif_t c36 h
            refine kw_iload hX 34 dX6_addEdge_34 4 rfl ?_
            refine kw_if_ne hX 36 46 dX6_addEdge_36 (by decide) (fun c56 => ?_) (fun c56 => ?_)
            · have h := kif_f c56 h
              refine kw_aload_n hX 46 dX6_addEdge_46 rfl 0 rfl ?_
              refine kw_iload_n hX 47 dX6_addEdge_47 rfl 1 rfl ?_
              refine kw_iload_n hX 48 dX6_addEdge_48 rfl 2 rfl ?_
              refine kw_iload_n hX 49 dX6_addEdge_49 rfl 3 rfl ?_
              refine kw_iload hX 50 dX6_addEdge_50 4 rfl ?_
              obtain ⟨v57, hc58, h⟩ := kb_some h
              refine kw_callV_I hX 52 (As := [.int a1, .int a2, .int a3, .int a4]) (rest := []) (kX6_find (kx_l X) Y ma m_now m_sav m_sc m_err m_shf m_stp m_que m_qd m_qx m_qy m_met m_per m_row m_det m_h a1 a2 a3 a4 hc58) gX6_addEdge_X6_find rfl 4 rfl hdV_X6_find ⟨rfl, rfl⟩ ⟨by decide, by decide⟩ ⟨Nat.zero_le _, Nat.zero_le _⟩ rfl (Nat.le_of_ble_eq_true rfl) [0] (by decide) rfl (kfc rfl kfn0) (gs1 := [gM Y ma m_now m_sav m_sc m_err m_shf m_stp m_que m_qd m_qx m_qy m_met m_per m_row m_det m_h]) rfl 0 6 rfl rfl rfl dX6_addEdge_52 ?_
              refine kw_iconst hX 55 dX6_addEdge_55 kci_m1 ?_
              refine kw_icmp_eq hX 56 66 dX6_addEdge_56 (by decide) (fun c59 => ?_) (fun c59 => ?_)
              · have h := kif_t c59 h
                refine kw_aload_n hX 66 dX6_addEdge_66 rfl 0 rfl ?_
                refine kw_get hX 67 (C := RX6) (T := TX6) (N := 15) hin6 0 f0 (fun _ h => h) 0 rfl rfl (by decide) rfl dX6_addEdge_67 ?_
                refine kw_iconst hX 70 dX6_addEdge_70 kci_1 ?_
                obtain ⟨g60, h⟩ := kgd_some h
                refine kw_iald hX 71 1 rfl g60 dX6_addEdge_71 ?_
                refine kw_bipush hX 72 dX6_addEdge_72 kcb_12 ?_
                refine kw_icmp_ne hX 74 84 dX6_addEdge_74 (by decide) (fun c61 => ?_) (fun c61 => ?_)
                · have h := kif_f c61 h
                  refine kw_aload_n hX 84 dX6_addEdge_84 rfl 0 rfl ?_
                  obtain ⟨v62, hc63, h⟩ := kb_some h
                  refine kw_callV_V hX 85 (As := []) (rest := []) (kX6_save (kx_l X) Y ma m_now m_sav m_sc m_err m_shf m_stp m_que m_qd m_qx m_qy m_met m_per m_row m_det m_h hc63) gX6_addEdge_X6_save rfl 0 rfl hdV_X6_save ⟨rfl, rfl⟩ ⟨by decide, by decide⟩ ⟨Nat.zero_le _, Nat.zero_le _⟩ rfl (Nat.le_of_ble_eq_true rfl) [0] (by decide) rfl (kfc gM_f kfn0) (gs1 := [gM Y ma m_now v62.1 v62.2 m_err m_shf m_stp m_que m_qd m_qx m_qy m_met m_per m_row m_det m_h]) rfl 0 6 rfl rfl rfl dX6_addEdge_85 ?_
                  refine kw_iconst hX 88 dX6_addEdge_88 kci_2 ?_
                  refine kw_iconst hX 89 dX6_addEdge_89 kci_4 ?_
                  refine kw_aload_n hX 90 dX6_addEdge_90 rfl 0 rfl ?_
                  refine kw_get hX 91 (C := RX6) (T := TX6) (N := 15) hin6 0 f0 (fun _ h => h) 0 rfl rfl (by decide) rfl dX6_addEdge_91 ?_
                  refine kw_iconst hX 94 dX6_addEdge_94 kci_1 ?_
                  obtain ⟨g64, h⟩ := kgd_some h
                  refine kw_iald hX 95 1 rfl g64 dX6_addEdge_95 ?_
                  refine kw_imul hX 96 dX6_addEdge_96 ?_
                  refine kw_iadd hX 97 dX6_addEdge_97 ?_
                  refine kw_istore (lv' := [(5, .int (2 + (4 * (m_now (1 : Int32).toNatClampNeg)))), (0, .ref (ma 0)), (1, .int a1), (2, .int a2), (3, .int a3), (4, .int a4)]) hX 98 dX6_addEdge_98 (by decide) rfl ?_
                  refine kw_aload_n hX 100 dX6_addEdge_100 rfl 1 rfl ?_
                  refine kw_get hX 101 (C := RX6) (T := TX6) (N := 15) hin6 0 f0 (fun _ h => h) 0 rfl rfl (by decide) rfl dX6_addEdge_101 ?_
                  refine kw_iload hX 104 dX6_addEdge_104 0 rfl ?_
                  refine kw_iload_n hX 106 dX6_addEdge_106 rfl 2 rfl ?_
                  obtain ⟨g65, h⟩ := kgd_some h
                  refine kw_iast hX 107 (ws' := (kfl [gM Y ma (upd m_now ((2 + (4 * (m_now (1 : Int32).toNatClampNeg))) : Int32).toNatClampNeg a1) v62.1 v62.2 m_err m_shf m_stp m_que m_qd m_qx m_qy m_met m_per m_row m_det m_h])) 1 rfl g65 rfl dX6_addEdge_107 ?_
                  refine kw_aload_n hX 108 dX6_addEdge_108 rfl 1 rfl ?_
                  refine kw_get hX 109 (C := RX6) (T := TX6) (N := 15) hin6 0 f0 (fun _ h => h) 0 rfl rfl (by decide) rfl dX6_addEdge_109 ?_
                  refine kw_iload hX 112 dX6_addEdge_112 0 rfl ?_
                  refine kw_iconst hX 114 dX6_addEdge_114 kci_1 ?_
                  refine kw_iadd hX 115 dX6_addEdge_115 ?_
                  refine kw_iload_n hX 116 dX6_addEdge_116 rfl 3 rfl ?_
                  obtain ⟨g66, h⟩ := kgd_some h
                  refine kw_iast hX 117 (ws' := (kfl [gM Y ma (upd (upd m_now ((2 + (4 * (m_now (1 : Int32).toNatClampNeg))) : Int32).toNatClampNeg a1) (((2 + (4 * (m_now (1 : Int32).toNatClampNeg))) + 1) : Int32).toNatClampNeg a2) v62.1 v62.2 m_err m_shf m_stp m_que m_qd m_qx m_qy m_met m_per m_row m_det m_h])) 1 rfl g66 rfl dX6_addEdge_117 ?_
                  refine kw_aload_n hX 118 dX6_addEdge_118 rfl 1 rfl ?_
                  refine kw_get hX 119 (C := RX6) (T := TX6) (N := 15) hin6 0 f0 (fun _ h => h) 0 rfl rfl (by decide) rfl dX6_addEdge_119 ?_
                  refine kw_iload hX 122 dX6_addEdge_122 0 rfl ?_
                  refine kw_iconst hX 124 dX6_addEdge_124 kci_2 ?_
                  refine kw_iadd hX 125 dX6_addEdge_125 ?_
                  refine kw_iload_n hX 126 dX6_addEdge_126 rfl 4 rfl ?_
                  obtain ⟨g67, h⟩ := kgd_some h
                  refine kw_iast hX 127 (ws' := (kfl [gM Y ma (upd (upd (upd m_now ((2 + (4 * (m_now (1 : Int32).toNatClampNeg))) : Int32).toNatClampNeg a1) (((2 + (4 * (m_now (1 : Int32).toNatClampNeg))) + 1) : Int32).toNatClampNeg a2) (((2 + (4 * (m_now (1 : Int32).toNatClampNeg))) + 2) : Int32).toNatClampNeg a3) v62.1 v62.2 m_err m_shf m_stp m_que m_qd m_qx m_qy m_met m_per m_row m_det m_h])) 1 rfl g67 rfl dX6_addEdge_127 ?_
                  refine kw_aload_n hX 128 dX6_addEdge_128 rfl 1 rfl ?_
                  refine kw_get hX 129 (C := RX6) (T := TX6) (N := 15) hin6 0 f0 (fun _ h => h) 0 rfl rfl (by decide) rfl dX6_addEdge_129 ?_
                  refine kw_iload hX 132 dX6_addEdge_132 0 rfl ?_
                  refine kw_iconst hX 134 dX6_addEdge_134 kci_3 ?_
                  refine kw_iadd hX 135 dX6_addEdge_135 ?_
                  refine kw_iload hX 136 dX6_addEdge_136 5 rfl ?_
                  obtain ⟨g68, h⟩ := kgd_some h
                  refine kw_iast hX 138 (ws' := (kfl [gM Y ma (upd (upd (upd (upd m_now ((2 + (4 * (m_now (1 : Int32).toNatClampNeg))) : Int32).toNatClampNeg a1) (((2 + (4 * (m_now (1 : Int32).toNatClampNeg))) + 1) : Int32).toNatClampNeg a2) (((2 + (4 * (m_now (1 : Int32).toNatClampNeg))) + 2) : Int32).toNatClampNeg a3) (((2 + (4 * (m_now (1 : Int32).toNatClampNeg))) + 3) : Int32).toNatClampNeg a4) v62.1 v62.2 m_err m_shf m_stp m_que m_qd m_qx m_qy m_met m_per m_row m_det m_h])) 1 rfl g68 rfl dX6_addEdge_138 ?_
                  refine kw_aload_n hX 139 dX6_addEdge_139 rfl 1 rfl ?_
                  refine kw_get hX 140 (C := RX6) (T := TX6) (N := 15) hin6 0 f0 (fun _ h => h) 0 rfl rfl (by decide) rfl dX6_addEdge_140 ?_
                  refine kw_iconst hX 143 dX6_addEdge_143 kci_1 ?_
                  refine kw_dup2 hX 144 dX6_addEdge_144 rfl rfl ?_
                  obtain ⟨g69, h⟩ := kgd_some h
                  refine kw_iald hX 145 1 rfl g69 dX6_addEdge_145 ?_
                  refine kw_iconst hX 146 dX6_addEdge_146 kci_1 ?_
                  refine kw_iadd hX 147 dX6_addEdge_147 ?_
                  obtain ⟨g70, h⟩ := kgd_some h
                  refine kw_iast hX 148 (ws' := (kfl [gM Y ma (upd (upd (upd (upd (upd m_now ((2 + (4 * (m_now (1 : Int32).toNatClampNeg))) : Int32).toNatClampNeg a1) (((2 + (4 * (m_now (1 : Int32).toNatClampNeg))) + 1) : Int32).toNatClampNeg a2) (((2 + (4 * (m_now (1 : Int32).toNatClampNeg))) + 2) : Int32).toNatClampNeg a3) (((2 + (4 * (m_now (1 : Int32).toNatClampNeg))) + 3) : Int32).toNatClampNeg a4) (1 : Int32).toNatClampNeg (((upd (upd (upd (upd m_now ((2 + (4 * (m_now (1 : Int32).toNatClampNeg))) : Int32).toNatClampNeg a1) (((2 + (4 * (m_now (1 : Int32).toNatClampNeg))) + 1) : Int32).toNatClampNeg a2) (((2 + (4 * (m_now (1 : Int32).toNatClampNeg))) + 2) : Int32).toNatClampNeg a3) (((2 + (4 * (m_now (1 : Int32).toNatClampNeg))) + 3) : Int32).toNatClampNeg a4) (1 : Int32).toNatClampNeg) + 1)) v62.1 v62.2 m_err m_shf m_stp m_que m_qd m_qx m_qy m_met m_per m_row m_det m_h])) 1 rfl g70 rfl dX6_addEdge_148 ?_
                  refine kw_aload_n hX 149 dX6_addEdge_149 rfl 1 rfl ?_
                  refine kw_get hX 150 (C := RX6) (T := TX6) (N := 15) hin6 0 f0 (fun _ h => h) 0 rfl rfl (by decide) rfl dX6_addEdge_150 ?_
                  refine kw_iconst hX 153 dX6_addEdge_153 kci_1 ?_
                  obtain ⟨g71, h⟩ := kgd_some h
                  refine kw_iald hX 154 1 rfl g71 dX6_addEdge_154 ?_
                  refine kw_iconst hX 155 dX6_addEdge_155 kci_1 ?_
                  refine kw_isub hX 156 dX6_addEdge_156 ?_
                  obtain rfl := Option.some.inj h
                  exact hret _ _ dX6_addEdge_157 rfl
                · have h := kif_t c61 h
                  refine kw_aload_n hX 77 dX6_addEdge_77 rfl 0 rfl ?_
                  refine kw_bipush hX 78 dX6_addEdge_78 kcb_m4 ?_
                  obtain ⟨v72, hc73, h⟩ := kb_some h
                  refine kw_callV_I hX 80 (As := [.int (-4)]) (rest := []) (kX6_error (kx_l X) Y ma m_now m_sav m_sc m_err m_shf m_stp m_que m_qd m_qx m_qy m_met m_per m_row m_det m_h (-4) hc73) gX6_addEdge_X6_error rfl 1 rfl hdV_X6_error ⟨rfl, rfl⟩ ⟨by decide, by decide⟩ ⟨Nat.zero_le _, Nat.zero_le _⟩ rfl (Nat.le_of_ble_eq_true rfl) [0] (by decide) rfl (kfc gM_f kfn0) (gs1 := [gM Y ma m_now m_sav m_sc v72.2 m_shf m_stp m_que m_qd m_qx m_qy m_met m_per m_row m_det m_h]) rfl 0 6 rfl rfl rfl dX6_addEdge_80 ?_
                  obtain rfl := Option.some.inj h
                  exact hret _ _ dX6_addEdge_83 rfl
              · have h := kif_f c59 h
                refine kw_aload_n hX 59 dX6_addEdge_59 rfl 0 rfl ?_
                refine kw_bipush hX 60 dX6_addEdge_60 kcb_m3 ?_
                obtain ⟨v74, hc75, h⟩ := kb_some h
                refine kw_callV_I hX 62 (As := [.int (-3)]) (rest := []) (kX6_error (kx_l X) Y ma m_now m_sav m_sc m_err m_shf m_stp m_que m_qd m_qx m_qy m_met m_per m_row m_det m_h (-3) hc75) gX6_addEdge_X6_error rfl 1 rfl hdV_X6_error ⟨rfl, rfl⟩ ⟨by decide, by decide⟩ ⟨Nat.zero_le _, Nat.zero_le _⟩ rfl (Nat.le_of_ble_eq_true rfl) [0] (by decide) rfl (kfc gM_f kfn0) (gs1 := [gM Y ma m_now m_sav m_sc v74.2 m_shf m_stp m_que m_qd m_qx m_qy m_met m_per m_row m_det m_h]) rfl 0 6 rfl rfl rfl dX6_addEdge_62 ?_
                obtain rfl := Option.some.inj h
                exact hret _ _ dX6_addEdge_65 rfl
            · have h := kif_t c56 h
              refine kw_aload_n hX 39 dX6_addEdge_39 rfl 0 rfl ?_
              refine kw_bipush hX 40 dX6_addEdge_40 kcb_m2 ?_
              obtain ⟨v76, hc77, h⟩ := kb_some h
              refine kw_callV_I hX 42 (As := [.int (-2)]) (rest := []) (kX6_error (kx_l X) Y ma m_now m_sav m_sc m_err m_shf m_stp m_que m_qd m_qx m_qy m_met m_per m_row m_det m_h (-2) hc77) gX6_addEdge_X6_error rfl 1 rfl hdV_X6_error ⟨rfl, rfl⟩ ⟨by decide, by decide⟩ ⟨Nat.zero_le _, Nat.zero_le _⟩ rfl (Nat.le_of_ble_eq_true rfl) [0] (by decide) rfl (kfc gM_f kfn0) (gs1 := [gM Y ma m_now m_sav m_sc v76.2 m_shf m_stp m_que m_qd m_qx m_qy m_met m_per m_row m_det m_h]) rfl 0 6 rfl rfl rfl dX6_addEdge_42 ?_
              obtain rfl := Option.some.inj h
              exact hret _ _ dX6_addEdge_45 rfl
def pX6_removeEdge_L41 : Nat → Int32 → (Nat → Int32) → Option (Int32 × (Nat → Int32))
  | 0, _, _ => none
  | n + 1, l2, z_m_now => kgd (kin 1 50) ((if (4 * (z_m_now (1 : Int32).toNatClampNeg)) ≤ l2 then some (l2, z_m_now) else kgd (kin ((2 + l2) + 4) 50) (kgd (kin (2 + l2) 50) (pX6_removeEdge_L41 n (l2 + 1) (upd z_m_now ((2 + l2) : Int32).toNatClampNeg (z_m_now (((2 + l2) + 4) : Int32).toNatClampNeg))))))
def pX6_removeEdge (a1 : Int32) (m_now : Nat → Int32) (m_sav : Nat → Int32) (m_sc : Int32) (m_err : Nat → Int32) : Option (Int32 × (Nat → Int32) × (Nat → Int32) × Int32 × (Nat → Int32)) := kgd (kin 1 50) (kb (pX6_in a1 0 ((m_now (1 : Int32).toNatClampNeg) - 1)) (fun v2 => (if v2 = 0 then kb (pX6_error (-2) m_err) (fun v16 => some (v16.1, m_now, m_sav, m_sc, v16.2)) else kb (pX6_save m_now m_sav m_sc) (fun v5 => kgd (kin 1 50) (kgd (kin 1 50) (kb (pX6_removeEdge_L41 KF (4 * a1) (upd m_now (1 : Int32).toNatClampNeg ((m_now (1 : Int32).toNatClampNeg) - 1))) (fun v13 => kgd (kin 1 50) (some ((v13.2 (1 : Int32).toNatClampNeg), v13.2, v5.1, v5.2, m_err)))))))))
def rmX6_removeEdge : Room := { frames := 1, cells := 0, slots := 0, locals := 22 }
theorem hdV_X6_removeEdge : yX6_removeEdge.cls = RX6 ∧ yX6_removeEdge.cls ≠ "java/lang/invoke/MethodHandle" ∧ yX6_removeEdge.cls ≠ "java/lang/invoke/VarHandle" ∧ (parseMethodDescriptor yX6_removeEdge.desc).map (fun d => d.parameters.length) = some 1 := ⟨rfl, by decide +kernel, by decide +kernel, by decide +kernel⟩
set_option maxHeartbeats 4000000 in
set_option maxRecDepth 100000 in
theorem kX6_removeEdge (l : Launch) (Y : KY) (ma : Nat → Nat) (m_now : Nat → Int32) (m_sav : Nat → Int32) (m_sc : Int32) (m_err : Nat → Int32) (m_shf : Nat → Int32) (m_stp : Nat → Int32) (m_que : Nat → Int32) (m_qd : Int32) (m_qx : Nat → Int32) (m_qy : Nat → Int32) (m_met : Nat → Int32) (m_per : Nat → Int32) (m_row : Nat → Int64) (m_det : Int64) (m_h : Int64) (a1 : Int32) {o : Int32 × (Nat → Int32) × (Nat → Int32) × Int32 × (Nat → Int32)} (h : pX6_removeEdge a1 m_now m_sav m_sc m_err = some o) : CtI l yX6_removeEdge wsX6_removeEdge rmX6_removeEdge Y [.ref (ma 0), .int a1] (kfl [gM Y ma m_now m_sav m_sc m_err m_shf m_stp m_que m_qd m_qx m_qy m_met m_per m_row m_det m_h]) o.1 (kfl [gM Y ma o.2.1 o.2.2.1 o.2.2.2.1 o.2.2.2.2 m_shf m_stp m_que m_qd m_qx m_qy m_met m_per m_row m_det m_h]) := by
  refine ctI_intro (cc := cX6_removeEdge) (maxL := 3) (own := RX6) (by decide +kernel) rfl rfl (Nat.le_of_ble_eq_true rfl) rfl ?_
  intro X A hX _ hret
  have hin6 : ∀ w ∈ u_ws RX6 TX6 15, w ∈ wsX6_removeEdge := by decide +kernel
  have f0 := hX.w (Cond.fieldLink RX6 7 "PeriodicNetModel" "now" "[I") (by decide +kernel)
  have L41 : ∀ (n : Nat) (l2 : Int32) (z_m_now : Nat → Int32) (z_m_sav : Nat → Int32) (z_m_sc : Int32) (z_m_err : Nat → Int32) (z_m_shf : Nat → Int32) (z_m_stp : Nat → Int32) (z_m_que : Nat → Int32) (z_m_qd : Int32) (z_m_qx : Nat → Int32) (z_m_qy : Nat → Int32) (z_m_met : Nat → Int32) (z_m_per : Nat → Int32) (z_m_row : Nat → Int64) (z_m_det : Int64) (z_m_h : Int64) (o : Int32 × (Nat → Int32)), pX6_removeEdge_L41 n l2 z_m_now = some o → KW X Y A 3 0 0 (kfl [gM Y ma o.2 z_m_sav z_m_sc z_m_err z_m_shf z_m_stp z_m_que z_m_qd z_m_qx z_m_qy z_m_met z_m_per z_m_row z_m_det z_m_h]) [(0, .ref (ma 0)), (2, .int o.1)] 77 [] → KW X Y A 3 0 0 (kfl [gM Y ma z_m_now z_m_sav z_m_sc z_m_err z_m_shf z_m_stp z_m_que z_m_qd z_m_qx z_m_qy z_m_met z_m_per z_m_row z_m_det z_m_h]) [(0, .ref (ma 0)), (2, .int l2)] 41 [] := by
    intro n
    induction n with
    | zero => intro l2 z_m_now z_m_sav z_m_sc z_m_err z_m_shf z_m_stp z_m_que z_m_qd z_m_qx z_m_qy z_m_met z_m_per z_m_row z_m_det z_m_h o h; cases h
    | succ n ih =>
      intro l2 z_m_now z_m_sav z_m_sc z_m_err z_m_shf z_m_stp z_m_que z_m_qd z_m_qx z_m_qy z_m_met z_m_per z_m_row z_m_det z_m_h o h hK
      rw [pX6_removeEdge_L41] at h
      refine kw_iload_n hX 41 dX6_removeEdge_41 rfl 1 rfl ?_
      refine kw_iconst hX 42 dX6_removeEdge_42 kci_4 ?_
      refine kw_aload_n hX 43 dX6_removeEdge_43 rfl 0 rfl ?_
      refine kw_get hX 44 (C := RX6) (T := TX6) (N := 15) hin6 0 f0 (fun _ h => h) 0 rfl rfl (by decide) rfl dX6_removeEdge_44 ?_
      refine kw_iconst hX 47 dX6_removeEdge_47 kci_1 ?_
      obtain ⟨g9, h⟩ := kgd_some h
      refine kw_iald hX 48 1 rfl g9 dX6_removeEdge_48 ?_
      refine kw_imul hX 49 dX6_removeEdge_49 ?_
      refine kw_icmp_ge hX 50 77 dX6_removeEdge_50 (by decide) (fun c10 => ?_) (fun c10 => ?_)
      · have h := kif_t c10 h
        obtain rfl := Option.some.inj h
        refine kw_lv (lv' := [(0, .ref (ma 0)), (2, .int l2)]) [0, 1] rfl ?_
        exact hK
      · have h := kif_f c10 h
        refine kw_aload_n hX 53 dX6_removeEdge_53 rfl 0 rfl ?_
        refine kw_get hX 54 (C := RX6) (T := TX6) (N := 15) hin6 0 f0 (fun _ h => h) 0 rfl rfl (by decide) rfl dX6_removeEdge_54 ?_
        refine kw_iconst hX 57 dX6_removeEdge_57 kci_2 ?_
        refine kw_iload_n hX 58 dX6_removeEdge_58 rfl 1 rfl ?_
        refine kw_iadd hX 59 dX6_removeEdge_59 ?_
        refine kw_aload_n hX 60 dX6_removeEdge_60 rfl 0 rfl ?_
        refine kw_get hX 61 (C := RX6) (T := TX6) (N := 15) hin6 0 f0 (fun _ h => h) 0 rfl rfl (by decide) rfl dX6_removeEdge_61 ?_
        refine kw_iconst hX 64 dX6_removeEdge_64 kci_2 ?_
        refine kw_iload_n hX 65 dX6_removeEdge_65 rfl 1 rfl ?_
        refine kw_iadd hX 66 dX6_removeEdge_66 ?_
        refine kw_iconst hX 67 dX6_removeEdge_67 kci_4 ?_
        refine kw_iadd hX 68 dX6_removeEdge_68 ?_
        obtain ⟨g11, h⟩ := kgd_some h
        refine kw_iald hX 69 1 rfl g11 dX6_removeEdge_69 ?_
        obtain ⟨g12, h⟩ := kgd_some h
        refine kw_iast hX 70 (ws' := (kfl [gM Y ma (upd z_m_now ((2 + l2) : Int32).toNatClampNeg (z_m_now (((2 + l2) + 4) : Int32).toNatClampNeg)) z_m_sav z_m_sc z_m_err z_m_shf z_m_stp z_m_que z_m_qd z_m_qx z_m_qy z_m_met z_m_per z_m_row z_m_det z_m_h])) 1 rfl g12 rfl dX6_removeEdge_70 ?_
        refine kw_iinc (v := (l2 + 1)) (lv' := [(2, .int (l2 + 1)), (0, .ref (ma 0))]) hX 71 dX6_removeEdge_71 1 rfl (kinc_1 _) (by decide) rfl ?_
        refine kw_goto hX 74 41 dX6_removeEdge_74 (by decide) ?_
        refine kw_lv (lv' := [(0, .ref (ma 0)), (2, .int (l2 + 1))]) [1, 0] rfl ?_
        exact ih (l2 + 1) (upd z_m_now ((2 + l2) : Int32).toNatClampNeg (z_m_now (((2 + l2) + 4) : Int32).toNatClampNeg)) z_m_sav z_m_sc z_m_err z_m_shf z_m_stp z_m_que z_m_qd z_m_qx z_m_qy z_m_met z_m_per z_m_row z_m_det z_m_h o h hK
  unfold pX6_removeEdge at h
  refine kw_lv (lv' := [(0, .ref (ma 0)), (1, .int a1)]) [0, 1] rfl ?_
  refine kw_iload_n hX 0 dX6_removeEdge_0 rfl 1 rfl ?_
  refine kw_iconst hX 1 dX6_removeEdge_1 kci_0 ?_
  refine kw_aload_n hX 2 dX6_removeEdge_2 rfl 0 rfl ?_
  refine kw_get hX 3 (C := RX6) (T := TX6) (N := 15) hin6 0 f0 (fun _ h => h) 0 rfl rfl (by decide) rfl dX6_removeEdge_3 ?_
  refine kw_iconst hX 6 dX6_removeEdge_6 kci_1 ?_
  obtain ⟨g1, h⟩ := kgd_some h
  refine kw_iald hX 7 1 rfl g1 dX6_removeEdge_7 ?_
  refine kw_iconst hX 8 dX6_removeEdge_8 kci_1 ?_
  refine kw_isub hX 9 dX6_removeEdge_9 ?_
  obtain ⟨v2, hc3, h⟩ := kb_some h
  refine kw_callS_I hX 10 (As := [.int a1, .int 0, .int ((m_now (1 : Int32).toNatClampNeg) - 1)]) (rest := []) (kX6_in (kx_l X) Y a1 0 ((m_now (1 : Int32).toNatClampNeg) - 1) hc3) gX6_removeEdge_X6_in rfl 3 rfl hdS_X6_in ⟨rfl, rfl⟩ ⟨by decide, by decide⟩ ⟨Nat.zero_le _, Nat.zero_le _⟩ rfl (Nat.le_of_ble_eq_true rfl) [] (by decide) rfl kfn0 (gs1 := [gM Y ma m_now m_sav m_sc m_err m_shf m_stp m_que m_qd m_qx m_qy m_met m_per m_row m_det m_h]) rfl dX6_removeEdge_10 ?_
  refine kw_if_ne hX 13 23 dX6_removeEdge_13 (by decide) (fun c4 => ?_) (fun c4 => ?_)
  · have h := kif_f c4 h
    refine kw_aload_n hX 23 dX6_removeEdge_23 rfl 0 rfl ?_
    obtain ⟨v5, hc6, h⟩ := kb_some h
    refine kw_callV_V hX 24 (As := []) (rest := []) (kX6_save (kx_l X) Y ma m_now m_sav m_sc m_err m_shf m_stp m_que m_qd m_qx m_qy m_met m_per m_row m_det m_h hc6) gX6_removeEdge_X6_save rfl 0 rfl hdV_X6_save ⟨rfl, rfl⟩ ⟨by decide, by decide⟩ ⟨Nat.zero_le _, Nat.zero_le _⟩ rfl (Nat.le_of_ble_eq_true rfl) [0] (by decide) rfl (kfc gM_f kfn0) (gs1 := [gM Y ma m_now v5.1 v5.2 m_err m_shf m_stp m_que m_qd m_qx m_qy m_met m_per m_row m_det m_h]) rfl 0 6 rfl rfl rfl dX6_removeEdge_24 ?_
    refine kw_aload_n hX 27 dX6_removeEdge_27 rfl 0 rfl ?_
    refine kw_get hX 28 (C := RX6) (T := TX6) (N := 15) hin6 0 f0 (fun _ h => h) 0 rfl rfl (by decide) rfl dX6_removeEdge_28 ?_
    refine kw_iconst hX 31 dX6_removeEdge_31 kci_1 ?_
    refine kw_dup2 hX 32 dX6_removeEdge_32 rfl rfl ?_
    obtain ⟨g7, h⟩ := kgd_some h
    refine kw_iald hX 33 1 rfl g7 dX6_removeEdge_33 ?_
    refine kw_iconst hX 34 dX6_removeEdge_34 kci_1 ?_
    refine kw_isub hX 35 dX6_removeEdge_35 ?_
    obtain ⟨g8, h⟩ := kgd_some h
    refine kw_iast hX 36 (ws' := (kfl [gM Y ma (upd m_now (1 : Int32).toNatClampNeg ((m_now (1 : Int32).toNatClampNeg) - 1)) v5.1 v5.2 m_err m_shf m_stp m_que m_qd m_qx m_qy m_met m_per m_row m_det m_h])) 1 rfl g8 rfl dX6_removeEdge_36 ?_
    refine kw_iconst hX 37 dX6_removeEdge_37 kci_4 ?_
    refine kw_iload_n hX 38 dX6_removeEdge_38 rfl 1 rfl ?_
    refine kw_imul hX 39 dX6_removeEdge_39 ?_
    refine kw_istore_n (lv' := [(2, .int (4 * a1)), (0, .ref (ma 0)), (1, .int a1)]) hX 40 dX6_removeEdge_40 rfl (by decide) rfl ?_
    obtain ⟨v13, hl14, h⟩ := kb_some h
    refine kw_lv (lv' := [(0, .ref (ma 0)), (2, .int (4 * a1))]) [1, 0] rfl ?_
    refine L41 KF (4 * a1) (upd m_now (1 : Int32).toNatClampNeg ((m_now (1 : Int32).toNatClampNeg) - 1)) v5.1 v5.2 m_err m_shf m_stp m_que m_qd m_qx m_qy m_met m_per m_row m_det m_h v13 hl14 ?_
    refine kw_aload_n hX 77 dX6_removeEdge_77 rfl 0 rfl ?_
    refine kw_get hX 78 (C := RX6) (T := TX6) (N := 15) hin6 0 f0 (fun _ h => h) 0 rfl rfl (by decide) rfl dX6_removeEdge_78 ?_
    refine kw_iconst hX 81 dX6_removeEdge_81 kci_1 ?_
    obtain ⟨g15, h⟩ := kgd_some h
    refine kw_iald hX 82 1 rfl g15 dX6_removeEdge_82 ?_
    obtain rfl := Option.some.inj h
    exact hret _ _ dX6_removeEdge_83 rfl
  · have h := kif_t c4 h
    refine kw_aload_n hX 16 dX6_removeEdge_16 rfl 0 rfl ?_
    refine kw_bipush hX 17 dX6_removeEdge_17 kcb_m2 ?_
    obtain ⟨v16, hc17, h⟩ := kb_some h
    refine kw_callV_I hX 19 (As := [.int (-2)]) (rest := []) (kX6_error (kx_l X) Y ma m_now m_sav m_sc m_err m_shf m_stp m_que m_qd m_qx m_qy m_met m_per m_row m_det m_h (-2) hc17) gX6_removeEdge_X6_error rfl 1 rfl hdV_X6_error ⟨rfl, rfl⟩ ⟨by decide, by decide⟩ ⟨Nat.zero_le _, Nat.zero_le _⟩ rfl (Nat.le_of_ble_eq_true rfl) [0] (by decide) rfl (kfc gM_f kfn0) (gs1 := [gM Y ma m_now m_sav m_sc v16.2 m_shf m_stp m_que m_qd m_qx m_qy m_met m_per m_row m_det m_h]) rfl 0 6 rfl rfl rfl dX6_removeEdge_19 ?_
    obtain rfl := Option.some.inj h
    exact hret _ _ dX6_removeEdge_22 rfl
def pX6_findEdge (a1 : Int32) (a2 : Int32) (a3 : Int32) (a4 : Int32) (m_now : Nat → Int32) (m_err : Nat → Int32) : Option (Int32 × (Nat → Int32)) := kb (pX6_isVertex a1 m_now) (fun v1 => (if v1 = 0 then kb (pX6_error (-2) m_err) (fun v4 => some (v4.1, v4.2)) else kb (pX6_isVertex a2 m_now) (fun v6 => (if v6 = 0 then kb (pX6_error (-2) m_err) (fun v9 => some (v9.1, v9.2)) else kb (pX6_find a1 a2 a3 a4 m_now) (fun v11 => some (v11, m_err))))))
def rmX6_findEdge : Room := { frames := 3, cells := 0, slots := 0, locals := 73 }
theorem hdV_X6_findEdge : yX6_findEdge.cls = RX6 ∧ yX6_findEdge.cls ≠ "java/lang/invoke/MethodHandle" ∧ yX6_findEdge.cls ≠ "java/lang/invoke/VarHandle" ∧ (parseMethodDescriptor yX6_findEdge.desc).map (fun d => d.parameters.length) = some 4 := ⟨rfl, by decide +kernel, by decide +kernel, by decide +kernel⟩
set_option maxHeartbeats 4000000 in
set_option maxRecDepth 100000 in
theorem kX6_findEdge (l : Launch) (Y : KY) (ma : Nat → Nat) (m_now : Nat → Int32) (m_sav : Nat → Int32) (m_sc : Int32) (m_err : Nat → Int32) (m_shf : Nat → Int32) (m_stp : Nat → Int32) (m_que : Nat → Int32) (m_qd : Int32) (m_qx : Nat → Int32) (m_qy : Nat → Int32) (m_met : Nat → Int32) (m_per : Nat → Int32) (m_row : Nat → Int64) (m_det : Int64) (m_h : Int64) (a1 : Int32) (a2 : Int32) (a3 : Int32) (a4 : Int32) {o : Int32 × (Nat → Int32)} (h : pX6_findEdge a1 a2 a3 a4 m_now m_err = some o) : CtI l yX6_findEdge wsX6_findEdge rmX6_findEdge Y [.ref (ma 0), .int a1, .int a2, .int a3, .int a4] (kfl [gM Y ma m_now m_sav m_sc m_err m_shf m_stp m_que m_qd m_qx m_qy m_met m_per m_row m_det m_h]) o.1 (kfl [gM Y ma m_now m_sav m_sc o.2 m_shf m_stp m_que m_qd m_qx m_qy m_met m_per m_row m_det m_h]) := by
  refine ctI_intro (cc := cX6_findEdge) (maxL := 5) (own := RX6) (by decide +kernel) rfl rfl (Nat.le_of_ble_eq_true rfl) rfl ?_
  intro X A hX _ hret
  unfold pX6_findEdge at h
  refine kw_lv (lv' := [(0, .ref (ma 0)), (1, .int a1), (2, .int a2), (3, .int a3), (4, .int a4)]) [0, 1, 2, 3, 4] rfl ?_
  refine kw_aload_n hX 0 dX6_findEdge_0 rfl 0 rfl ?_
  refine kw_iload_n hX 1 dX6_findEdge_1 rfl 1 rfl ?_
  obtain ⟨v1, hc2, h⟩ := kb_some h
  refine kw_callV_I hX 2 (As := [.int a1]) (rest := []) (kX6_isVertex (kx_l X) Y ma m_now m_sav m_sc m_err m_shf m_stp m_que m_qd m_qx m_qy m_met m_per m_row m_det m_h a1 hc2) gX6_findEdge_X6_isVertex rfl 1 rfl hdV_X6_isVertex ⟨rfl, rfl⟩ ⟨by decide, by decide⟩ ⟨Nat.zero_le _, Nat.zero_le _⟩ rfl (Nat.le_of_ble_eq_true rfl) [0] (by decide) rfl (kfc rfl kfn0) (gs1 := [gM Y ma m_now m_sav m_sc m_err m_shf m_stp m_que m_qd m_qx m_qy m_met m_per m_row m_det m_h]) rfl 0 6 rfl rfl rfl dX6_findEdge_2 ?_
  refine kw_if_eq hX 5 28 dX6_findEdge_5 (by decide) (fun c3 => ?_) (fun c3 => ?_)
  · have h := kif_t c3 h
    refine kw_aload_n hX 28 dX6_findEdge_28 rfl 0 rfl ?_
    refine kw_bipush hX 29 dX6_findEdge_29 kcb_m2 ?_
    obtain ⟨v4, hc5, h⟩ := kb_some h
    refine kw_callV_I hX 31 (As := [.int (-2)]) (rest := []) (kX6_error (kx_l X) Y ma m_now m_sav m_sc m_err m_shf m_stp m_que m_qd m_qx m_qy m_met m_per m_row m_det m_h (-2) hc5) gX6_findEdge_X6_error rfl 1 rfl hdV_X6_error ⟨rfl, rfl⟩ ⟨by decide, by decide⟩ ⟨Nat.zero_le _, Nat.zero_le _⟩ rfl (Nat.le_of_ble_eq_true rfl) [0] (by decide) rfl (kfc gM_f kfn0) (gs1 := [gM Y ma m_now m_sav m_sc v4.2 m_shf m_stp m_que m_qd m_qx m_qy m_met m_per m_row m_det m_h]) rfl 0 6 rfl rfl rfl dX6_findEdge_31 ?_
    obtain rfl := Option.some.inj h
    exact hret _ _ dX6_findEdge_34 rfl
  · have h := kif_f c3 h
    refine kw_aload_n hX 8 dX6_findEdge_8 rfl 0 rfl ?_
    refine kw_iload_n hX 9 dX6_findEdge_9 rfl 2 rfl ?_
    obtain ⟨v6, hc7, h⟩ := kb_some h
    refine kw_callV_I hX 10 (As := [.int a2]) (rest := []) (kX6_isVertex (kx_l X) Y ma m_now m_sav m_sc m_err m_shf m_stp m_que m_qd m_qx m_qy m_met m_per m_row m_det m_h a2 hc7) gX6_findEdge_X6_isVertex rfl 1 rfl hdV_X6_isVertex ⟨rfl, rfl⟩ ⟨by decide, by decide⟩ ⟨Nat.zero_le _, Nat.zero_le _⟩ rfl (Nat.le_of_ble_eq_true rfl) [0] (by decide) rfl (kfc rfl kfn0) (gs1 := [gM Y ma m_now m_sav m_sc m_err m_shf m_stp m_que m_qd m_qx m_qy m_met m_per m_row m_det m_h]) rfl 0 6 rfl rfl rfl dX6_findEdge_10 ?_
    refine kw_if_eq hX 13 28 dX6_findEdge_13 (by decide) (fun c8 => ?_) (fun c8 => ?_)
    · have h := kif_t c8 h
      refine kw_aload_n hX 28 dX6_findEdge_28 rfl 0 rfl ?_
      refine kw_bipush hX 29 dX6_findEdge_29 kcb_m2 ?_
      obtain ⟨v9, hc10, h⟩ := kb_some h
      refine kw_callV_I hX 31 (As := [.int (-2)]) (rest := []) (kX6_error (kx_l X) Y ma m_now m_sav m_sc m_err m_shf m_stp m_que m_qd m_qx m_qy m_met m_per m_row m_det m_h (-2) hc10) gX6_findEdge_X6_error rfl 1 rfl hdV_X6_error ⟨rfl, rfl⟩ ⟨by decide, by decide⟩ ⟨Nat.zero_le _, Nat.zero_le _⟩ rfl (Nat.le_of_ble_eq_true rfl) [0] (by decide) rfl (kfc gM_f kfn0) (gs1 := [gM Y ma m_now m_sav m_sc v9.2 m_shf m_stp m_que m_qd m_qx m_qy m_met m_per m_row m_det m_h]) rfl 0 6 rfl rfl rfl dX6_findEdge_31 ?_
      obtain rfl := Option.some.inj h
      exact hret _ _ dX6_findEdge_34 rfl
    · have h := kif_f c8 h
      refine kw_aload_n hX 16 dX6_findEdge_16 rfl 0 rfl ?_
      refine kw_iload_n hX 17 dX6_findEdge_17 rfl 1 rfl ?_
      refine kw_iload_n hX 18 dX6_findEdge_18 rfl 2 rfl ?_
      refine kw_iload_n hX 19 dX6_findEdge_19 rfl 3 rfl ?_
      refine kw_iload hX 20 dX6_findEdge_20 4 rfl ?_
      obtain ⟨v11, hc12, h⟩ := kb_some h
      refine kw_callV_I hX 22 (As := [.int a1, .int a2, .int a3, .int a4]) (rest := []) (kX6_find (kx_l X) Y ma m_now m_sav m_sc m_err m_shf m_stp m_que m_qd m_qx m_qy m_met m_per m_row m_det m_h a1 a2 a3 a4 hc12) gX6_findEdge_X6_find rfl 4 rfl hdV_X6_find ⟨rfl, rfl⟩ ⟨by decide, by decide⟩ ⟨Nat.zero_le _, Nat.zero_le _⟩ rfl (Nat.le_of_ble_eq_true rfl) [0] (by decide) rfl (kfc rfl kfn0) (gs1 := [gM Y ma m_now m_sav m_sc m_err m_shf m_stp m_que m_qd m_qx m_qy m_met m_per m_row m_det m_h]) rfl 0 6 rfl rfl rfl dX6_findEdge_22 ?_
      refine kw_goto hX 25 34 dX6_findEdge_25 (by decide) ?_
      obtain rfl := Option.some.inj h
      exact hret _ _ dX6_findEdge_34 rfl
def pX6_take_L6 : Nat → Int32 → Int32 → Int32 → (Nat → Int32) → (Nat → Int32) → Option (Int32 × Int32 × Int32)
  | 0, _, _, _, _, _ => none
  | n + 1, l1, l2, l3, z_m_now, z_m_shf => kgd (kin 1 50) ((if (z_m_now (1 : Int32).toNatClampNeg) ≤ l3 then some (l1, l2, l3) else kb ((if l1 = 0 then some 0 else kgd (kin (2 * l3) 24) (kgd (kin ((2 * l3) + 1) 24) (kb (pX6_isShift (z_m_shf ((2 * l3) : Int32).toNatClampNeg) (z_m_shf (((2 * l3) + 1) : Int32).toNatClampNeg)) (fun v6 => (if v6 = 0 then some 0 else some 1))))) : Option (Int32)) (fun v9 => kgd (kin (2 * l3) 24) (kb (pX6_of l3 2 z_m_now) (fun v12 => kb ((if (z_m_shf ((2 * l3) : Int32).toNatClampNeg) = v12 then kgd (kin ((2 * l3) + 1) 24) (kb (pX6_of l3 3 z_m_now) (fun v16 => (if (z_m_shf (((2 * l3) + 1) : Int32).toNatClampNeg) = v16 then some 0 else some 1))) else some 1) : Option (Int32)) (fun v19 => pX6_take_L6 n v9 (l2 + v19) (l3 + 1) z_m_now z_m_shf))))))
def pX6_take_L117 : Nat → Int32 → Int32 → (Nat → Int32) → (Nat → Int32) → Option (Int32 × (Nat → Int32))
  | 0, _, _, _, _ => none
  | n + 1, l2, l3, z_m_now, z_m_shf => kgd (kin 1 50) ((if (z_m_now (1 : Int32).toNatClampNeg) ≤ l3 then some (l3, z_m_now) else kgd (kin (2 * l3) 24) (kgd (kin ((2 + (4 * l3)) + 2) 50) (kgd (kin ((2 * l3) + 1) 24) (kgd (kin ((2 + (4 * l3)) + 3) 50) (pX6_take_L117 n l2 (l3 + 1) (upd (upd z_m_now (((2 + (4 * l3)) + 2) : Int32).toNatClampNeg (z_m_shf ((2 * l3) : Int32).toNatClampNeg)) (((2 + (4 * l3)) + 3) : Int32).toNatClampNeg (z_m_shf (((2 * l3) + 1) : Int32).toNatClampNeg)) z_m_shf))))))
def pX6_take  (m_now : Nat → Int32) (m_sav : Nat → Int32) (m_sc : Int32) (m_err : Nat → Int32) (m_shf : Nat → Int32) : Option (Int32 × (Nat → Int32) × (Nat → Int32) × Int32 × (Nat → Int32)) := kb (pX6_take_L6 KF 1 0 0 m_now m_shf) (fun v23 => (if v23.1 = 0 then kb (pX6_error (-5) m_err) (fun v36 => some (v36.1, m_now, m_sav, m_sc, v36.2)) else kb (pX6_save m_now m_sav m_sc) (fun v26 => kb (pX6_take_L117 KF v23.2.1 0 m_now m_shf) (fun v34 => some (v23.2.1, v34.2, v26.1, v26.2, m_err)))))
def rmX6_take : Room := { frames := 2, cells := 0, slots := 0, locals := 43 }
theorem hdV_X6_take : yX6_take.cls = RX6 ∧ yX6_take.cls ≠ "java/lang/invoke/MethodHandle" ∧ yX6_take.cls ≠ "java/lang/invoke/VarHandle" ∧ (parseMethodDescriptor yX6_take.desc).map (fun d => d.parameters.length) = some 0 := ⟨rfl, by decide +kernel, by decide +kernel, by decide +kernel⟩
set_option maxHeartbeats 4000000 in
set_option maxRecDepth 100000 in
theorem kX6_take (l : Launch) (Y : KY) (ma : Nat → Nat) (m_now : Nat → Int32) (m_sav : Nat → Int32) (m_sc : Int32) (m_err : Nat → Int32) (m_shf : Nat → Int32) (m_stp : Nat → Int32) (m_que : Nat → Int32) (m_qd : Int32) (m_qx : Nat → Int32) (m_qy : Nat → Int32) (m_met : Nat → Int32) (m_per : Nat → Int32) (m_row : Nat → Int64) (m_det : Int64) (m_h : Int64)  {o : Int32 × (Nat → Int32) × (Nat → Int32) × Int32 × (Nat → Int32)} (h : pX6_take m_now m_sav m_sc m_err m_shf = some o) : CtI l yX6_take wsX6_take rmX6_take Y [.ref (ma 0)] (kfl [gM Y ma m_now m_sav m_sc m_err m_shf m_stp m_que m_qd m_qx m_qy m_met m_per m_row m_det m_h]) o.1 (kfl [gM Y ma o.2.1 o.2.2.1 o.2.2.2.1 o.2.2.2.2 m_shf m_stp m_que m_qd m_qx m_qy m_met m_per m_row m_det m_h]) := by
  refine ctI_intro (cc := cX6_take) (maxL := 4) (own := RX6) (by decide +kernel) rfl rfl (Nat.le_of_ble_eq_true rfl) rfl ?_
  intro X A hX _ hret
  have hin6 : ∀ w ∈ u_ws RX6 TX6 15, w ∈ wsX6_take := by decide +kernel
  have f0 := hX.w (Cond.fieldLink RX6 7 "PeriodicNetModel" "now" "[I") (by decide +kernel)
  have f1 := hX.w (Cond.fieldLink RX6 19 "PeriodicNetModel" "shifts" "[I") (by decide +kernel)
  have L6 : ∀ (n : Nat) (l1 : Int32) (l2 : Int32) (l3 : Int32) (z_m_now : Nat → Int32) (z_m_sav : Nat → Int32) (z_m_sc : Int32) (z_m_err : Nat → Int32) (z_m_shf : Nat → Int32) (z_m_stp : Nat → Int32) (z_m_que : Nat → Int32) (z_m_qd : Int32) (z_m_qx : Nat → Int32) (z_m_qy : Nat → Int32) (z_m_met : Nat → Int32) (z_m_per : Nat → Int32) (z_m_row : Nat → Int64) (z_m_det : Int64) (z_m_h : Int64) (o : Int32 × Int32 × Int32), pX6_take_L6 n l1 l2 l3 z_m_now z_m_shf = some o → KW X Y A 4 0 0 (kfl [gM Y ma z_m_now z_m_sav z_m_sc z_m_err z_m_shf z_m_stp z_m_que z_m_qd z_m_qx z_m_qy z_m_met z_m_per z_m_row z_m_det z_m_h]) [(0, .ref (ma 0)), (1, .int o.1), (2, .int o.2.1), (3, .int o.2.2)] 100 [] → KW X Y A 4 0 0 (kfl [gM Y ma z_m_now z_m_sav z_m_sc z_m_err z_m_shf z_m_stp z_m_que z_m_qd z_m_qx z_m_qy z_m_met z_m_per z_m_row z_m_det z_m_h]) [(0, .ref (ma 0)), (1, .int l1), (2, .int l2), (3, .int l3)] 6 [] := by
    intro n
    induction n with
    | zero => intro l1 l2 l3 z_m_now z_m_sav z_m_sc z_m_err z_m_shf z_m_stp z_m_que z_m_qd z_m_qx z_m_qy z_m_met z_m_per z_m_row z_m_det z_m_h o h; cases h
    | succ n ih =>
      intro l1 l2 l3 z_m_now z_m_sav z_m_sc z_m_err z_m_shf z_m_stp z_m_que z_m_qd z_m_qx z_m_qy z_m_met z_m_per z_m_row z_m_det z_m_h o h hK
      rw [pX6_take_L6] at h
      refine kw_iload_n hX 6 dX6_take_6 rfl 3 rfl ?_
      refine kw_aload_n hX 7 dX6_take_7 rfl 0 rfl ?_
      refine kw_get hX 8 (C := RX6) (T := TX6) (N := 15) hin6 0 f0 (fun _ h => h) 0 rfl rfl (by decide) rfl dX6_take_8 ?_
      refine kw_iconst hX 11 dX6_take_11 kci_1 ?_
      obtain ⟨g1, h⟩ := kgd_some h
      refine kw_iald hX 12 1 rfl g1 dX6_take_12 ?_
      refine kw_icmp_ge hX 13 100 dX6_take_13 (by decide) (fun c2 => ?_) (fun c2 => ?_)
      · have h := kif_t c2 h
        obtain rfl := Option.some.inj h
        refine kw_lv (lv' := [(0, .ref (ma 0)), (1, .int l1), (2, .int l2), (3, .int l3)]) [0, 1, 2, 3] rfl ?_
        exact hK
      · have h := kif_f c2 h
        refine kw_iload_n hX 16 dX6_take_16 rfl 1 rfl ?_
        obtain ⟨v9, hj22, h⟩ := kb_some h
        have J10 : KW X Y A 4 0 0 (kfl [gM Y ma z_m_now z_m_sav z_m_sc z_m_err z_m_shf z_m_stp z_m_que z_m_qd z_m_qx z_m_qy z_m_met z_m_per z_m_row z_m_det z_m_h]) [(0, .ref (ma 0)), (2, .int l2), (3, .int l3)] 49 [.int v9] := by
          refine kw_istore_n (lv' := [(1, .int v9), (0, .ref (ma 0)), (2, .int l2), (3, .int l3)]) hX 49 dX6_take_49 rfl (by decide) rfl ?_
          refine kw_iload_n hX 50 dX6_take_50 rfl 2 rfl ?_
          refine kw_aload_n hX 51 dX6_take_51 rfl 1 rfl ?_
          refine kw_get hX 52 (C := RX6) (T := TX6) (N := 15) hin6 4 f1 (fun _ h => h) 0 rfl rfl (by decide) rfl dX6_take_52 ?_
          refine kw_iconst hX 55 dX6_take_55 kci_2 ?_
          refine kw_iload_n hX 56 dX6_take_56 rfl 3 rfl ?_
          refine kw_imul hX 57 dX6_take_57 ?_
          obtain ⟨g11, h⟩ := kgd_some h
          refine kw_iald hX 58 4 rfl g11 dX6_take_58 ?_
          refine kw_aload_n hX 59 dX6_take_59 rfl 1 rfl ?_
          refine kw_iload_n hX 60 dX6_take_60 rfl 3 rfl ?_
          refine kw_iconst hX 61 dX6_take_61 kci_2 ?_
          obtain ⟨v12, hc13, h⟩ := kb_some h
          refine kw_callV_I hX 62 (As := [.int l3, .int 2]) (rest := [.int (z_m_shf ((2 * l3) : Int32).toNatClampNeg), .int l2]) (kX6_of (kx_l X) Y ma z_m_now z_m_sav z_m_sc z_m_err z_m_shf z_m_stp z_m_que z_m_qd z_m_qx z_m_qy z_m_met z_m_per z_m_row z_m_det z_m_h l3 2 hc13) gX6_take_X6_of rfl 2 rfl hdV_X6_of ⟨rfl, rfl⟩ ⟨by decide, by decide⟩ ⟨Nat.zero_le _, Nat.zero_le _⟩ rfl (Nat.le_of_ble_eq_true rfl) [0] (by decide) rfl (kfc rfl kfn0) (gs1 := [gM Y ma z_m_now z_m_sav z_m_sc z_m_err z_m_shf z_m_stp z_m_que z_m_qd z_m_qx z_m_qy z_m_met z_m_per z_m_row z_m_det z_m_h]) rfl 0 6 rfl rfl rfl dX6_take_62 ?_
          obtain ⟨v19, hj21, h⟩ := kb_some h
          have J20 : KW X Y A 4 0 0 (kfl [gM Y ma z_m_now z_m_sav z_m_sc z_m_err z_m_shf z_m_stp z_m_que z_m_qd z_m_qx z_m_qy z_m_met z_m_per z_m_row z_m_det z_m_h]) [(0, .ref (ma 0)), (1, .int v9), (3, .int l3)] 92 [.int v19, .int l2] := by
            refine kw_iadd hX 92 dX6_take_92 ?_
            refine kw_istore_n (lv' := [(2, .int (l2 + v19)), (0, .ref (ma 0)), (1, .int v9), (3, .int l3)]) hX 93 dX6_take_93 rfl (by decide) rfl ?_
            refine kw_iinc (v := (l3 + 1)) (lv' := [(3, .int (l3 + 1)), (2, .int (l2 + v19)), (0, .ref (ma 0)), (1, .int v9)]) hX 94 dX6_take_94 3 rfl (kinc_1 _) (by decide) rfl ?_
            refine kw_goto hX 97 6 dX6_take_97 (by decide) ?_
            refine kw_lv (lv' := [(0, .ref (ma 0)), (1, .int v9), (2, .int (l2 + v19)), (3, .int (l3 + 1))]) [2, 3, 1, 0] rfl ?_
            exact ih v9 (l2 + v19) (l3 + 1) z_m_now z_m_sav z_m_sc z_m_err z_m_shf z_m_stp z_m_que z_m_qd z_m_qx z_m_qy z_m_met z_m_per z_m_row z_m_det z_m_h o h hK
          have h := hj21
          refine kw_icmp_ne hX 65 91 dX6_take_65 (by decide) (fun c14 => ?_) (fun c14 => ?_)
          · have h := kif_f c14 h
            refine kw_iconst hX 91 dX6_take_91 kci_1 ?_
            obtain rfl := Option.some.inj h
            refine kw_lv (lv' := [(0, .ref (ma 0)), (1, .int v9), (3, .int l3)]) [1, 0, 3] rfl ?_
            exact J20
          · have h := kif_t c14 h
            refine kw_aload_n hX 68 dX6_take_68 rfl 1 rfl ?_
            refine kw_get hX 69 (C := RX6) (T := TX6) (N := 15) hin6 4 f1 (fun _ h => h) 0 rfl rfl (by decide) rfl dX6_take_69 ?_
            refine kw_iconst hX 72 dX6_take_72 kci_2 ?_
            refine kw_iload_n hX 73 dX6_take_73 rfl 3 rfl ?_
            refine kw_imul hX 74 dX6_take_74 ?_
            refine kw_iconst hX 75 dX6_take_75 kci_1 ?_
            refine kw_iadd hX 76 dX6_take_76 ?_
            obtain ⟨g15, h⟩ := kgd_some h
            refine kw_iald hX 77 4 rfl g15 dX6_take_77 ?_
            refine kw_aload_n hX 78 dX6_take_78 rfl 1 rfl ?_
            refine kw_iload_n hX 79 dX6_take_79 rfl 3 rfl ?_
            refine kw_iconst hX 80 dX6_take_80 kci_3 ?_
            obtain ⟨v16, hc17, h⟩ := kb_some h
            refine kw_callV_I hX 81 (As := [.int l3, .int 3]) (rest := [.int (z_m_shf (((2 * l3) + 1) : Int32).toNatClampNeg), .int l2]) (kX6_of (kx_l X) Y ma z_m_now z_m_sav z_m_sc z_m_err z_m_shf z_m_stp z_m_que z_m_qd z_m_qx z_m_qy z_m_met z_m_per z_m_row z_m_det z_m_h l3 3 hc17) gX6_take_X6_of rfl 2 rfl hdV_X6_of ⟨rfl, rfl⟩ ⟨by decide, by decide⟩ ⟨Nat.zero_le _, Nat.zero_le _⟩ rfl (Nat.le_of_ble_eq_true rfl) [0] (by decide) rfl (kfc rfl kfn0) (gs1 := [gM Y ma z_m_now z_m_sav z_m_sc z_m_err z_m_shf z_m_stp z_m_que z_m_qd z_m_qx z_m_qy z_m_met z_m_per z_m_row z_m_det z_m_h]) rfl 0 6 rfl rfl rfl dX6_take_81 ?_
            refine kw_icmp_ne hX 84 91 dX6_take_84 (by decide) (fun c18 => ?_) (fun c18 => ?_)
            · have h := kif_f c18 h
              refine kw_iconst hX 91 dX6_take_91 kci_1 ?_
              obtain rfl := Option.some.inj h
              refine kw_lv (lv' := [(0, .ref (ma 0)), (1, .int v9), (3, .int l3)]) [1, 0, 3] rfl ?_
              exact J20
            · have h := kif_t c18 h
              refine kw_iconst hX 87 dX6_take_87 kci_0 ?_
              refine kw_goto hX 88 92 dX6_take_88 (by decide) ?_
              obtain rfl := Option.some.inj h
              refine kw_lv (lv' := [(0, .ref (ma 0)), (1, .int v9), (3, .int l3)]) [1, 0, 3] rfl ?_
              exact J20
        have h := hj22
        refine kw_if_eq hX 17 48 dX6_take_17 (by decide) (fun c3 => ?_) (fun c3 => ?_)
        · have h := kif_t c3 h
          refine kw_iconst hX 48 dX6_take_48 kci_0 ?_
          obtain rfl := Option.some.inj h
          refine kw_lv (lv' := [(0, .ref (ma 0)), (2, .int l2), (3, .int l3)]) [0, 2, 3] rfl ?_
          exact J10
        · have h := kif_f c3 h
          refine kw_aload_n hX 20 dX6_take_20 rfl 0 rfl ?_
          refine kw_get hX 21 (C := RX6) (T := TX6) (N := 15) hin6 4 f1 (fun _ h => h) 0 rfl rfl (by decide) rfl dX6_take_21 ?_
          refine kw_iconst hX 24 dX6_take_24 kci_2 ?_
          refine kw_iload_n hX 25 dX6_take_25 rfl 3 rfl ?_
          refine kw_imul hX 26 dX6_take_26 ?_
          obtain ⟨g4, h⟩ := kgd_some h
          refine kw_iald hX 27 4 rfl g4 dX6_take_27 ?_
          refine kw_aload_n hX 28 dX6_take_28 rfl 0 rfl ?_
          refine kw_get hX 29 (C := RX6) (T := TX6) (N := 15) hin6 4 f1 (fun _ h => h) 0 rfl rfl (by decide) rfl dX6_take_29 ?_
          refine kw_iconst hX 32 dX6_take_32 kci_2 ?_
          refine kw_iload_n hX 33 dX6_take_33 rfl 3 rfl ?_
          refine kw_imul hX 34 dX6_take_34 ?_
          refine kw_iconst hX 35 dX6_take_35 kci_1 ?_
          refine kw_iadd hX 36 dX6_take_36 ?_
          obtain ⟨g5, h⟩ := kgd_some h
          refine kw_iald hX 37 4 rfl g5 dX6_take_37 ?_
          obtain ⟨v6, hc7, h⟩ := kb_some h
          refine kw_callS_I hX 38 (As := [.int (z_m_shf ((2 * l3) : Int32).toNatClampNeg), .int (z_m_shf (((2 * l3) + 1) : Int32).toNatClampNeg)]) (rest := []) (kX6_isShift (kx_l X) Y (z_m_shf ((2 * l3) : Int32).toNatClampNeg) (z_m_shf (((2 * l3) + 1) : Int32).toNatClampNeg) hc7) gX6_take_X6_isShift rfl 2 rfl hdS_X6_isShift ⟨rfl, rfl⟩ ⟨by decide, by decide⟩ ⟨Nat.zero_le _, Nat.zero_le _⟩ rfl (Nat.le_of_ble_eq_true rfl) [] (by decide) rfl kfn0 (gs1 := [gM Y ma z_m_now z_m_sav z_m_sc z_m_err z_m_shf z_m_stp z_m_que z_m_qd z_m_qx z_m_qy z_m_met z_m_per z_m_row z_m_det z_m_h]) rfl dX6_take_38 ?_
          refine kw_if_eq hX 41 48 dX6_take_41 (by decide) (fun c8 => ?_) (fun c8 => ?_)
          · have h := kif_t c8 h
            refine kw_iconst hX 48 dX6_take_48 kci_0 ?_
            obtain rfl := Option.some.inj h
            refine kw_lv (lv' := [(0, .ref (ma 0)), (2, .int l2), (3, .int l3)]) [0, 2, 3] rfl ?_
            exact J10
          · have h := kif_f c8 h
            refine kw_iconst hX 44 dX6_take_44 kci_1 ?_
            refine kw_goto hX 45 49 dX6_take_45 (by decide) ?_
            obtain rfl := Option.some.inj h
            refine kw_lv (lv' := [(0, .ref (ma 0)), (2, .int l2), (3, .int l3)]) [0, 2, 3] rfl ?_
            exact J10
  have L117 : ∀ (n : Nat) (l2 : Int32) (l3 : Int32) (z_m_now : Nat → Int32) (z_m_sav : Nat → Int32) (z_m_sc : Int32) (z_m_err : Nat → Int32) (z_m_shf : Nat → Int32) (z_m_stp : Nat → Int32) (z_m_que : Nat → Int32) (z_m_qd : Int32) (z_m_qx : Nat → Int32) (z_m_qy : Nat → Int32) (z_m_met : Nat → Int32) (z_m_per : Nat → Int32) (z_m_row : Nat → Int64) (z_m_det : Int64) (z_m_h : Int64) (o : Int32 × (Nat → Int32)), pX6_take_L117 n l2 l3 z_m_now z_m_shf = some o → KW X Y A 4 0 0 (kfl [gM Y ma o.2 z_m_sav z_m_sc z_m_err z_m_shf z_m_stp z_m_que z_m_qd z_m_qx z_m_qy z_m_met z_m_per z_m_row z_m_det z_m_h]) [(0, .ref (ma 0)), (2, .int l2), (3, .int o.1)] 175 [] → KW X Y A 4 0 0 (kfl [gM Y ma z_m_now z_m_sav z_m_sc z_m_err z_m_shf z_m_stp z_m_que z_m_qd z_m_qx z_m_qy z_m_met z_m_per z_m_row z_m_det z_m_h]) [(0, .ref (ma 0)), (2, .int l2), (3, .int l3)] 117 [] := by
    intro n
    induction n with
    | zero => intro l2 l3 z_m_now z_m_sav z_m_sc z_m_err z_m_shf z_m_stp z_m_que z_m_qd z_m_qx z_m_qy z_m_met z_m_per z_m_row z_m_det z_m_h o h; cases h
    | succ n ih =>
      intro l2 l3 z_m_now z_m_sav z_m_sc z_m_err z_m_shf z_m_stp z_m_que z_m_qd z_m_qx z_m_qy z_m_met z_m_per z_m_row z_m_det z_m_h o h hK
      rw [pX6_take_L117] at h
      refine kw_iload_n hX 117 dX6_take_117 rfl 2 rfl ?_
      refine kw_aload_n hX 118 dX6_take_118 rfl 0 rfl ?_
      refine kw_get hX 119 (C := RX6) (T := TX6) (N := 15) hin6 0 f0 (fun _ h => h) 0 rfl rfl (by decide) rfl dX6_take_119 ?_
      refine kw_iconst hX 122 dX6_take_122 kci_1 ?_
      obtain ⟨g28, h⟩ := kgd_some h
      refine kw_iald hX 123 1 rfl g28 dX6_take_123 ?_
      refine kw_icmp_ge hX 124 175 dX6_take_124 (by decide) (fun c29 => ?_) (fun c29 => ?_)
      · have h := kif_t c29 h
        obtain rfl := Option.some.inj h
        refine kw_lv (lv' := [(0, .ref (ma 0)), (2, .int l2), (3, .int l3)]) [0, 1, 2] rfl ?_
        exact hK
      · have h := kif_f c29 h
        refine kw_aload_n hX 127 dX6_take_127 rfl 0 rfl ?_
        refine kw_get hX 128 (C := RX6) (T := TX6) (N := 15) hin6 0 f0 (fun _ h => h) 0 rfl rfl (by decide) rfl dX6_take_128 ?_
        refine kw_iconst hX 131 dX6_take_131 kci_2 ?_
        refine kw_iconst hX 132 dX6_take_132 kci_4 ?_
        refine kw_iload_n hX 133 dX6_take_133 rfl 2 rfl ?_
        refine kw_imul hX 134 dX6_take_134 ?_
        refine kw_iadd hX 135 dX6_take_135 ?_
        refine kw_iconst hX 136 dX6_take_136 kci_2 ?_
        refine kw_iadd hX 137 dX6_take_137 ?_
        refine kw_aload_n hX 138 dX6_take_138 rfl 0 rfl ?_
        refine kw_get hX 139 (C := RX6) (T := TX6) (N := 15) hin6 4 f1 (fun _ h => h) 0 rfl rfl (by decide) rfl dX6_take_139 ?_
        refine kw_iconst hX 142 dX6_take_142 kci_2 ?_
        refine kw_iload_n hX 143 dX6_take_143 rfl 2 rfl ?_
        refine kw_imul hX 144 dX6_take_144 ?_
        obtain ⟨g30, h⟩ := kgd_some h
        refine kw_iald hX 145 4 rfl g30 dX6_take_145 ?_
        obtain ⟨g31, h⟩ := kgd_some h
        refine kw_iast hX 146 (ws' := (kfl [gM Y ma (upd z_m_now (((2 + (4 * l3)) + 2) : Int32).toNatClampNeg (z_m_shf ((2 * l3) : Int32).toNatClampNeg)) z_m_sav z_m_sc z_m_err z_m_shf z_m_stp z_m_que z_m_qd z_m_qx z_m_qy z_m_met z_m_per z_m_row z_m_det z_m_h])) 1 rfl g31 rfl dX6_take_146 ?_
        refine kw_aload_n hX 147 dX6_take_147 rfl 0 rfl ?_
        refine kw_get hX 148 (C := RX6) (T := TX6) (N := 15) hin6 0 f0 (fun _ h => h) 0 rfl rfl (by decide) rfl dX6_take_148 ?_
        refine kw_iconst hX 151 dX6_take_151 kci_2 ?_
        refine kw_iconst hX 152 dX6_take_152 kci_4 ?_
        refine kw_iload_n hX 153 dX6_take_153 rfl 2 rfl ?_
        refine kw_imul hX 154 dX6_take_154 ?_
        refine kw_iadd hX 155 dX6_take_155 ?_
        refine kw_iconst hX 156 dX6_take_156 kci_3 ?_
        refine kw_iadd hX 157 dX6_take_157 ?_
        refine kw_aload_n hX 158 dX6_take_158 rfl 0 rfl ?_
        refine kw_get hX 159 (C := RX6) (T := TX6) (N := 15) hin6 4 f1 (fun _ h => h) 0 rfl rfl (by decide) rfl dX6_take_159 ?_
        refine kw_iconst hX 162 dX6_take_162 kci_2 ?_
        refine kw_iload_n hX 163 dX6_take_163 rfl 2 rfl ?_
        refine kw_imul hX 164 dX6_take_164 ?_
        refine kw_iconst hX 165 dX6_take_165 kci_1 ?_
        refine kw_iadd hX 166 dX6_take_166 ?_
        obtain ⟨g32, h⟩ := kgd_some h
        refine kw_iald hX 167 4 rfl g32 dX6_take_167 ?_
        obtain ⟨g33, h⟩ := kgd_some h
        refine kw_iast hX 168 (ws' := (kfl [gM Y ma (upd (upd z_m_now (((2 + (4 * l3)) + 2) : Int32).toNatClampNeg (z_m_shf ((2 * l3) : Int32).toNatClampNeg)) (((2 + (4 * l3)) + 3) : Int32).toNatClampNeg (z_m_shf (((2 * l3) + 1) : Int32).toNatClampNeg)) z_m_sav z_m_sc z_m_err z_m_shf z_m_stp z_m_que z_m_qd z_m_qx z_m_qy z_m_met z_m_per z_m_row z_m_det z_m_h])) 1 rfl g33 rfl dX6_take_168 ?_
        refine kw_iinc (v := (l3 + 1)) (lv' := [(3, .int (l3 + 1)), (0, .ref (ma 0)), (2, .int l2)]) hX 169 dX6_take_169 2 rfl (kinc_1 _) (by decide) rfl ?_
        refine kw_goto hX 172 117 dX6_take_172 (by decide) ?_
        refine kw_lv (lv' := [(0, .ref (ma 0)), (2, .int l2), (3, .int (l3 + 1))]) [1, 2, 0] rfl ?_
        exact ih l2 (l3 + 1) (upd (upd z_m_now (((2 + (4 * l3)) + 2) : Int32).toNatClampNeg (z_m_shf ((2 * l3) : Int32).toNatClampNeg)) (((2 + (4 * l3)) + 3) : Int32).toNatClampNeg (z_m_shf (((2 * l3) + 1) : Int32).toNatClampNeg)) z_m_sav z_m_sc z_m_err z_m_shf z_m_stp z_m_que z_m_qd z_m_qx z_m_qy z_m_met z_m_per z_m_row z_m_det z_m_h o h hK
  unfold pX6_take at h
  refine kw_lv (lv' := [(0, .ref (ma 0))]) [0] rfl ?_
  refine kw_iconst hX 0 dX6_take_0 kci_1 ?_
  refine kw_istore_n (lv' := [(1, .int 1), (0, .ref (ma 0))]) hX 1 dX6_take_1 rfl (by decide) rfl ?_
  refine kw_iconst hX 2 dX6_take_2 kci_0 ?_
  refine kw_istore_n (lv' := [(2, .int 0), (1, .int 1), (0, .ref (ma 0))]) hX 3 dX6_take_3 rfl (by decide) rfl ?_
  refine kw_iconst hX 4 dX6_take_4 kci_0 ?_
  refine kw_istore_n (lv' := [(3, .int 0), (2, .int 0), (1, .int 1), (0, .ref (ma 0))]) hX 5 dX6_take_5 rfl (by decide) rfl ?_
  obtain ⟨v23, hl24, h⟩ := kb_some h
  refine kw_lv (lv' := [(0, .ref (ma 0)), (1, .int 1), (2, .int 0), (3, .int 0)]) [3, 2, 1, 0] rfl ?_
  refine L6 KF 1 0 0 m_now m_sav m_sc m_err m_shf m_stp m_que m_qd m_qx m_qy m_met m_per m_row m_det m_h v23 hl24 ?_
  refine kw_iload_n hX 100 dX6_take_100 rfl 1 rfl ?_
  refine kw_if_ne hX 101 111 dX6_take_101 (by decide) (fun c25 => ?_) (fun c25 => ?_)
  · have h := kif_f c25 h
    refine kw_aload_n hX 111 dX6_take_111 rfl 0 rfl ?_
    obtain ⟨v26, hc27, h⟩ := kb_some h
    refine kw_callV_V hX 112 (As := []) (rest := []) (kX6_save (kx_l X) Y ma m_now m_sav m_sc m_err m_shf m_stp m_que m_qd m_qx m_qy m_met m_per m_row m_det m_h hc27) gX6_take_X6_save rfl 0 rfl hdV_X6_save ⟨rfl, rfl⟩ ⟨by decide, by decide⟩ ⟨Nat.zero_le _, Nat.zero_le _⟩ rfl (Nat.le_of_ble_eq_true rfl) [0] (by decide) rfl (kfc gM_f kfn0) (gs1 := [gM Y ma m_now v26.1 v26.2 m_err m_shf m_stp m_que m_qd m_qx m_qy m_met m_per m_row m_det m_h]) rfl 0 6 rfl rfl rfl dX6_take_112 ?_
    refine kw_iconst hX 115 dX6_take_115 kci_0 ?_
    refine kw_istore_n (lv' := [(3, .int 0), (0, .ref (ma 0)), (1, .int v23.1), (2, .int v23.2.1)]) hX 116 dX6_take_116 rfl (by decide) rfl ?_
    obtain ⟨v34, hl35, h⟩ := kb_some h
    refine kw_lv (lv' := [(0, .ref (ma 0)), (2, .int v23.2.1), (3, .int 0)]) [1, 3, 0] rfl ?_
    refine L117 KF v23.2.1 0 m_now v26.1 v26.2 m_err m_shf m_stp m_que m_qd m_qx m_qy m_met m_per m_row m_det m_h v34 hl35 ?_
    refine kw_iload_n hX 175 dX6_take_175 rfl 1 rfl ?_
    obtain rfl := Option.some.inj h
    exact hret _ _ dX6_take_176 rfl
  · have h := kif_t c25 h
    refine kw_aload_n hX 104 dX6_take_104 rfl 0 rfl ?_
    refine kw_bipush hX 105 dX6_take_105 kcb_m5 ?_
    obtain ⟨v36, hc37, h⟩ := kb_some h
    refine kw_callV_I hX 107 (As := [.int (-5)]) (rest := []) (kX6_error (kx_l X) Y ma m_now m_sav m_sc m_err m_shf m_stp m_que m_qd m_qx m_qy m_met m_per m_row m_det m_h (-5) hc37) gX6_take_X6_error rfl 1 rfl hdV_X6_error ⟨rfl, rfl⟩ ⟨by decide, by decide⟩ ⟨Nat.zero_le _, Nat.zero_le _⟩ rfl (Nat.le_of_ble_eq_true rfl) [0] (by decide) rfl (kfc gM_f kfn0) (gs1 := [gM Y ma m_now m_sav m_sc v36.2 m_shf m_stp m_que m_qd m_qx m_qy m_met m_per m_row m_det m_h]) rfl 0 6 rfl rfl rfl dX6_take_107 ?_
    obtain rfl := Option.some.inj h
    exact hret _ _ dX6_take_110 rfl
def pX6_moveVertex_L26 : Nat → Int32 → Int32 → Int32 → Int32 → (Nat → Int32) → (Nat → Int32) → Option (Int32 × (Nat → Int32))
  | 0, _, _, _, _, _, _ => none
  | n + 1, l1, l2, l3, l4, z_m_now, z_m_shf => kgd (kin 1 50) ((if (z_m_now (1 : Int32).toNatClampNeg) ≤ l4 then some (l4, z_m_shf) else kb (pX6_of l4 1 z_m_now) (fun v11 => kb ((if v11 = l1 then some 1 else some 0) : Option (Int32)) (fun v14 => kb (pX6_of l4 0 z_m_now) (fun v16 => kb ((if v16 = l1 then some 1 else some 0) : Option (Int32)) (fun v19 => kb (pX6_of l4 2 z_m_now) (fun v21 => kgd (kin (2 * l4) 24) (kb (pX6_of l4 3 z_m_now) (fun v24 => kgd (kin ((2 * l4) + 1) 24) (pX6_moveVertex_L26 n l1 l2 l3 (l4 + 1) z_m_now (upd (upd z_m_shf ((2 * l4) : Int32).toNatClampNeg (v21 + ((v14 - v19) * l2))) (((2 * l4) + 1) : Int32).toNatClampNeg (v24 + ((v14 - v19) * l3)))))))))))))
def pX6_moveVertex (a1 : Int32) (a2 : Int32) (a3 : Int32) (m_now : Nat → Int32) (m_sav : Nat → Int32) (m_sc : Int32) (m_err : Nat → Int32) (m_shf : Nat → Int32) : Option (Int32 × (Nat → Int32) × (Nat → Int32) × Int32 × (Nat → Int32) × (Nat → Int32)) := kb (pX6_isVertex a1 m_now) (fun v1 => (if v1 = 0 then kb (pX6_error (-2) m_err) (fun v4 => some (v4.1, m_now, m_sav, m_sc, v4.2, m_shf)) else kb (pX6_isShift a2 a3) (fun v6 => (if v6 = 0 then kb (pX6_error (-2) m_err) (fun v33 => some (v33.1, m_now, m_sav, m_sc, v33.2, m_shf)) else kb (pX6_moveVertex_L26 KF a1 a2 a3 0 m_now m_shf) (fun v29 => kb (pX6_take m_now m_sav m_sc m_err v29.2) (fun v31 => some (v31.1, v31.2.1, v31.2.2.1, v31.2.2.2.1, v31.2.2.2.2, v29.2)))))))
def rmX6_moveVertex : Room := { frames := 3, cells := 0, slots := 0, locals := 66 }
theorem hdV_X6_moveVertex : yX6_moveVertex.cls = RX6 ∧ yX6_moveVertex.cls ≠ "java/lang/invoke/MethodHandle" ∧ yX6_moveVertex.cls ≠ "java/lang/invoke/VarHandle" ∧ (parseMethodDescriptor yX6_moveVertex.desc).map (fun d => d.parameters.length) = some 3 := ⟨rfl, by decide +kernel, by decide +kernel, by decide +kernel⟩
set_option maxHeartbeats 4000000 in
set_option maxRecDepth 100000 in
theorem kX6_moveVertex (l : Launch) (Y : KY) (ma : Nat → Nat) (m_now : Nat → Int32) (m_sav : Nat → Int32) (m_sc : Int32) (m_err : Nat → Int32) (m_shf : Nat → Int32) (m_stp : Nat → Int32) (m_que : Nat → Int32) (m_qd : Int32) (m_qx : Nat → Int32) (m_qy : Nat → Int32) (m_met : Nat → Int32) (m_per : Nat → Int32) (m_row : Nat → Int64) (m_det : Int64) (m_h : Int64) (a1 : Int32) (a2 : Int32) (a3 : Int32) {o : Int32 × (Nat → Int32) × (Nat → Int32) × Int32 × (Nat → Int32) × (Nat → Int32)} (h : pX6_moveVertex a1 a2 a3 m_now m_sav m_sc m_err m_shf = some o) : CtI l yX6_moveVertex wsX6_moveVertex rmX6_moveVertex Y [.ref (ma 0), .int a1, .int a2, .int a3] (kfl [gM Y ma m_now m_sav m_sc m_err m_shf m_stp m_que m_qd m_qx m_qy m_met m_per m_row m_det m_h]) o.1 (kfl [gM Y ma o.2.1 o.2.2.1 o.2.2.2.1 o.2.2.2.2.1 o.2.2.2.2.2 m_stp m_que m_qd m_qx m_qy m_met m_per m_row m_det m_h]) := by
  refine ctI_intro (cc := cX6_moveVertex) (maxL := 6) (own := RX6) (by decide +kernel) rfl rfl (Nat.le_of_ble_eq_true rfl) rfl ?_
  intro X A hX _ hret
  have hin6 : ∀ w ∈ u_ws RX6 TX6 15, w ∈ wsX6_moveVertex := by decide +kernel
  have f0 := hX.w (Cond.fieldLink RX6 7 "PeriodicNetModel" "now" "[I") (by decide +kernel)
  have f1 := hX.w (Cond.fieldLink RX6 19 "PeriodicNetModel" "shifts" "[I") (by decide +kernel)
  have L26 : ∀ (n : Nat) (l1 : Int32) (l2 : Int32) (l3 : Int32) (l4 : Int32) (z_m_now : Nat → Int32) (z_m_sav : Nat → Int32) (z_m_sc : Int32) (z_m_err : Nat → Int32) (z_m_shf : Nat → Int32) (z_m_stp : Nat → Int32) (z_m_que : Nat → Int32) (z_m_qd : Int32) (z_m_qx : Nat → Int32) (z_m_qy : Nat → Int32) (z_m_met : Nat → Int32) (z_m_per : Nat → Int32) (z_m_row : Nat → Int64) (z_m_det : Int64) (z_m_h : Int64) (o : Int32 × (Nat → Int32)), pX6_moveVertex_L26 n l1 l2 l3 l4 z_m_now z_m_shf = some o → KW X Y A 6 0 0 (kfl [gM Y ma z_m_now z_m_sav z_m_sc z_m_err o.2 z_m_stp z_m_que z_m_qd z_m_qx z_m_qy z_m_met z_m_per z_m_row z_m_det z_m_h]) [(0, .ref (ma 0)), (1, .int l1), (2, .int l2), (3, .int l3), (4, .int o.1)] 122 [] → KW X Y A 6 0 0 (kfl [gM Y ma z_m_now z_m_sav z_m_sc z_m_err z_m_shf z_m_stp z_m_que z_m_qd z_m_qx z_m_qy z_m_met z_m_per z_m_row z_m_det z_m_h]) [(0, .ref (ma 0)), (1, .int l1), (2, .int l2), (3, .int l3), (4, .int l4)] 26 [] := by
    intro n
    induction n with
    | zero => intro l1 l2 l3 l4 z_m_now z_m_sav z_m_sc z_m_err z_m_shf z_m_stp z_m_que z_m_qd z_m_qx z_m_qy z_m_met z_m_per z_m_row z_m_det z_m_h o h; cases h
    | succ n ih =>
      intro l1 l2 l3 l4 z_m_now z_m_sav z_m_sc z_m_err z_m_shf z_m_stp z_m_que z_m_qd z_m_qx z_m_qy z_m_met z_m_per z_m_row z_m_det z_m_h o h hK
      rw [pX6_moveVertex_L26] at h
      refine kw_iload hX 26 dX6_moveVertex_26 4 rfl ?_
      refine kw_aload_n hX 28 dX6_moveVertex_28 rfl 0 rfl ?_
      refine kw_get hX 29 (C := RX6) (T := TX6) (N := 15) hin6 0 f0 (fun _ h => h) 0 rfl rfl (by decide) rfl dX6_moveVertex_29 ?_
      refine kw_iconst hX 32 dX6_moveVertex_32 kci_1 ?_
      obtain ⟨g9, h⟩ := kgd_some h
      refine kw_iald hX 33 1 rfl g9 dX6_moveVertex_33 ?_
      refine kw_icmp_ge hX 34 122 dX6_moveVertex_34 (by decide) (fun c10 => ?_) (fun c10 => ?_)
      · have h := kif_t c10 h
        obtain rfl := Option.some.inj h
        refine kw_lv (lv' := [(0, .ref (ma 0)), (1, .int l1), (2, .int l2), (3, .int l3), (4, .int l4)]) [0, 1, 2, 3, 4] rfl ?_
        exact hK
      · have h := kif_f c10 h
        refine kw_aload_n hX 37 dX6_moveVertex_37 rfl 0 rfl ?_
        refine kw_iload hX 38 dX6_moveVertex_38 4 rfl ?_
        refine kw_iconst hX 40 dX6_moveVertex_40 kci_1 ?_
        obtain ⟨v11, hc12, h⟩ := kb_some h
        refine kw_callV_I hX 41 (As := [.int l4, .int 1]) (rest := []) (kX6_of (kx_l X) Y ma z_m_now z_m_sav z_m_sc z_m_err z_m_shf z_m_stp z_m_que z_m_qd z_m_qx z_m_qy z_m_met z_m_per z_m_row z_m_det z_m_h l4 1 hc12) gX6_moveVertex_X6_of rfl 2 rfl hdV_X6_of ⟨rfl, rfl⟩ ⟨by decide, by decide⟩ ⟨Nat.zero_le _, Nat.zero_le _⟩ rfl (Nat.le_of_ble_eq_true rfl) [0] (by decide) rfl (kfc rfl kfn0) (gs1 := [gM Y ma z_m_now z_m_sav z_m_sc z_m_err z_m_shf z_m_stp z_m_que z_m_qd z_m_qx z_m_qy z_m_met z_m_per z_m_row z_m_det z_m_h]) rfl 0 6 rfl rfl rfl dX6_moveVertex_41 ?_
        refine kw_iload_n hX 44 dX6_moveVertex_44 rfl 1 rfl ?_
        obtain ⟨v14, hj28, h⟩ := kb_some h
        have J15 : KW X Y A 6 0 0 (kfl [gM Y ma z_m_now z_m_sav z_m_sc z_m_err z_m_shf z_m_stp z_m_que z_m_qd z_m_qx z_m_qy z_m_met z_m_per z_m_row z_m_det z_m_h]) [(0, .ref (ma 0)), (1, .int l1), (2, .int l2), (3, .int l3), (4, .int l4)] 53 [.int v14] := by
          refine kw_aload_n hX 53 dX6_moveVertex_53 rfl 0 rfl ?_
          refine kw_iload hX 54 dX6_moveVertex_54 4 rfl ?_
          refine kw_iconst hX 56 dX6_moveVertex_56 kci_0 ?_
          obtain ⟨v16, hc17, h⟩ := kb_some h
          refine kw_callV_I hX 57 (As := [.int l4, .int 0]) (rest := [.int v14]) (kX6_of (kx_l X) Y ma z_m_now z_m_sav z_m_sc z_m_err z_m_shf z_m_stp z_m_que z_m_qd z_m_qx z_m_qy z_m_met z_m_per z_m_row z_m_det z_m_h l4 0 hc17) gX6_moveVertex_X6_of rfl 2 rfl hdV_X6_of ⟨rfl, rfl⟩ ⟨by decide, by decide⟩ ⟨Nat.zero_le _, Nat.zero_le _⟩ rfl (Nat.le_of_ble_eq_true rfl) [0] (by decide) rfl (kfc rfl kfn0) (gs1 := [gM Y ma z_m_now z_m_sav z_m_sc z_m_err z_m_shf z_m_stp z_m_que z_m_qd z_m_qx z_m_qy z_m_met z_m_per z_m_row z_m_det z_m_h]) rfl 0 6 rfl rfl rfl dX6_moveVertex_57 ?_
          refine kw_iload_n hX 60 dX6_moveVertex_60 rfl 1 rfl ?_
          obtain ⟨v19, hj27, h⟩ := kb_some h
          have J20 : KW X Y A 6 0 0 (kfl [gM Y ma z_m_now z_m_sav z_m_sc z_m_err z_m_shf z_m_stp z_m_que z_m_qd z_m_qx z_m_qy z_m_met z_m_per z_m_row z_m_det z_m_h]) [(0, .ref (ma 0)), (1, .int l1), (2, .int l2), (3, .int l3), (4, .int l4)] 69 [.int v19, .int v14] := by
            refine kw_isub hX 69 dX6_moveVertex_69 ?_
            refine kw_istore (lv' := [(5, .int (v14 - v19)), (0, .ref (ma 0)), (1, .int l1), (2, .int l2), (3, .int l3), (4, .int l4)]) hX 70 dX6_moveVertex_70 (by decide) rfl ?_
            refine kw_aload_n hX 72 dX6_moveVertex_72 rfl 1 rfl ?_
            refine kw_get hX 73 (C := RX6) (T := TX6) (N := 15) hin6 4 f1 (fun _ h => h) 0 rfl rfl (by decide) rfl dX6_moveVertex_73 ?_
            refine kw_iconst hX 76 dX6_moveVertex_76 kci_2 ?_
            refine kw_iload hX 77 dX6_moveVertex_77 5 rfl ?_
            refine kw_imul hX 79 dX6_moveVertex_79 ?_
            refine kw_aload_n hX 80 dX6_moveVertex_80 rfl 1 rfl ?_
            refine kw_iload hX 81 dX6_moveVertex_81 5 rfl ?_
            refine kw_iconst hX 83 dX6_moveVertex_83 kci_2 ?_
            obtain ⟨v21, hc22, h⟩ := kb_some h
            refine kw_callV_I hX 84 (As := [.int l4, .int 2]) (rest := [.int (2 * l4), .ref (ma 4)]) (kX6_of (kx_l X) Y ma z_m_now z_m_sav z_m_sc z_m_err z_m_shf z_m_stp z_m_que z_m_qd z_m_qx z_m_qy z_m_met z_m_per z_m_row z_m_det z_m_h l4 2 hc22) gX6_moveVertex_X6_of rfl 2 rfl hdV_X6_of ⟨rfl, rfl⟩ ⟨by decide, by decide⟩ ⟨Nat.zero_le _, Nat.zero_le _⟩ rfl (Nat.le_of_ble_eq_true rfl) [0] (by decide) rfl (kfc rfl kfn0) (gs1 := [gM Y ma z_m_now z_m_sav z_m_sc z_m_err z_m_shf z_m_stp z_m_que z_m_qd z_m_qx z_m_qy z_m_met z_m_per z_m_row z_m_det z_m_h]) rfl 0 6 rfl rfl rfl dX6_moveVertex_84 ?_
            refine kw_iload hX 87 dX6_moveVertex_87 0 rfl ?_
            refine kw_iload_n hX 89 dX6_moveVertex_89 rfl 3 rfl ?_
            refine kw_imul hX 90 dX6_moveVertex_90 ?_
            refine kw_iadd hX 91 dX6_moveVertex_91 ?_
            obtain ⟨g23, h⟩ := kgd_some h
            refine kw_iast hX 92 (ws' := (kfl [gM Y ma z_m_now z_m_sav z_m_sc z_m_err (upd z_m_shf ((2 * l4) : Int32).toNatClampNeg (v21 + ((v14 - v19) * l2))) z_m_stp z_m_que z_m_qd z_m_qx z_m_qy z_m_met z_m_per z_m_row z_m_det z_m_h])) 4 rfl g23 rfl dX6_moveVertex_92 ?_
            refine kw_aload_n hX 93 dX6_moveVertex_93 rfl 1 rfl ?_
            refine kw_get hX 94 (C := RX6) (T := TX6) (N := 15) hin6 4 f1 (fun _ h => h) 0 rfl rfl (by decide) rfl dX6_moveVertex_94 ?_
            refine kw_iconst hX 97 dX6_moveVertex_97 kci_2 ?_
            refine kw_iload hX 98 dX6_moveVertex_98 5 rfl ?_
            refine kw_imul hX 100 dX6_moveVertex_100 ?_
            refine kw_iconst hX 101 dX6_moveVertex_101 kci_1 ?_
            refine kw_iadd hX 102 dX6_moveVertex_102 ?_
            refine kw_aload_n hX 103 dX6_moveVertex_103 rfl 1 rfl ?_
            refine kw_iload hX 104 dX6_moveVertex_104 5 rfl ?_
            refine kw_iconst hX 106 dX6_moveVertex_106 kci_3 ?_
            obtain ⟨v24, hc25, h⟩ := kb_some h
            refine kw_callV_I hX 107 (As := [.int l4, .int 3]) (rest := [.int ((2 * l4) + 1), .ref (ma 4)]) (kX6_of (kx_l X) Y ma z_m_now z_m_sav z_m_sc z_m_err (upd z_m_shf ((2 * l4) : Int32).toNatClampNeg (v21 + ((v14 - v19) * l2))) z_m_stp z_m_que z_m_qd z_m_qx z_m_qy z_m_met z_m_per z_m_row z_m_det z_m_h l4 3 hc25) gX6_moveVertex_X6_of rfl 2 rfl hdV_X6_of ⟨rfl, rfl⟩ ⟨by decide, by decide⟩ ⟨Nat.zero_le _, Nat.zero_le _⟩ rfl (Nat.le_of_ble_eq_true rfl) [0] (by decide) rfl (kfc rfl kfn0) (gs1 := [gM Y ma z_m_now z_m_sav z_m_sc z_m_err (upd z_m_shf ((2 * l4) : Int32).toNatClampNeg (v21 + ((v14 - v19) * l2))) z_m_stp z_m_que z_m_qd z_m_qx z_m_qy z_m_met z_m_per z_m_row z_m_det z_m_h]) rfl 0 6 rfl rfl rfl dX6_moveVertex_107 ?_
            refine kw_iload hX 110 dX6_moveVertex_110 0 rfl ?_
            refine kw_iload_n hX 112 dX6_moveVertex_112 rfl 4 rfl ?_
            refine kw_imul hX 113 dX6_moveVertex_113 ?_
            refine kw_iadd hX 114 dX6_moveVertex_114 ?_
            obtain ⟨g26, h⟩ := kgd_some h
            refine kw_iast hX 115 (ws' := (kfl [gM Y ma z_m_now z_m_sav z_m_sc z_m_err (upd (upd z_m_shf ((2 * l4) : Int32).toNatClampNeg (v21 + ((v14 - v19) * l2))) (((2 * l4) + 1) : Int32).toNatClampNeg (v24 + ((v14 - v19) * l3))) z_m_stp z_m_que z_m_qd z_m_qx z_m_qy z_m_met z_m_per z_m_row z_m_det z_m_h])) 4 rfl g26 rfl dX6_moveVertex_115 ?_
            refine kw_iinc (v := (l4 + 1)) (lv' := [(4, .int (l4 + 1)), (5, .int (v14 - v19)), (0, .ref (ma 0)), (1, .int l1), (2, .int l2), (3, .int l3)]) hX 116 dX6_moveVertex_116 5 rfl (kinc_1 _) (by decide) rfl ?_
            refine kw_goto hX 119 26 dX6_moveVertex_119 (by decide) ?_
            refine kw_lv (lv' := [(0, .ref (ma 0)), (1, .int l1), (2, .int l2), (3, .int l3), (4, .int (l4 + 1))]) [2, 3, 4, 5, 0] rfl ?_
            exact ih l1 l2 l3 (l4 + 1) z_m_now z_m_sav z_m_sc z_m_err (upd (upd z_m_shf ((2 * l4) : Int32).toNatClampNeg (v21 + ((v14 - v19) * l2))) (((2 * l4) + 1) : Int32).toNatClampNeg (v24 + ((v14 - v19) * l3))) z_m_stp z_m_que z_m_qd z_m_qx z_m_qy z_m_met z_m_per z_m_row z_m_det z_m_h o h hK
          have h := hj27
          refine kw_icmp_ne hX 61 68 dX6_moveVertex_61 (by decide) (fun c18 => ?_) (fun c18 => ?_)
          · have h := kif_f c18 h
            refine kw_iconst hX 68 dX6_moveVertex_68 kci_0 ?_
            obtain rfl := Option.some.inj h
            refine kw_lv (lv' := [(0, .ref (ma 0)), (1, .int l1), (2, .int l2), (3, .int l3), (4, .int l4)]) [0, 1, 2, 3, 4] rfl ?_
            exact J20
          · have h := kif_t c18 h
            refine kw_iconst hX 64 dX6_moveVertex_64 kci_1 ?_
            refine kw_goto hX 65 69 dX6_moveVertex_65 (by decide) ?_
            obtain rfl := Option.some.inj h
            refine kw_lv (lv' := [(0, .ref (ma 0)), (1, .int l1), (2, .int l2), (3, .int l3), (4, .int l4)]) [0, 1, 2, 3, 4] rfl ?_
            exact J20
        have h := hj28
        refine kw_icmp_ne hX 45 52 dX6_moveVertex_45 (by decide) (fun c13 => ?_) (fun c13 => ?_)
        · have h := kif_f c13 h
          refine kw_iconst hX 52 dX6_moveVertex_52 kci_0 ?_
          obtain rfl := Option.some.inj h
          refine kw_lv (lv' := [(0, .ref (ma 0)), (1, .int l1), (2, .int l2), (3, .int l3), (4, .int l4)]) [0, 1, 2, 3, 4] rfl ?_
          exact J15
        · have h := kif_t c13 h
          refine kw_iconst hX 48 dX6_moveVertex_48 kci_1 ?_
          refine kw_goto hX 49 53 dX6_moveVertex_49 (by decide) ?_
          obtain rfl := Option.some.inj h
          refine kw_lv (lv' := [(0, .ref (ma 0)), (1, .int l1), (2, .int l2), (3, .int l3), (4, .int l4)]) [0, 1, 2, 3, 4] rfl ?_
          exact J15
  unfold pX6_moveVertex at h
  refine kw_lv (lv' := [(0, .ref (ma 0)), (1, .int a1), (2, .int a2), (3, .int a3)]) [0, 1, 2, 3] rfl ?_
  refine kw_aload_n hX 0 dX6_moveVertex_0 rfl 0 rfl ?_
  refine kw_iload_n hX 1 dX6_moveVertex_1 rfl 1 rfl ?_
  obtain ⟨v1, hc2, h⟩ := kb_some h
  refine kw_callV_I hX 2 (As := [.int a1]) (rest := []) (kX6_isVertex (kx_l X) Y ma m_now m_sav m_sc m_err m_shf m_stp m_que m_qd m_qx m_qy m_met m_per m_row m_det m_h a1 hc2) gX6_moveVertex_X6_isVertex rfl 1 rfl hdV_X6_isVertex ⟨rfl, rfl⟩ ⟨by decide, by decide⟩ ⟨Nat.zero_le _, Nat.zero_le _⟩ rfl (Nat.le_of_ble_eq_true rfl) [0] (by decide) rfl (kfc rfl kfn0) (gs1 := [gM Y ma m_now m_sav m_sc m_err m_shf m_stp m_que m_qd m_qx m_qy m_met m_per m_row m_det m_h]) rfl 0 6 rfl rfl rfl dX6_moveVertex_2 ?_
  refine kw_if_eq hX 5 16 dX6_moveVertex_5 (by decide) (fun c3 => ?_) (fun c3 => ?_)
  · have h := kif_t c3 h
    refine kw_aload_n hX 16 dX6_moveVertex_16 rfl 0 rfl ?_
    refine kw_bipush hX 17 dX6_moveVertex_17 kcb_m2 ?_
    obtain ⟨v4, hc5, h⟩ := kb_some h
    refine kw_callV_I hX 19 (As := [.int (-2)]) (rest := []) (kX6_error (kx_l X) Y ma m_now m_sav m_sc m_err m_shf m_stp m_que m_qd m_qx m_qy m_met m_per m_row m_det m_h (-2) hc5) gX6_moveVertex_X6_error rfl 1 rfl hdV_X6_error ⟨rfl, rfl⟩ ⟨by decide, by decide⟩ ⟨Nat.zero_le _, Nat.zero_le _⟩ rfl (Nat.le_of_ble_eq_true rfl) [0] (by decide) rfl (kfc gM_f kfn0) (gs1 := [gM Y ma m_now m_sav m_sc v4.2 m_shf m_stp m_que m_qd m_qx m_qy m_met m_per m_row m_det m_h]) rfl 0 6 rfl rfl rfl dX6_moveVertex_19 ?_
    obtain rfl := Option.some.inj h
    exact hret _ _ dX6_moveVertex_22 rfl
  · have h := kif_f c3 h
    refine kw_iload_n hX 8 dX6_moveVertex_8 rfl 2 rfl ?_
    refine kw_iload_n hX 9 dX6_moveVertex_9 rfl 3 rfl ?_
    obtain ⟨v6, hc7, h⟩ := kb_some h
    refine kw_callS_I hX 10 (As := [.int a2, .int a3]) (rest := []) (kX6_isShift (kx_l X) Y a2 a3 hc7) gX6_moveVertex_X6_isShift rfl 2 rfl hdS_X6_isShift ⟨rfl, rfl⟩ ⟨by decide, by decide⟩ ⟨Nat.zero_le _, Nat.zero_le _⟩ rfl (Nat.le_of_ble_eq_true rfl) [] (by decide) rfl kfn0 (gs1 := [gM Y ma m_now m_sav m_sc m_err m_shf m_stp m_que m_qd m_qx m_qy m_met m_per m_row m_det m_h]) rfl dX6_moveVertex_10 ?_
    refine kw_if_ne hX 13 23 dX6_moveVertex_13 (by decide) (fun c8 => ?_) (fun c8 => ?_)
    · have h := kif_f c8 h
      refine kw_iconst hX 23 dX6_moveVertex_23 kci_0 ?_
      refine kw_istore (lv' := [(4, .int 0), (0, .ref (ma 0)), (1, .int a1), (2, .int a2), (3, .int a3)]) hX 24 dX6_moveVertex_24 (by decide) rfl ?_
      obtain ⟨v29, hl30, h⟩ := kb_some h
      refine kw_lv (lv' := [(0, .ref (ma 0)), (1, .int a1), (2, .int a2), (3, .int a3), (4, .int 0)]) [1, 2, 3, 4, 0] rfl ?_
      refine L26 KF a1 a2 a3 0 m_now m_sav m_sc m_err m_shf m_stp m_que m_qd m_qx m_qy m_met m_per m_row m_det m_h v29 hl30 ?_
      refine kw_aload_n hX 122 dX6_moveVertex_122 rfl 0 rfl ?_
      obtain ⟨v31, hc32, h⟩ := kb_some h
      refine kw_callV_I hX 123 (As := []) (rest := []) (kX6_take (kx_l X) Y ma m_now m_sav m_sc m_err v29.2 m_stp m_que m_qd m_qx m_qy m_met m_per m_row m_det m_h hc32) gX6_moveVertex_X6_take rfl 0 rfl hdV_X6_take ⟨rfl, rfl⟩ ⟨by decide, by decide⟩ ⟨Nat.zero_le _, Nat.zero_le _⟩ rfl (Nat.le_of_ble_eq_true rfl) [0] (by decide) rfl (kfc gM_f kfn0) (gs1 := [gM Y ma v31.2.1 v31.2.2.1 v31.2.2.2.1 v31.2.2.2.2 v29.2 m_stp m_que m_qd m_qx m_qy m_met m_per m_row m_det m_h]) rfl 0 6 rfl rfl rfl dX6_moveVertex_123 ?_
      obtain rfl := Option.some.inj h
      exact hret _ _ dX6_moveVertex_126 rfl
    · have h := kif_t c8 h
      refine kw_aload_n hX 16 dX6_moveVertex_16 rfl 0 rfl ?_
      refine kw_bipush hX 17 dX6_moveVertex_17 kcb_m2 ?_
      obtain ⟨v33, hc34, h⟩ := kb_some h
      refine kw_callV_I hX 19 (As := [.int (-2)]) (rest := []) (kX6_error (kx_l X) Y ma m_now m_sav m_sc m_err m_shf m_stp m_que m_qd m_qx m_qy m_met m_per m_row m_det m_h (-2) hc34) gX6_moveVertex_X6_error rfl 1 rfl hdV_X6_error ⟨rfl, rfl⟩ ⟨by decide, by decide⟩ ⟨Nat.zero_le _, Nat.zero_le _⟩ rfl (Nat.le_of_ble_eq_true rfl) [0] (by decide) rfl (kfc gM_f kfn0) (gs1 := [gM Y ma m_now m_sav m_sc v33.2 m_shf m_stp m_que m_qd m_qx m_qy m_met m_per m_row m_det m_h]) rfl 0 6 rfl rfl rfl dX6_moveVertex_19 ?_
      obtain rfl := Option.some.inj h
      exact hret _ _ dX6_moveVertex_22 rfl
def pX6_changeBasis_L18 : Nat → Int32 → Int32 → (Nat → Int32) → (Nat → Int32) → Option (Int32 × (Nat → Int32))
  | 0, _, _, _, _ => none
  | n + 1, l1, l2, z_m_now, z_m_shf => kgd (kin 1 50) ((if (z_m_now (1 : Int32).toNatClampNeg) ≤ l2 then some (l2, z_m_shf) else kb (pX6_of l2 2 z_m_now) (fun v6 => kb (pX6_of l2 3 z_m_now) (fun v8 => kb ((if l1 = 0 then some v8 else (if l1 = (1 : Int32) then some (v6 + v8) else (if l1 = (2 : Int32) then some (v6 - v8) else some (-v6)))) : Option (Int32)) (fun v13 => kgd (kin (2 * l2) 24) (kb ((if l1 = 0 then some v6 else some v8) : Option (Int32)) (fun v17 => kgd (kin ((2 * l2) + 1) 24) (pX6_changeBasis_L18 n l1 (l2 + 1) z_m_now (upd (upd z_m_shf ((2 * l2) : Int32).toNatClampNeg v13) (((2 * l2) + 1) : Int32).toNatClampNeg v17)))))))))
def pX6_changeBasis (a1 : Int32) (m_now : Nat → Int32) (m_sav : Nat → Int32) (m_sc : Int32) (m_err : Nat → Int32) (m_shf : Nat → Int32) : Option (Int32 × (Nat → Int32) × (Nat → Int32) × Int32 × (Nat → Int32) × (Nat → Int32)) := kb (pX6_in a1 0 3) (fun v1 => (if v1 = 0 then kb (pX6_error (-2) m_err) (fun v26 => some (v26.1, m_now, m_sav, m_sc, v26.2, m_shf)) else kb (pX6_changeBasis_L18 KF a1 0 m_now m_shf) (fun v22 => kb (pX6_take m_now m_sav m_sc m_err v22.2) (fun v24 => some (v24.1, v24.2.1, v24.2.2.1, v24.2.2.2.1, v24.2.2.2.2, v22.2)))))
def rmX6_changeBasis : Room := { frames := 3, cells := 0, slots := 0, locals := 66 }
theorem hdV_X6_changeBasis : yX6_changeBasis.cls = RX6 ∧ yX6_changeBasis.cls ≠ "java/lang/invoke/MethodHandle" ∧ yX6_changeBasis.cls ≠ "java/lang/invoke/VarHandle" ∧ (parseMethodDescriptor yX6_changeBasis.desc).map (fun d => d.parameters.length) = some 1 := ⟨rfl, by decide +kernel, by decide +kernel, by decide +kernel⟩
set_option maxHeartbeats 4000000 in
set_option maxRecDepth 100000 in
theorem kX6_changeBasis (l : Launch) (Y : KY) (ma : Nat → Nat) (m_now : Nat → Int32) (m_sav : Nat → Int32) (m_sc : Int32) (m_err : Nat → Int32) (m_shf : Nat → Int32) (m_stp : Nat → Int32) (m_que : Nat → Int32) (m_qd : Int32) (m_qx : Nat → Int32) (m_qy : Nat → Int32) (m_met : Nat → Int32) (m_per : Nat → Int32) (m_row : Nat → Int64) (m_det : Int64) (m_h : Int64) (a1 : Int32) {o : Int32 × (Nat → Int32) × (Nat → Int32) × Int32 × (Nat → Int32) × (Nat → Int32)} (h : pX6_changeBasis a1 m_now m_sav m_sc m_err m_shf = some o) : CtI l yX6_changeBasis wsX6_changeBasis rmX6_changeBasis Y [.ref (ma 0), .int a1] (kfl [gM Y ma m_now m_sav m_sc m_err m_shf m_stp m_que m_qd m_qx m_qy m_met m_per m_row m_det m_h]) o.1 (kfl [gM Y ma o.2.1 o.2.2.1 o.2.2.2.1 o.2.2.2.2.1 o.2.2.2.2.2 m_stp m_que m_qd m_qx m_qy m_met m_per m_row m_det m_h]) := by
  refine ctI_intro (cc := cX6_changeBasis) (maxL := 5) (own := RX6) (by decide +kernel) rfl rfl (Nat.le_of_ble_eq_true rfl) rfl ?_
  intro X A hX _ hret
  have hin6 : ∀ w ∈ u_ws RX6 TX6 15, w ∈ wsX6_changeBasis := by decide +kernel
  have f0 := hX.w (Cond.fieldLink RX6 7 "PeriodicNetModel" "now" "[I") (by decide +kernel)
  have f1 := hX.w (Cond.fieldLink RX6 19 "PeriodicNetModel" "shifts" "[I") (by decide +kernel)
  have L18 : ∀ (n : Nat) (l1 : Int32) (l2 : Int32) (z_m_now : Nat → Int32) (z_m_sav : Nat → Int32) (z_m_sc : Int32) (z_m_err : Nat → Int32) (z_m_shf : Nat → Int32) (z_m_stp : Nat → Int32) (z_m_que : Nat → Int32) (z_m_qd : Int32) (z_m_qx : Nat → Int32) (z_m_qy : Nat → Int32) (z_m_met : Nat → Int32) (z_m_per : Nat → Int32) (z_m_row : Nat → Int64) (z_m_det : Int64) (z_m_h : Int64) (o : Int32 × (Nat → Int32)), pX6_changeBasis_L18 n l1 l2 z_m_now z_m_shf = some o → KW X Y A 5 0 0 (kfl [gM Y ma z_m_now z_m_sav z_m_sc z_m_err o.2 z_m_stp z_m_que z_m_qd z_m_qx z_m_qy z_m_met z_m_per z_m_row z_m_det z_m_h]) [(0, .ref (ma 0)), (1, .int l1), (2, .int o.1)] 112 [] → KW X Y A 5 0 0 (kfl [gM Y ma z_m_now z_m_sav z_m_sc z_m_err z_m_shf z_m_stp z_m_que z_m_qd z_m_qx z_m_qy z_m_met z_m_per z_m_row z_m_det z_m_h]) [(0, .ref (ma 0)), (1, .int l1), (2, .int l2)] 18 [] := by
    intro n
    induction n with
    | zero => intro l1 l2 z_m_now z_m_sav z_m_sc z_m_err z_m_shf z_m_stp z_m_que z_m_qd z_m_qx z_m_qy z_m_met z_m_per z_m_row z_m_det z_m_h o h; cases h
    | succ n ih =>
      intro l1 l2 z_m_now z_m_sav z_m_sc z_m_err z_m_shf z_m_stp z_m_que z_m_qd z_m_qx z_m_qy z_m_met z_m_per z_m_row z_m_det z_m_h o h hK
      rw [pX6_changeBasis_L18] at h
      refine kw_iload_n hX 18 dX6_changeBasis_18 rfl 2 rfl ?_
      refine kw_aload_n hX 19 dX6_changeBasis_19 rfl 0 rfl ?_
      refine kw_get hX 20 (C := RX6) (T := TX6) (N := 15) hin6 0 f0 (fun _ h => h) 0 rfl rfl (by decide) rfl dX6_changeBasis_20 ?_
      refine kw_iconst hX 23 dX6_changeBasis_23 kci_1 ?_
      obtain ⟨g4, h⟩ := kgd_some h
      refine kw_iald hX 24 1 rfl g4 dX6_changeBasis_24 ?_
      refine kw_icmp_ge hX 25 112 dX6_changeBasis_25 (by decide) (fun c5 => ?_) (fun c5 => ?_)
      · have h := kif_t c5 h
        obtain rfl := Option.some.inj h
        refine kw_lv (lv' := [(0, .ref (ma 0)), (1, .int l1), (2, .int l2)]) [0, 1, 2] rfl ?_
        exact hK
      · have h := kif_f c5 h
        refine kw_aload_n hX 28 dX6_changeBasis_28 rfl 0 rfl ?_
        refine kw_iload_n hX 29 dX6_changeBasis_29 rfl 2 rfl ?_
        refine kw_iconst hX 30 dX6_changeBasis_30 kci_2 ?_
        obtain ⟨v6, hc7, h⟩ := kb_some h
        refine kw_callV_I hX 31 (As := [.int l2, .int 2]) (rest := []) (kX6_of (kx_l X) Y ma z_m_now z_m_sav z_m_sc z_m_err z_m_shf z_m_stp z_m_que z_m_qd z_m_qx z_m_qy z_m_met z_m_per z_m_row z_m_det z_m_h l2 2 hc7) gX6_changeBasis_X6_of rfl 2 rfl hdV_X6_of ⟨rfl, rfl⟩ ⟨by decide, by decide⟩ ⟨Nat.zero_le _, Nat.zero_le _⟩ rfl (Nat.le_of_ble_eq_true rfl) [0] (by decide) rfl (kfc rfl kfn0) (gs1 := [gM Y ma z_m_now z_m_sav z_m_sc z_m_err z_m_shf z_m_stp z_m_que z_m_qd z_m_qx z_m_qy z_m_met z_m_per z_m_row z_m_det z_m_h]) rfl 0 6 rfl rfl rfl dX6_changeBasis_31 ?_
        refine kw_istore_n (lv' := [(3, .int v6), (0, .ref (ma 0)), (1, .int l1), (2, .int l2)]) hX 34 dX6_changeBasis_34 rfl (by decide) rfl ?_
        refine kw_aload_n hX 35 dX6_changeBasis_35 rfl 1 rfl ?_
        refine kw_iload_n hX 36 dX6_changeBasis_36 rfl 3 rfl ?_
        refine kw_iconst hX 37 dX6_changeBasis_37 kci_3 ?_
        obtain ⟨v8, hc9, h⟩ := kb_some h
        refine kw_callV_I hX 38 (As := [.int l2, .int 3]) (rest := []) (kX6_of (kx_l X) Y ma z_m_now z_m_sav z_m_sc z_m_err z_m_shf z_m_stp z_m_que z_m_qd z_m_qx z_m_qy z_m_met z_m_per z_m_row z_m_det z_m_h l2 3 hc9) gX6_changeBasis_X6_of rfl 2 rfl hdV_X6_of ⟨rfl, rfl⟩ ⟨by decide, by decide⟩ ⟨Nat.zero_le _, Nat.zero_le _⟩ rfl (Nat.le_of_ble_eq_true rfl) [0] (by decide) rfl (kfc rfl kfn0) (gs1 := [gM Y ma z_m_now z_m_sav z_m_sc z_m_err z_m_shf z_m_stp z_m_que z_m_qd z_m_qx z_m_qy z_m_met z_m_per z_m_row z_m_det z_m_h]) rfl 0 6 rfl rfl rfl dX6_changeBasis_38 ?_
        refine kw_istore (lv' := [(4, .int v8), (3, .int v6), (0, .ref (ma 0)), (1, .int l1), (2, .int l2)]) hX 41 dX6_changeBasis_41 (by decide) rfl ?_
        refine kw_aload_n hX 43 dX6_changeBasis_43 rfl 2 rfl ?_
        refine kw_get hX 44 (C := RX6) (T := TX6) (N := 15) hin6 4 f1 (fun _ h => h) 0 rfl rfl (by decide) rfl dX6_changeBasis_44 ?_
        refine kw_iconst hX 47 dX6_changeBasis_47 kci_2 ?_
        refine kw_iload_n hX 48 dX6_changeBasis_48 rfl 4 rfl ?_
        refine kw_imul hX 49 dX6_changeBasis_49 ?_
        refine kw_iload_n hX 50 dX6_changeBasis_50 rfl 3 rfl ?_
        obtain ⟨v13, hj21, h⟩ := kb_some h
        have J14 : KW X Y A 5 0 0 (kfl [gM Y ma z_m_now z_m_sav z_m_sc z_m_err z_m_shf z_m_stp z_m_que z_m_qd z_m_qx z_m_qy z_m_met z_m_per z_m_row z_m_det z_m_h]) [(0, .ref (ma 0)), (1, .int l1), (2, .int l2), (3, .int v6), (4, .int v8)] 85 [.int v13, .int (2 * l2), .ref (ma 4)] := by
          obtain ⟨g15, h⟩ := kgd_some h
          refine kw_iast hX 85 (ws' := (kfl [gM Y ma z_m_now z_m_sav z_m_sc z_m_err (upd z_m_shf ((2 * l2) : Int32).toNatClampNeg v13) z_m_stp z_m_que z_m_qd z_m_qx z_m_qy z_m_met z_m_per z_m_row z_m_det z_m_h])) 4 rfl g15 rfl dX6_changeBasis_85 ?_
          refine kw_aload_n hX 86 dX6_changeBasis_86 rfl 0 rfl ?_
          refine kw_get hX 87 (C := RX6) (T := TX6) (N := 15) hin6 4 f1 (fun _ h => h) 0 rfl rfl (by decide) rfl dX6_changeBasis_87 ?_
          refine kw_iconst hX 90 dX6_changeBasis_90 kci_2 ?_
          refine kw_iload_n hX 91 dX6_changeBasis_91 rfl 2 rfl ?_
          refine kw_imul hX 92 dX6_changeBasis_92 ?_
          refine kw_iconst hX 93 dX6_changeBasis_93 kci_1 ?_
          refine kw_iadd hX 94 dX6_changeBasis_94 ?_
          refine kw_iload_n hX 95 dX6_changeBasis_95 rfl 1 rfl ?_
          obtain ⟨v17, hj20, h⟩ := kb_some h
          have J18 : KW X Y A 5 0 0 (kfl [gM Y ma z_m_now z_m_sav z_m_sc z_m_err (upd z_m_shf ((2 * l2) : Int32).toNatClampNeg v13) z_m_stp z_m_que z_m_qd z_m_qx z_m_qy z_m_met z_m_per z_m_row z_m_det z_m_h]) [(0, .ref (ma 0)), (1, .int l1), (2, .int l2)] 105 [.int v17, .int ((2 * l2) + 1), .ref (ma 4)] := by
            obtain ⟨g19, h⟩ := kgd_some h
            refine kw_iast hX 105 (ws' := (kfl [gM Y ma z_m_now z_m_sav z_m_sc z_m_err (upd (upd z_m_shf ((2 * l2) : Int32).toNatClampNeg v13) (((2 * l2) + 1) : Int32).toNatClampNeg v17) z_m_stp z_m_que z_m_qd z_m_qx z_m_qy z_m_met z_m_per z_m_row z_m_det z_m_h])) 4 rfl g19 rfl dX6_changeBasis_105 ?_
            refine kw_iinc (v := (l2 + 1)) (lv' := [(2, .int (l2 + 1)), (0, .ref (ma 0)), (1, .int l1)]) hX 106 dX6_changeBasis_106 2 rfl (kinc_1 _) (by decide) rfl ?_
            refine kw_goto hX 109 18 dX6_changeBasis_109 (by decide) ?_
            refine kw_lv (lv' := [(0, .ref (ma 0)), (1, .int l1), (2, .int (l2 + 1))]) [1, 2, 0] rfl ?_
            exact ih l1 (l2 + 1) z_m_now z_m_sav z_m_sc z_m_err (upd (upd z_m_shf ((2 * l2) : Int32).toNatClampNeg v13) (((2 * l2) + 1) : Int32).toNatClampNeg v17) z_m_stp z_m_que z_m_qd z_m_qx z_m_qy z_m_met z_m_per z_m_row z_m_det z_m_h o h hK
          have h := hj20
          refine kw_if_ne hX 96 103 dX6_changeBasis_96 (by decide) (fun c16 => ?_) (fun c16 => ?_)
          · have h := kif_f c16 h
            refine kw_iload hX 103 dX6_changeBasis_103 4 rfl ?_
            obtain rfl := Option.some.inj h
            refine kw_lv (lv' := [(0, .ref (ma 0)), (1, .int l1), (2, .int l2)]) [0, 1, 2] rfl ?_
            exact J18
          · have h := kif_t c16 h
            refine kw_iload_n hX 99 dX6_changeBasis_99 rfl 3 rfl ?_
            refine kw_goto hX 100 105 dX6_changeBasis_100 (by decide) ?_
            obtain rfl := Option.some.inj h
            refine kw_lv (lv' := [(0, .ref (ma 0)), (1, .int l1), (2, .int l2)]) [0, 1, 2] rfl ?_
            exact J18
        have h := hj21
        refine kw_if_ne hX 51 59 dX6_changeBasis_51 (by decide) (fun c10 => ?_) (fun c10 => ?_)
        · have h := kif_f c10 h
          refine kw_iload_n hX 59 dX6_changeBasis_59 rfl 3 rfl ?_
          refine kw_iconst hX 60 dX6_changeBasis_60 kci_1 ?_
          refine kw_icmp_ne hX 61 71 dX6_changeBasis_61 (by decide) (fun c11 => ?_) (fun c11 => ?_)
          · have h := kif_f c11 h
            refine kw_iload_n hX 71 dX6_changeBasis_71 rfl 3 rfl ?_
            refine kw_iconst hX 72 dX6_changeBasis_72 kci_2 ?_
            refine kw_icmp_ne hX 73 83 dX6_changeBasis_73 (by decide) (fun c12 => ?_) (fun c12 => ?_)
            · have h := kif_f c12 h
              refine kw_iload_n hX 83 dX6_changeBasis_83 rfl 1 rfl ?_
              refine kw_ineg hX 84 dX6_changeBasis_84 ?_
              obtain rfl := Option.some.inj h
              refine kw_lv (lv' := [(0, .ref (ma 0)), (1, .int l1), (2, .int l2), (3, .int v6), (4, .int v8)]) [2, 3, 4, 1, 0] rfl ?_
              exact J14
            · have h := kif_t c12 h
              refine kw_iload_n hX 76 dX6_changeBasis_76 rfl 1 rfl ?_
              refine kw_iload hX 77 dX6_changeBasis_77 0 rfl ?_
              refine kw_isub hX 79 dX6_changeBasis_79 ?_
              refine kw_goto hX 80 85 dX6_changeBasis_80 (by decide) ?_
              obtain rfl := Option.some.inj h
              refine kw_lv (lv' := [(0, .ref (ma 0)), (1, .int l1), (2, .int l2), (3, .int v6), (4, .int v8)]) [2, 3, 4, 1, 0] rfl ?_
              exact J14
          · have h := kif_t c11 h
            refine kw_iload_n hX 64 dX6_changeBasis_64 rfl 1 rfl ?_
            refine kw_iload hX 65 dX6_changeBasis_65 0 rfl ?_
            refine kw_iadd hX 67 dX6_changeBasis_67 ?_
            refine kw_goto hX 68 85 dX6_changeBasis_68 (by decide) ?_
            obtain rfl := Option.some.inj h
            refine kw_lv (lv' := [(0, .ref (ma 0)), (1, .int l1), (2, .int l2), (3, .int v6), (4, .int v8)]) [2, 3, 4, 1, 0] rfl ?_
            exact J14
        · have h := kif_t c10 h
          refine kw_iload hX 54 dX6_changeBasis_54 0 rfl ?_
          refine kw_goto hX 56 85 dX6_changeBasis_56 (by decide) ?_
          obtain rfl := Option.some.inj h
          refine kw_lv (lv' := [(0, .ref (ma 0)), (1, .int l1), (2, .int l2), (3, .int v6), (4, .int v8)]) [2, 3, 4, 1, 0] rfl ?_
          exact J14
  unfold pX6_changeBasis at h
  refine kw_lv (lv' := [(0, .ref (ma 0)), (1, .int a1)]) [0, 1] rfl ?_
  refine kw_iload_n hX 0 dX6_changeBasis_0 rfl 1 rfl ?_
  refine kw_iconst hX 1 dX6_changeBasis_1 kci_0 ?_
  refine kw_iconst hX 2 dX6_changeBasis_2 kci_3 ?_
  obtain ⟨v1, hc2, h⟩ := kb_some h
  refine kw_callS_I hX 3 (As := [.int a1, .int 0, .int 3]) (rest := []) (kX6_in (kx_l X) Y a1 0 3 hc2) gX6_changeBasis_X6_in rfl 3 rfl hdS_X6_in ⟨rfl, rfl⟩ ⟨by decide, by decide⟩ ⟨Nat.zero_le _, Nat.zero_le _⟩ rfl (Nat.le_of_ble_eq_true rfl) [] (by decide) rfl kfn0 (gs1 := [gM Y ma m_now m_sav m_sc m_err m_shf m_stp m_que m_qd m_qx m_qy m_met m_per m_row m_det m_h]) rfl dX6_changeBasis_3 ?_
  refine kw_if_ne hX 6 16 dX6_changeBasis_6 (by decide) (fun c3 => ?_) (fun c3 => ?_)
  · have h := kif_f c3 h
    refine kw_iconst hX 16 dX6_changeBasis_16 kci_0 ?_
    refine kw_istore_n (lv' := [(2, .int 0), (0, .ref (ma 0)), (1, .int a1)]) hX 17 dX6_changeBasis_17 rfl (by decide) rfl ?_
    obtain ⟨v22, hl23, h⟩ := kb_some h
    refine kw_lv (lv' := [(0, .ref (ma 0)), (1, .int a1), (2, .int 0)]) [1, 2, 0] rfl ?_
    refine L18 KF a1 0 m_now m_sav m_sc m_err m_shf m_stp m_que m_qd m_qx m_qy m_met m_per m_row m_det m_h v22 hl23 ?_
    refine kw_aload_n hX 112 dX6_changeBasis_112 rfl 0 rfl ?_
    obtain ⟨v24, hc25, h⟩ := kb_some h
    refine kw_callV_I hX 113 (As := []) (rest := []) (kX6_take (kx_l X) Y ma m_now m_sav m_sc m_err v22.2 m_stp m_que m_qd m_qx m_qy m_met m_per m_row m_det m_h hc25) gX6_changeBasis_X6_take rfl 0 rfl hdV_X6_take ⟨rfl, rfl⟩ ⟨by decide, by decide⟩ ⟨Nat.zero_le _, Nat.zero_le _⟩ rfl (Nat.le_of_ble_eq_true rfl) [0] (by decide) rfl (kfc gM_f kfn0) (gs1 := [gM Y ma v24.2.1 v24.2.2.1 v24.2.2.2.1 v24.2.2.2.2 v22.2 m_stp m_que m_qd m_qx m_qy m_met m_per m_row m_det m_h]) rfl 0 6 rfl rfl rfl dX6_changeBasis_113 ?_
    obtain rfl := Option.some.inj h
    exact hret _ _ dX6_changeBasis_116 rfl
  · have h := kif_t c3 h
    refine kw_aload_n hX 9 dX6_changeBasis_9 rfl 0 rfl ?_
    refine kw_bipush hX 10 dX6_changeBasis_10 kcb_m2 ?_
    obtain ⟨v26, hc27, h⟩ := kb_some h
    refine kw_callV_I hX 12 (As := [.int (-2)]) (rest := []) (kX6_error (kx_l X) Y ma m_now m_sav m_sc m_err m_shf m_stp m_que m_qd m_qx m_qy m_met m_per m_row m_det m_h (-2) hc27) gX6_changeBasis_X6_error rfl 1 rfl hdV_X6_error ⟨rfl, rfl⟩ ⟨by decide, by decide⟩ ⟨Nat.zero_le _, Nat.zero_le _⟩ rfl (Nat.le_of_ble_eq_true rfl) [0] (by decide) rfl (kfc gM_f kfn0) (gs1 := [gM Y ma m_now m_sav m_sc v26.2 m_shf m_stp m_que m_qd m_qx m_qy m_met m_per m_row m_det m_h]) rfl 0 6 rfl rfl rfl dX6_changeBasis_12 ?_
    obtain rfl := Option.some.inj h
    exact hret _ _ dX6_changeBasis_15 rfl
def pX6_vertices  (m_now : Nat → Int32) : Option (Int32) := kgd (kin 0 50) (some (m_now (0 : Int32).toNatClampNeg))
def rmX6_vertices : Room := { frames := 0, cells := 0, slots := 0, locals := 0 }
theorem hdV_X6_vertices : yX6_vertices.cls = RX6 ∧ yX6_vertices.cls ≠ "java/lang/invoke/MethodHandle" ∧ yX6_vertices.cls ≠ "java/lang/invoke/VarHandle" ∧ (parseMethodDescriptor yX6_vertices.desc).map (fun d => d.parameters.length) = some 0 := ⟨rfl, by decide +kernel, by decide +kernel, by decide +kernel⟩
set_option maxHeartbeats 4000000 in
set_option maxRecDepth 100000 in
theorem kX6_vertices (l : Launch) (Y : KY) (ma : Nat → Nat) (m_now : Nat → Int32) (m_sav : Nat → Int32) (m_sc : Int32) (m_err : Nat → Int32) (m_shf : Nat → Int32) (m_stp : Nat → Int32) (m_que : Nat → Int32) (m_qd : Int32) (m_qx : Nat → Int32) (m_qy : Nat → Int32) (m_met : Nat → Int32) (m_per : Nat → Int32) (m_row : Nat → Int64) (m_det : Int64) (m_h : Int64)  {o : Int32} (h : pX6_vertices m_now = some o) : CtI l yX6_vertices wsX6_vertices rmX6_vertices Y [.ref (ma 0)] (kfl [gM Y ma m_now m_sav m_sc m_err m_shf m_stp m_que m_qd m_qx m_qy m_met m_per m_row m_det m_h]) o (kfl [gM Y ma m_now m_sav m_sc m_err m_shf m_stp m_que m_qd m_qx m_qy m_met m_per m_row m_det m_h]) := by
  refine ctI_intro (cc := cX6_vertices) (maxL := 1) (own := RX6) (by decide +kernel) rfl rfl (Nat.le_of_ble_eq_true rfl) rfl ?_
  intro X A hX _ hret
  have hin6 : ∀ w ∈ u_ws RX6 TX6 15, w ∈ wsX6_vertices := by decide +kernel
  have f0 := hX.w (Cond.fieldLink RX6 7 "PeriodicNetModel" "now" "[I") (by decide +kernel)
  unfold pX6_vertices at h
  refine kw_lv (lv' := [(0, .ref (ma 0))]) [0] rfl ?_
  refine kw_aload_n hX 0 dX6_vertices_0 rfl 0 rfl ?_
  refine kw_get hX 1 (C := RX6) (T := TX6) (N := 15) hin6 0 f0 (fun _ h => h) 0 rfl rfl (by decide) rfl dX6_vertices_1 ?_
  refine kw_iconst hX 4 dX6_vertices_4 kci_0 ?_
  obtain ⟨g1, h⟩ := kgd_some h
  refine kw_iald hX 5 1 rfl g1 dX6_vertices_5 ?_
  obtain rfl := Option.some.inj h
  exact hret _ _ dX6_vertices_6 rfl
def pX6_edges  (m_now : Nat → Int32) : Option (Int32) := kgd (kin 1 50) (some (m_now (1 : Int32).toNatClampNeg))
def rmX6_edges : Room := { frames := 0, cells := 0, slots := 0, locals := 0 }
theorem hdV_X6_edges : yX6_edges.cls = RX6 ∧ yX6_edges.cls ≠ "java/lang/invoke/MethodHandle" ∧ yX6_edges.cls ≠ "java/lang/invoke/VarHandle" ∧ (parseMethodDescriptor yX6_edges.desc).map (fun d => d.parameters.length) = some 0 := ⟨rfl, by decide +kernel, by decide +kernel, by decide +kernel⟩
set_option maxHeartbeats 4000000 in
set_option maxRecDepth 100000 in
theorem kX6_edges (l : Launch) (Y : KY) (ma : Nat → Nat) (m_now : Nat → Int32) (m_sav : Nat → Int32) (m_sc : Int32) (m_err : Nat → Int32) (m_shf : Nat → Int32) (m_stp : Nat → Int32) (m_que : Nat → Int32) (m_qd : Int32) (m_qx : Nat → Int32) (m_qy : Nat → Int32) (m_met : Nat → Int32) (m_per : Nat → Int32) (m_row : Nat → Int64) (m_det : Int64) (m_h : Int64)  {o : Int32} (h : pX6_edges m_now = some o) : CtI l yX6_edges wsX6_edges rmX6_edges Y [.ref (ma 0)] (kfl [gM Y ma m_now m_sav m_sc m_err m_shf m_stp m_que m_qd m_qx m_qy m_met m_per m_row m_det m_h]) o (kfl [gM Y ma m_now m_sav m_sc m_err m_shf m_stp m_que m_qd m_qx m_qy m_met m_per m_row m_det m_h]) := by
  refine ctI_intro (cc := cX6_edges) (maxL := 1) (own := RX6) (by decide +kernel) rfl rfl (Nat.le_of_ble_eq_true rfl) rfl ?_
  intro X A hX _ hret
  have hin6 : ∀ w ∈ u_ws RX6 TX6 15, w ∈ wsX6_edges := by decide +kernel
  have f0 := hX.w (Cond.fieldLink RX6 7 "PeriodicNetModel" "now" "[I") (by decide +kernel)
  unfold pX6_edges at h
  refine kw_lv (lv' := [(0, .ref (ma 0))]) [0] rfl ?_
  refine kw_aload_n hX 0 dX6_edges_0 rfl 0 rfl ?_
  refine kw_get hX 1 (C := RX6) (T := TX6) (N := 15) hin6 0 f0 (fun _ h => h) 0 rfl rfl (by decide) rfl dX6_edges_1 ?_
  refine kw_iconst hX 4 dX6_edges_4 kci_1 ?_
  obtain ⟨g1, h⟩ := kgd_some h
  refine kw_iald hX 5 1 rfl g1 dX6_edges_5 ?_
  obtain rfl := Option.some.inj h
  exact hret _ _ dX6_edges_6 rfl
def pX6_isEndOf (a1 : Int32) (a2 : Int32) (m_now : Nat → Int32) : Option (Int32) := kgd (decide (¬ (2 : Int32) = 0)) (kgd (decide (¬ (2 : Int32) = 0)) (kb (pX6_of (a1 / 2) (a1 - a1 / 2 * 2) m_now) (fun v3 => (if v3 = a2 then some 1 else some 0))))
def rmX6_isEndOf : Room := { frames := 1, cells := 0, slots := 0, locals := 22 }
theorem hdV_X6_isEndOf : yX6_isEndOf.cls = RX6 ∧ yX6_isEndOf.cls ≠ "java/lang/invoke/MethodHandle" ∧ yX6_isEndOf.cls ≠ "java/lang/invoke/VarHandle" ∧ (parseMethodDescriptor yX6_isEndOf.desc).map (fun d => d.parameters.length) = some 2 := ⟨rfl, by decide +kernel, by decide +kernel, by decide +kernel⟩
set_option maxHeartbeats 4000000 in
set_option maxRecDepth 100000 in
theorem kX6_isEndOf (l : Launch) (Y : KY) (ma : Nat → Nat) (m_now : Nat → Int32) (m_sav : Nat → Int32) (m_sc : Int32) (m_err : Nat → Int32) (m_shf : Nat → Int32) (m_stp : Nat → Int32) (m_que : Nat → Int32) (m_qd : Int32) (m_qx : Nat → Int32) (m_qy : Nat → Int32) (m_met : Nat → Int32) (m_per : Nat → Int32) (m_row : Nat → Int64) (m_det : Int64) (m_h : Int64) (a1 : Int32) (a2 : Int32) {o : Int32} (h : pX6_isEndOf a1 a2 m_now = some o) : CtI l yX6_isEndOf wsX6_isEndOf rmX6_isEndOf Y [.ref (ma 0), .int a1, .int a2] (kfl [gM Y ma m_now m_sav m_sc m_err m_shf m_stp m_que m_qd m_qx m_qy m_met m_per m_row m_det m_h]) o (kfl [gM Y ma m_now m_sav m_sc m_err m_shf m_stp m_que m_qd m_qx m_qy m_met m_per m_row m_det m_h]) := by
  refine ctI_intro (cc := cX6_isEndOf) (maxL := 3) (own := RX6) (by decide +kernel) rfl rfl (Nat.le_of_ble_eq_true rfl) rfl ?_
  intro X A hX _ hret
  unfold pX6_isEndOf at h
  refine kw_lv (lv' := [(0, .ref (ma 0)), (1, .int a1), (2, .int a2)]) [0, 1, 2] rfl ?_
  refine kw_aload_n hX 0 dX6_isEndOf_0 rfl 0 rfl ?_
  refine kw_iload_n hX 1 dX6_isEndOf_1 rfl 1 rfl ?_
  refine kw_iconst hX 2 dX6_isEndOf_2 kci_2 ?_
  obtain ⟨g1, h⟩ := kgd_some h
  refine kw_idiv hX 3 dX6_isEndOf_3 (of_decide_eq_true g1) ?_
  refine kw_iload_n hX 4 dX6_isEndOf_4 rfl 1 rfl ?_
  refine kw_iconst hX 5 dX6_isEndOf_5 kci_2 ?_
  obtain ⟨g2, h⟩ := kgd_some h
  refine kw_irem hX 6 dX6_isEndOf_6 (of_decide_eq_true g2) ?_
  obtain ⟨v3, hc4, h⟩ := kb_some h
  refine kw_callV_I hX 7 (As := [.int (a1 / 2), .int (a1 - a1 / 2 * 2)]) (rest := []) (kX6_of (kx_l X) Y ma m_now m_sav m_sc m_err m_shf m_stp m_que m_qd m_qx m_qy m_met m_per m_row m_det m_h (a1 / 2) (a1 - a1 / 2 * 2) hc4) gX6_isEndOf_X6_of rfl 2 rfl hdV_X6_of ⟨rfl, rfl⟩ ⟨by decide, by decide⟩ ⟨Nat.zero_le _, Nat.zero_le _⟩ rfl (Nat.le_of_ble_eq_true rfl) [0] (by decide) rfl (kfc rfl kfn0) (gs1 := [gM Y ma m_now m_sav m_sc m_err m_shf m_stp m_que m_qd m_qx m_qy m_met m_per m_row m_det m_h]) rfl 0 6 rfl rfl rfl dX6_isEndOf_7 ?_
  refine kw_iload_n hX 10 dX6_isEndOf_10 rfl 2 rfl ?_
  refine kw_icmp_ne hX 11 18 dX6_isEndOf_11 (by decide) (fun c5 => ?_) (fun c5 => ?_)
  · have h := kif_f c5 h
    refine kw_iconst hX 18 dX6_isEndOf_18 kci_0 ?_
    obtain rfl := Option.some.inj h
    exact hret _ _ dX6_isEndOf_19 rfl
  · have h := kif_t c5 h
    refine kw_iconst hX 14 dX6_isEndOf_14 kci_1 ?_
    refine kw_goto hX 15 19 dX6_isEndOf_15 (by decide) ?_
    obtain rfl := Option.some.inj h
    exact hret _ _ dX6_isEndOf_19 rfl
def pX6_leadsTo (a1 : Int32) (m_now : Nat → Int32) : Option (Int32) := kgd (decide (¬ (2 : Int32) = 0)) (kgd (decide (¬ (2 : Int32) = 0)) (kb (pX6_of (a1 / 2) (1 - (a1 - a1 / 2 * 2)) m_now) (fun v3 => some v3)))
def rmX6_leadsTo : Room := { frames := 1, cells := 0, slots := 0, locals := 22 }
theorem hdV_X6_leadsTo : yX6_leadsTo.cls = RX6 ∧ yX6_leadsTo.cls ≠ "java/lang/invoke/MethodHandle" ∧ yX6_leadsTo.cls ≠ "java/lang/invoke/VarHandle" ∧ (parseMethodDescriptor yX6_leadsTo.desc).map (fun d => d.parameters.length) = some 1 := ⟨rfl, by decide +kernel, by decide +kernel, by decide +kernel⟩
set_option maxHeartbeats 4000000 in
set_option maxRecDepth 100000 in
theorem kX6_leadsTo (l : Launch) (Y : KY) (ma : Nat → Nat) (m_now : Nat → Int32) (m_sav : Nat → Int32) (m_sc : Int32) (m_err : Nat → Int32) (m_shf : Nat → Int32) (m_stp : Nat → Int32) (m_que : Nat → Int32) (m_qd : Int32) (m_qx : Nat → Int32) (m_qy : Nat → Int32) (m_met : Nat → Int32) (m_per : Nat → Int32) (m_row : Nat → Int64) (m_det : Int64) (m_h : Int64) (a1 : Int32) {o : Int32} (h : pX6_leadsTo a1 m_now = some o) : CtI l yX6_leadsTo wsX6_leadsTo rmX6_leadsTo Y [.ref (ma 0), .int a1] (kfl [gM Y ma m_now m_sav m_sc m_err m_shf m_stp m_que m_qd m_qx m_qy m_met m_per m_row m_det m_h]) o (kfl [gM Y ma m_now m_sav m_sc m_err m_shf m_stp m_que m_qd m_qx m_qy m_met m_per m_row m_det m_h]) := by
  refine ctI_intro (cc := cX6_leadsTo) (maxL := 2) (own := RX6) (by decide +kernel) rfl rfl (Nat.le_of_ble_eq_true rfl) rfl ?_
  intro X A hX _ hret
  unfold pX6_leadsTo at h
  refine kw_lv (lv' := [(0, .ref (ma 0)), (1, .int a1)]) [0, 1] rfl ?_
  refine kw_aload_n hX 0 dX6_leadsTo_0 rfl 0 rfl ?_
  refine kw_iload_n hX 1 dX6_leadsTo_1 rfl 1 rfl ?_
  refine kw_iconst hX 2 dX6_leadsTo_2 kci_2 ?_
  obtain ⟨g1, h⟩ := kgd_some h
  refine kw_idiv hX 3 dX6_leadsTo_3 (of_decide_eq_true g1) ?_
  refine kw_iconst hX 4 dX6_leadsTo_4 kci_1 ?_
  refine kw_iload_n hX 5 dX6_leadsTo_5 rfl 1 rfl ?_
  refine kw_iconst hX 6 dX6_leadsTo_6 kci_2 ?_
  obtain ⟨g2, h⟩ := kgd_some h
  refine kw_irem hX 7 dX6_leadsTo_7 (of_decide_eq_true g2) ?_
  refine kw_isub hX 8 dX6_leadsTo_8 ?_
  obtain ⟨v3, hc4, h⟩ := kb_some h
  refine kw_callV_I hX 9 (As := [.int (a1 / 2), .int (1 - (a1 - a1 / 2 * 2))]) (rest := []) (kX6_of (kx_l X) Y ma m_now m_sav m_sc m_err m_shf m_stp m_que m_qd m_qx m_qy m_met m_per m_row m_det m_h (a1 / 2) (1 - (a1 - a1 / 2 * 2)) hc4) gX6_leadsTo_X6_of rfl 2 rfl hdV_X6_of ⟨rfl, rfl⟩ ⟨by decide, by decide⟩ ⟨Nat.zero_le _, Nat.zero_le _⟩ rfl (Nat.le_of_ble_eq_true rfl) [0] (by decide) rfl (kfc rfl kfn0) (gs1 := [gM Y ma m_now m_sav m_sc m_err m_shf m_stp m_que m_qd m_qx m_qy m_met m_per m_row m_det m_h]) rfl 0 6 rfl rfl rfl dX6_leadsTo_9 ?_
  obtain rfl := Option.some.inj h
  exact hret _ _ dX6_leadsTo_12 rfl
def pX6_endX (a1 : Int32) (m_now : Nat → Int32) : Option (Int32) := kgd (decide (¬ (2 : Int32) = 0)) ((if (a1 - a1 / 2 * 2) = 0 then kgd (decide (¬ (2 : Int32) = 0)) (kb (pX6_of (a1 / 2) 2 m_now) (fun v7 => some v7)) else kgd (decide (¬ (2 : Int32) = 0)) (kb (pX6_of (a1 / 2) 2 m_now) (fun v4 => some (-v4)))))
def rmX6_endX : Room := { frames := 1, cells := 0, slots := 0, locals := 22 }
theorem hdV_X6_endX : yX6_endX.cls = RX6 ∧ yX6_endX.cls ≠ "java/lang/invoke/MethodHandle" ∧ yX6_endX.cls ≠ "java/lang/invoke/VarHandle" ∧ (parseMethodDescriptor yX6_endX.desc).map (fun d => d.parameters.length) = some 1 := ⟨rfl, by decide +kernel, by decide +kernel, by decide +kernel⟩
set_option maxHeartbeats 4000000 in
set_option maxRecDepth 100000 in
theorem kX6_endX (l : Launch) (Y : KY) (ma : Nat → Nat) (m_now : Nat → Int32) (m_sav : Nat → Int32) (m_sc : Int32) (m_err : Nat → Int32) (m_shf : Nat → Int32) (m_stp : Nat → Int32) (m_que : Nat → Int32) (m_qd : Int32) (m_qx : Nat → Int32) (m_qy : Nat → Int32) (m_met : Nat → Int32) (m_per : Nat → Int32) (m_row : Nat → Int64) (m_det : Int64) (m_h : Int64) (a1 : Int32) {o : Int32} (h : pX6_endX a1 m_now = some o) : CtI l yX6_endX wsX6_endX rmX6_endX Y [.ref (ma 0), .int a1] (kfl [gM Y ma m_now m_sav m_sc m_err m_shf m_stp m_que m_qd m_qx m_qy m_met m_per m_row m_det m_h]) o (kfl [gM Y ma m_now m_sav m_sc m_err m_shf m_stp m_que m_qd m_qx m_qy m_met m_per m_row m_det m_h]) := by
  refine ctI_intro (cc := cX6_endX) (maxL := 2) (own := RX6) (by decide +kernel) rfl rfl (Nat.le_of_ble_eq_true rfl) rfl ?_
  intro X A hX _ hret
  unfold pX6_endX at h
  refine kw_lv (lv' := [(0, .ref (ma 0)), (1, .int a1)]) [0, 1] rfl ?_
  refine kw_iload_n hX 0 dX6_endX_0 rfl 1 rfl ?_
  refine kw_iconst hX 1 dX6_endX_1 kci_2 ?_
  obtain ⟨g1, h⟩ := kgd_some h
  refine kw_irem hX 2 dX6_endX_2 (of_decide_eq_true g1) ?_
  refine kw_if_ne hX 3 17 dX6_endX_3 (by decide) (fun c2 => ?_) (fun c2 => ?_)
  · have h := kif_f c2 h
    refine kw_aload_n hX 17 dX6_endX_17 rfl 0 rfl ?_
    refine kw_iload_n hX 18 dX6_endX_18 rfl 1 rfl ?_
    refine kw_iconst hX 19 dX6_endX_19 kci_2 ?_
    obtain ⟨g3, h⟩ := kgd_some h
    refine kw_idiv hX 20 dX6_endX_20 (of_decide_eq_true g3) ?_
    refine kw_iconst hX 21 dX6_endX_21 kci_2 ?_
    obtain ⟨v4, hc5, h⟩ := kb_some h
    refine kw_callV_I hX 22 (As := [.int (a1 / 2), .int 2]) (rest := []) (kX6_of (kx_l X) Y ma m_now m_sav m_sc m_err m_shf m_stp m_que m_qd m_qx m_qy m_met m_per m_row m_det m_h (a1 / 2) 2 hc5) gX6_endX_X6_of rfl 2 rfl hdV_X6_of ⟨rfl, rfl⟩ ⟨by decide, by decide⟩ ⟨Nat.zero_le _, Nat.zero_le _⟩ rfl (Nat.le_of_ble_eq_true rfl) [0] (by decide) rfl (kfc rfl kfn0) (gs1 := [gM Y ma m_now m_sav m_sc m_err m_shf m_stp m_que m_qd m_qx m_qy m_met m_per m_row m_det m_h]) rfl 0 6 rfl rfl rfl dX6_endX_22 ?_
    refine kw_ineg hX 25 dX6_endX_25 ?_
    obtain rfl := Option.some.inj h
    exact hret _ _ dX6_endX_26 rfl
  · have h := kif_t c2 h
    refine kw_aload_n hX 6 dX6_endX_6 rfl 0 rfl ?_
    refine kw_iload_n hX 7 dX6_endX_7 rfl 1 rfl ?_
    refine kw_iconst hX 8 dX6_endX_8 kci_2 ?_
    obtain ⟨g6, h⟩ := kgd_some h
    refine kw_idiv hX 9 dX6_endX_9 (of_decide_eq_true g6) ?_
    refine kw_iconst hX 10 dX6_endX_10 kci_2 ?_
    obtain ⟨v7, hc8, h⟩ := kb_some h
    refine kw_callV_I hX 11 (As := [.int (a1 / 2), .int 2]) (rest := []) (kX6_of (kx_l X) Y ma m_now m_sav m_sc m_err m_shf m_stp m_que m_qd m_qx m_qy m_met m_per m_row m_det m_h (a1 / 2) 2 hc8) gX6_endX_X6_of rfl 2 rfl hdV_X6_of ⟨rfl, rfl⟩ ⟨by decide, by decide⟩ ⟨Nat.zero_le _, Nat.zero_le _⟩ rfl (Nat.le_of_ble_eq_true rfl) [0] (by decide) rfl (kfc rfl kfn0) (gs1 := [gM Y ma m_now m_sav m_sc m_err m_shf m_stp m_que m_qd m_qx m_qy m_met m_per m_row m_det m_h]) rfl 0 6 rfl rfl rfl dX6_endX_11 ?_
    refine kw_goto hX 14 26 dX6_endX_14 (by decide) ?_
    obtain rfl := Option.some.inj h
    exact hret _ _ dX6_endX_26 rfl
def pX6_endY (a1 : Int32) (m_now : Nat → Int32) : Option (Int32) := kgd (decide (¬ (2 : Int32) = 0)) ((if (a1 - a1 / 2 * 2) = 0 then kgd (decide (¬ (2 : Int32) = 0)) (kb (pX6_of (a1 / 2) 3 m_now) (fun v7 => some v7)) else kgd (decide (¬ (2 : Int32) = 0)) (kb (pX6_of (a1 / 2) 3 m_now) (fun v4 => some (-v4)))))
def rmX6_endY : Room := { frames := 1, cells := 0, slots := 0, locals := 22 }
theorem hdV_X6_endY : yX6_endY.cls = RX6 ∧ yX6_endY.cls ≠ "java/lang/invoke/MethodHandle" ∧ yX6_endY.cls ≠ "java/lang/invoke/VarHandle" ∧ (parseMethodDescriptor yX6_endY.desc).map (fun d => d.parameters.length) = some 1 := ⟨rfl, by decide +kernel, by decide +kernel, by decide +kernel⟩
set_option maxHeartbeats 4000000 in
set_option maxRecDepth 100000 in
theorem kX6_endY (l : Launch) (Y : KY) (ma : Nat → Nat) (m_now : Nat → Int32) (m_sav : Nat → Int32) (m_sc : Int32) (m_err : Nat → Int32) (m_shf : Nat → Int32) (m_stp : Nat → Int32) (m_que : Nat → Int32) (m_qd : Int32) (m_qx : Nat → Int32) (m_qy : Nat → Int32) (m_met : Nat → Int32) (m_per : Nat → Int32) (m_row : Nat → Int64) (m_det : Int64) (m_h : Int64) (a1 : Int32) {o : Int32} (h : pX6_endY a1 m_now = some o) : CtI l yX6_endY wsX6_endY rmX6_endY Y [.ref (ma 0), .int a1] (kfl [gM Y ma m_now m_sav m_sc m_err m_shf m_stp m_que m_qd m_qx m_qy m_met m_per m_row m_det m_h]) o (kfl [gM Y ma m_now m_sav m_sc m_err m_shf m_stp m_que m_qd m_qx m_qy m_met m_per m_row m_det m_h]) := by
  refine ctI_intro (cc := cX6_endY) (maxL := 2) (own := RX6) (by decide +kernel) rfl rfl (Nat.le_of_ble_eq_true rfl) rfl ?_
  intro X A hX _ hret
  unfold pX6_endY at h
  refine kw_lv (lv' := [(0, .ref (ma 0)), (1, .int a1)]) [0, 1] rfl ?_
  refine kw_iload_n hX 0 dX6_endY_0 rfl 1 rfl ?_
  refine kw_iconst hX 1 dX6_endY_1 kci_2 ?_
  obtain ⟨g1, h⟩ := kgd_some h
  refine kw_irem hX 2 dX6_endY_2 (of_decide_eq_true g1) ?_
  refine kw_if_ne hX 3 17 dX6_endY_3 (by decide) (fun c2 => ?_) (fun c2 => ?_)
  · have h := kif_f c2 h
    refine kw_aload_n hX 17 dX6_endY_17 rfl 0 rfl ?_
    refine kw_iload_n hX 18 dX6_endY_18 rfl 1 rfl ?_
    refine kw_iconst hX 19 dX6_endY_19 kci_2 ?_
    obtain ⟨g3, h⟩ := kgd_some h
    refine kw_idiv hX 20 dX6_endY_20 (of_decide_eq_true g3) ?_
    refine kw_iconst hX 21 dX6_endY_21 kci_3 ?_
    obtain ⟨v4, hc5, h⟩ := kb_some h
    refine kw_callV_I hX 22 (As := [.int (a1 / 2), .int 3]) (rest := []) (kX6_of (kx_l X) Y ma m_now m_sav m_sc m_err m_shf m_stp m_que m_qd m_qx m_qy m_met m_per m_row m_det m_h (a1 / 2) 3 hc5) gX6_endY_X6_of rfl 2 rfl hdV_X6_of ⟨rfl, rfl⟩ ⟨by decide, by decide⟩ ⟨Nat.zero_le _, Nat.zero_le _⟩ rfl (Nat.le_of_ble_eq_true rfl) [0] (by decide) rfl (kfc rfl kfn0) (gs1 := [gM Y ma m_now m_sav m_sc m_err m_shf m_stp m_que m_qd m_qx m_qy m_met m_per m_row m_det m_h]) rfl 0 6 rfl rfl rfl dX6_endY_22 ?_
    refine kw_ineg hX 25 dX6_endY_25 ?_
    obtain rfl := Option.some.inj h
    exact hret _ _ dX6_endY_26 rfl
  · have h := kif_t c2 h
    refine kw_aload_n hX 6 dX6_endY_6 rfl 0 rfl ?_
    refine kw_iload_n hX 7 dX6_endY_7 rfl 1 rfl ?_
    refine kw_iconst hX 8 dX6_endY_8 kci_2 ?_
    obtain ⟨g6, h⟩ := kgd_some h
    refine kw_idiv hX 9 dX6_endY_9 (of_decide_eq_true g6) ?_
    refine kw_iconst hX 10 dX6_endY_10 kci_3 ?_
    obtain ⟨v7, hc8, h⟩ := kb_some h
    refine kw_callV_I hX 11 (As := [.int (a1 / 2), .int 3]) (rest := []) (kX6_of (kx_l X) Y ma m_now m_sav m_sc m_err m_shf m_stp m_que m_qd m_qx m_qy m_met m_per m_row m_det m_h (a1 / 2) 3 hc8) gX6_endY_X6_of rfl 2 rfl hdV_X6_of ⟨rfl, rfl⟩ ⟨by decide, by decide⟩ ⟨Nat.zero_le _, Nat.zero_le _⟩ rfl (Nat.le_of_ble_eq_true rfl) [0] (by decide) rfl (kfc rfl kfn0) (gs1 := [gM Y ma m_now m_sav m_sc m_err m_shf m_stp m_que m_qd m_qx m_qy m_met m_per m_row m_det m_h]) rfl 0 6 rfl rfl rfl dX6_endY_11 ?_
    refine kw_goto hX 14 26 dX6_endY_14 (by decide) ?_
    obtain rfl := Option.some.inj h
    exact hret _ _ dX6_endY_26 rfl
def pX6_degreeOf_L4 : Nat → Int32 → Int32 → Int32 → (Nat → Int32) → Option (Int32 × Int32)
  | 0, _, _, _, _ => none
  | n + 1, l1, l2, l3, z_m_now => kgd (kin 1 50) ((if (2 * (z_m_now (1 : Int32).toNatClampNeg)) ≤ l3 then some (l2, l3) else kb (pX6_isEndOf l3 l1 z_m_now) (fun v3 => kb ((if v3 = 0 then some 0 else some 1) : Option (Int32)) (fun v6 => pX6_degreeOf_L4 n l1 (l2 + v6) (l3 + 1) z_m_now))))
def pX6_degreeOf (a1 : Int32) (m_now : Nat → Int32) : Option (Int32) := kb (pX6_degreeOf_L4 KF a1 0 0 m_now) (fun v9 => some v9.1)
def rmX6_degreeOf : Room := { frames := 2, cells := 0, slots := 0, locals := 44 }
theorem hdV_X6_degreeOf : yX6_degreeOf.cls = RX6 ∧ yX6_degreeOf.cls ≠ "java/lang/invoke/MethodHandle" ∧ yX6_degreeOf.cls ≠ "java/lang/invoke/VarHandle" ∧ (parseMethodDescriptor yX6_degreeOf.desc).map (fun d => d.parameters.length) = some 1 := ⟨rfl, by decide +kernel, by decide +kernel, by decide +kernel⟩
set_option maxHeartbeats 4000000 in
set_option maxRecDepth 100000 in
theorem kX6_degreeOf (l : Launch) (Y : KY) (ma : Nat → Nat) (m_now : Nat → Int32) (m_sav : Nat → Int32) (m_sc : Int32) (m_err : Nat → Int32) (m_shf : Nat → Int32) (m_stp : Nat → Int32) (m_que : Nat → Int32) (m_qd : Int32) (m_qx : Nat → Int32) (m_qy : Nat → Int32) (m_met : Nat → Int32) (m_per : Nat → Int32) (m_row : Nat → Int64) (m_det : Int64) (m_h : Int64) (a1 : Int32) {o : Int32} (h : pX6_degreeOf a1 m_now = some o) : CtI l yX6_degreeOf wsX6_degreeOf rmX6_degreeOf Y [.ref (ma 0), .int a1] (kfl [gM Y ma m_now m_sav m_sc m_err m_shf m_stp m_que m_qd m_qx m_qy m_met m_per m_row m_det m_h]) o (kfl [gM Y ma m_now m_sav m_sc m_err m_shf m_stp m_que m_qd m_qx m_qy m_met m_per m_row m_det m_h]) := by
  refine ctI_intro (cc := cX6_degreeOf) (maxL := 4) (own := RX6) (by decide +kernel) rfl rfl (Nat.le_of_ble_eq_true rfl) rfl ?_
  intro X A hX _ hret
  have hin6 : ∀ w ∈ u_ws RX6 TX6 15, w ∈ wsX6_degreeOf := by decide +kernel
  have f0 := hX.w (Cond.fieldLink RX6 7 "PeriodicNetModel" "now" "[I") (by decide +kernel)
  have L4 : ∀ (n : Nat) (l1 : Int32) (l2 : Int32) (l3 : Int32) (z_m_now : Nat → Int32) (z_m_sav : Nat → Int32) (z_m_sc : Int32) (z_m_err : Nat → Int32) (z_m_shf : Nat → Int32) (z_m_stp : Nat → Int32) (z_m_que : Nat → Int32) (z_m_qd : Int32) (z_m_qx : Nat → Int32) (z_m_qy : Nat → Int32) (z_m_met : Nat → Int32) (z_m_per : Nat → Int32) (z_m_row : Nat → Int64) (z_m_det : Int64) (z_m_h : Int64) (o : Int32 × Int32), pX6_degreeOf_L4 n l1 l2 l3 z_m_now = some o → KW X Y A 4 0 0 (kfl [gM Y ma z_m_now z_m_sav z_m_sc z_m_err z_m_shf z_m_stp z_m_que z_m_qd z_m_qx z_m_qy z_m_met z_m_per z_m_row z_m_det z_m_h]) [(0, .ref (ma 0)), (1, .int l1), (2, .int o.1), (3, .int o.2)] 39 [] → KW X Y A 4 0 0 (kfl [gM Y ma z_m_now z_m_sav z_m_sc z_m_err z_m_shf z_m_stp z_m_que z_m_qd z_m_qx z_m_qy z_m_met z_m_per z_m_row z_m_det z_m_h]) [(0, .ref (ma 0)), (1, .int l1), (2, .int l2), (3, .int l3)] 4 [] := by
    intro n
    induction n with
    | zero => intro l1 l2 l3 z_m_now z_m_sav z_m_sc z_m_err z_m_shf z_m_stp z_m_que z_m_qd z_m_qx z_m_qy z_m_met z_m_per z_m_row z_m_det z_m_h o h; cases h
    | succ n ih =>
      intro l1 l2 l3 z_m_now z_m_sav z_m_sc z_m_err z_m_shf z_m_stp z_m_que z_m_qd z_m_qx z_m_qy z_m_met z_m_per z_m_row z_m_det z_m_h o h hK
      rw [pX6_degreeOf_L4] at h
      refine kw_iload_n hX 4 dX6_degreeOf_4 rfl 3 rfl ?_
      refine kw_iconst hX 5 dX6_degreeOf_5 kci_2 ?_
      refine kw_aload_n hX 6 dX6_degreeOf_6 rfl 0 rfl ?_
      refine kw_get hX 7 (C := RX6) (T := TX6) (N := 15) hin6 0 f0 (fun _ h => h) 0 rfl rfl (by decide) rfl dX6_degreeOf_7 ?_
      refine kw_iconst hX 10 dX6_degreeOf_10 kci_1 ?_
      obtain ⟨g1, h⟩ := kgd_some h
      refine kw_iald hX 11 1 rfl g1 dX6_degreeOf_11 ?_
      refine kw_imul hX 12 dX6_degreeOf_12 ?_
      refine kw_icmp_ge hX 13 39 dX6_degreeOf_13 (by decide) (fun c2 => ?_) (fun c2 => ?_)
      · have h := kif_t c2 h
        obtain rfl := Option.some.inj h
        refine kw_lv (lv' := [(0, .ref (ma 0)), (1, .int l1), (2, .int l2), (3, .int l3)]) [0, 1, 2, 3] rfl ?_
        exact hK
      · have h := kif_f c2 h
        refine kw_iload_n hX 16 dX6_degreeOf_16 rfl 2 rfl ?_
        refine kw_aload_n hX 17 dX6_degreeOf_17 rfl 0 rfl ?_
        refine kw_iload_n hX 18 dX6_degreeOf_18 rfl 3 rfl ?_
        refine kw_iload_n hX 19 dX6_degreeOf_19 rfl 1 rfl ?_
        obtain ⟨v3, hc4, h⟩ := kb_some h
        refine kw_callV_I hX 20 (As := [.int l3, .int l1]) (rest := [.int l2]) (kX6_isEndOf (kx_l X) Y ma z_m_now z_m_sav z_m_sc z_m_err z_m_shf z_m_stp z_m_que z_m_qd z_m_qx z_m_qy z_m_met z_m_per z_m_row z_m_det z_m_h l3 l1 hc4) gX6_degreeOf_X6_isEndOf rfl 2 rfl hdV_X6_isEndOf ⟨rfl, rfl⟩ ⟨by decide, by decide⟩ ⟨Nat.zero_le _, Nat.zero_le _⟩ rfl (Nat.le_of_ble_eq_true rfl) [0] (by decide) rfl (kfc rfl kfn0) (gs1 := [gM Y ma z_m_now z_m_sav z_m_sc z_m_err z_m_shf z_m_stp z_m_que z_m_qd z_m_qx z_m_qy z_m_met z_m_per z_m_row z_m_det z_m_h]) rfl 0 6 rfl rfl rfl dX6_degreeOf_20 ?_
        obtain ⟨v6, hj8, h⟩ := kb_some h
        have J7 : KW X Y A 4 0 0 (kfl [gM Y ma z_m_now z_m_sav z_m_sc z_m_err z_m_shf z_m_stp z_m_que z_m_qd z_m_qx z_m_qy z_m_met z_m_per z_m_row z_m_det z_m_h]) [(0, .ref (ma 0)), (1, .int l1), (3, .int l3)] 31 [.int v6, .int l2] := by
          refine kw_iadd hX 31 dX6_degreeOf_31 ?_
          refine kw_istore_n (lv' := [(2, .int (l2 + v6)), (0, .ref (ma 0)), (1, .int l1), (3, .int l3)]) hX 32 dX6_degreeOf_32 rfl (by decide) rfl ?_
          refine kw_iinc (v := (l3 + 1)) (lv' := [(3, .int (l3 + 1)), (2, .int (l2 + v6)), (0, .ref (ma 0)), (1, .int l1)]) hX 33 dX6_degreeOf_33 3 rfl (kinc_1 _) (by decide) rfl ?_
          refine kw_goto hX 36 4 dX6_degreeOf_36 (by decide) ?_
          refine kw_lv (lv' := [(0, .ref (ma 0)), (1, .int l1), (2, .int (l2 + v6)), (3, .int (l3 + 1))]) [2, 3, 1, 0] rfl ?_
          exact ih l1 (l2 + v6) (l3 + 1) z_m_now z_m_sav z_m_sc z_m_err z_m_shf z_m_stp z_m_que z_m_qd z_m_qx z_m_qy z_m_met z_m_per z_m_row z_m_det z_m_h o h hK
        have h := hj8
        refine kw_if_eq hX 23 30 dX6_degreeOf_23 (by decide) (fun c5 => ?_) (fun c5 => ?_)
        · have h := kif_t c5 h
          refine kw_iconst hX 30 dX6_degreeOf_30 kci_0 ?_
          obtain rfl := Option.some.inj h
          refine kw_lv (lv' := [(0, .ref (ma 0)), (1, .int l1), (3, .int l3)]) [0, 1, 3] rfl ?_
          exact J7
        · have h := kif_f c5 h
          refine kw_iconst hX 26 dX6_degreeOf_26 kci_1 ?_
          refine kw_goto hX 27 31 dX6_degreeOf_27 (by decide) ?_
          obtain rfl := Option.some.inj h
          refine kw_lv (lv' := [(0, .ref (ma 0)), (1, .int l1), (3, .int l3)]) [0, 1, 3] rfl ?_
          exact J7
  unfold pX6_degreeOf at h
  refine kw_lv (lv' := [(0, .ref (ma 0)), (1, .int a1)]) [0, 1] rfl ?_
  refine kw_iconst hX 0 dX6_degreeOf_0 kci_0 ?_
  refine kw_istore_n (lv' := [(2, .int 0), (0, .ref (ma 0)), (1, .int a1)]) hX 1 dX6_degreeOf_1 rfl (by decide) rfl ?_
  refine kw_iconst hX 2 dX6_degreeOf_2 kci_0 ?_
  refine kw_istore_n (lv' := [(3, .int 0), (2, .int 0), (0, .ref (ma 0)), (1, .int a1)]) hX 3 dX6_degreeOf_3 rfl (by decide) rfl ?_
  obtain ⟨v9, hl10, h⟩ := kb_some h
  refine kw_lv (lv' := [(0, .ref (ma 0)), (1, .int a1), (2, .int 0), (3, .int 0)]) [2, 3, 1, 0] rfl ?_
  refine L4 KF a1 0 0 m_now m_sav m_sc m_err m_shf m_stp m_que m_qd m_qx m_qy m_met m_per m_row m_det m_h v9 hl10 ?_
  refine kw_iload_n hX 39 dX6_degreeOf_39 rfl 2 rfl ?_
  obtain rfl := Option.some.inj h
  exact hret _ _ dX6_degreeOf_40 rfl
def pX6_endAt_L8 : Nat → Int32 → Int32 → Int32 → Int32 → (Nat → Int32) → Option (Int32 × Int32 × Int32)
  | 0, _, _, _, _, _ => none
  | n + 1, l1, l3, l4, l5, z_m_now => kgd (kin 1 50) ((if (2 * (z_m_now (1 : Int32).toNatClampNeg)) ≤ l5 then some (l3, l4, l5) else kb (pX6_isEndOf l5 l1 z_m_now) (fun v3 => kb ((if v3 = 0 then some (l3, l4) else kb ((if l3 = 0 then some l5 else some l4) : Option (Int32)) (fun v7 => some ((l3 + (-1)), v7))) : Option (Int32 × Int32)) (fun v10 => pX6_endAt_L8 n l1 v10.1 v10.2 (l5 + 1) z_m_now))))
def pX6_endAt (a1 : Int32) (a2 : Int32) (m_now : Nat → Int32) : Option (Int32) := kb (pX6_endAt_L8 KF a1 a2 (-1) 0 m_now) (fun v13 => some v13.2.1)
def rmX6_endAt : Room := { frames := 2, cells := 0, slots := 0, locals := 44 }
theorem hdV_X6_endAt : yX6_endAt.cls = RX6 ∧ yX6_endAt.cls ≠ "java/lang/invoke/MethodHandle" ∧ yX6_endAt.cls ≠ "java/lang/invoke/VarHandle" ∧ (parseMethodDescriptor yX6_endAt.desc).map (fun d => d.parameters.length) = some 2 := ⟨rfl, by decide +kernel, by decide +kernel, by decide +kernel⟩
set_option maxHeartbeats 4000000 in
set_option maxRecDepth 100000 in
theorem kX6_endAt (l : Launch) (Y : KY) (ma : Nat → Nat) (m_now : Nat → Int32) (m_sav : Nat → Int32) (m_sc : Int32) (m_err : Nat → Int32) (m_shf : Nat → Int32) (m_stp : Nat → Int32) (m_que : Nat → Int32) (m_qd : Int32) (m_qx : Nat → Int32) (m_qy : Nat → Int32) (m_met : Nat → Int32) (m_per : Nat → Int32) (m_row : Nat → Int64) (m_det : Int64) (m_h : Int64) (a1 : Int32) (a2 : Int32) {o : Int32} (h : pX6_endAt a1 a2 m_now = some o) : CtI l yX6_endAt wsX6_endAt rmX6_endAt Y [.ref (ma 0), .int a1, .int a2] (kfl [gM Y ma m_now m_sav m_sc m_err m_shf m_stp m_que m_qd m_qx m_qy m_met m_per m_row m_det m_h]) o (kfl [gM Y ma m_now m_sav m_sc m_err m_shf m_stp m_que m_qd m_qx m_qy m_met m_per m_row m_det m_h]) := by
  refine ctI_intro (cc := cX6_endAt) (maxL := 6) (own := RX6) (by decide +kernel) rfl rfl (Nat.le_of_ble_eq_true rfl) rfl ?_
  intro X A hX _ hret
  have hin6 : ∀ w ∈ u_ws RX6 TX6 15, w ∈ wsX6_endAt := by decide +kernel
  have f0 := hX.w (Cond.fieldLink RX6 7 "PeriodicNetModel" "now" "[I") (by decide +kernel)
  have L8 : ∀ (n : Nat) (l1 : Int32) (l3 : Int32) (l4 : Int32) (l5 : Int32) (z_m_now : Nat → Int32) (z_m_sav : Nat → Int32) (z_m_sc : Int32) (z_m_err : Nat → Int32) (z_m_shf : Nat → Int32) (z_m_stp : Nat → Int32) (z_m_que : Nat → Int32) (z_m_qd : Int32) (z_m_qx : Nat → Int32) (z_m_qy : Nat → Int32) (z_m_met : Nat → Int32) (z_m_per : Nat → Int32) (z_m_row : Nat → Int64) (z_m_det : Int64) (z_m_h : Int64) (o : Int32 × Int32 × Int32), pX6_endAt_L8 n l1 l3 l4 l5 z_m_now = some o → KW X Y A 6 0 0 (kfl [gM Y ma z_m_now z_m_sav z_m_sc z_m_err z_m_shf z_m_stp z_m_que z_m_qd z_m_qx z_m_qy z_m_met z_m_per z_m_row z_m_det z_m_h]) [(0, .ref (ma 0)), (1, .int l1), (3, .int o.1), (4, .int o.2.1), (5, .int o.2.2)] 53 [] → KW X Y A 6 0 0 (kfl [gM Y ma z_m_now z_m_sav z_m_sc z_m_err z_m_shf z_m_stp z_m_que z_m_qd z_m_qx z_m_qy z_m_met z_m_per z_m_row z_m_det z_m_h]) [(0, .ref (ma 0)), (1, .int l1), (3, .int l3), (4, .int l4), (5, .int l5)] 8 [] := by
    intro n
    induction n with
    | zero => intro l1 l3 l4 l5 z_m_now z_m_sav z_m_sc z_m_err z_m_shf z_m_stp z_m_que z_m_qd z_m_qx z_m_qy z_m_met z_m_per z_m_row z_m_det z_m_h o h; cases h
    | succ n ih =>
      intro l1 l3 l4 l5 z_m_now z_m_sav z_m_sc z_m_err z_m_shf z_m_stp z_m_que z_m_qd z_m_qx z_m_qy z_m_met z_m_per z_m_row z_m_det z_m_h o h hK
      rw [pX6_endAt_L8] at h
      refine kw_iload hX 8 dX6_endAt_8 4 rfl ?_
      refine kw_iconst hX 10 dX6_endAt_10 kci_2 ?_
      refine kw_aload_n hX 11 dX6_endAt_11 rfl 0 rfl ?_
      refine kw_get hX 12 (C := RX6) (T := TX6) (N := 15) hin6 0 f0 (fun _ h => h) 0 rfl rfl (by decide) rfl dX6_endAt_12 ?_
      refine kw_iconst hX 15 dX6_endAt_15 kci_1 ?_
      obtain ⟨g1, h⟩ := kgd_some h
      refine kw_iald hX 16 1 rfl g1 dX6_endAt_16 ?_
      refine kw_imul hX 17 dX6_endAt_17 ?_
      refine kw_icmp_ge hX 18 53 dX6_endAt_18 (by decide) (fun c2 => ?_) (fun c2 => ?_)
      · have h := kif_t c2 h
        obtain rfl := Option.some.inj h
        refine kw_lv (lv' := [(0, .ref (ma 0)), (1, .int l1), (3, .int l3), (4, .int l4), (5, .int l5)]) [0, 1, 2, 3, 4] rfl ?_
        exact hK
      · have h := kif_f c2 h
        refine kw_aload_n hX 21 dX6_endAt_21 rfl 0 rfl ?_
        refine kw_iload hX 22 dX6_endAt_22 4 rfl ?_
        refine kw_iload_n hX 24 dX6_endAt_24 rfl 1 rfl ?_
        obtain ⟨v3, hc4, h⟩ := kb_some h
        refine kw_callV_I hX 25 (As := [.int l5, .int l1]) (rest := []) (kX6_isEndOf (kx_l X) Y ma z_m_now z_m_sav z_m_sc z_m_err z_m_shf z_m_stp z_m_que z_m_qd z_m_qx z_m_qy z_m_met z_m_per z_m_row z_m_det z_m_h l5 l1 hc4) gX6_endAt_X6_isEndOf rfl 2 rfl hdV_X6_isEndOf ⟨rfl, rfl⟩ ⟨by decide, by decide⟩ ⟨Nat.zero_le _, Nat.zero_le _⟩ rfl (Nat.le_of_ble_eq_true rfl) [0] (by decide) rfl (kfc rfl kfn0) (gs1 := [gM Y ma z_m_now z_m_sav z_m_sc z_m_err z_m_shf z_m_stp z_m_que z_m_qd z_m_qx z_m_qy z_m_met z_m_per z_m_row z_m_det z_m_h]) rfl 0 6 rfl rfl rfl dX6_endAt_25 ?_
        obtain ⟨v10, hj12, h⟩ := kb_some h
        have J11 : KW X Y A 6 0 0 (kfl [gM Y ma z_m_now z_m_sav z_m_sc z_m_err z_m_shf z_m_stp z_m_que z_m_qd z_m_qx z_m_qy z_m_met z_m_per z_m_row z_m_det z_m_h]) [(0, .ref (ma 0)), (1, .int l1), (3, .int v10.1), (4, .int v10.2), (5, .int l5)] 47 [] := by
          refine kw_iinc (v := (l5 + 1)) (lv' := [(5, .int (l5 + 1)), (0, .ref (ma 0)), (1, .int l1), (3, .int v10.1), (4, .int v10.2)]) hX 47 dX6_endAt_47 4 rfl (kinc_1 _) (by decide) rfl ?_
          refine kw_goto hX 50 8 dX6_endAt_50 (by decide) ?_
          refine kw_lv (lv' := [(0, .ref (ma 0)), (1, .int l1), (3, .int v10.1), (4, .int v10.2), (5, .int (l5 + 1))]) [1, 2, 3, 4, 0] rfl ?_
          exact ih l1 v10.1 v10.2 (l5 + 1) z_m_now z_m_sav z_m_sc z_m_err z_m_shf z_m_stp z_m_que z_m_qd z_m_qx z_m_qy z_m_met z_m_per z_m_row z_m_det z_m_h o h hK
        have h := hj12
        refine kw_if_eq hX 28 47 dX6_endAt_28 (by decide) (fun c5 => ?_) (fun c5 => ?_)
        · have h := kif_t c5 h
          obtain rfl := Option.some.inj h
          refine kw_lv (lv' := [(0, .ref (ma 0)), (1, .int l1), (3, .int l3), (4, .int l4), (5, .int l5)]) [0, 1, 2, 3, 4] rfl ?_
          exact J11
        · have h := kif_f c5 h
          refine kw_iload_n hX 31 dX6_endAt_31 rfl 2 rfl ?_
          obtain ⟨v7, hj9, h⟩ := kb_some h
          have J8 : KW X Y A 6 0 0 (kfl [gM Y ma z_m_now z_m_sav z_m_sc z_m_err z_m_shf z_m_stp z_m_que z_m_qd z_m_qx z_m_qy z_m_met z_m_per z_m_row z_m_det z_m_h]) [(0, .ref (ma 0)), (1, .int l1), (3, .int l3), (5, .int l5)] 42 [.int v7] := by
            refine kw_istore (lv' := [(4, .int v7), (0, .ref (ma 0)), (1, .int l1), (3, .int l3), (5, .int l5)]) hX 42 dX6_endAt_42 (by decide) rfl ?_
            refine kw_iinc (v := (l3 + (-1))) (lv' := [(3, .int (l3 + (-1))), (4, .int v7), (0, .ref (ma 0)), (1, .int l1), (5, .int l5)]) hX 44 dX6_endAt_44 3 rfl (kinc_m1 _) (by decide) rfl ?_
            obtain rfl := Option.some.inj h
            refine kw_lv (lv' := [(0, .ref (ma 0)), (1, .int l1), (3, .int (l3 + (-1))), (4, .int v7), (5, .int l5)]) [2, 3, 0, 1, 4] rfl ?_
            exact J11
          have h := hj9
          refine kw_if_ne hX 32 40 dX6_endAt_32 (by decide) (fun c6 => ?_) (fun c6 => ?_)
          · have h := kif_f c6 h
            refine kw_iload hX 40 dX6_endAt_40 3 rfl ?_
            obtain rfl := Option.some.inj h
            refine kw_lv (lv' := [(0, .ref (ma 0)), (1, .int l1), (3, .int l3), (5, .int l5)]) [0, 1, 2, 4] rfl ?_
            exact J8
          · have h := kif_t c6 h
            refine kw_iload hX 35 dX6_endAt_35 4 rfl ?_
            refine kw_goto hX 37 42 dX6_endAt_37 (by decide) ?_
            obtain rfl := Option.some.inj h
            refine kw_lv (lv' := [(0, .ref (ma 0)), (1, .int l1), (3, .int l3), (5, .int l5)]) [0, 1, 2, 4] rfl ?_
            exact J8
  unfold pX6_endAt at h
  refine kw_lv (lv' := [(0, .ref (ma 0)), (1, .int a1), (2, .int a2)]) [0, 1, 2] rfl ?_
  refine kw_iload_n hX 0 dX6_endAt_0 rfl 2 rfl ?_
  refine kw_istore_n (lv' := [(3, .int a2), (0, .ref (ma 0)), (1, .int a1), (2, .int a2)]) hX 1 dX6_endAt_1 rfl (by decide) rfl ?_
  refine kw_iconst hX 2 dX6_endAt_2 kci_m1 ?_
  refine kw_istore (lv' := [(4, .int (-1)), (3, .int a2), (0, .ref (ma 0)), (1, .int a1), (2, .int a2)]) hX 3 dX6_endAt_3 (by decide) rfl ?_
  refine kw_iconst hX 5 dX6_endAt_5 kci_0 ?_
  refine kw_istore (lv' := [(5, .int 0), (4, .int (-1)), (3, .int a2), (0, .ref (ma 0)), (1, .int a1), (2, .int a2)]) hX 6 dX6_endAt_6 (by decide) rfl ?_
  obtain ⟨v13, hl14, h⟩ := kb_some h
  refine kw_lv (lv' := [(0, .ref (ma 0)), (1, .int a1), (3, .int a2), (4, .int (-1)), (5, .int 0)]) [3, 4, 2, 1, 0] rfl ?_
  refine L8 KF a1 a2 (-1) 0 m_now m_sav m_sc m_err m_shf m_stp m_que m_qd m_qx m_qy m_met m_per m_row m_det m_h v13 hl14 ?_
  refine kw_iload hX 53 dX6_endAt_53 3 rfl ?_
  obtain rfl := Option.some.inj h
  exact hret _ _ dX6_endAt_55 rfl
def pX6_isEndIndex (a1 : Int32) (a2 : Int32) (m_now : Nat → Int32) : Option (Int32) := kb (pX6_isVertex a1 m_now) (fun v1 => (if v1 = 0 then some 0 else kb (pX6_degreeOf a1 m_now) (fun v4 => kb (pX6_in a2 0 (v4 - 1)) (fun v6 => (if v6 = 0 then some 0 else some 1)))))
def rmX6_isEndIndex : Room := { frames := 3, cells := 0, slots := 0, locals := 67 }
theorem hdV_X6_isEndIndex : yX6_isEndIndex.cls = RX6 ∧ yX6_isEndIndex.cls ≠ "java/lang/invoke/MethodHandle" ∧ yX6_isEndIndex.cls ≠ "java/lang/invoke/VarHandle" ∧ (parseMethodDescriptor yX6_isEndIndex.desc).map (fun d => d.parameters.length) = some 2 := ⟨rfl, by decide +kernel, by decide +kernel, by decide +kernel⟩
set_option maxHeartbeats 4000000 in
set_option maxRecDepth 100000 in
theorem kX6_isEndIndex (l : Launch) (Y : KY) (ma : Nat → Nat) (m_now : Nat → Int32) (m_sav : Nat → Int32) (m_sc : Int32) (m_err : Nat → Int32) (m_shf : Nat → Int32) (m_stp : Nat → Int32) (m_que : Nat → Int32) (m_qd : Int32) (m_qx : Nat → Int32) (m_qy : Nat → Int32) (m_met : Nat → Int32) (m_per : Nat → Int32) (m_row : Nat → Int64) (m_det : Int64) (m_h : Int64) (a1 : Int32) (a2 : Int32) {o : Int32} (h : pX6_isEndIndex a1 a2 m_now = some o) : CtI l yX6_isEndIndex wsX6_isEndIndex rmX6_isEndIndex Y [.ref (ma 0), .int a1, .int a2] (kfl [gM Y ma m_now m_sav m_sc m_err m_shf m_stp m_que m_qd m_qx m_qy m_met m_per m_row m_det m_h]) o (kfl [gM Y ma m_now m_sav m_sc m_err m_shf m_stp m_que m_qd m_qx m_qy m_met m_per m_row m_det m_h]) := by
  refine ctI_intro (cc := cX6_isEndIndex) (maxL := 3) (own := RX6) (by decide +kernel) rfl rfl (Nat.le_of_ble_eq_true rfl) rfl ?_
  intro X A hX _ hret
  unfold pX6_isEndIndex at h
  refine kw_lv (lv' := [(0, .ref (ma 0)), (1, .int a1), (2, .int a2)]) [0, 1, 2] rfl ?_
  refine kw_aload_n hX 0 dX6_isEndIndex_0 rfl 0 rfl ?_
  refine kw_iload_n hX 1 dX6_isEndIndex_1 rfl 1 rfl ?_
  obtain ⟨v1, hc2, h⟩ := kb_some h
  refine kw_callV_I hX 2 (As := [.int a1]) (rest := []) (kX6_isVertex (kx_l X) Y ma m_now m_sav m_sc m_err m_shf m_stp m_que m_qd m_qx m_qy m_met m_per m_row m_det m_h a1 hc2) gX6_isEndIndex_X6_isVertex rfl 1 rfl hdV_X6_isVertex ⟨rfl, rfl⟩ ⟨by decide, by decide⟩ ⟨Nat.zero_le _, Nat.zero_le _⟩ rfl (Nat.le_of_ble_eq_true rfl) [0] (by decide) rfl (kfc rfl kfn0) (gs1 := [gM Y ma m_now m_sav m_sc m_err m_shf m_stp m_que m_qd m_qx m_qy m_met m_per m_row m_det m_h]) rfl 0 6 rfl rfl rfl dX6_isEndIndex_2 ?_
  refine kw_if_eq hX 5 27 dX6_isEndIndex_5 (by decide) (fun c3 => ?_) (fun c3 => ?_)
  · have h := kif_t c3 h
    refine kw_iconst hX 27 dX6_isEndIndex_27 kci_0 ?_
    obtain rfl := Option.some.inj h
    exact hret _ _ dX6_isEndIndex_28 rfl
  · have h := kif_f c3 h
    refine kw_iload_n hX 8 dX6_isEndIndex_8 rfl 2 rfl ?_
    refine kw_iconst hX 9 dX6_isEndIndex_9 kci_0 ?_
    refine kw_aload_n hX 10 dX6_isEndIndex_10 rfl 0 rfl ?_
    refine kw_iload_n hX 11 dX6_isEndIndex_11 rfl 1 rfl ?_
    obtain ⟨v4, hc5, h⟩ := kb_some h
    refine kw_callV_I hX 12 (As := [.int a1]) (rest := [.int 0, .int a2]) (kX6_degreeOf (kx_l X) Y ma m_now m_sav m_sc m_err m_shf m_stp m_que m_qd m_qx m_qy m_met m_per m_row m_det m_h a1 hc5) gX6_isEndIndex_X6_degreeOf rfl 1 rfl hdV_X6_degreeOf ⟨rfl, rfl⟩ ⟨by decide, by decide⟩ ⟨Nat.zero_le _, Nat.zero_le _⟩ rfl (Nat.le_of_ble_eq_true rfl) [0] (by decide) rfl (kfc rfl kfn0) (gs1 := [gM Y ma m_now m_sav m_sc m_err m_shf m_stp m_que m_qd m_qx m_qy m_met m_per m_row m_det m_h]) rfl 0 6 rfl rfl rfl dX6_isEndIndex_12 ?_
    refine kw_iconst hX 15 dX6_isEndIndex_15 kci_1 ?_
    refine kw_isub hX 16 dX6_isEndIndex_16 ?_
    obtain ⟨v6, hc7, h⟩ := kb_some h
    refine kw_callS_I hX 17 (As := [.int a2, .int 0, .int (v4 - 1)]) (rest := []) (kX6_in (kx_l X) Y a2 0 (v4 - 1) hc7) gX6_isEndIndex_X6_in rfl 3 rfl hdS_X6_in ⟨rfl, rfl⟩ ⟨by decide, by decide⟩ ⟨Nat.zero_le _, Nat.zero_le _⟩ rfl (Nat.le_of_ble_eq_true rfl) [] (by decide) rfl kfn0 (gs1 := [gM Y ma m_now m_sav m_sc m_err m_shf m_stp m_que m_qd m_qx m_qy m_met m_per m_row m_det m_h]) rfl dX6_isEndIndex_17 ?_
    refine kw_if_eq hX 20 27 dX6_isEndIndex_20 (by decide) (fun c8 => ?_) (fun c8 => ?_)
    · have h := kif_t c8 h
      refine kw_iconst hX 27 dX6_isEndIndex_27 kci_0 ?_
      obtain rfl := Option.some.inj h
      exact hret _ _ dX6_isEndIndex_28 rfl
    · have h := kif_f c8 h
      refine kw_iconst hX 23 dX6_isEndIndex_23 kci_1 ?_
      refine kw_goto hX 24 28 dX6_isEndIndex_24 (by decide) ?_
      obtain rfl := Option.some.inj h
      exact hret _ _ dX6_isEndIndex_28 rfl
def pX6_degree (a1 : Int32) (m_now : Nat → Int32) (m_err : Nat → Int32) : Option (Int32 × (Nat → Int32)) := kb (pX6_isVertex a1 m_now) (fun v1 => (if v1 = 0 then kb (pX6_error (-2) m_err) (fun v4 => some (v4.1, v4.2)) else kb (pX6_degreeOf a1 m_now) (fun v6 => some (v6, m_err))))
def rmX6_degree : Room := { frames := 3, cells := 0, slots := 0, locals := 67 }
theorem hdV_X6_degree : yX6_degree.cls = RX6 ∧ yX6_degree.cls ≠ "java/lang/invoke/MethodHandle" ∧ yX6_degree.cls ≠ "java/lang/invoke/VarHandle" ∧ (parseMethodDescriptor yX6_degree.desc).map (fun d => d.parameters.length) = some 1 := ⟨rfl, by decide +kernel, by decide +kernel, by decide +kernel⟩
set_option maxHeartbeats 4000000 in
set_option maxRecDepth 100000 in
theorem kX6_degree (l : Launch) (Y : KY) (ma : Nat → Nat) (m_now : Nat → Int32) (m_sav : Nat → Int32) (m_sc : Int32) (m_err : Nat → Int32) (m_shf : Nat → Int32) (m_stp : Nat → Int32) (m_que : Nat → Int32) (m_qd : Int32) (m_qx : Nat → Int32) (m_qy : Nat → Int32) (m_met : Nat → Int32) (m_per : Nat → Int32) (m_row : Nat → Int64) (m_det : Int64) (m_h : Int64) (a1 : Int32) {o : Int32 × (Nat → Int32)} (h : pX6_degree a1 m_now m_err = some o) : CtI l yX6_degree wsX6_degree rmX6_degree Y [.ref (ma 0), .int a1] (kfl [gM Y ma m_now m_sav m_sc m_err m_shf m_stp m_que m_qd m_qx m_qy m_met m_per m_row m_det m_h]) o.1 (kfl [gM Y ma m_now m_sav m_sc o.2 m_shf m_stp m_que m_qd m_qx m_qy m_met m_per m_row m_det m_h]) := by
  refine ctI_intro (cc := cX6_degree) (maxL := 2) (own := RX6) (by decide +kernel) rfl rfl (Nat.le_of_ble_eq_true rfl) rfl ?_
  intro X A hX _ hret
  unfold pX6_degree at h
  refine kw_lv (lv' := [(0, .ref (ma 0)), (1, .int a1)]) [0, 1] rfl ?_
  refine kw_aload_n hX 0 dX6_degree_0 rfl 0 rfl ?_
  refine kw_iload_n hX 1 dX6_degree_1 rfl 1 rfl ?_
  obtain ⟨v1, hc2, h⟩ := kb_some h
  refine kw_callV_I hX 2 (As := [.int a1]) (rest := []) (kX6_isVertex (kx_l X) Y ma m_now m_sav m_sc m_err m_shf m_stp m_que m_qd m_qx m_qy m_met m_per m_row m_det m_h a1 hc2) gX6_degree_X6_isVertex rfl 1 rfl hdV_X6_isVertex ⟨rfl, rfl⟩ ⟨by decide, by decide⟩ ⟨Nat.zero_le _, Nat.zero_le _⟩ rfl (Nat.le_of_ble_eq_true rfl) [0] (by decide) rfl (kfc rfl kfn0) (gs1 := [gM Y ma m_now m_sav m_sc m_err m_shf m_stp m_que m_qd m_qx m_qy m_met m_per m_row m_det m_h]) rfl 0 6 rfl rfl rfl dX6_degree_2 ?_
  refine kw_if_eq hX 5 16 dX6_degree_5 (by decide) (fun c3 => ?_) (fun c3 => ?_)
  · have h := kif_t c3 h
    refine kw_aload_n hX 16 dX6_degree_16 rfl 0 rfl ?_
    refine kw_bipush hX 17 dX6_degree_17 kcb_m2 ?_
    obtain ⟨v4, hc5, h⟩ := kb_some h
    refine kw_callV_I hX 19 (As := [.int (-2)]) (rest := []) (kX6_error (kx_l X) Y ma m_now m_sav m_sc m_err m_shf m_stp m_que m_qd m_qx m_qy m_met m_per m_row m_det m_h (-2) hc5) gX6_degree_X6_error rfl 1 rfl hdV_X6_error ⟨rfl, rfl⟩ ⟨by decide, by decide⟩ ⟨Nat.zero_le _, Nat.zero_le _⟩ rfl (Nat.le_of_ble_eq_true rfl) [0] (by decide) rfl (kfc gM_f kfn0) (gs1 := [gM Y ma m_now m_sav m_sc v4.2 m_shf m_stp m_que m_qd m_qx m_qy m_met m_per m_row m_det m_h]) rfl 0 6 rfl rfl rfl dX6_degree_19 ?_
    obtain rfl := Option.some.inj h
    exact hret _ _ dX6_degree_22 rfl
  · have h := kif_f c3 h
    refine kw_aload_n hX 8 dX6_degree_8 rfl 0 rfl ?_
    refine kw_iload_n hX 9 dX6_degree_9 rfl 1 rfl ?_
    obtain ⟨v6, hc7, h⟩ := kb_some h
    refine kw_callV_I hX 10 (As := [.int a1]) (rest := []) (kX6_degreeOf (kx_l X) Y ma m_now m_sav m_sc m_err m_shf m_stp m_que m_qd m_qx m_qy m_met m_per m_row m_det m_h a1 hc7) gX6_degree_X6_degreeOf rfl 1 rfl hdV_X6_degreeOf ⟨rfl, rfl⟩ ⟨by decide, by decide⟩ ⟨Nat.zero_le _, Nat.zero_le _⟩ rfl (Nat.le_of_ble_eq_true rfl) [0] (by decide) rfl (kfc rfl kfn0) (gs1 := [gM Y ma m_now m_sav m_sc m_err m_shf m_stp m_que m_qd m_qx m_qy m_met m_per m_row m_det m_h]) rfl 0 6 rfl rfl rfl dX6_degree_10 ?_
    refine kw_goto hX 13 22 dX6_degree_13 (by decide) ?_
    obtain rfl := Option.some.inj h
    exact hret _ _ dX6_degree_22 rfl
def pX6_neighbour (a1 : Int32) (a2 : Int32) (m_now : Nat → Int32) (m_err : Nat → Int32) : Option (Int32 × (Nat → Int32)) := kb (pX6_isEndIndex a1 a2 m_now) (fun v1 => (if v1 = 0 then kb (pX6_error (-2) m_err) (fun v4 => some (v4.1, v4.2)) else kb (pX6_endAt a1 a2 m_now) (fun v6 => kb (pX6_leadsTo v6 m_now) (fun v8 => some (v8, m_err)))))
def rmX6_neighbour : Room := { frames := 4, cells := 0, slots := 0, locals := 89 }
theorem hdV_X6_neighbour : yX6_neighbour.cls = RX6 ∧ yX6_neighbour.cls ≠ "java/lang/invoke/MethodHandle" ∧ yX6_neighbour.cls ≠ "java/lang/invoke/VarHandle" ∧ (parseMethodDescriptor yX6_neighbour.desc).map (fun d => d.parameters.length) = some 2 := ⟨rfl, by decide +kernel, by decide +kernel, by decide +kernel⟩
set_option maxHeartbeats 4000000 in
set_option maxRecDepth 100000 in
theorem kX6_neighbour (l : Launch) (Y : KY) (ma : Nat → Nat) (m_now : Nat → Int32) (m_sav : Nat → Int32) (m_sc : Int32) (m_err : Nat → Int32) (m_shf : Nat → Int32) (m_stp : Nat → Int32) (m_que : Nat → Int32) (m_qd : Int32) (m_qx : Nat → Int32) (m_qy : Nat → Int32) (m_met : Nat → Int32) (m_per : Nat → Int32) (m_row : Nat → Int64) (m_det : Int64) (m_h : Int64) (a1 : Int32) (a2 : Int32) {o : Int32 × (Nat → Int32)} (h : pX6_neighbour a1 a2 m_now m_err = some o) : CtI l yX6_neighbour wsX6_neighbour rmX6_neighbour Y [.ref (ma 0), .int a1, .int a2] (kfl [gM Y ma m_now m_sav m_sc m_err m_shf m_stp m_que m_qd m_qx m_qy m_met m_per m_row m_det m_h]) o.1 (kfl [gM Y ma m_now m_sav m_sc o.2 m_shf m_stp m_que m_qd m_qx m_qy m_met m_per m_row m_det m_h]) := by
  refine ctI_intro (cc := cX6_neighbour) (maxL := 3) (own := RX6) (by decide +kernel) rfl rfl (Nat.le_of_ble_eq_true rfl) rfl ?_
  intro X A hX _ hret
  unfold pX6_neighbour at h
  refine kw_lv (lv' := [(0, .ref (ma 0)), (1, .int a1), (2, .int a2)]) [0, 1, 2] rfl ?_
  refine kw_aload_n hX 0 dX6_neighbour_0 rfl 0 rfl ?_
  refine kw_iload_n hX 1 dX6_neighbour_1 rfl 1 rfl ?_
  refine kw_iload_n hX 2 dX6_neighbour_2 rfl 2 rfl ?_
  obtain ⟨v1, hc2, h⟩ := kb_some h
  refine kw_callV_I hX 3 (As := [.int a1, .int a2]) (rest := []) (kX6_isEndIndex (kx_l X) Y ma m_now m_sav m_sc m_err m_shf m_stp m_que m_qd m_qx m_qy m_met m_per m_row m_det m_h a1 a2 hc2) gX6_neighbour_X6_isEndIndex rfl 2 rfl hdV_X6_isEndIndex ⟨rfl, rfl⟩ ⟨by decide, by decide⟩ ⟨Nat.zero_le _, Nat.zero_le _⟩ rfl (Nat.le_of_ble_eq_true rfl) [0] (by decide) rfl (kfc rfl kfn0) (gs1 := [gM Y ma m_now m_sav m_sc m_err m_shf m_stp m_que m_qd m_qx m_qy m_met m_per m_row m_det m_h]) rfl 0 6 rfl rfl rfl dX6_neighbour_3 ?_
  refine kw_if_eq hX 6 22 dX6_neighbour_6 (by decide) (fun c3 => ?_) (fun c3 => ?_)
  · have h := kif_t c3 h
    refine kw_aload_n hX 22 dX6_neighbour_22 rfl 0 rfl ?_
    refine kw_bipush hX 23 dX6_neighbour_23 kcb_m2 ?_
    obtain ⟨v4, hc5, h⟩ := kb_some h
    refine kw_callV_I hX 25 (As := [.int (-2)]) (rest := []) (kX6_error (kx_l X) Y ma m_now m_sav m_sc m_err m_shf m_stp m_que m_qd m_qx m_qy m_met m_per m_row m_det m_h (-2) hc5) gX6_neighbour_X6_error rfl 1 rfl hdV_X6_error ⟨rfl, rfl⟩ ⟨by decide, by decide⟩ ⟨Nat.zero_le _, Nat.zero_le _⟩ rfl (Nat.le_of_ble_eq_true rfl) [0] (by decide) rfl (kfc gM_f kfn0) (gs1 := [gM Y ma m_now m_sav m_sc v4.2 m_shf m_stp m_que m_qd m_qx m_qy m_met m_per m_row m_det m_h]) rfl 0 6 rfl rfl rfl dX6_neighbour_25 ?_
    obtain rfl := Option.some.inj h
    exact hret _ _ dX6_neighbour_28 rfl
  · have h := kif_f c3 h
    refine kw_aload_n hX 9 dX6_neighbour_9 rfl 0 rfl ?_
    refine kw_aload_n hX 10 dX6_neighbour_10 rfl 0 rfl ?_
    refine kw_iload_n hX 11 dX6_neighbour_11 rfl 1 rfl ?_
    refine kw_iload_n hX 12 dX6_neighbour_12 rfl 2 rfl ?_
    obtain ⟨v6, hc7, h⟩ := kb_some h
    refine kw_callV_I hX 13 (As := [.int a1, .int a2]) (rest := [.ref (ma 0)]) (kX6_endAt (kx_l X) Y ma m_now m_sav m_sc m_err m_shf m_stp m_que m_qd m_qx m_qy m_met m_per m_row m_det m_h a1 a2 hc7) gX6_neighbour_X6_endAt rfl 2 rfl hdV_X6_endAt ⟨rfl, rfl⟩ ⟨by decide, by decide⟩ ⟨Nat.zero_le _, Nat.zero_le _⟩ rfl (Nat.le_of_ble_eq_true rfl) [0] (by decide) rfl (kfc rfl kfn0) (gs1 := [gM Y ma m_now m_sav m_sc m_err m_shf m_stp m_que m_qd m_qx m_qy m_met m_per m_row m_det m_h]) rfl 0 6 rfl rfl rfl dX6_neighbour_13 ?_
    obtain ⟨v8, hc9, h⟩ := kb_some h
    refine kw_callV_I hX 16 (As := [.int v6]) (rest := []) (kX6_leadsTo (kx_l X) Y ma m_now m_sav m_sc m_err m_shf m_stp m_que m_qd m_qx m_qy m_met m_per m_row m_det m_h v6 hc9) gX6_neighbour_X6_leadsTo rfl 1 rfl hdV_X6_leadsTo ⟨rfl, rfl⟩ ⟨by decide, by decide⟩ ⟨Nat.zero_le _, Nat.zero_le _⟩ rfl (Nat.le_of_ble_eq_true rfl) [0] (by decide) rfl (kfc rfl kfn0) (gs1 := [gM Y ma m_now m_sav m_sc m_err m_shf m_stp m_que m_qd m_qx m_qy m_met m_per m_row m_det m_h]) rfl 0 6 rfl rfl rfl dX6_neighbour_16 ?_
    refine kw_goto hX 19 28 dX6_neighbour_19 (by decide) ?_
    obtain rfl := Option.some.inj h
    exact hret _ _ dX6_neighbour_28 rfl
def pX6_node (a1 : Int32) (a2 : Int32) (a3 : Int32)  : Option (Int32) := some ((((((a1 * 33) + a2) + 16) * 33) + a3) + 16)
def rmX6_node : Room := { frames := 0, cells := 0, slots := 0, locals := 0 }
theorem hdS_X6_node : yX6_node.cls ≠ "java/lang/invoke/MethodHandle" ∧ yX6_node.cls ≠ "java/lang/invoke/VarHandle" ∧ (parseMethodDescriptor yX6_node.desc).map (fun d => d.parameters.length) = some 3 := ⟨by decide +kernel, by decide +kernel, by decide +kernel⟩
set_option maxHeartbeats 4000000 in
set_option maxRecDepth 100000 in
theorem kX6_node (l : Launch) (Y : KY)   (a1 : Int32) (a2 : Int32) (a3 : Int32) {o : Int32} (h : pX6_node a1 a2 a3 = some o) : CtI l yX6_node wsX6_node rmX6_node Y [.int a1, .int a2, .int a3] (kfl []) o (kfl []) := by
  refine ctI_intro (cc := cX6_node) (maxL := 3) (own := RX6) (by decide +kernel) rfl rfl (Nat.le_of_ble_eq_true rfl) rfl ?_
  intro X A hX _ hret
  unfold pX6_node at h
  refine kw_lv (lv' := [(0, .int a1), (1, .int a2), (2, .int a3)]) [0, 1, 2] rfl ?_
  refine kw_iload_n hX 0 dX6_node_0 rfl 0 rfl ?_
  refine kw_bipush hX 1 dX6_node_1 kcb_33 ?_
  refine kw_imul hX 3 dX6_node_3 ?_
  refine kw_iload_n hX 4 dX6_node_4 rfl 1 rfl ?_
  refine kw_iadd hX 5 dX6_node_5 ?_
  refine kw_bipush hX 6 dX6_node_6 kcb_16 ?_
  refine kw_iadd hX 8 dX6_node_8 ?_
  refine kw_bipush hX 9 dX6_node_9 kcb_33 ?_
  refine kw_imul hX 11 dX6_node_11 ?_
  refine kw_iload_n hX 12 dX6_node_12 rfl 2 rfl ?_
  refine kw_iadd hX 13 dX6_node_13 ?_
  refine kw_bipush hX 14 dX6_node_14 kcb_16 ?_
  refine kw_iadd hX 16 dX6_node_16 ?_
  obtain rfl := Option.some.inj h
  exact hret _ _ dX6_node_17 rfl
def pX6_reach (a1 : Int32) (a2 : Int32) (m_stp : Nat → Int32) (m_que : Nat → Int32) (m_qd : Int32) : Option ((Nat → Int32) × (Nat → Int32) × Int32) := kgd (kin a1 6534) ((if (m_stp (a1 : Int32).toNatClampNeg) = ((-1) : Int32) then kgd (kin a1 6534) (kgd (kin m_qd 6534) (some ((upd m_stp (a1 : Int32).toNatClampNeg a2), (upd m_que (m_qd : Int32).toNatClampNeg a1), (m_qd + 1)))) else some (m_stp, m_que, m_qd)))
def rmX6_reach : Room := { frames := 0, cells := 0, slots := 0, locals := 0 }
theorem hdV_X6_reach : yX6_reach.cls = RX6 ∧ yX6_reach.cls ≠ "java/lang/invoke/MethodHandle" ∧ yX6_reach.cls ≠ "java/lang/invoke/VarHandle" ∧ (parseMethodDescriptor yX6_reach.desc).map (fun d => d.parameters.length) = some 2 := ⟨rfl, by decide +kernel, by decide +kernel, by decide +kernel⟩
set_option maxHeartbeats 4000000 in
set_option maxRecDepth 100000 in
theorem kX6_reach (l : Launch) (Y : KY) (ma : Nat → Nat) (m_now : Nat → Int32) (m_sav : Nat → Int32) (m_sc : Int32) (m_err : Nat → Int32) (m_shf : Nat → Int32) (m_stp : Nat → Int32) (m_que : Nat → Int32) (m_qd : Int32) (m_qx : Nat → Int32) (m_qy : Nat → Int32) (m_met : Nat → Int32) (m_per : Nat → Int32) (m_row : Nat → Int64) (m_det : Int64) (m_h : Int64) (a1 : Int32) (a2 : Int32) {o : (Nat → Int32) × (Nat → Int32) × Int32} (h : pX6_reach a1 a2 m_stp m_que m_qd = some o) : CtV l yX6_reach wsX6_reach rmX6_reach Y [.ref (ma 0), .int a1, .int a2] (kfl [gM Y ma m_now m_sav m_sc m_err m_shf m_stp m_que m_qd m_qx m_qy m_met m_per m_row m_det m_h]) (kfl [gM Y ma m_now m_sav m_sc m_err m_shf o.1 o.2.1 o.2.2 m_qx m_qy m_met m_per m_row m_det m_h]) := by
  refine ctV_intro (cc := cX6_reach) (maxL := 3) (own := RX6) (by decide +kernel) rfl rfl (Nat.le_of_ble_eq_true rfl) rfl ?_
  intro X A hX _ hret
  have hin6 : ∀ w ∈ u_ws RX6 TX6 15, w ∈ wsX6_reach := by decide +kernel
  have f0 := hX.w (Cond.fieldLink RX6 22 "PeriodicNetModel" "steps" "[I") (by decide +kernel)
  have f1 := hX.w (Cond.fieldLink RX6 25 "PeriodicNetModel" "queue" "[I") (by decide +kernel)
  have f2 := hX.w (Cond.fieldLink RX6 99 "PeriodicNetModel" "queued" "I") (by decide +kernel)
  unfold pX6_reach at h
  refine kw_lv (lv' := [(0, .ref (ma 0)), (1, .int a1), (2, .int a2)]) [0, 1, 2] rfl ?_
  refine kw_aload_n hX 0 dX6_reach_0 rfl 0 rfl ?_
  refine kw_get hX 1 (C := RX6) (T := TX6) (N := 15) hin6 5 f0 (fun _ h => h) 0 rfl rfl (by decide) rfl dX6_reach_1 ?_
  refine kw_iload_n hX 4 dX6_reach_4 rfl 1 rfl ?_
  obtain ⟨g1, h⟩ := kgd_some h
  refine kw_iald hX 5 5 rfl g1 dX6_reach_5 ?_
  refine kw_iconst hX 6 dX6_reach_6 kci_m1 ?_
  refine kw_icmp_ne hX 7 37 dX6_reach_7 (by decide) (fun c2 => ?_) (fun c2 => ?_)
  · have h := kif_f c2 h
    obtain rfl := Option.some.inj h
    exact hret _ _ dX6_reach_37
  · have h := kif_t c2 h
    refine kw_aload_n hX 10 dX6_reach_10 rfl 0 rfl ?_
    refine kw_get hX 11 (C := RX6) (T := TX6) (N := 15) hin6 5 f0 (fun _ h => h) 0 rfl rfl (by decide) rfl dX6_reach_11 ?_
    refine kw_iload_n hX 14 dX6_reach_14 rfl 1 rfl ?_
    refine kw_iload_n hX 15 dX6_reach_15 rfl 2 rfl ?_
    obtain ⟨g3, h⟩ := kgd_some h
    refine kw_iast hX 16 (ws' := (kfl [gM Y ma m_now m_sav m_sc m_err m_shf (upd m_stp (a1 : Int32).toNatClampNeg a2) m_que m_qd m_qx m_qy m_met m_per m_row m_det m_h])) 5 rfl g3 rfl dX6_reach_16 ?_
    refine kw_aload_n hX 17 dX6_reach_17 rfl 0 rfl ?_
    refine kw_get hX 18 (C := RX6) (T := TX6) (N := 15) hin6 6 f1 (fun _ h => h) 0 rfl rfl (by decide) rfl dX6_reach_18 ?_
    refine kw_aload_n hX 21 dX6_reach_21 rfl 0 rfl ?_
    refine kw_get hX 22 (C := RX6) (T := TX6) (N := 15) hin6 7 f2 (fun _ h => h) 0 rfl rfl (by decide) rfl dX6_reach_22 ?_
    refine kw_iload_n hX 25 dX6_reach_25 rfl 1 rfl ?_
    obtain ⟨g4, h⟩ := kgd_some h
    refine kw_iast hX 26 (ws' := (kfl [gM Y ma m_now m_sav m_sc m_err m_shf (upd m_stp (a1 : Int32).toNatClampNeg a2) (upd m_que (m_qd : Int32).toNatClampNeg a1) m_qd m_qx m_qy m_met m_per m_row m_det m_h])) 6 rfl g4 rfl dX6_reach_26 ?_
    refine kw_aload_n hX 27 dX6_reach_27 rfl 0 rfl ?_
    refine kw_dup hX 28 dX6_reach_28 rfl ?_
    refine kw_get hX 29 (C := RX6) (T := TX6) (N := 15) hin6 7 f2 (fun _ h => h) 0 rfl rfl (by decide) rfl dX6_reach_29 ?_
    refine kw_iconst hX 32 dX6_reach_32 kci_1 ?_
    refine kw_iadd hX 33 dX6_reach_33 ?_
    refine kw_put hX 34 (C := RX6) (T := TX6) (N := 15) (ws' := (kfl [gM Y ma m_now m_sav m_sc m_err m_shf (upd m_stp (a1 : Int32).toNatClampNeg a2) (upd m_que (m_qd : Int32).toNatClampNeg a1) (m_qd + 1) m_qx m_qy m_met m_per m_row m_det m_h])) hin6 tyX6 tyX6_ok nmX6 7 f2 (fun _ h => h) 0 rfl rfl (by decide) rfl (ty := .int) (tyX6_ok 7 (by decide)) rfl rfl (Nat.le_of_ble_eq_true rfl) rfl dX6_reach_34 ?_
    obtain rfl := Option.some.inj h
    exact hret _ _ dX6_reach_37
def pX6_search_L3 : Nat → Int32 → Int32 → Int32 → Int32 → (Nat → Int32) → Option (Int32 × (Nat → Int32))
  | 0, _, _, _, _, _ => none
  | n + 1, l1, l2, l3, l4, z_m_stp => (if (6534 : Int32) ≤ l4 then some (l4, z_m_stp) else kgd (kin l4 6534) (pX6_search_L3 n l1 l2 l3 (l4 + 1) (upd z_m_stp (l4 : Int32).toNatClampNeg (-1))))
def pX6_search_L107 : Nat → Int32 → Int32 → Int32 → Int32 → Int32 → Int32 → Int32 → Int32 → (Nat → Int32) → (Nat → Int32) → (Nat → Int32) → Int32 → Option (Int32 × (Nat → Int32) × (Nat → Int32) × Int32)
  | 0, _, _, _, _, _, _, _, _, _, _, _, _ => none
  | n + 1, l2, l3, l4, l5, l6, l7, l8, l9, z_m_now, z_m_stp, z_m_que, z_m_qd => kgd (kin 1 50) ((if (2 * (z_m_now (1 : Int32).toNatClampNeg)) ≤ l9 then some (l9, z_m_stp, z_m_que, z_m_qd) else kb (pX6_endX l9 z_m_now) (fun v18 => kb (pX6_endY l9 z_m_now) (fun v20 => kb (pX6_isEndOf l9 l6 z_m_now) (fun v22 => kb ((if v22 = 0 then some 0 else kb (pX6_in (l7 + v18) (-16) 16) (fun v25 => (if v25 = 0 then some 0 else kb (pX6_in (l8 + v20) (-16) 16) (fun v28 => (if v28 = 0 then some 0 else some 1))))) : Option (Int32)) (fun v31 => kb ((if v31 = 0 then some l2 else kb (pX6_leadsTo l9 z_m_now) (fun v34 => kb (pX6_node v34 (l7 + v18) (l8 + v20)) (fun v36 => some v36))) : Option (Int32)) (fun v38 => kb ((if v38 = l2 then some (z_m_stp, z_m_que, z_m_qd) else kgd (kin l5 6534) (kb (pX6_reach v38 ((z_m_stp (l5 : Int32).toNatClampNeg) + 1) z_m_stp z_m_que z_m_qd) (fun v42 => some (v42.1, v42.2.1, v42.2.2)))) : Option ((Nat → Int32) × (Nat → Int32) × Int32)) (fun v44 => pX6_search_L107 n l2 l3 l4 l5 l6 l7 l8 (l9 + 1) z_m_now v44.1 v44.2.1 v44.2.2))))))))
def pX6_search_L39 : Nat → Int32 → Int32 → Int32 → (Nat → Int32) → (Nat → Int32) → (Nat → Int32) → Int32 → Option (Int32 × (Nat → Int32) × (Nat → Int32) × Int32)
  | 0, _, _, _, _, _, _, _ => none
  | n + 1, l2, l3, l4, z_m_now, z_m_stp, z_m_que, z_m_qd => (if z_m_qd ≤ l4 then some (l4, z_m_stp, z_m_que, z_m_qd) else kgd (kin l4 6534) (kgd (kin (z_m_que (l4 : Int32).toNatClampNeg) 6534) ((if l3 ≤ (z_m_stp ((z_m_que (l4 : Int32).toNatClampNeg) : Int32).toNatClampNeg) then some (l4, z_m_stp, z_m_que, z_m_qd) else kgd (kin l4 6534) (kgd (decide (¬ (1089 : Int32) = 0)) (kgd (decide (¬ (33 : Int32) = 0)) (kgd (decide (¬ (33 : Int32) = 0)) (kgd (decide (¬ (33 : Int32) = 0)) (kb (pX6_search_L107 KF l2 l3 l4 (z_m_que (l4 : Int32).toNatClampNeg) ((z_m_que (l4 : Int32).toNatClampNeg) / 1089) ((((z_m_que (l4 : Int32).toNatClampNeg) / 33) - ((z_m_que (l4 : Int32).toNatClampNeg) / 33) / 33 * 33) - 16) (((z_m_que (l4 : Int32).toNatClampNeg) - (z_m_que (l4 : Int32).toNatClampNeg) / 33 * 33) - 16) 0 z_m_now z_m_stp z_m_que z_m_qd) (fun v49 => pX6_search_L39 n l2 l3 (l4 + 1) z_m_now v49.2.1 v49.2.2.1 v49.2.2.2))))))))))
def pX6_search (a1 : Int32) (a2 : Int32) (a3 : Int32) (m_now : Nat → Int32) (m_stp : Nat → Int32) (m_que : Nat → Int32) (m_qd : Int32) : Option ((Nat → Int32) × (Nat → Int32) × Int32) := kb (pX6_search_L3 KF a1 a2 a3 0 m_stp) (fun v3 => kb (pX6_reach a1 0 v3.2 m_que 0) (fun v5 => kb (pX6_search_L39 KF a2 a3 0 m_now v5.1 v5.2.1 v5.2.2) (fun v51 => some (v51.2.1, v51.2.2.1, v51.2.2.2))))
def rmX6_search : Room := { frames := 2, cells := 0, slots := 0, locals := 44 }
theorem hdV_X6_search : yX6_search.cls = RX6 ∧ yX6_search.cls ≠ "java/lang/invoke/MethodHandle" ∧ yX6_search.cls ≠ "java/lang/invoke/VarHandle" ∧ (parseMethodDescriptor yX6_search.desc).map (fun d => d.parameters.length) = some 3 := ⟨rfl, by decide +kernel, by decide +kernel, by decide +kernel⟩
set_option maxHeartbeats 4000000 in
set_option maxRecDepth 100000 in
theorem kX6_search (l : Launch) (Y : KY) (ma : Nat → Nat) (m_now : Nat → Int32) (m_sav : Nat → Int32) (m_sc : Int32) (m_err : Nat → Int32) (m_shf : Nat → Int32) (m_stp : Nat → Int32) (m_que : Nat → Int32) (m_qd : Int32) (m_qx : Nat → Int32) (m_qy : Nat → Int32) (m_met : Nat → Int32) (m_per : Nat → Int32) (m_row : Nat → Int64) (m_det : Int64) (m_h : Int64) (a1 : Int32) (a2 : Int32) (a3 : Int32) {o : (Nat → Int32) × (Nat → Int32) × Int32} (h : pX6_search a1 a2 a3 m_now m_stp m_que m_qd = some o) : CtV l yX6_search wsX6_search rmX6_search Y [.ref (ma 0), .int a1, .int a2, .int a3] (kfl [gM Y ma m_now m_sav m_sc m_err m_shf m_stp m_que m_qd m_qx m_qy m_met m_per m_row m_det m_h]) (kfl [gM Y ma m_now m_sav m_sc m_err m_shf o.1 o.2.1 o.2.2 m_qx m_qy m_met m_per m_row m_det m_h]) := by
  refine ctV_intro (cc := cX6_search) (maxL := 14) (own := RX6) (by decide +kernel) rfl rfl (Nat.le_of_ble_eq_true rfl) rfl ?_
  intro X A hX _ hret
  have hin6 : ∀ w ∈ u_ws RX6 TX6 15, w ∈ wsX6_search := by decide +kernel
  have f0 := hX.w (Cond.fieldLink RX6 22 "PeriodicNetModel" "steps" "[I") (by decide +kernel)
  have f1 := hX.w (Cond.fieldLink RX6 99 "PeriodicNetModel" "queued" "I") (by decide +kernel)
  have f2 := hX.w (Cond.fieldLink RX6 25 "PeriodicNetModel" "queue" "[I") (by decide +kernel)
  have f3 := hX.w (Cond.fieldLink RX6 7 "PeriodicNetModel" "now" "[I") (by decide +kernel)
  have L3 : ∀ (n : Nat) (l1 : Int32) (l2 : Int32) (l3 : Int32) (l4 : Int32) (z_m_now : Nat → Int32) (z_m_sav : Nat → Int32) (z_m_sc : Int32) (z_m_err : Nat → Int32) (z_m_shf : Nat → Int32) (z_m_stp : Nat → Int32) (z_m_que : Nat → Int32) (z_m_qd : Int32) (z_m_qx : Nat → Int32) (z_m_qy : Nat → Int32) (z_m_met : Nat → Int32) (z_m_per : Nat → Int32) (z_m_row : Nat → Int64) (z_m_det : Int64) (z_m_h : Int64) (o : Int32 × (Nat → Int32)), pX6_search_L3 n l1 l2 l3 l4 z_m_stp = some o → KW X Y A 14 0 0 (kfl [gM Y ma z_m_now z_m_sav z_m_sc z_m_err z_m_shf o.2 z_m_que z_m_qd z_m_qx z_m_qy z_m_met z_m_per z_m_row z_m_det z_m_h]) [(0, .ref (ma 0)), (1, .int l1), (2, .int l2), (3, .int l3), (4, .int o.1)] 25 [] → KW X Y A 14 0 0 (kfl [gM Y ma z_m_now z_m_sav z_m_sc z_m_err z_m_shf z_m_stp z_m_que z_m_qd z_m_qx z_m_qy z_m_met z_m_per z_m_row z_m_det z_m_h]) [(0, .ref (ma 0)), (1, .int l1), (2, .int l2), (3, .int l3), (4, .int l4)] 3 [] := by
    intro n
    induction n with
    | zero => intro l1 l2 l3 l4 z_m_now z_m_sav z_m_sc z_m_err z_m_shf z_m_stp z_m_que z_m_qd z_m_qx z_m_qy z_m_met z_m_per z_m_row z_m_det z_m_h o h; cases h
    | succ n ih =>
      intro l1 l2 l3 l4 z_m_now z_m_sav z_m_sc z_m_err z_m_shf z_m_stp z_m_que z_m_qd z_m_qx z_m_qy z_m_met z_m_per z_m_row z_m_det z_m_h o h hK
      rw [pX6_search_L3] at h
      refine kw_iload hX 3 dX6_search_3 4 rfl ?_
      refine kw_sipush hX 5 dX6_search_5 kcs_6534 ?_
      refine kw_icmp_ge hX 8 25 dX6_search_8 (by decide) (fun c1 => ?_) (fun c1 => ?_)
      · have h := kif_t c1 h
        obtain rfl := Option.some.inj h
        refine kw_lv (lv' := [(0, .ref (ma 0)), (1, .int l1), (2, .int l2), (3, .int l3), (4, .int l4)]) [0, 1, 2, 3, 4] rfl ?_
        exact hK
      · have h := kif_f c1 h
        refine kw_aload_n hX 11 dX6_search_11 rfl 0 rfl ?_
        refine kw_get hX 12 (C := RX6) (T := TX6) (N := 15) hin6 5 f0 (fun _ h => h) 0 rfl rfl (by decide) rfl dX6_search_12 ?_
        refine kw_iload hX 15 dX6_search_15 4 rfl ?_
        refine kw_iconst hX 17 dX6_search_17 kci_m1 ?_
        obtain ⟨g2, h⟩ := kgd_some h
        refine kw_iast hX 18 (ws' := (kfl [gM Y ma z_m_now z_m_sav z_m_sc z_m_err z_m_shf (upd z_m_stp (l4 : Int32).toNatClampNeg (-1)) z_m_que z_m_qd z_m_qx z_m_qy z_m_met z_m_per z_m_row z_m_det z_m_h])) 5 rfl g2 rfl dX6_search_18 ?_
        refine kw_iinc (v := (l4 + 1)) (lv' := [(4, .int (l4 + 1)), (0, .ref (ma 0)), (1, .int l1), (2, .int l2), (3, .int l3)]) hX 19 dX6_search_19 4 rfl (kinc_1 _) (by decide) rfl ?_
        refine kw_goto hX 22 3 dX6_search_22 (by decide) ?_
        refine kw_lv (lv' := [(0, .ref (ma 0)), (1, .int l1), (2, .int l2), (3, .int l3), (4, .int (l4 + 1))]) [1, 2, 3, 4, 0] rfl ?_
        exact ih l1 l2 l3 (l4 + 1) z_m_now z_m_sav z_m_sc z_m_err z_m_shf (upd z_m_stp (l4 : Int32).toNatClampNeg (-1)) z_m_que z_m_qd z_m_qx z_m_qy z_m_met z_m_per z_m_row z_m_det z_m_h o h hK
  have L107 : ∀ (n : Nat) (l2 : Int32) (l3 : Int32) (l4 : Int32) (l5 : Int32) (l6 : Int32) (l7 : Int32) (l8 : Int32) (l9 : Int32) (z_m_now : Nat → Int32) (z_m_sav : Nat → Int32) (z_m_sc : Int32) (z_m_err : Nat → Int32) (z_m_shf : Nat → Int32) (z_m_stp : Nat → Int32) (z_m_que : Nat → Int32) (z_m_qd : Int32) (z_m_qx : Nat → Int32) (z_m_qy : Nat → Int32) (z_m_met : Nat → Int32) (z_m_per : Nat → Int32) (z_m_row : Nat → Int64) (z_m_det : Int64) (z_m_h : Int64) (o : Int32 × (Nat → Int32) × (Nat → Int32) × Int32), pX6_search_L107 n l2 l3 l4 l5 l6 l7 l8 l9 z_m_now z_m_stp z_m_que z_m_qd = some o → KW X Y A 14 0 0 (kfl [gM Y ma z_m_now z_m_sav z_m_sc z_m_err z_m_shf o.2.1 o.2.2.1 o.2.2.2 z_m_qx z_m_qy z_m_met z_m_per z_m_row z_m_det z_m_h]) [(0, .ref (ma 0)), (2, .int l2), (3, .int l3), (4, .int l4), (5, .int l5), (6, .int l6), (7, .int l7), (8, .int l8), (9, .int o.1)] 235 [] → KW X Y A 14 0 0 (kfl [gM Y ma z_m_now z_m_sav z_m_sc z_m_err z_m_shf z_m_stp z_m_que z_m_qd z_m_qx z_m_qy z_m_met z_m_per z_m_row z_m_det z_m_h]) [(0, .ref (ma 0)), (2, .int l2), (3, .int l3), (4, .int l4), (5, .int l5), (6, .int l6), (7, .int l7), (8, .int l8), (9, .int l9)] 107 [] := by
    intro n
    induction n with
    | zero => intro l2 l3 l4 l5 l6 l7 l8 l9 z_m_now z_m_sav z_m_sc z_m_err z_m_shf z_m_stp z_m_que z_m_qd z_m_qx z_m_qy z_m_met z_m_per z_m_row z_m_det z_m_h o h; cases h
    | succ n ih =>
      intro l2 l3 l4 l5 l6 l7 l8 l9 z_m_now z_m_sav z_m_sc z_m_err z_m_shf z_m_stp z_m_que z_m_qd z_m_qx z_m_qy z_m_met z_m_per z_m_row z_m_det z_m_h o h hK
      rw [pX6_search_L107] at h
      refine kw_iload hX 107 dX6_search_107 8 rfl ?_
      refine kw_iconst hX 109 dX6_search_109 kci_2 ?_
      refine kw_aload_n hX 110 dX6_search_110 rfl 0 rfl ?_
      refine kw_get hX 111 (C := RX6) (T := TX6) (N := 15) hin6 0 f3 (fun _ h => h) 0 rfl rfl (by decide) rfl dX6_search_111 ?_
      refine kw_iconst hX 114 dX6_search_114 kci_1 ?_
      obtain ⟨g16, h⟩ := kgd_some h
      refine kw_iald hX 115 1 rfl g16 dX6_search_115 ?_
      refine kw_imul hX 116 dX6_search_116 ?_
      refine kw_icmp_ge hX 117 235 dX6_search_117 (by decide) (fun c17 => ?_) (fun c17 => ?_)
      · have h := kif_t c17 h
        obtain rfl := Option.some.inj h
        refine kw_lv (lv' := [(0, .ref (ma 0)), (2, .int l2), (3, .int l3), (4, .int l4), (5, .int l5), (6, .int l6), (7, .int l7), (8, .int l8), (9, .int l9)]) [0, 1, 2, 3, 4, 5, 6, 7, 8] rfl ?_
        exact hK
      · have h := kif_f c17 h
        refine kw_iload hX 120 dX6_search_120 6 rfl ?_
        refine kw_aload_n hX 122 dX6_search_122 rfl 0 rfl ?_
        refine kw_iload hX 123 dX6_search_123 8 rfl ?_
        obtain ⟨v18, hc19, h⟩ := kb_some h
        refine kw_callV_I hX 125 (As := [.int l9]) (rest := [.int l7]) (kX6_endX (kx_l X) Y ma z_m_now z_m_sav z_m_sc z_m_err z_m_shf z_m_stp z_m_que z_m_qd z_m_qx z_m_qy z_m_met z_m_per z_m_row z_m_det z_m_h l9 hc19) gX6_search_X6_endX rfl 1 rfl hdV_X6_endX ⟨rfl, rfl⟩ ⟨by decide, by decide⟩ ⟨Nat.zero_le _, Nat.zero_le _⟩ rfl (Nat.le_of_ble_eq_true rfl) [0] (by decide) rfl (kfc rfl kfn0) (gs1 := [gM Y ma z_m_now z_m_sav z_m_sc z_m_err z_m_shf z_m_stp z_m_que z_m_qd z_m_qx z_m_qy z_m_met z_m_per z_m_row z_m_det z_m_h]) rfl 0 6 rfl rfl rfl dX6_search_125 ?_
        refine kw_iadd hX 128 dX6_search_128 ?_
        refine kw_istore (lv' := [(10, .int (l7 + v18)), (0, .ref (ma 0)), (2, .int l2), (3, .int l3), (4, .int l4), (5, .int l5), (6, .int l6), (7, .int l7), (8, .int l8), (9, .int l9)]) hX 129 dX6_search_129 (by decide) rfl ?_
        refine kw_iload hX 131 dX6_search_131 8 rfl ?_
        refine kw_aload_n hX 133 dX6_search_133 rfl 1 rfl ?_
        refine kw_iload hX 134 dX6_search_134 9 rfl ?_
        obtain ⟨v20, hc21, h⟩ := kb_some h
        refine kw_callV_I hX 136 (As := [.int l9]) (rest := [.int l8]) (kX6_endY (kx_l X) Y ma z_m_now z_m_sav z_m_sc z_m_err z_m_shf z_m_stp z_m_que z_m_qd z_m_qx z_m_qy z_m_met z_m_per z_m_row z_m_det z_m_h l9 hc21) gX6_search_X6_endY rfl 1 rfl hdV_X6_endY ⟨rfl, rfl⟩ ⟨by decide, by decide⟩ ⟨Nat.zero_le _, Nat.zero_le _⟩ rfl (Nat.le_of_ble_eq_true rfl) [0] (by decide) rfl (kfc rfl kfn0) (gs1 := [gM Y ma z_m_now z_m_sav z_m_sc z_m_err z_m_shf z_m_stp z_m_que z_m_qd z_m_qx z_m_qy z_m_met z_m_per z_m_row z_m_det z_m_h]) rfl 0 6 rfl rfl rfl dX6_search_136 ?_
        refine kw_iadd hX 139 dX6_search_139 ?_
        refine kw_istore (lv' := [(11, .int (l8 + v20)), (10, .int (l7 + v18)), (0, .ref (ma 0)), (2, .int l2), (3, .int l3), (4, .int l4), (5, .int l5), (6, .int l6), (7, .int l7), (8, .int l8), (9, .int l9)]) hX 140 dX6_search_140 (by decide) rfl ?_
        refine kw_aload_n hX 142 dX6_search_142 rfl 2 rfl ?_
        refine kw_iload hX 143 dX6_search_143 10 rfl ?_
        refine kw_iload hX 145 dX6_search_145 7 rfl ?_
        obtain ⟨v22, hc23, h⟩ := kb_some h
        refine kw_callV_I hX 147 (As := [.int l9, .int l6]) (rest := []) (kX6_isEndOf (kx_l X) Y ma z_m_now z_m_sav z_m_sc z_m_err z_m_shf z_m_stp z_m_que z_m_qd z_m_qx z_m_qy z_m_met z_m_per z_m_row z_m_det z_m_h l9 l6 hc23) gX6_search_X6_isEndOf rfl 2 rfl hdV_X6_isEndOf ⟨rfl, rfl⟩ ⟨by decide, by decide⟩ ⟨Nat.zero_le _, Nat.zero_le _⟩ rfl (Nat.le_of_ble_eq_true rfl) [0] (by decide) rfl (kfc rfl kfn0) (gs1 := [gM Y ma z_m_now z_m_sav z_m_sc z_m_err z_m_shf z_m_stp z_m_que z_m_qd z_m_qx z_m_qy z_m_met z_m_per z_m_row z_m_det z_m_h]) rfl 0 6 rfl rfl rfl dX6_search_147 ?_
        obtain ⟨v31, hj48, h⟩ := kb_some h
        have J32 : KW X Y A 14 0 0 (kfl [gM Y ma z_m_now z_m_sav z_m_sc z_m_err z_m_shf z_m_stp z_m_que z_m_qd z_m_qx z_m_qy z_m_met z_m_per z_m_row z_m_det z_m_h]) [(0, .ref (ma 0)), (2, .int l2), (3, .int l3), (4, .int l4), (5, .int l5), (6, .int l6), (7, .int l7), (8, .int l8), (9, .int l9), (10, .int (l7 + v18)), (11, .int (l8 + v20))] 182 [.int v31] := by
          refine kw_istore (lv' := [(12, .int v31), (0, .ref (ma 0)), (2, .int l2), (3, .int l3), (4, .int l4), (5, .int l5), (6, .int l6), (7, .int l7), (8, .int l8), (9, .int l9), (10, .int (l7 + v18)), (11, .int (l8 + v20))]) hX 182 dX6_search_182 (by decide) rfl ?_
          refine kw_iload hX 184 dX6_search_184 0 rfl ?_
          obtain ⟨v38, hj47, h⟩ := kb_some h
          have J39 : KW X Y A 14 0 0 (kfl [gM Y ma z_m_now z_m_sav z_m_sc z_m_err z_m_shf z_m_stp z_m_que z_m_qd z_m_qx z_m_qy z_m_met z_m_per z_m_row z_m_det z_m_h]) [(0, .ref (ma 0)), (2, .int l2), (3, .int l3), (4, .int l4), (5, .int l5), (6, .int l6), (7, .int l7), (8, .int l8), (9, .int l9)] 206 [.int v38] := by
            refine kw_istore (lv' := [(13, .int v38), (0, .ref (ma 0)), (2, .int l2), (3, .int l3), (4, .int l4), (5, .int l5), (6, .int l6), (7, .int l7), (8, .int l8), (9, .int l9)]) hX 206 dX6_search_206 (by decide) rfl ?_
            refine kw_iload hX 208 dX6_search_208 0 rfl ?_
            refine kw_iload_n hX 210 dX6_search_210 rfl 2 rfl ?_
            obtain ⟨v44, hj46, h⟩ := kb_some h
            have J45 : KW X Y A 14 0 0 (kfl [gM Y ma z_m_now z_m_sav z_m_sc z_m_err z_m_shf v44.1 v44.2.1 v44.2.2 z_m_qx z_m_qy z_m_met z_m_per z_m_row z_m_det z_m_h]) [(0, .ref (ma 0)), (2, .int l2), (3, .int l3), (4, .int l4), (5, .int l5), (6, .int l6), (7, .int l7), (8, .int l8), (9, .int l9)] 229 [] := by
              refine kw_iinc (v := (l9 + 1)) (lv' := [(9, .int (l9 + 1)), (0, .ref (ma 0)), (2, .int l2), (3, .int l3), (4, .int l4), (5, .int l5), (6, .int l6), (7, .int l7), (8, .int l8)]) hX 229 dX6_search_229 8 rfl (kinc_1 _) (by decide) rfl ?_
              refine kw_goto hX 232 107 dX6_search_232 (by decide) ?_
              refine kw_lv (lv' := [(0, .ref (ma 0)), (2, .int l2), (3, .int l3), (4, .int l4), (5, .int l5), (6, .int l6), (7, .int l7), (8, .int l8), (9, .int (l9 + 1))]) [1, 2, 3, 4, 5, 6, 7, 8, 0] rfl ?_
              exact ih l2 l3 l4 l5 l6 l7 l8 (l9 + 1) z_m_now z_m_sav z_m_sc z_m_err z_m_shf v44.1 v44.2.1 v44.2.2 z_m_qx z_m_qy z_m_met z_m_per z_m_row z_m_det z_m_h o h hK
            have h := hj46
            refine kw_icmp_eq hX 211 229 dX6_search_211 (by decide) (fun c40 => ?_) (fun c40 => ?_)
            · have h := kif_t c40 h
              obtain rfl := Option.some.inj h
              refine kw_lv (lv' := [(0, .ref (ma 0)), (2, .int l2), (3, .int l3), (4, .int l4), (5, .int l5), (6, .int l6), (7, .int l7), (8, .int l8), (9, .int l9)]) [1, 2, 3, 4, 5, 6, 7, 8, 9] rfl ?_
              exact J45
            · have h := kif_f c40 h
              refine kw_aload_n hX 214 dX6_search_214 rfl 1 rfl ?_
              refine kw_iload hX 215 dX6_search_215 0 rfl ?_
              refine kw_aload_n hX 217 dX6_search_217 rfl 1 rfl ?_
              refine kw_get hX 218 (C := RX6) (T := TX6) (N := 15) hin6 5 f0 (fun _ h => h) 0 rfl rfl (by decide) rfl dX6_search_218 ?_
              refine kw_iload hX 221 dX6_search_221 5 rfl ?_
              obtain ⟨g41, h⟩ := kgd_some h
              refine kw_iald hX 223 5 rfl g41 dX6_search_223 ?_
              refine kw_iconst hX 224 dX6_search_224 kci_1 ?_
              refine kw_iadd hX 225 dX6_search_225 ?_
              obtain ⟨v42, hc43, h⟩ := kb_some h
              refine kw_callV_V hX 226 (As := [.int v38, .int ((z_m_stp (l5 : Int32).toNatClampNeg) + 1)]) (rest := []) (kX6_reach (kx_l X) Y ma z_m_now z_m_sav z_m_sc z_m_err z_m_shf z_m_stp z_m_que z_m_qd z_m_qx z_m_qy z_m_met z_m_per z_m_row z_m_det z_m_h v38 ((z_m_stp (l5 : Int32).toNatClampNeg) + 1) hc43) gX6_search_X6_reach rfl 2 rfl hdV_X6_reach ⟨rfl, rfl⟩ ⟨by decide, by decide⟩ ⟨Nat.zero_le _, Nat.zero_le _⟩ rfl (Nat.le_of_ble_eq_true rfl) [0] (by decide) rfl (kfc gM_f kfn0) (gs1 := [gM Y ma z_m_now z_m_sav z_m_sc z_m_err z_m_shf v42.1 v42.2.1 v42.2.2 z_m_qx z_m_qy z_m_met z_m_per z_m_row z_m_det z_m_h]) rfl 0 6 rfl rfl rfl dX6_search_226 ?_
              obtain rfl := Option.some.inj h
              refine kw_lv (lv' := [(0, .ref (ma 0)), (2, .int l2), (3, .int l3), (4, .int l4), (5, .int l5), (6, .int l6), (7, .int l7), (8, .int l8), (9, .int l9)]) [1, 2, 3, 4, 5, 6, 7, 8, 9] rfl ?_
              exact J45
          have h := hj47
          refine kw_if_eq hX 186 205 dX6_search_186 (by decide) (fun c33 => ?_) (fun c33 => ?_)
          · have h := kif_t c33 h
            refine kw_iload_n hX 205 dX6_search_205 rfl 2 rfl ?_
            obtain rfl := Option.some.inj h
            refine kw_lv (lv' := [(0, .ref (ma 0)), (2, .int l2), (3, .int l3), (4, .int l4), (5, .int l5), (6, .int l6), (7, .int l7), (8, .int l8), (9, .int l9)]) [1, 2, 3, 4, 5, 6, 7, 8, 9] rfl ?_
            exact J39
          · have h := kif_f c33 h
            refine kw_aload_n hX 189 dX6_search_189 rfl 1 rfl ?_
            refine kw_iload hX 190 dX6_search_190 9 rfl ?_
            obtain ⟨v34, hc35, h⟩ := kb_some h
            refine kw_callV_I hX 192 (As := [.int l9]) (rest := []) (kX6_leadsTo (kx_l X) Y ma z_m_now z_m_sav z_m_sc z_m_err z_m_shf z_m_stp z_m_que z_m_qd z_m_qx z_m_qy z_m_met z_m_per z_m_row z_m_det z_m_h l9 hc35) gX6_search_X6_leadsTo rfl 1 rfl hdV_X6_leadsTo ⟨rfl, rfl⟩ ⟨by decide, by decide⟩ ⟨Nat.zero_le _, Nat.zero_le _⟩ rfl (Nat.le_of_ble_eq_true rfl) [0] (by decide) rfl (kfc rfl kfn0) (gs1 := [gM Y ma z_m_now z_m_sav z_m_sc z_m_err z_m_shf z_m_stp z_m_que z_m_qd z_m_qx z_m_qy z_m_met z_m_per z_m_row z_m_det z_m_h]) rfl 0 6 rfl rfl rfl dX6_search_192 ?_
            refine kw_iload hX 195 dX6_search_195 10 rfl ?_
            refine kw_iload hX 197 dX6_search_197 11 rfl ?_
            obtain ⟨v36, hc37, h⟩ := kb_some h
            refine kw_callS_I hX 199 (As := [.int v34, .int (l7 + v18), .int (l8 + v20)]) (rest := []) (kX6_node (kx_l X) Y v34 (l7 + v18) (l8 + v20) hc37) gX6_search_X6_node rfl 3 rfl hdS_X6_node ⟨rfl, rfl⟩ ⟨by decide, by decide⟩ ⟨Nat.zero_le _, Nat.zero_le _⟩ rfl (Nat.le_of_ble_eq_true rfl) [] (by decide) rfl kfn0 (gs1 := [gM Y ma z_m_now z_m_sav z_m_sc z_m_err z_m_shf z_m_stp z_m_que z_m_qd z_m_qx z_m_qy z_m_met z_m_per z_m_row z_m_det z_m_h]) rfl dX6_search_199 ?_
            refine kw_goto hX 202 206 dX6_search_202 (by decide) ?_
            obtain rfl := Option.some.inj h
            refine kw_lv (lv' := [(0, .ref (ma 0)), (2, .int l2), (3, .int l3), (4, .int l4), (5, .int l5), (6, .int l6), (7, .int l7), (8, .int l8), (9, .int l9)]) [1, 2, 3, 4, 5, 6, 7, 8, 9] rfl ?_
            exact J39
        have h := hj48
        refine kw_if_eq hX 150 181 dX6_search_150 (by decide) (fun c24 => ?_) (fun c24 => ?_)
        · have h := kif_t c24 h
          refine kw_iconst hX 181 dX6_search_181 kci_0 ?_
          obtain rfl := Option.some.inj h
          refine kw_lv (lv' := [(0, .ref (ma 0)), (2, .int l2), (3, .int l3), (4, .int l4), (5, .int l5), (6, .int l6), (7, .int l7), (8, .int l8), (9, .int l9), (10, .int (l7 + v18)), (11, .int (l8 + v20))]) [2, 3, 4, 5, 6, 7, 8, 9, 10, 1, 0] rfl ?_
          exact J32
        · have h := kif_f c24 h
          refine kw_iload hX 153 dX6_search_153 1 rfl ?_
          refine kw_bipush hX 155 dX6_search_155 kcb_m16 ?_
          refine kw_bipush hX 157 dX6_search_157 kcb_16 ?_
          obtain ⟨v25, hc26, h⟩ := kb_some h
          refine kw_callS_I hX 159 (As := [.int (l7 + v18), .int (-16), .int 16]) (rest := []) (kX6_in (kx_l X) Y (l7 + v18) (-16) 16 hc26) gX6_search_X6_in rfl 3 rfl hdS_X6_in ⟨rfl, rfl⟩ ⟨by decide, by decide⟩ ⟨Nat.zero_le _, Nat.zero_le _⟩ rfl (Nat.le_of_ble_eq_true rfl) [] (by decide) rfl kfn0 (gs1 := [gM Y ma z_m_now z_m_sav z_m_sc z_m_err z_m_shf z_m_stp z_m_que z_m_qd z_m_qx z_m_qy z_m_met z_m_per z_m_row z_m_det z_m_h]) rfl dX6_search_159 ?_
          refine kw_if_eq hX 162 181 dX6_search_162 (by decide) (fun c27 => ?_) (fun c27 => ?_)
          · have h := kif_t c27 h
            refine kw_iconst hX 181 dX6_search_181 kci_0 ?_
            obtain rfl := Option.some.inj h
            refine kw_lv (lv' := [(0, .ref (ma 0)), (2, .int l2), (3, .int l3), (4, .int l4), (5, .int l5), (6, .int l6), (7, .int l7), (8, .int l8), (9, .int l9), (10, .int (l7 + v18)), (11, .int (l8 + v20))]) [2, 3, 4, 5, 6, 7, 8, 9, 10, 1, 0] rfl ?_
            exact J32
          · have h := kif_f c27 h
            refine kw_iload hX 165 dX6_search_165 0 rfl ?_
            refine kw_bipush hX 167 dX6_search_167 kcb_m16 ?_
            refine kw_bipush hX 169 dX6_search_169 kcb_16 ?_
            obtain ⟨v28, hc29, h⟩ := kb_some h
            refine kw_callS_I hX 171 (As := [.int (l8 + v20), .int (-16), .int 16]) (rest := []) (kX6_in (kx_l X) Y (l8 + v20) (-16) 16 hc29) gX6_search_X6_in rfl 3 rfl hdS_X6_in ⟨rfl, rfl⟩ ⟨by decide, by decide⟩ ⟨Nat.zero_le _, Nat.zero_le _⟩ rfl (Nat.le_of_ble_eq_true rfl) [] (by decide) rfl kfn0 (gs1 := [gM Y ma z_m_now z_m_sav z_m_sc z_m_err z_m_shf z_m_stp z_m_que z_m_qd z_m_qx z_m_qy z_m_met z_m_per z_m_row z_m_det z_m_h]) rfl dX6_search_171 ?_
            refine kw_if_eq hX 174 181 dX6_search_174 (by decide) (fun c30 => ?_) (fun c30 => ?_)
            · have h := kif_t c30 h
              refine kw_iconst hX 181 dX6_search_181 kci_0 ?_
              obtain rfl := Option.some.inj h
              refine kw_lv (lv' := [(0, .ref (ma 0)), (2, .int l2), (3, .int l3), (4, .int l4), (5, .int l5), (6, .int l6), (7, .int l7), (8, .int l8), (9, .int l9), (10, .int (l7 + v18)), (11, .int (l8 + v20))]) [2, 3, 4, 5, 6, 7, 8, 9, 10, 1, 0] rfl ?_
              exact J32
            · have h := kif_f c30 h
              refine kw_iconst hX 177 dX6_search_177 kci_1 ?_
              refine kw_goto hX 178 182 dX6_search_178 (by decide) ?_
              obtain rfl := Option.some.inj h
              refine kw_lv (lv' := [(0, .ref (ma 0)), (2, .int l2), (3, .int l3), (4, .int l4), (5, .int l5), (6, .int l6), (7, .int l7), (8, .int l8), (9, .int l9), (10, .int (l7 + v18)), (11, .int (l8 + v20))]) [2, 3, 4, 5, 6, 7, 8, 9, 10, 1, 0] rfl ?_
              exact J32
  have L39 : ∀ (n : Nat) (l2 : Int32) (l3 : Int32) (l4 : Int32) (z_m_now : Nat → Int32) (z_m_sav : Nat → Int32) (z_m_sc : Int32) (z_m_err : Nat → Int32) (z_m_shf : Nat → Int32) (z_m_stp : Nat → Int32) (z_m_que : Nat → Int32) (z_m_qd : Int32) (z_m_qx : Nat → Int32) (z_m_qy : Nat → Int32) (z_m_met : Nat → Int32) (z_m_per : Nat → Int32) (z_m_row : Nat → Int64) (z_m_det : Int64) (z_m_h : Int64) (o : Int32 × (Nat → Int32) × (Nat → Int32) × Int32), pX6_search_L39 n l2 l3 l4 z_m_now z_m_stp z_m_que z_m_qd = some o → KW X Y A 14 0 0 (kfl [gM Y ma z_m_now z_m_sav z_m_sc z_m_err z_m_shf o.2.1 o.2.2.1 o.2.2.2 z_m_qx z_m_qy z_m_met z_m_per z_m_row z_m_det z_m_h]) [(0, .ref (ma 0)), (2, .int l2), (3, .int l3), (4, .int o.1)] 241 [] → KW X Y A 14 0 0 (kfl [gM Y ma z_m_now z_m_sav z_m_sc z_m_err z_m_shf z_m_stp z_m_que z_m_qd z_m_qx z_m_qy z_m_met z_m_per z_m_row z_m_det z_m_h]) [(0, .ref (ma 0)), (2, .int l2), (3, .int l3), (4, .int l4)] 39 [] := by
    intro n
    induction n with
    | zero => intro l2 l3 l4 z_m_now z_m_sav z_m_sc z_m_err z_m_shf z_m_stp z_m_que z_m_qd z_m_qx z_m_qy z_m_met z_m_per z_m_row z_m_det z_m_h o h; cases h
    | succ n ih =>
      intro l2 l3 l4 z_m_now z_m_sav z_m_sc z_m_err z_m_shf z_m_stp z_m_que z_m_qd z_m_qx z_m_qy z_m_met z_m_per z_m_row z_m_det z_m_h o h hK
      rw [pX6_search_L39] at h
      refine kw_iload hX 39 dX6_search_39 3 rfl ?_
      refine kw_aload_n hX 41 dX6_search_41 rfl 0 rfl ?_
      refine kw_get hX 42 (C := RX6) (T := TX6) (N := 15) hin6 7 f1 (fun _ h => h) 0 rfl rfl (by decide) rfl dX6_search_42 ?_
      refine kw_icmp_ge hX 45 241 dX6_search_45 (by decide) (fun c7 => ?_) (fun c7 => ?_)
      · have h := kif_t c7 h
        obtain rfl := Option.some.inj h
        refine kw_lv (lv' := [(0, .ref (ma 0)), (2, .int l2), (3, .int l3), (4, .int l4)]) [0, 1, 2, 3] rfl ?_
        exact hK
      · have h := kif_f c7 h
        refine kw_aload_n hX 48 dX6_search_48 rfl 0 rfl ?_
        refine kw_get hX 49 (C := RX6) (T := TX6) (N := 15) hin6 5 f0 (fun _ h => h) 0 rfl rfl (by decide) rfl dX6_search_49 ?_
        refine kw_aload_n hX 52 dX6_search_52 rfl 0 rfl ?_
        refine kw_get hX 53 (C := RX6) (T := TX6) (N := 15) hin6 6 f2 (fun _ h => h) 0 rfl rfl (by decide) rfl dX6_search_53 ?_
        refine kw_iload hX 56 dX6_search_56 3 rfl ?_
        obtain ⟨g8, h⟩ := kgd_some h
        refine kw_iald hX 58 6 rfl g8 dX6_search_58 ?_
        obtain ⟨g9, h⟩ := kgd_some h
        refine kw_iald hX 59 5 rfl g9 dX6_search_59 ?_
        refine kw_iload_n hX 60 dX6_search_60 rfl 2 rfl ?_
        refine kw_icmp_ge hX 61 241 dX6_search_61 (by decide) (fun c10 => ?_) (fun c10 => ?_)
        · have h := kif_t c10 h
          obtain rfl := Option.some.inj h
          refine kw_lv (lv' := [(0, .ref (ma 0)), (2, .int l2), (3, .int l3), (4, .int l4)]) [0, 1, 2, 3] rfl ?_
          exact hK
        · have h := kif_f c10 h
          refine kw_aload_n hX 64 dX6_search_64 rfl 0 rfl ?_
          refine kw_get hX 65 (C := RX6) (T := TX6) (N := 15) hin6 6 f2 (fun _ h => h) 0 rfl rfl (by decide) rfl dX6_search_65 ?_
          refine kw_iload hX 68 dX6_search_68 3 rfl ?_
          obtain ⟨g11, h⟩ := kgd_some h
          refine kw_iald hX 70 6 rfl g11 dX6_search_70 ?_
          refine kw_istore (lv' := [(5, .int (z_m_que (l4 : Int32).toNatClampNeg)), (0, .ref (ma 0)), (2, .int l2), (3, .int l3), (4, .int l4)]) hX 71 dX6_search_71 (by decide) rfl ?_
          refine kw_iload hX 73 dX6_search_73 0 rfl ?_
          refine kw_sipush hX 75 dX6_search_75 kcs_1089 ?_
          obtain ⟨g12, h⟩ := kgd_some h
          refine kw_idiv hX 78 dX6_search_78 (of_decide_eq_true g12) ?_
          refine kw_istore (lv' := [(6, .int ((z_m_que (l4 : Int32).toNatClampNeg) / 1089)), (5, .int (z_m_que (l4 : Int32).toNatClampNeg)), (0, .ref (ma 0)), (2, .int l2), (3, .int l3), (4, .int l4)]) hX 79 dX6_search_79 (by decide) rfl ?_
          refine kw_iload hX 81 dX6_search_81 1 rfl ?_
          refine kw_bipush hX 83 dX6_search_83 kcb_33 ?_
          obtain ⟨g13, h⟩ := kgd_some h
          refine kw_idiv hX 85 dX6_search_85 (of_decide_eq_true g13) ?_
          refine kw_bipush hX 86 dX6_search_86 kcb_33 ?_
          obtain ⟨g14, h⟩ := kgd_some h
          refine kw_irem hX 88 dX6_search_88 (of_decide_eq_true g14) ?_
          refine kw_bipush hX 89 dX6_search_89 kcb_16 ?_
          refine kw_isub hX 91 dX6_search_91 ?_
          refine kw_istore (lv' := [(7, .int ((((z_m_que (l4 : Int32).toNatClampNeg) / 33) - ((z_m_que (l4 : Int32).toNatClampNeg) / 33) / 33 * 33) - 16)), (6, .int ((z_m_que (l4 : Int32).toNatClampNeg) / 1089)), (5, .int (z_m_que (l4 : Int32).toNatClampNeg)), (0, .ref (ma 0)), (2, .int l2), (3, .int l3), (4, .int l4)]) hX 92 dX6_search_92 (by decide) rfl ?_
          refine kw_iload hX 94 dX6_search_94 2 rfl ?_
          refine kw_bipush hX 96 dX6_search_96 kcb_33 ?_
          obtain ⟨g15, h⟩ := kgd_some h
          refine kw_irem hX 98 dX6_search_98 (of_decide_eq_true g15) ?_
          refine kw_bipush hX 99 dX6_search_99 kcb_16 ?_
          refine kw_isub hX 101 dX6_search_101 ?_
          refine kw_istore (lv' := [(8, .int (((z_m_que (l4 : Int32).toNatClampNeg) - (z_m_que (l4 : Int32).toNatClampNeg) / 33 * 33) - 16)), (7, .int ((((z_m_que (l4 : Int32).toNatClampNeg) / 33) - ((z_m_que (l4 : Int32).toNatClampNeg) / 33) / 33 * 33) - 16)), (6, .int ((z_m_que (l4 : Int32).toNatClampNeg) / 1089)), (5, .int (z_m_que (l4 : Int32).toNatClampNeg)), (0, .ref (ma 0)), (2, .int l2), (3, .int l3), (4, .int l4)]) hX 102 dX6_search_102 (by decide) rfl ?_
          refine kw_iconst hX 104 dX6_search_104 kci_0 ?_
          refine kw_istore (lv' := [(9, .int 0), (8, .int (((z_m_que (l4 : Int32).toNatClampNeg) - (z_m_que (l4 : Int32).toNatClampNeg) / 33 * 33) - 16)), (7, .int ((((z_m_que (l4 : Int32).toNatClampNeg) / 33) - ((z_m_que (l4 : Int32).toNatClampNeg) / 33) / 33 * 33) - 16)), (6, .int ((z_m_que (l4 : Int32).toNatClampNeg) / 1089)), (5, .int (z_m_que (l4 : Int32).toNatClampNeg)), (0, .ref (ma 0)), (2, .int l2), (3, .int l3), (4, .int l4)]) hX 105 dX6_search_105 (by decide) rfl ?_
          obtain ⟨v49, hl50, h⟩ := kb_some h
          refine kw_lv (lv' := [(0, .ref (ma 0)), (2, .int l2), (3, .int l3), (4, .int l4), (5, .int (z_m_que (l4 : Int32).toNatClampNeg)), (6, .int ((z_m_que (l4 : Int32).toNatClampNeg) / 1089)), (7, .int ((((z_m_que (l4 : Int32).toNatClampNeg) / 33) - ((z_m_que (l4 : Int32).toNatClampNeg) / 33) / 33 * 33) - 16)), (8, .int (((z_m_que (l4 : Int32).toNatClampNeg) - (z_m_que (l4 : Int32).toNatClampNeg) / 33 * 33) - 16)), (9, .int 0)]) [5, 6, 7, 8, 4, 3, 2, 1, 0] rfl ?_
          refine L107 KF l2 l3 l4 (z_m_que (l4 : Int32).toNatClampNeg) ((z_m_que (l4 : Int32).toNatClampNeg) / 1089) ((((z_m_que (l4 : Int32).toNatClampNeg) / 33) - ((z_m_que (l4 : Int32).toNatClampNeg) / 33) / 33 * 33) - 16) (((z_m_que (l4 : Int32).toNatClampNeg) - (z_m_que (l4 : Int32).toNatClampNeg) / 33 * 33) - 16) 0 z_m_now z_m_sav z_m_sc z_m_err z_m_shf z_m_stp z_m_que z_m_qd z_m_qx z_m_qy z_m_met z_m_per z_m_row z_m_det z_m_h v49 hl50 ?_
          refine kw_iinc (v := (l4 + 1)) (lv' := [(4, .int (l4 + 1)), (0, .ref (ma 0)), (2, .int l2), (3, .int l3), (5, .int (z_m_que (l4 : Int32).toNatClampNeg)), (6, .int ((z_m_que (l4 : Int32).toNatClampNeg) / 1089)), (7, .int ((((z_m_que (l4 : Int32).toNatClampNeg) / 33) - ((z_m_que (l4 : Int32).toNatClampNeg) / 33) / 33 * 33) - 16)), (8, .int (((z_m_que (l4 : Int32).toNatClampNeg) - (z_m_que (l4 : Int32).toNatClampNeg) / 33 * 33) - 16)), (9, .int v49.1)]) hX 235 dX6_search_235 3 rfl (kinc_1 _) (by decide) rfl ?_
          refine kw_goto hX 238 39 dX6_search_238 (by decide) ?_
          refine kw_lv (lv' := [(0, .ref (ma 0)), (2, .int l2), (3, .int l3), (4, .int (l4 + 1))]) [1, 2, 3, 0] rfl ?_
          exact ih l2 l3 (l4 + 1) z_m_now z_m_sav z_m_sc z_m_err z_m_shf v49.2.1 v49.2.2.1 v49.2.2.2 z_m_qx z_m_qy z_m_met z_m_per z_m_row z_m_det z_m_h o h hK
  unfold pX6_search at h
  refine kw_lv (lv' := [(0, .ref (ma 0)), (1, .int a1), (2, .int a2), (3, .int a3)]) [0, 1, 2, 3] rfl ?_
  refine kw_iconst hX 0 dX6_search_0 kci_0 ?_
  refine kw_istore (lv' := [(4, .int 0), (0, .ref (ma 0)), (1, .int a1), (2, .int a2), (3, .int a3)]) hX 1 dX6_search_1 (by decide) rfl ?_
  obtain ⟨v3, hl4, h⟩ := kb_some h
  refine kw_lv (lv' := [(0, .ref (ma 0)), (1, .int a1), (2, .int a2), (3, .int a3), (4, .int 0)]) [1, 2, 3, 4, 0] rfl ?_
  refine L3 KF a1 a2 a3 0 m_now m_sav m_sc m_err m_shf m_stp m_que m_qd m_qx m_qy m_met m_per m_row m_det m_h v3 hl4 ?_
  refine kw_aload_n hX 25 dX6_search_25 rfl 0 rfl ?_
  refine kw_iconst hX 26 dX6_search_26 kci_0 ?_
  refine kw_put hX 27 (C := RX6) (T := TX6) (N := 15) (ws' := (kfl [gM Y ma m_now m_sav m_sc m_err m_shf v3.2 m_que 0 m_qx m_qy m_met m_per m_row m_det m_h])) hin6 tyX6 tyX6_ok nmX6 7 f1 (fun _ h => h) 0 rfl rfl (by decide) rfl (ty := .int) (tyX6_ok 7 (by decide)) rfl rfl (Nat.le_of_ble_eq_true rfl) rfl dX6_search_27 ?_
  refine kw_aload_n hX 30 dX6_search_30 rfl 0 rfl ?_
  refine kw_iload_n hX 31 dX6_search_31 rfl 1 rfl ?_
  refine kw_iconst hX 32 dX6_search_32 kci_0 ?_
  obtain ⟨v5, hc6, h⟩ := kb_some h
  refine kw_callV_V hX 33 (As := [.int a1, .int 0]) (rest := []) (kX6_reach (kx_l X) Y ma m_now m_sav m_sc m_err m_shf v3.2 m_que 0 m_qx m_qy m_met m_per m_row m_det m_h a1 0 hc6) gX6_search_X6_reach rfl 2 rfl hdV_X6_reach ⟨rfl, rfl⟩ ⟨by decide, by decide⟩ ⟨Nat.zero_le _, Nat.zero_le _⟩ rfl (Nat.le_of_ble_eq_true rfl) [0] (by decide) rfl (kfc gM_f kfn0) (gs1 := [gM Y ma m_now m_sav m_sc m_err m_shf v5.1 v5.2.1 v5.2.2 m_qx m_qy m_met m_per m_row m_det m_h]) rfl 0 6 rfl rfl rfl dX6_search_33 ?_
  refine kw_iconst hX 36 dX6_search_36 kci_0 ?_
  refine kw_istore (lv' := [(4, .int 0), (0, .ref (ma 0)), (1, .int a1), (2, .int a2), (3, .int a3)]) hX 37 dX6_search_37 (by decide) rfl ?_
  obtain ⟨v51, hl52, h⟩ := kb_some h
  refine kw_lv (lv' := [(0, .ref (ma 0)), (2, .int a2), (3, .int a3), (4, .int 0)]) [1, 3, 4, 0] rfl ?_
  refine L39 KF a2 a3 0 m_now m_sav m_sc m_err m_shf v5.1 v5.2.1 v5.2.2 m_qx m_qy m_met m_per m_row m_det m_h v51 hl52 ?_
  obtain rfl := Option.some.inj h
  exact hret _ _ dX6_search_241
def pX6_countAt_L4 : Nat → Int32 → Int32 → Int32 → (Nat → Int32) → (Nat → Int32) → Int32 → Option (Int32 × Int32)
  | 0, _, _, _, _, _, _ => none
  | n + 1, l1, l2, l3, z_m_stp, z_m_que, z_m_qd => (if z_m_qd ≤ l3 then some (l2, l3) else kgd (kin l3 6534) (kgd (kin (z_m_que (l3 : Int32).toNatClampNeg) 6534) (kb ((if (z_m_stp ((z_m_que (l3 : Int32).toNatClampNeg) : Int32).toNatClampNeg) = l1 then some 1 else some 0) : Option (Int32)) (fun v5 => pX6_countAt_L4 n l1 (l2 + v5) (l3 + 1) z_m_stp z_m_que z_m_qd))))
def pX6_countAt (a1 : Int32) (m_stp : Nat → Int32) (m_que : Nat → Int32) (m_qd : Int32) : Option (Int32) := kb (pX6_countAt_L4 KF a1 0 0 m_stp m_que m_qd) (fun v8 => some v8.1)
def rmX6_countAt : Room := { frames := 0, cells := 0, slots := 0, locals := 0 }
theorem hdV_X6_countAt : yX6_countAt.cls = RX6 ∧ yX6_countAt.cls ≠ "java/lang/invoke/MethodHandle" ∧ yX6_countAt.cls ≠ "java/lang/invoke/VarHandle" ∧ (parseMethodDescriptor yX6_countAt.desc).map (fun d => d.parameters.length) = some 1 := ⟨rfl, by decide +kernel, by decide +kernel, by decide +kernel⟩
set_option maxHeartbeats 4000000 in
set_option maxRecDepth 100000 in
theorem kX6_countAt (l : Launch) (Y : KY) (ma : Nat → Nat) (m_now : Nat → Int32) (m_sav : Nat → Int32) (m_sc : Int32) (m_err : Nat → Int32) (m_shf : Nat → Int32) (m_stp : Nat → Int32) (m_que : Nat → Int32) (m_qd : Int32) (m_qx : Nat → Int32) (m_qy : Nat → Int32) (m_met : Nat → Int32) (m_per : Nat → Int32) (m_row : Nat → Int64) (m_det : Int64) (m_h : Int64) (a1 : Int32) {o : Int32} (h : pX6_countAt a1 m_stp m_que m_qd = some o) : CtI l yX6_countAt wsX6_countAt rmX6_countAt Y [.ref (ma 0), .int a1] (kfl [gM Y ma m_now m_sav m_sc m_err m_shf m_stp m_que m_qd m_qx m_qy m_met m_per m_row m_det m_h]) o (kfl [gM Y ma m_now m_sav m_sc m_err m_shf m_stp m_que m_qd m_qx m_qy m_met m_per m_row m_det m_h]) := by
  refine ctI_intro (cc := cX6_countAt) (maxL := 4) (own := RX6) (by decide +kernel) rfl rfl (Nat.le_of_ble_eq_true rfl) rfl ?_
  intro X A hX _ hret
  have hin6 : ∀ w ∈ u_ws RX6 TX6 15, w ∈ wsX6_countAt := by decide +kernel
  have f0 := hX.w (Cond.fieldLink RX6 99 "PeriodicNetModel" "queued" "I") (by decide +kernel)
  have f1 := hX.w (Cond.fieldLink RX6 22 "PeriodicNetModel" "steps" "[I") (by decide +kernel)
  have f2 := hX.w (Cond.fieldLink RX6 25 "PeriodicNetModel" "queue" "[I") (by decide +kernel)
  have L4 : ∀ (n : Nat) (l1 : Int32) (l2 : Int32) (l3 : Int32) (z_m_now : Nat → Int32) (z_m_sav : Nat → Int32) (z_m_sc : Int32) (z_m_err : Nat → Int32) (z_m_shf : Nat → Int32) (z_m_stp : Nat → Int32) (z_m_que : Nat → Int32) (z_m_qd : Int32) (z_m_qx : Nat → Int32) (z_m_qy : Nat → Int32) (z_m_met : Nat → Int32) (z_m_per : Nat → Int32) (z_m_row : Nat → Int64) (z_m_det : Int64) (z_m_h : Int64) (o : Int32 × Int32), pX6_countAt_L4 n l1 l2 l3 z_m_stp z_m_que z_m_qd = some o → KW X Y A 4 0 0 (kfl [gM Y ma z_m_now z_m_sav z_m_sc z_m_err z_m_shf z_m_stp z_m_que z_m_qd z_m_qx z_m_qy z_m_met z_m_per z_m_row z_m_det z_m_h]) [(0, .ref (ma 0)), (1, .int l1), (2, .int o.1), (3, .int o.2)] 41 [] → KW X Y A 4 0 0 (kfl [gM Y ma z_m_now z_m_sav z_m_sc z_m_err z_m_shf z_m_stp z_m_que z_m_qd z_m_qx z_m_qy z_m_met z_m_per z_m_row z_m_det z_m_h]) [(0, .ref (ma 0)), (1, .int l1), (2, .int l2), (3, .int l3)] 4 [] := by
    intro n
    induction n with
    | zero => intro l1 l2 l3 z_m_now z_m_sav z_m_sc z_m_err z_m_shf z_m_stp z_m_que z_m_qd z_m_qx z_m_qy z_m_met z_m_per z_m_row z_m_det z_m_h o h; cases h
    | succ n ih =>
      intro l1 l2 l3 z_m_now z_m_sav z_m_sc z_m_err z_m_shf z_m_stp z_m_que z_m_qd z_m_qx z_m_qy z_m_met z_m_per z_m_row z_m_det z_m_h o h hK
      rw [pX6_countAt_L4] at h
      refine kw_iload_n hX 4 dX6_countAt_4 rfl 3 rfl ?_
      refine kw_aload_n hX 5 dX6_countAt_5 rfl 0 rfl ?_
      refine kw_get hX 6 (C := RX6) (T := TX6) (N := 15) hin6 7 f0 (fun _ h => h) 0 rfl rfl (by decide) rfl dX6_countAt_6 ?_
      refine kw_icmp_ge hX 9 41 dX6_countAt_9 (by decide) (fun c1 => ?_) (fun c1 => ?_)
      · have h := kif_t c1 h
        obtain rfl := Option.some.inj h
        refine kw_lv (lv' := [(0, .ref (ma 0)), (1, .int l1), (2, .int l2), (3, .int l3)]) [0, 1, 2, 3] rfl ?_
        exact hK
      · have h := kif_f c1 h
        refine kw_iload_n hX 12 dX6_countAt_12 rfl 2 rfl ?_
        refine kw_aload_n hX 13 dX6_countAt_13 rfl 0 rfl ?_
        refine kw_get hX 14 (C := RX6) (T := TX6) (N := 15) hin6 5 f1 (fun _ h => h) 0 rfl rfl (by decide) rfl dX6_countAt_14 ?_
        refine kw_aload_n hX 17 dX6_countAt_17 rfl 0 rfl ?_
        refine kw_get hX 18 (C := RX6) (T := TX6) (N := 15) hin6 6 f2 (fun _ h => h) 0 rfl rfl (by decide) rfl dX6_countAt_18 ?_
        refine kw_iload_n hX 21 dX6_countAt_21 rfl 3 rfl ?_
        obtain ⟨g2, h⟩ := kgd_some h
        refine kw_iald hX 22 6 rfl g2 dX6_countAt_22 ?_
        obtain ⟨g3, h⟩ := kgd_some h
        refine kw_iald hX 23 5 rfl g3 dX6_countAt_23 ?_
        refine kw_iload_n hX 24 dX6_countAt_24 rfl 1 rfl ?_
        obtain ⟨v5, hj7, h⟩ := kb_some h
        have J6 : KW X Y A 4 0 0 (kfl [gM Y ma z_m_now z_m_sav z_m_sc z_m_err z_m_shf z_m_stp z_m_que z_m_qd z_m_qx z_m_qy z_m_met z_m_per z_m_row z_m_det z_m_h]) [(0, .ref (ma 0)), (1, .int l1), (3, .int l3)] 33 [.int v5, .int l2] := by
          refine kw_iadd hX 33 dX6_countAt_33 ?_
          refine kw_istore_n (lv' := [(2, .int (l2 + v5)), (0, .ref (ma 0)), (1, .int l1), (3, .int l3)]) hX 34 dX6_countAt_34 rfl (by decide) rfl ?_
          refine kw_iinc (v := (l3 + 1)) (lv' := [(3, .int (l3 + 1)), (2, .int (l2 + v5)), (0, .ref (ma 0)), (1, .int l1)]) hX 35 dX6_countAt_35 3 rfl (kinc_1 _) (by decide) rfl ?_
          refine kw_goto hX 38 4 dX6_countAt_38 (by decide) ?_
          refine kw_lv (lv' := [(0, .ref (ma 0)), (1, .int l1), (2, .int (l2 + v5)), (3, .int (l3 + 1))]) [2, 3, 1, 0] rfl ?_
          exact ih l1 (l2 + v5) (l3 + 1) z_m_now z_m_sav z_m_sc z_m_err z_m_shf z_m_stp z_m_que z_m_qd z_m_qx z_m_qy z_m_met z_m_per z_m_row z_m_det z_m_h o h hK
        have h := hj7
        refine kw_icmp_ne hX 25 32 dX6_countAt_25 (by decide) (fun c4 => ?_) (fun c4 => ?_)
        · have h := kif_f c4 h
          refine kw_iconst hX 32 dX6_countAt_32 kci_0 ?_
          obtain rfl := Option.some.inj h
          refine kw_lv (lv' := [(0, .ref (ma 0)), (1, .int l1), (3, .int l3)]) [0, 1, 3] rfl ?_
          exact J6
        · have h := kif_t c4 h
          refine kw_iconst hX 28 dX6_countAt_28 kci_1 ?_
          refine kw_goto hX 29 33 dX6_countAt_29 (by decide) ?_
          obtain rfl := Option.some.inj h
          refine kw_lv (lv' := [(0, .ref (ma 0)), (1, .int l1), (3, .int l3)]) [0, 1, 3] rfl ?_
          exact J6
  unfold pX6_countAt at h
  refine kw_lv (lv' := [(0, .ref (ma 0)), (1, .int a1)]) [0, 1] rfl ?_
  refine kw_iconst hX 0 dX6_countAt_0 kci_0 ?_
  refine kw_istore_n (lv' := [(2, .int 0), (0, .ref (ma 0)), (1, .int a1)]) hX 1 dX6_countAt_1 rfl (by decide) rfl ?_
  refine kw_iconst hX 2 dX6_countAt_2 kci_0 ?_
  refine kw_istore_n (lv' := [(3, .int 0), (2, .int 0), (0, .ref (ma 0)), (1, .int a1)]) hX 3 dX6_countAt_3 rfl (by decide) rfl ?_
  obtain ⟨v8, hl9, h⟩ := kb_some h
  refine kw_lv (lv' := [(0, .ref (ma 0)), (1, .int a1), (2, .int 0), (3, .int 0)]) [2, 3, 1, 0] rfl ?_
  refine L4 KF a1 0 0 m_now m_sav m_sc m_err m_shf m_stp m_que m_qd m_qx m_qy m_met m_per m_row m_det m_h v8 hl9 ?_
  refine kw_iload_n hX 41 dX6_countAt_41 rfl 2 rfl ?_
  obtain rfl := Option.some.inj h
  exact hret _ _ dX6_countAt_42 rfl
