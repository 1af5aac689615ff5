def pX6_coordination (a1 : Int32) (a2 : Int32) (m_now : Nat → Int32) (m_err : Nat → Int32) (m_stp : Nat → Int32) (m_que : Nat → Int32) (m_qd : Int32) : Option (Int32 × (Nat → Int32) × (Nat → Int32) × (Nat → Int32) × Int32) := kb (pX6_isVertex a1 m_now) (fun v1 => (if v1 = 0 then kb (pX6_error (-2) m_err) (fun v4 => some (v4.1, v4.2, m_stp, m_que, m_qd)) else kb (pX6_in a2 0 8) (fun v6 => (if v6 = 0 then kb (pX6_error (-2) m_err) (fun v15 => some (v15.1, v15.2, m_stp, m_que, m_qd)) else kb (pX6_node a1 0 0) (fun v9 => kb (pX6_search v9 (-1) a2 m_now m_stp m_que m_qd) (fun v11 => kb (pX6_countAt a2 v11.1 v11.2.1 v11.2.2) (fun v13 => some (v13, m_err, v11.1, v11.2.1, v11.2.2))))))))
def rmX6_coordination : Room := { frames := 3, cells := 0, slots := 0, locals := 77 }
theorem hdV_X6_coordination : yX6_coordination.cls = RX6 ∧ yX6_coordination.cls ≠ "java/lang/invoke/MethodHandle" ∧ yX6_coordination.cls ≠ "java/lang/invoke/VarHandle" ∧ (parseMethodDescriptor yX6_coordination.desc).map (fun d => d.parameters.length) = some 2 := ⟨rfl, by decide +kernel, by decide +kernel, by decide +kernel⟩
set_option maxHeartbeats 4000000 in
set_option maxRecDepth 100000 in
theorem kX6_coordination (l : Launch) (Y : KY) (ma : Nat → Nat) (m_now : Nat → Int32) (m_sav : Nat → Int32) (m_sc : Int32) (m_err : Nat → Int32) (m_shf : Nat → Int32) (m_stp : Nat → Int32) (m_que : Nat → Int32) (m_qd : Int32) (m_qx : Nat → Int32) (m_qy : Nat → Int32) (m_met : Nat → Int32) (m_per : Nat → Int32) (m_row : Nat → Int64) (m_det : Int64) (m_h : Int64) (a1 : Int32) (a2 : Int32) {o : Int32 × (Nat → Int32) × (Nat → Int32) × (Nat → Int32) × Int32} (h : pX6_coordination a1 a2 m_now m_err m_stp m_que m_qd = some o) : CtI l yX6_coordination wsX6_coordination rmX6_coordination Y [.ref (ma 0), .int a1, .int a2] (kfl [gM Y ma m_now m_sav m_sc m_err m_shf m_stp m_que m_qd m_qx m_qy m_met m_per m_row m_det m_h]) o.1 (kfl [gM Y ma m_now m_sav m_sc o.2.1 m_shf o.2.2.1 o.2.2.2.1 o.2.2.2.2 m_qx m_qy m_met m_per m_row m_det m_h]) := by
  refine ctI_intro (cc := cX6_coordination) (maxL := 3) (own := RX6) (by decide +kernel) rfl rfl (Nat.le_of_ble_eq_true rfl) rfl ?_
  intro X A hX _ hret
  unfold pX6_coordination at h
  refine kw_lv (lv' := [(0, .ref (ma 0)), (1, .int a1), (2, .int a2)]) [0, 1, 2] rfl ?_
  refine kw_aload_n hX 0 dX6_coordination_0 rfl 0 rfl ?_
  refine kw_iload_n hX 1 dX6_coordination_1 rfl 1 rfl ?_
  obtain ⟨v1, hc2, h⟩ := kb_some h
  refine kw_callV_I hX 2 (As := [.int a1]) (rest := []) (kX6_isVertex (kx_l X) Y ma m_now m_sav m_sc m_err m_shf m_stp m_que m_qd m_qx m_qy m_met m_per m_row m_det m_h a1 hc2) gX6_coordination_X6_isVertex rfl 1 rfl hdV_X6_isVertex ⟨rfl, rfl⟩ ⟨by decide, by decide⟩ ⟨Nat.zero_le _, Nat.zero_le _⟩ rfl (Nat.le_of_ble_eq_true rfl) [0] (by decide) rfl (kfc rfl kfn0) (gs1 := [gM Y ma m_now m_sav m_sc m_err m_shf m_stp m_que m_qd m_qx m_qy m_met m_per m_row m_det m_h]) rfl 0 6 rfl rfl rfl dX6_coordination_2 ?_
  refine kw_if_eq hX 5 18 dX6_coordination_5 (by decide) (fun c3 => ?_) (fun c3 => ?_)
  · have h := kif_t c3 h
    refine kw_aload_n hX 18 dX6_coordination_18 rfl 0 rfl ?_
    refine kw_bipush hX 19 dX6_coordination_19 kcb_m2 ?_
    obtain ⟨v4, hc5, h⟩ := kb_some h
    refine kw_callV_I hX 21 (As := [.int (-2)]) (rest := []) (kX6_error (kx_l X) Y ma m_now m_sav m_sc m_err m_shf m_stp m_que m_qd m_qx m_qy m_met m_per m_row m_det m_h (-2) hc5) gX6_coordination_X6_error rfl 1 rfl hdV_X6_error ⟨rfl, rfl⟩ ⟨by decide, by decide⟩ ⟨Nat.zero_le _, Nat.zero_le _⟩ rfl (Nat.le_of_ble_eq_true rfl) [0] (by decide) rfl (kfc gM_f kfn0) (gs1 := [gM Y ma m_now m_sav m_sc v4.2 m_shf m_stp m_que m_qd m_qx m_qy m_met m_per m_row m_det m_h]) rfl 0 6 rfl rfl rfl dX6_coordination_21 ?_
    obtain rfl := Option.some.inj h
    exact hret _ _ dX6_coordination_24 rfl
  · have h := kif_f c3 h
    refine kw_iload_n hX 8 dX6_coordination_8 rfl 2 rfl ?_
    refine kw_iconst hX 9 dX6_coordination_9 kci_0 ?_
    refine kw_bipush hX 10 dX6_coordination_10 kcb_8 ?_
    obtain ⟨v6, hc7, h⟩ := kb_some h
    refine kw_callS_I hX 12 (As := [.int a2, .int 0, .int 8]) (rest := []) (kX6_in (kx_l X) Y a2 0 8 hc7) gX6_coordination_X6_in rfl 3 rfl hdS_X6_in ⟨rfl, rfl⟩ ⟨by decide, by decide⟩ ⟨Nat.zero_le _, Nat.zero_le _⟩ rfl (Nat.le_of_ble_eq_true rfl) [] (by decide) rfl kfn0 (gs1 := [gM Y ma m_now m_sav m_sc m_err m_shf m_stp m_que m_qd m_qx m_qy m_met m_per m_row m_det m_h]) rfl dX6_coordination_12 ?_
    refine kw_if_ne hX 15 25 dX6_coordination_15 (by decide) (fun c8 => ?_) (fun c8 => ?_)
    · have h := kif_f c8 h
      refine kw_aload_n hX 25 dX6_coordination_25 rfl 0 rfl ?_
      refine kw_iload_n hX 26 dX6_coordination_26 rfl 1 rfl ?_
      refine kw_iconst hX 27 dX6_coordination_27 kci_0 ?_
      refine kw_iconst hX 28 dX6_coordination_28 kci_0 ?_
      obtain ⟨v9, hc10, h⟩ := kb_some h
      refine kw_callS_I hX 29 (As := [.int a1, .int 0, .int 0]) (rest := [.ref (ma 0)]) (kX6_node (kx_l X) Y a1 0 0 hc10) gX6_coordination_X6_node rfl 3 rfl hdS_X6_node ⟨rfl, rfl⟩ ⟨by decide, by decide⟩ ⟨Nat.zero_le _, Nat.zero_le _⟩ rfl (Nat.le_of_ble_eq_true rfl) [] (by decide) rfl kfn0 (gs1 := [gM Y ma m_now m_sav m_sc m_err m_shf m_stp m_que m_qd m_qx m_qy m_met m_per m_row m_det m_h]) rfl dX6_coordination_29 ?_
      refine kw_iconst hX 32 dX6_coordination_32 kci_m1 ?_
      refine kw_iload_n hX 33 dX6_coordination_33 rfl 2 rfl ?_
      obtain ⟨v11, hc12, h⟩ := kb_some h
      refine kw_callV_V hX 34 (As := [.int v9, .int (-1), .int a2]) (rest := []) (kX6_search (kx_l X) Y ma m_now m_sav m_sc m_err m_shf m_stp m_que m_qd m_qx m_qy m_met m_per m_row m_det m_h v9 (-1) a2 hc12) gX6_coordination_X6_search rfl 3 rfl hdV_X6_search ⟨rfl, rfl⟩ ⟨by decide, by decide⟩ ⟨Nat.zero_le _, Nat.zero_le _⟩ rfl (Nat.le_of_ble_eq_true rfl) [0] (by decide) rfl (kfc gM_f kfn0) (gs1 := [gM Y ma m_now m_sav m_sc m_err m_shf v11.1 v11.2.1 v11.2.2 m_qx m_qy m_met m_per m_row m_det m_h]) rfl 0 6 rfl rfl rfl dX6_coordination_34 ?_
      refine kw_aload_n hX 37 dX6_coordination_37 rfl 0 rfl ?_
      refine kw_iload_n hX 38 dX6_coordination_38 rfl 2 rfl ?_
      obtain ⟨v13, hc14, h⟩ := kb_some h
      refine kw_callV_I hX 39 (As := [.int a2]) (rest := []) (kX6_countAt (kx_l X) Y ma m_now m_sav m_sc m_err m_shf v11.1 v11.2.1 v11.2.2 m_qx m_qy m_met m_per m_row m_det m_h a2 hc14) gX6_coordination_X6_countAt rfl 1 rfl hdV_X6_countAt ⟨rfl, rfl⟩ ⟨by decide, by decide⟩ ⟨Nat.zero_le _, Nat.zero_le _⟩ rfl (Nat.le_of_ble_eq_true rfl) [0] (by decide) rfl (kfc rfl kfn0) (gs1 := [gM Y ma m_now m_sav m_sc m_err m_shf v11.1 v11.2.1 v11.2.2 m_qx m_qy m_met m_per m_row m_det m_h]) rfl 0 6 rfl rfl rfl dX6_coordination_39 ?_
      obtain rfl := Option.some.inj h
      exact hret _ _ dX6_coordination_42 rfl
    · have h := kif_t c8 h
      refine kw_aload_n hX 18 dX6_coordination_18 rfl 0 rfl ?_
      refine kw_bipush hX 19 dX6_coordination_19 kcb_m2 ?_
      obtain ⟨v15, hc16, h⟩ := kb_some h
      refine kw_callV_I hX 21 (As := [.int (-2)]) (rest := []) (kX6_error (kx_l X) Y ma m_now m_sav m_sc m_err m_shf m_stp m_que m_qd m_qx m_qy m_met m_per m_row m_det m_h (-2) hc16) gX6_coordination_X6_error rfl 1 rfl hdV_X6_error ⟨rfl, rfl⟩ ⟨by decide, by decide⟩ ⟨Nat.zero_le _, Nat.zero_le _⟩ rfl (Nat.le_of_ble_eq_true rfl) [0] (by decide) rfl (kfc gM_f kfn0) (gs1 := [gM Y ma m_now m_sav m_sc v15.2 m_shf m_stp m_que m_qd m_qx m_qy m_met m_per m_row m_det m_h]) rfl 0 6 rfl rfl rfl dX6_coordination_21 ?_
      obtain rfl := Option.some.inj h
      exact hret _ _ dX6_coordination_24 rfl
def pX6_distance (a1 : Int32) (a2 : Int32) (a3 : Int32) (a4 : Int32) (m_now : Nat → Int32) (m_err : Nat → Int32) (m_stp : Nat → Int32) (m_que : Nat → Int32) (m_qd : Int32) : Option (Int32 × (Nat → Int32) × (Nat → Int32) × (Nat → Int32) × Int32) := kb (pX6_isVertex a1 m_now) (fun v1 => (if v1 = 0 then kb (pX6_error (-2) m_err) (fun v4 => some (v4.1, v4.2, m_stp, m_que, m_qd)) else kb (pX6_isVertex a2 m_now) (fun v6 => (if v6 = 0 then kb (pX6_error (-2) m_err) (fun v9 => some (v9.1, v9.2, m_stp, m_que, m_qd)) else kb (pX6_in a3 (-8) 8) (fun v11 => (if v11 = 0 then kb (pX6_error (-2) m_err) (fun v14 => some (v14.1, v14.2, m_stp, m_que, m_qd)) else kb (pX6_in a4 (-8) 8) (fun v16 => (if v16 = 0 then kb (pX6_error (-2) m_err) (fun v26 => some (v26.1, v26.2, m_stp, m_que, m_qd)) else kb (pX6_node a1 0 0) (fun v19 => kb (pX6_search v19 (-1) 8 m_now m_stp m_que m_qd) (fun v21 => kb (pX6_node a2 a3 a4) (fun v23 => kgd (kin v23 6534) (some ((v21.1 (v23 : Int32).toNatClampNeg), m_err, v21.1, v21.2.1, v21.2.2)))))))))))))
def rmX6_distance : Room := { frames := 3, cells := 0, slots := 0, locals := 77 }
theorem hdV_X6_distance : yX6_distance.cls = RX6 ∧ yX6_distance.cls ≠ "java/lang/invoke/MethodHandle" ∧ yX6_distance.cls ≠ "java/lang/invoke/VarHandle" ∧ (parseMethodDescriptor yX6_distance.desc).map (fun d => d.parameters.length) = some 4 := ⟨rfl, by decide +kernel, by decide +kernel, by decide +kernel⟩
set_option maxHeartbeats 4000000 in
set_option maxRecDepth 100000 in
theorem kX6_distance (l : Launch) (Y : KY) (ma : Nat → Nat) (m_now : Nat → Int32) (m_sav : Nat → Int32) (m_sc : Int32) (m_err : Nat → Int32) (m_shf : Nat → Int32) (m_stp : Nat → Int32) (m_que : Nat → Int32) (m_qd : Int32) (m_qx : Nat → Int32) (m_qy : Nat → Int32) (m_met : Nat → Int32) (m_per : Nat → Int32) (m_row : Nat → Int64) (m_det : Int64) (m_h : Int64) (a1 : Int32) (a2 : Int32) (a3 : Int32) (a4 : Int32) {o : Int32 × (Nat → Int32) × (Nat → Int32) × (Nat → Int32) × Int32} (h : pX6_distance a1 a2 a3 a4 m_now m_err m_stp m_que m_qd = some o) : CtI l yX6_distance wsX6_distance rmX6_distance Y [.ref (ma 0), .int a1, .int a2, .int a3, .int a4] (kfl [gM Y ma m_now m_sav m_sc m_err m_shf m_stp m_que m_qd m_qx m_qy m_met m_per m_row m_det m_h]) o.1 (kfl [gM Y ma m_now m_sav m_sc o.2.1 m_shf o.2.2.1 o.2.2.2.1 o.2.2.2.2 m_qx m_qy m_met m_per m_row m_det m_h]) := by
  refine ctI_intro (cc := cX6_distance) (maxL := 5) (own := RX6) (by decide +kernel) rfl rfl (Nat.le_of_ble_eq_true rfl) rfl ?_
  intro X A hX _ hret
  have hin6 : ∀ w ∈ u_ws RX6 TX6 15, w ∈ wsX6_distance := by decide +kernel
  have f0 := hX.w (Cond.fieldLink RX6 22 "PeriodicNetModel" "steps" "[I") (by decide +kernel)
  unfold pX6_distance at h
  refine kw_lv (lv' := [(0, .ref (ma 0)), (1, .int a1), (2, .int a2), (3, .int a3), (4, .int a4)]) [0, 1, 2, 3, 4] rfl ?_
  refine kw_aload_n hX 0 dX6_distance_0 rfl 0 rfl ?_
  refine kw_iload_n hX 1 dX6_distance_1 rfl 1 rfl ?_
  obtain ⟨v1, hc2, h⟩ := kb_some h
  refine kw_callV_I hX 2 (As := [.int a1]) (rest := []) (kX6_isVertex (kx_l X) Y ma m_now m_sav m_sc m_err m_shf m_stp m_que m_qd m_qx m_qy m_met m_per m_row m_det m_h a1 hc2) gX6_distance_X6_isVertex rfl 1 rfl hdV_X6_isVertex ⟨rfl, rfl⟩ ⟨by decide, by decide⟩ ⟨Nat.zero_le _, Nat.zero_le _⟩ rfl (Nat.le_of_ble_eq_true rfl) [0] (by decide) rfl (kfc rfl kfn0) (gs1 := [gM Y ma m_now m_sav m_sc m_err m_shf m_stp m_que m_qd m_qx m_qy m_met m_per m_row m_det m_h]) rfl 0 6 rfl rfl rfl dX6_distance_2 ?_
  refine kw_if_eq hX 5 39 dX6_distance_5 (by decide) (fun c3 => ?_) (fun c3 => ?_)
  · have h := kif_t c3 h
    refine kw_aload_n hX 39 dX6_distance_39 rfl 0 rfl ?_
    refine kw_bipush hX 40 dX6_distance_40 kcb_m2 ?_
    obtain ⟨v4, hc5, h⟩ := kb_some h
    refine kw_callV_I hX 42 (As := [.int (-2)]) (rest := []) (kX6_error (kx_l X) Y ma m_now m_sav m_sc m_err m_shf m_stp m_que m_qd m_qx m_qy m_met m_per m_row m_det m_h (-2) hc5) gX6_distance_X6_error rfl 1 rfl hdV_X6_error ⟨rfl, rfl⟩ ⟨by decide, by decide⟩ ⟨Nat.zero_le _, Nat.zero_le _⟩ rfl (Nat.le_of_ble_eq_true rfl) [0] (by decide) rfl (kfc gM_f kfn0) (gs1 := [gM Y ma m_now m_sav m_sc v4.2 m_shf m_stp m_que m_qd m_qx m_qy m_met m_per m_row m_det m_h]) rfl 0 6 rfl rfl rfl dX6_distance_42 ?_
    obtain rfl := Option.some.inj h
    exact hret _ _ dX6_distance_45 rfl
  · have h := kif_f c3 h
    refine kw_aload_n hX 8 dX6_distance_8 rfl 0 rfl ?_
    refine kw_iload_n hX 9 dX6_distance_9 rfl 2 rfl ?_
    obtain ⟨v6, hc7, h⟩ := kb_some h
    refine kw_callV_I hX 10 (As := [.int a2]) (rest := []) (kX6_isVertex (kx_l X) Y ma m_now m_sav m_sc m_err m_shf m_stp m_que m_qd m_qx m_qy m_met m_per m_row m_det m_h a2 hc7) gX6_distance_X6_isVertex rfl 1 rfl hdV_X6_isVertex ⟨rfl, rfl⟩ ⟨by decide, by decide⟩ ⟨Nat.zero_le _, Nat.zero_le _⟩ rfl (Nat.le_of_ble_eq_true rfl) [0] (by decide) rfl (kfc rfl kfn0) (gs1 := [gM Y ma m_now m_sav m_sc m_err m_shf m_stp m_que m_qd m_qx m_qy m_met m_per m_row m_det m_h]) rfl 0 6 rfl rfl rfl dX6_distance_10 ?_
    refine kw_if_eq hX 13 39 dX6_distance_13 (by decide) (fun c8 => ?_) (fun c8 => ?_)
    · have h := kif_t c8 h
      refine kw_aload_n hX 39 dX6_distance_39 rfl 0 rfl ?_
      refine kw_bipush hX 40 dX6_distance_40 kcb_m2 ?_
      obtain ⟨v9, hc10, h⟩ := kb_some h
      refine kw_callV_I hX 42 (As := [.int (-2)]) (rest := []) (kX6_error (kx_l X) Y ma m_now m_sav m_sc m_err m_shf m_stp m_que m_qd m_qx m_qy m_met m_per m_row m_det m_h (-2) hc10) gX6_distance_X6_error rfl 1 rfl hdV_X6_error ⟨rfl, rfl⟩ ⟨by decide, by decide⟩ ⟨Nat.zero_le _, Nat.zero_le _⟩ rfl (Nat.le_of_ble_eq_true rfl) [0] (by decide) rfl (kfc gM_f kfn0) (gs1 := [gM Y ma m_now m_sav m_sc v9.2 m_shf m_stp m_que m_qd m_qx m_qy m_met m_per m_row m_det m_h]) rfl 0 6 rfl rfl rfl dX6_distance_42 ?_
      obtain rfl := Option.some.inj h
      exact hret _ _ dX6_distance_45 rfl
    · have h := kif_f c8 h
      refine kw_iload_n hX 16 dX6_distance_16 rfl 3 rfl ?_
      refine kw_bipush hX 17 dX6_distance_17 kcb_m8 ?_
      refine kw_bipush hX 19 dX6_distance_19 kcb_8 ?_
      obtain ⟨v11, hc12, h⟩ := kb_some h
      refine kw_callS_I hX 21 (As := [.int a3, .int (-8), .int 8]) (rest := []) (kX6_in (kx_l X) Y a3 (-8) 8 hc12) gX6_distance_X6_in rfl 3 rfl hdS_X6_in ⟨rfl, rfl⟩ ⟨by decide, by decide⟩ ⟨Nat.zero_le _, Nat.zero_le _⟩ rfl (Nat.le_of_ble_eq_true rfl) [] (by decide) rfl kfn0 (gs1 := [gM Y ma m_now m_sav m_sc m_err m_shf m_stp m_que m_qd m_qx m_qy m_met m_per m_row m_det m_h]) rfl dX6_distance_21 ?_
      refine kw_if_eq hX 24 39 dX6_distance_24 (by decide) (fun c13 => ?_) (fun c13 => ?_)
      · have h := kif_t c13 h
        refine kw_aload_n hX 39 dX6_distance_39 rfl 0 rfl ?_
        refine kw_bipush hX 40 dX6_distance_40 kcb_m2 ?_
        obtain ⟨v14, hc15, h⟩ := kb_some h
        refine kw_callV_I hX 42 (As := [.int (-2)]) (rest := []) (kX6_error (kx_l X) Y ma m_now m_sav m_sc m_err m_shf m_stp m_que m_qd m_qx m_qy m_met m_per m_row m_det m_h (-2) hc15) gX6_distance_X6_error rfl 1 rfl hdV_X6_error ⟨rfl, rfl⟩ ⟨by decide, by decide⟩ ⟨Nat.zero_le _, Nat.zero_le _⟩ rfl (Nat.le_of_ble_eq_true rfl) [0] (by decide) rfl (kfc gM_f kfn0) (gs1 := [gM Y ma m_now m_sav m_sc v14.2 m_shf m_stp m_que m_qd m_qx m_qy m_met m_per m_row m_det m_h]) rfl 0 6 rfl rfl rfl dX6_distance_42 ?_
        obtain rfl := Option.some.inj h
        exact hret _ _ dX6_distance_45 rfl
      · have h := kif_f c13 h
        refine kw_iload hX 27 dX6_distance_27 4 rfl ?_
        refine kw_bipush hX 29 dX6_distance_29 kcb_m8 ?_
        refine kw_bipush hX 31 dX6_distance_31 kcb_8 ?_
        obtain ⟨v16, hc17, h⟩ := kb_some h
        refine kw_callS_I hX 33 (As := [.int a4, .int (-8), .int 8]) (rest := []) (kX6_in (kx_l X) Y a4 (-8) 8 hc17) gX6_distance_X6_in rfl 3 rfl hdS_X6_in ⟨rfl, rfl⟩ ⟨by decide, by decide⟩ ⟨Nat.zero_le _, Nat.zero_le _⟩ rfl (Nat.le_of_ble_eq_true rfl) [] (by decide) rfl kfn0 (gs1 := [gM Y ma m_now m_sav m_sc m_err m_shf m_stp m_que m_qd m_qx m_qy m_met m_per m_row m_det m_h]) rfl dX6_distance_33 ?_
        refine kw_if_ne hX 36 46 dX6_distance_36 (by decide) (fun c18 => ?_) (fun c18 => ?_)
        · have h := kif_f c18 h
          refine kw_aload_n hX 46 dX6_distance_46 rfl 0 rfl ?_
          refine kw_iload_n hX 47 dX6_distance_47 rfl 1 rfl ?_
          refine kw_iconst hX 48 dX6_distance_48 kci_0 ?_
          refine kw_iconst hX 49 dX6_distance_49 kci_0 ?_
          obtain ⟨v19, hc20, h⟩ := kb_some h
          refine kw_callS_I hX 50 (As := [.int a1, .int 0, .int 0]) (rest := [.ref (ma 0)]) (kX6_node (kx_l X) Y a1 0 0 hc20) gX6_distance_X6_node rfl 3 rfl hdS_X6_node ⟨rfl, rfl⟩ ⟨by decide, by decide⟩ ⟨Nat.zero_le _, Nat.zero_le _⟩ rfl (Nat.le_of_ble_eq_true rfl) [] (by decide) rfl kfn0 (gs1 := [gM Y ma m_now m_sav m_sc m_err m_shf m_stp m_que m_qd m_qx m_qy m_met m_per m_row m_det m_h]) rfl dX6_distance_50 ?_
          refine kw_iconst hX 53 dX6_distance_53 kci_m1 ?_
          refine kw_bipush hX 54 dX6_distance_54 kcb_8 ?_
          obtain ⟨v21, hc22, h⟩ := kb_some h
          refine kw_callV_V hX 56 (As := [.int v19, .int (-1), .int 8]) (rest := []) (kX6_search (kx_l X) Y ma m_now m_sav m_sc m_err m_shf m_stp m_que m_qd m_qx m_qy m_met m_per m_row m_det m_h v19 (-1) 8 hc22) gX6_distance_X6_search rfl 3 rfl hdV_X6_search ⟨rfl, rfl⟩ ⟨by decide, by decide⟩ ⟨Nat.zero_le _, Nat.zero_le _⟩ rfl (Nat.le_of_ble_eq_true rfl) [0] (by decide) rfl (kfc gM_f kfn0) (gs1 := [gM Y ma m_now m_sav m_sc m_err m_shf v21.1 v21.2.1 v21.2.2 m_qx m_qy m_met m_per m_row m_det m_h]) rfl 0 6 rfl rfl rfl dX6_distance_56 ?_
          refine kw_aload_n hX 59 dX6_distance_59 rfl 0 rfl ?_
          refine kw_get hX 60 (C := RX6) (T := TX6) (N := 15) hin6 5 f0 (fun _ h => h) 0 rfl rfl (by decide) rfl dX6_distance_60 ?_
          refine kw_iload_n hX 63 dX6_distance_63 rfl 2 rfl ?_
          refine kw_iload_n hX 64 dX6_distance_64 rfl 3 rfl ?_
          refine kw_iload hX 65 dX6_distance_65 4 rfl ?_
          obtain ⟨v23, hc24, h⟩ := kb_some h
          refine kw_callS_I hX 67 (As := [.int a2, .int a3, .int a4]) (rest := [.ref (ma 5)]) (kX6_node (kx_l X) Y a2 a3 a4 hc24) gX6_distance_X6_node rfl 3 rfl hdS_X6_node ⟨rfl, rfl⟩ ⟨by decide, by decide⟩ ⟨Nat.zero_le _, Nat.zero_le _⟩ rfl (Nat.le_of_ble_eq_true rfl) [] (by decide) rfl kfn0 (gs1 := [gM Y ma m_now m_sav m_sc m_err m_shf v21.1 v21.2.1 v21.2.2 m_qx m_qy m_met m_per m_row m_det m_h]) rfl dX6_distance_67 ?_
          obtain ⟨g25, h⟩ := kgd_some h
          refine kw_iald hX 70 5 rfl g25 dX6_distance_70 ?_
          obtain rfl := Option.some.inj h
          exact hret _ _ dX6_distance_71 rfl
        · have h := kif_t c18 h
          refine kw_aload_n hX 39 dX6_distance_39 rfl 0 rfl ?_
          refine kw_bipush hX 40 dX6_distance_40 kcb_m2 ?_
          obtain ⟨v26, hc27, h⟩ := kb_some h
          refine kw_callV_I hX 42 (As := [.int (-2)]) (rest := []) (kX6_error (kx_l X) Y ma m_now m_sav m_sc m_err m_shf m_stp m_que m_qd m_qx m_qy m_met m_per m_row m_det m_h (-2) hc27) gX6_distance_X6_error rfl 1 rfl hdV_X6_error ⟨rfl, rfl⟩ ⟨by decide, by decide⟩ ⟨Nat.zero_le _, Nat.zero_le _⟩ rfl (Nat.le_of_ble_eq_true rfl) [0] (by decide) rfl (kfc gM_f kfn0) (gs1 := [gM Y ma m_now m_sav m_sc v26.2 m_shf m_stp m_que m_qd m_qx m_qy m_met m_per m_row m_det m_h]) rfl 0 6 rfl rfl rfl dX6_distance_42 ?_
          obtain rfl := Option.some.inj h
          exact hret _ _ dX6_distance_45 rfl
def pX6_ring (a1 : Int32) (a2 : Int32) (a3 : Int32) (m_now : Nat → Int32) (m_err : Nat → Int32) (m_stp : Nat → Int32) (m_que : Nat → Int32) (m_qd : Int32) : Option (Int32 × (Nat → Int32) × (Nat → Int32) × (Nat → Int32) × Int32) := kb (pX6_isEndIndex a1 a2 m_now) (fun v1 => (if v1 = 0 then kb (pX6_error (-2) m_err) (fun v4 => some (v4.1, v4.2, m_stp, m_que, m_qd)) else kb (pX6_isEndIndex a1 a3 m_now) (fun v6 => (if v6 = 0 then kb (pX6_error (-2) m_err) (fun v9 => some (v9.1, v9.2, m_stp, m_que, m_qd)) else (if a2 = a3 then kb (pX6_error (-2) m_err) (fun v40 => some (v40.1, v40.2, m_stp, m_que, m_qd)) else kb (pX6_endAt a1 a2 m_now) (fun v12 => kb (pX6_endAt a1 a3 m_now) (fun v14 => kb (pX6_leadsTo v12 m_now) (fun v16 => kb (pX6_endX v12 m_now) (fun v18 => kb (pX6_endY v12 m_now) (fun v20 => kb (pX6_node v16 v18 v20) (fun v22 => kb (pX6_leadsTo v14 m_now) (fun v24 => kb (pX6_endX v14 m_now) (fun v26 => kb (pX6_endY v14 m_now) (fun v28 => kb (pX6_node v24 v26 v28) (fun v30 => (if v22 = v30 then some ((-1), m_err, m_stp, m_que, m_qd) else kb (pX6_node a1 0 0) (fun v33 => kb (pX6_search v22 v33 10 m_now m_stp m_que m_qd) (fun v35 => kgd (kin v30 6534) ((if (v35.1 (v30 : Int32).toNatClampNeg) = ((-1) : Int32) then some ((-1), m_err, v35.1, v35.2.1, v35.2.2) else kgd (kin v30 6534) (some (((v35.1 (v30 : Int32).toNatClampNeg) + 2), m_err, v35.1, v35.2.1, v35.2.2))))))))))))))))))))))
def rmX6_ring : Room := { frames := 4, cells := 0, slots := 0, locals := 89 }
theorem hdV_X6_ring : yX6_ring.cls = RX6 ∧ yX6_ring.cls ≠ "java/lang/invoke/MethodHandle" ∧ yX6_ring.cls ≠ "java/lang/invoke/VarHandle" ∧ (parseMethodDescriptor yX6_ring.desc).map (fun d => d.parameters.length) = some 3 := ⟨rfl, by decide +kernel, by decide +kernel, by decide +kernel⟩
set_option maxHeartbeats 4000000 in
set_option maxRecDepth 100000 in
theorem kX6_ring (l : Launch) (Y : KY) (ma : Nat → Nat) (m_now : Nat → Int32) (m_sav : Nat → Int32) (m_sc : Int32) (m_err : Nat → Int32) (m_shf : Nat → Int32) (m_stp : Nat → Int32) (m_que : Nat → Int32) (m_qd : Int32) (m_qx : Nat → Int32) (m_qy : Nat → Int32) (m_met : Nat → Int32) (m_per : Nat → Int32) (m_row : Nat → Int64) (m_det : Int64) (m_h : Int64) (a1 : Int32) (a2 : Int32) (a3 : Int32) {o : Int32 × (Nat → Int32) × (Nat → Int32) × (Nat → Int32) × Int32} (h : pX6_ring a1 a2 a3 m_now m_err m_stp m_que m_qd = some o) : CtI l yX6_ring wsX6_ring rmX6_ring Y [.ref (ma 0), .int a1, .int a2, .int a3] (kfl [gM Y ma m_now m_sav m_sc m_err m_shf m_stp m_que m_qd m_qx m_qy m_met m_per m_row m_det m_h]) o.1 (kfl [gM Y ma m_now m_sav m_sc o.2.1 m_shf o.2.2.1 o.2.2.2.1 o.2.2.2.2 m_qx m_qy m_met m_per m_row m_det m_h]) := by
  refine ctI_intro (cc := cX6_ring) (maxL := 8) (own := RX6) (by decide +kernel) rfl rfl (Nat.le_of_ble_eq_true rfl) rfl ?_
  intro X A hX _ hret
  have hin6 : ∀ w ∈ u_ws RX6 TX6 15, w ∈ wsX6_ring := by decide +kernel
  have f0 := hX.w (Cond.fieldLink RX6 22 "PeriodicNetModel" "steps" "[I") (by decide +kernel)
  unfold pX6_ring at h
  refine kw_lv (lv' := [(0, .ref (ma 0)), (1, .int a1), (2, .int a2), (3, .int a3)]) [0, 1, 2, 3] rfl ?_
  refine kw_aload_n hX 0 dX6_ring_0 rfl 0 rfl ?_
  refine kw_iload_n hX 1 dX6_ring_1 rfl 1 rfl ?_
  refine kw_iload_n hX 2 dX6_ring_2 rfl 2 rfl ?_
  obtain ⟨v1, hc2, h⟩ := kb_some h
  refine kw_callV_I hX 3 (As := [.int a1, .int a2]) (rest := []) (kX6_isEndIndex (kx_l X) Y ma m_now m_sav m_sc m_err m_shf m_stp m_que m_qd m_qx m_qy m_met m_per m_row m_det m_h a1 a2 hc2) gX6_ring_X6_isEndIndex rfl 2 rfl hdV_X6_isEndIndex ⟨rfl, rfl⟩ ⟨by decide, by decide⟩ ⟨Nat.zero_le _, Nat.zero_le _⟩ rfl (Nat.le_of_ble_eq_true rfl) [0] (by decide) rfl (kfc rfl kfn0) (gs1 := [gM Y ma m_now m_sav m_sc m_err m_shf m_stp m_que m_qd m_qx m_qy m_met m_per m_row m_det m_h]) rfl 0 6 rfl rfl rfl dX6_ring_3 ?_
  refine kw_if_eq hX 6 23 dX6_ring_6 (by decide) (fun c3 => ?_) (fun c3 => ?_)
  · have h := kif_t c3 h
    refine kw_aload_n hX 23 dX6_ring_23 rfl 0 rfl ?_
    refine kw_bipush hX 24 dX6_ring_24 kcb_m2 ?_
    obtain ⟨v4, hc5, h⟩ := kb_some h
    refine kw_callV_I hX 26 (As := [.int (-2)]) (rest := []) (kX6_error (kx_l X) Y ma m_now m_sav m_sc m_err m_shf m_stp m_que m_qd m_qx m_qy m_met m_per m_row m_det m_h (-2) hc5) gX6_ring_X6_error rfl 1 rfl hdV_X6_error ⟨rfl, rfl⟩ ⟨by decide, by decide⟩ ⟨Nat.zero_le _, Nat.zero_le _⟩ rfl (Nat.le_of_ble_eq_true rfl) [0] (by decide) rfl (kfc gM_f kfn0) (gs1 := [gM Y ma m_now m_sav m_sc v4.2 m_shf m_stp m_que m_qd m_qx m_qy m_met m_per m_row m_det m_h]) rfl 0 6 rfl rfl rfl dX6_ring_26 ?_
    obtain rfl := Option.some.inj h
    exact hret _ _ dX6_ring_29 rfl
  · have h := kif_f c3 h
    refine kw_aload_n hX 9 dX6_ring_9 rfl 0 rfl ?_
    refine kw_iload_n hX 10 dX6_ring_10 rfl 1 rfl ?_
    refine kw_iload_n hX 11 dX6_ring_11 rfl 3 rfl ?_
    obtain ⟨v6, hc7, h⟩ := kb_some h
    refine kw_callV_I hX 12 (As := [.int a1, .int a3]) (rest := []) (kX6_isEndIndex (kx_l X) Y ma m_now m_sav m_sc m_err m_shf m_stp m_que m_qd m_qx m_qy m_met m_per m_row m_det m_h a1 a3 hc7) gX6_ring_X6_isEndIndex rfl 2 rfl hdV_X6_isEndIndex ⟨rfl, rfl⟩ ⟨by decide, by decide⟩ ⟨Nat.zero_le _, Nat.zero_le _⟩ rfl (Nat.le_of_ble_eq_true rfl) [0] (by decide) rfl (kfc rfl kfn0) (gs1 := [gM Y ma m_now m_sav m_sc m_err m_shf m_stp m_que m_qd m_qx m_qy m_met m_per m_row m_det m_h]) rfl 0 6 rfl rfl rfl dX6_ring_12 ?_
    refine kw_if_eq hX 15 23 dX6_ring_15 (by decide) (fun c8 => ?_) (fun c8 => ?_)
    · have h := kif_t c8 h
      refine kw_aload_n hX 23 dX6_ring_23 rfl 0 rfl ?_
      refine kw_bipush hX 24 dX6_ring_24 kcb_m2 ?_
      obtain ⟨v9, hc10, h⟩ := kb_some h
      refine kw_callV_I hX 26 (As := [.int (-2)]) (rest := []) (kX6_error (kx_l X) Y ma m_now m_sav m_sc m_err m_shf m_stp m_que m_qd m_qx m_qy m_met m_per m_row m_det m_h (-2) hc10) gX6_ring_X6_error rfl 1 rfl hdV_X6_error ⟨rfl, rfl⟩ ⟨by decide, by decide⟩ ⟨Nat.zero_le _, Nat.zero_le _⟩ rfl (Nat.le_of_ble_eq_true rfl) [0] (by decide) rfl (kfc gM_f kfn0) (gs1 := [gM Y ma m_now m_sav m_sc v9.2 m_shf m_stp m_que m_qd m_qx m_qy m_met m_per m_row m_det m_h]) rfl 0 6 rfl rfl rfl dX6_ring_26 ?_
      obtain rfl := Option.some.inj h
      exact hret _ _ dX6_ring_29 rfl
    · have h := kif_f c8 h
      refine kw_iload_n hX 18 dX6_ring_18 rfl 2 rfl ?_
      refine kw_iload_n hX 19 dX6_ring_19 rfl 3 rfl ?_
      refine kw_icmp_ne hX 20 30 dX6_ring_20 (by decide) (fun c11 => ?_) (fun c11 => ?_)
      · have h := kif_f c11 h
        refine kw_aload_n hX 30 dX6_ring_30 rfl 0 rfl ?_
        refine kw_iload_n hX 31 dX6_ring_31 rfl 1 rfl ?_
        refine kw_iload_n hX 32 dX6_ring_32 rfl 2 rfl ?_
        obtain ⟨v12, hc13, h⟩ := kb_some h
        refine kw_callV_I hX 33 (As := [.int a1, .int a2]) (rest := []) (kX6_endAt (kx_l X) Y ma m_now m_sav m_sc m_err m_shf m_stp m_que m_qd m_qx m_qy m_met m_per m_row m_det m_h a1 a2 hc13) gX6_ring_X6_endAt rfl 2 rfl hdV_X6_endAt ⟨rfl, rfl⟩ ⟨by decide, by decide⟩ ⟨Nat.zero_le _, Nat.zero_le _⟩ rfl (Nat.le_of_ble_eq_true rfl) [0] (by decide) rfl (kfc rfl kfn0) (gs1 := [gM Y ma m_now m_sav m_sc m_err m_shf m_stp m_que m_qd m_qx m_qy m_met m_per m_row m_det m_h]) rfl 0 6 rfl rfl rfl dX6_ring_33 ?_
        refine kw_istore (lv' := [(4, .int v12), (0, .ref (ma 0)), (1, .int a1), (2, .int a2), (3, .int a3)]) hX 36 dX6_ring_36 (by decide) rfl ?_
        refine kw_aload_n hX 38 dX6_ring_38 rfl 1 rfl ?_
        refine kw_iload_n hX 39 dX6_ring_39 rfl 2 rfl ?_
        refine kw_iload_n hX 40 dX6_ring_40 rfl 4 rfl ?_
        obtain ⟨v14, hc15, h⟩ := kb_some h
        refine kw_callV_I hX 41 (As := [.int a1, .int a3]) (rest := []) (kX6_endAt (kx_l X) Y ma m_now m_sav m_sc m_err m_shf m_stp m_que m_qd m_qx m_qy m_met m_per m_row m_det m_h a1 a3 hc15) gX6_ring_X6_endAt rfl 2 rfl hdV_X6_endAt ⟨rfl, rfl⟩ ⟨by decide, by decide⟩ ⟨Nat.zero_le _, Nat.zero_le _⟩ rfl (Nat.le_of_ble_eq_true rfl) [0] (by decide) rfl (kfc rfl kfn0) (gs1 := [gM Y ma m_now m_sav m_sc m_err m_shf m_stp m_que m_qd m_qx m_qy m_met m_per m_row m_det m_h]) rfl 0 6 rfl rfl rfl dX6_ring_41 ?_
        refine kw_istore (lv' := [(5, .int v14), (4, .int v12), (0, .ref (ma 0)), (1, .int a1), (2, .int a2), (3, .int a3)]) hX 44 dX6_ring_44 (by decide) rfl ?_
        refine kw_aload_n hX 46 dX6_ring_46 rfl 2 rfl ?_
        refine kw_iload hX 47 dX6_ring_47 1 rfl ?_
        obtain ⟨v16, hc17, h⟩ := kb_some h
        refine kw_callV_I hX 49 (As := [.int v12]) (rest := []) (kX6_leadsTo (kx_l X) Y ma m_now m_sav m_sc m_err m_shf m_stp m_que m_qd m_qx m_qy m_met m_per m_row m_det m_h v12 hc17) gX6_ring_X6_leadsTo rfl 1 rfl hdV_X6_leadsTo ⟨rfl, rfl⟩ ⟨by decide, by decide⟩ ⟨Nat.zero_le _, Nat.zero_le _⟩ rfl (Nat.le_of_ble_eq_true rfl) [0] (by decide) rfl (kfc rfl kfn0) (gs1 := [gM Y ma m_now m_sav m_sc m_err m_shf m_stp m_que m_qd m_qx m_qy m_met m_per m_row m_det m_h]) rfl 0 6 rfl rfl rfl dX6_ring_49 ?_
        refine kw_aload_n hX 52 dX6_ring_52 rfl 2 rfl ?_
        refine kw_iload hX 53 dX6_ring_53 1 rfl ?_
        obtain ⟨v18, hc19, h⟩ := kb_some h
        refine kw_callV_I hX 55 (As := [.int v12]) (rest := [.int v16]) (kX6_endX (kx_l X) Y ma m_now m_sav m_sc m_err m_shf m_stp m_que m_qd m_qx m_qy m_met m_per m_row m_det m_h v12 hc19) gX6_ring_X6_endX rfl 1 rfl hdV_X6_endX ⟨rfl, rfl⟩ ⟨by decide, by decide⟩ ⟨Nat.zero_le _, Nat.zero_le _⟩ rfl (Nat.le_of_ble_eq_true rfl) [0] (by decide) rfl (kfc rfl kfn0) (gs1 := [gM Y ma m_now m_sav m_sc m_err m_shf m_stp m_que m_qd m_qx m_qy m_met m_per m_row m_det m_h]) rfl 0 6 rfl rfl rfl dX6_ring_55 ?_
        refine kw_aload_n hX 58 dX6_ring_58 rfl 2 rfl ?_
        refine kw_iload hX 59 dX6_ring_59 1 rfl ?_
        obtain ⟨v20, hc21, h⟩ := kb_some h
        refine kw_callV_I hX 61 (As := [.int v12]) (rest := [.int v18, .int v16]) (kX6_endY (kx_l X) Y ma m_now m_sav m_sc m_err m_shf m_stp m_que m_qd m_qx m_qy m_met m_per m_row m_det m_h v12 hc21) gX6_ring_X6_endY rfl 1 rfl hdV_X6_endY ⟨rfl, rfl⟩ ⟨by decide, by decide⟩ ⟨Nat.zero_le _, Nat.zero_le _⟩ rfl (Nat.le_of_ble_eq_true rfl) [0] (by decide) rfl (kfc rfl kfn0) (gs1 := [gM Y ma m_now m_sav m_sc m_err m_shf m_stp m_que m_qd m_qx m_qy m_met m_per m_row m_det m_h]) rfl 0 6 rfl rfl rfl dX6_ring_61 ?_
        obtain ⟨v22, hc23, h⟩ := kb_some h
        refine kw_callS_I hX 64 (As := [.int v16, .int v18, .int v20]) (rest := []) (kX6_node (kx_l X) Y v16 v18 v20 hc23) gX6_ring_X6_node rfl 3 rfl hdS_X6_node ⟨rfl, rfl⟩ ⟨by decide, by decide⟩ ⟨Nat.zero_le _, Nat.zero_le _⟩ rfl (Nat.le_of_ble_eq_true rfl) [] (by decide) rfl kfn0 (gs1 := [gM Y ma m_now m_sav m_sc m_err m_shf m_stp m_que m_qd m_qx m_qy m_met m_per m_row m_det m_h]) rfl dX6_ring_64 ?_
        refine kw_istore (lv' := [(6, .int v22), (5, .int v14), (4, .int v12), (0, .ref (ma 0)), (1, .int a1), (2, .int a2), (3, .int a3)]) hX 67 dX6_ring_67 (by decide) rfl ?_
        refine kw_aload_n hX 69 dX6_ring_69 rfl 3 rfl ?_
        refine kw_iload hX 70 dX6_ring_70 1 rfl ?_
        obtain ⟨v24, hc25, h⟩ := kb_some h
        refine kw_callV_I hX 72 (As := [.int v14]) (rest := []) (kX6_leadsTo (kx_l X) Y ma m_now m_sav m_sc m_err m_shf m_stp m_que m_qd m_qx m_qy m_met m_per m_row m_det m_h v14 hc25) gX6_ring_X6_leadsTo rfl 1 rfl hdV_X6_leadsTo ⟨rfl, rfl⟩ ⟨by decide, by decide⟩ ⟨Nat.zero_le _, Nat.zero_le _⟩ rfl (Nat.le_of_ble_eq_true rfl) [0] (by decide) rfl (kfc rfl kfn0) (gs1 := [gM Y ma m_now m_sav m_sc m_err m_shf m_stp m_que m_qd m_qx m_qy m_met m_per m_row m_det m_h]) rfl 0 6 rfl rfl rfl dX6_ring_72 ?_
        refine kw_aload_n hX 75 dX6_ring_75 rfl 3 rfl ?_
        refine kw_iload hX 76 dX6_ring_76 1 rfl ?_
        obtain ⟨v26, hc27, h⟩ := kb_some h
        refine kw_callV_I hX 78 (As := [.int v14]) (rest := [.int v24]) (kX6_endX (kx_l X) Y ma m_now m_sav m_sc m_err m_shf m_stp m_que m_qd m_qx m_qy m_met m_per m_row m_det m_h v14 hc27) gX6_ring_X6_endX rfl 1 rfl hdV_X6_endX ⟨rfl, rfl⟩ ⟨by decide, by decide⟩ ⟨Nat.zero_le _, Nat.zero_le _⟩ rfl (Nat.le_of_ble_eq_true rfl) [0] (by decide) rfl (kfc rfl kfn0) (gs1 := [gM Y ma m_now m_sav m_sc m_err m_shf m_stp m_que m_qd m_qx m_qy m_met m_per m_row m_det m_h]) rfl 0 6 rfl rfl rfl dX6_ring_78 ?_
        refine kw_aload_n hX 81 dX6_ring_81 rfl 3 rfl ?_
        refine kw_iload hX 82 dX6_ring_82 1 rfl ?_
        obtain ⟨v28, hc29, h⟩ := kb_some h
        refine kw_callV_I hX 84 (As := [.int v14]) (rest := [.int v26, .int v24]) (kX6_endY (kx_l X) Y ma m_now m_sav m_sc m_err m_shf m_stp m_que m_qd m_qx m_qy m_met m_per m_row m_det m_h v14 hc29) gX6_ring_X6_endY rfl 1 rfl hdV_X6_endY ⟨rfl, rfl⟩ ⟨by decide, by decide⟩ ⟨Nat.zero_le _, Nat.zero_le _⟩ rfl (Nat.le_of_ble_eq_true rfl) [0] (by decide) rfl (kfc rfl kfn0) (gs1 := [gM Y ma m_now m_sav m_sc m_err m_shf m_stp m_que m_qd m_qx m_qy m_met m_per m_row m_det m_h]) rfl 0 6 rfl rfl rfl dX6_ring_84 ?_
        obtain ⟨v30, hc31, h⟩ := kb_some h
        refine kw_callS_I hX 87 (As := [.int v24, .int v26, .int v28]) (rest := []) (kX6_node (kx_l X) Y v24 v26 v28 hc31) gX6_ring_X6_node rfl 3 rfl hdS_X6_node ⟨rfl, rfl⟩ ⟨by decide, by decide⟩ ⟨Nat.zero_le _, Nat.zero_le _⟩ rfl (Nat.le_of_ble_eq_true rfl) [] (by decide) rfl kfn0 (gs1 := [gM Y ma m_now m_sav m_sc m_err m_shf m_stp m_que m_qd m_qx m_qy m_met m_per m_row m_det m_h]) rfl dX6_ring_87 ?_
        refine kw_istore (lv' := [(7, .int v30), (6, .int v22), (5, .int v14), (4, .int v12), (0, .ref (ma 0)), (1, .int a1), (2, .int a2), (3, .int a3)]) hX 90 dX6_ring_90 (by decide) rfl ?_
        refine kw_iload hX 92 dX6_ring_92 1 rfl ?_
        refine kw_iload hX 94 dX6_ring_94 0 rfl ?_
        refine kw_icmp_ne hX 96 101 dX6_ring_96 (by decide) (fun c32 => ?_) (fun c32 => ?_)
        · have h := kif_f c32 h
          refine kw_aload_n hX 101 dX6_ring_101 rfl 4 rfl ?_
          refine kw_iload hX 102 dX6_ring_102 1 rfl ?_
          refine kw_iload_n hX 104 dX6_ring_104 rfl 5 rfl ?_
          refine kw_iconst hX 105 dX6_ring_105 kci_0 ?_
          refine kw_iconst hX 106 dX6_ring_106 kci_0 ?_
          obtain ⟨v33, hc34, h⟩ := kb_some h
          refine kw_callS_I hX 107 (As := [.int a1, .int 0, .int 0]) (rest := [.int v22, .ref (ma 0)]) (kX6_node (kx_l X) Y a1 0 0 hc34) gX6_ring_X6_node rfl 3 rfl hdS_X6_node ⟨rfl, rfl⟩ ⟨by decide, by decide⟩ ⟨Nat.zero_le _, Nat.zero_le _⟩ rfl (Nat.le_of_ble_eq_true rfl) [] (by decide) rfl kfn0 (gs1 := [gM Y ma m_now m_sav m_sc m_err m_shf m_stp m_que m_qd m_qx m_qy m_met m_per m_row m_det m_h]) rfl dX6_ring_107 ?_
          refine kw_bipush hX 110 dX6_ring_110 kcb_10 ?_
          obtain ⟨v35, hc36, h⟩ := kb_some h
          refine kw_callV_V hX 112 (As := [.int v22, .int v33, .int 10]) (rest := []) (kX6_search (kx_l X) Y ma m_now m_sav m_sc m_err m_shf m_stp m_que m_qd m_qx m_qy m_met m_per m_row m_det m_h v22 v33 10 hc36) gX6_ring_X6_search rfl 3 rfl hdV_X6_search ⟨rfl, rfl⟩ ⟨by decide, by decide⟩ ⟨Nat.zero_le _, Nat.zero_le _⟩ rfl (Nat.le_of_ble_eq_true rfl) [0] (by decide) rfl (kfc gM_f kfn0) (gs1 := [gM Y ma m_now m_sav m_sc m_err m_shf v35.1 v35.2.1 v35.2.2 m_qx m_qy m_met m_per m_row m_det m_h]) rfl 0 6 rfl rfl rfl dX6_ring_112 ?_
          refine kw_aload_n hX 115 dX6_ring_115 rfl 4 rfl ?_
          refine kw_get hX 116 (C := RX6) (T := TX6) (N := 15) hin6 5 f0 (fun _ h => h) 0 rfl rfl (by decide) rfl dX6_ring_116 ?_
          refine kw_iload hX 119 dX6_ring_119 0 rfl ?_
          obtain ⟨g37, h⟩ := kgd_some h
          refine kw_iald hX 121 5 rfl g37 dX6_ring_121 ?_
          refine kw_iconst hX 122 dX6_ring_122 kci_m1 ?_
          refine kw_icmp_ne hX 123 130 dX6_ring_123 (by decide) (fun c38 => ?_) (fun c38 => ?_)
          · have h := kif_f c38 h
            refine kw_aload_n hX 130 dX6_ring_130 rfl 4 rfl ?_
            refine kw_get hX 131 (C := RX6) (T := TX6) (N := 15) hin6 5 f0 (fun _ h => h) 0 rfl rfl (by decide) rfl dX6_ring_131 ?_
            refine kw_iload hX 134 dX6_ring_134 0 rfl ?_
            obtain ⟨g39, h⟩ := kgd_some h
            refine kw_iald hX 136 5 rfl g39 dX6_ring_136 ?_
            refine kw_iconst hX 137 dX6_ring_137 kci_2 ?_
            refine kw_iadd hX 138 dX6_ring_138 ?_
            obtain rfl := Option.some.inj h
            exact hret _ _ dX6_ring_139 rfl
          · have h := kif_t c38 h
            refine kw_iconst hX 126 dX6_ring_126 kci_m1 ?_
            refine kw_goto hX 127 139 dX6_ring_127 (by decide) ?_
            obtain rfl := Option.some.inj h
            exact hret _ _ dX6_ring_139 rfl
        · have h := kif_t c32 h
          refine kw_iconst hX 99 dX6_ring_99 kci_m1 ?_
          obtain rfl := Option.some.inj h
          exact hret _ _ dX6_ring_100 rfl
      · have h := kif_t c11 h
        refine kw_aload_n hX 23 dX6_ring_23 rfl 0 rfl ?_
        refine kw_bipush hX 24 dX6_ring_24 kcb_m2 ?_
        obtain ⟨v40, hc41, h⟩ := kb_some h
        refine kw_callV_I hX 26 (As := [.int (-2)]) (rest := []) (kX6_error (kx_l X) Y ma m_now m_sav m_sc m_err m_shf m_stp m_que m_qd m_qx m_qy m_met m_per m_row m_det m_h (-2) hc41) gX6_ring_X6_error rfl 1 rfl hdV_X6_error ⟨rfl, rfl⟩ ⟨by decide, by decide⟩ ⟨Nat.zero_le _, Nat.zero_le _⟩ rfl (Nat.le_of_ble_eq_true rfl) [0] (by decide) rfl (kfc gM_f kfn0) (gs1 := [gM Y ma m_now m_sav m_sc v40.2 m_shf m_stp m_que m_qd m_qx m_qy m_met m_per m_row m_det m_h]) rfl 0 6 rfl rfl rfl dX6_ring_26 ?_
        obtain rfl := Option.some.inj h
        exact hret _ _ dX6_ring_29 rfl
def pX6_spread_L2 : Nat → Int32 → Int32 → (Nat → Int32) → Option (Int32 × (Nat → Int32))
  | 0, _, _, _ => none
  | n + 1, l1, l2, z_m_met => (if (6 : Int32) ≤ l2 then some (l2, z_m_met) else kb ((if l2 = l1 then some 1 else some 0) : Option (Int32)) (fun v3 => kgd (kin l2 6) (pX6_spread_L2 n l1 (l2 + 1) (upd z_m_met (l2 : Int32).toNatClampNeg (vp_nar .boolean v3)))))
def pX6_spread_L54 : Nat → Int32 → Int32 → (Nat → Int32) → (Nat → Int32) → (Nat → Int32) → (Nat → Int32) → Option (Int32 × (Nat → Int32) × (Nat → Int32) × (Nat → Int32))
  | 0, _, _, _, _, _, _ => none
  | n + 1, l2, l3, z_m_now, z_m_qx, z_m_qy, z_m_met => kgd (kin 1 50) ((if (2 * (z_m_now (1 : Int32).toNatClampNeg)) ≤ l3 then some (l3, z_m_qx, z_m_qy, z_m_met) else kgd (decide (¬ (2 : Int32) = 0)) (kgd (decide (¬ (2 : Int32) = 0)) (kb (pX6_of (l3 / 2) (l3 - l3 / 2 * 2) z_m_now) (fun v16 => kb (pX6_leadsTo l3 z_m_now) (fun v18 => kgd (kin v16 6) (kb ((if (z_m_met (v16 : Int32).toNatClampNeg) = 0 then some (z_m_qx, z_m_qy, z_m_met) else kgd (kin v18 6) ((if (z_m_met (v18 : Int32).toNatClampNeg) = 0 then kgd (kin v18 6) (kgd (kin v16 6) (kb (pX6_endX l3 z_m_now) (fun v26 => kgd (kin v18 6) (kgd (kin v16 6) (kb (pX6_endY l3 z_m_now) (fun v30 => kgd (kin v18 6) (some ((upd z_m_qx (v18 : Int32).toNatClampNeg ((z_m_qx (v16 : Int32).toNatClampNeg) + v26)), (upd z_m_qy (v18 : Int32).toNatClampNeg ((z_m_qy (v16 : Int32).toNatClampNeg) + v30)), (upd z_m_met (v18 : Int32).toNatClampNeg (vp_nar .boolean 1)))))))))) else some (z_m_qx, z_m_qy, z_m_met)))) : Option ((Nat → Int32) × (Nat → Int32) × (Nat → Int32))) (fun v33 => pX6_spread_L54 n l2 (l3 + 1) z_m_now v33.1 v33.2.1 v33.2.2))))))))
def pX6_spread_L46 : Nat → Int32 → (Nat → Int32) → (Nat → Int32) → (Nat → Int32) → (Nat → Int32) → Option (Int32 × (Nat → Int32) × (Nat → Int32) × (Nat → Int32))
  | 0, _, _, _, _, _ => none
  | n + 1, l2, z_m_now, z_m_qx, z_m_qy, z_m_met => (if (6 : Int32) ≤ l2 then some (l2, z_m_qx, z_m_qy, z_m_met) else kb (pX6_spread_L54 KF l2 0 z_m_now z_m_qx z_m_qy z_m_met) (fun v36 => pX6_spread_L46 n (l2 + 1) z_m_now v36.2.1 v36.2.2.1 v36.2.2.2))
def pX6_spread (a1 : Int32) (m_now : Nat → Int32) (m_qx : Nat → Int32) (m_qy : Nat → Int32) (m_met : Nat → Int32) : Option ((Nat → Int32) × (Nat → Int32) × (Nat → Int32)) := kb (pX6_spread_L2 KF a1 0 m_met) (fun v7 => kgd (kin a1 6) (kgd (kin a1 6) (kb (pX6_spread_L46 KF 0 m_now (upd m_qx (a1 : Int32).toNatClampNeg 0) (upd m_qy (a1 : Int32).toNatClampNeg 0) v7.2) (fun v38 => some (v38.2.1, v38.2.2.1, v38.2.2.2)))))
def rmX6_spread : Room := { frames := 2, cells := 0, slots := 0, locals := 43 }
theorem hdV_X6_spread : yX6_spread.cls = RX6 ∧ yX6_spread.cls ≠ "java/lang/invoke/MethodHandle" ∧ yX6_spread.cls ≠ "java/lang/invoke/VarHandle" ∧ (parseMethodDescriptor yX6_spread.desc).map (fun d => d.parameters.length) = some 1 := ⟨rfl, by decide +kernel, by decide +kernel, by decide +kernel⟩
set_option maxHeartbeats 4000000 in
set_option maxRecDepth 100000 in
theorem kX6_spread (l : Launch) (Y : KY) (ma : Nat → Nat) (m_now : Nat → Int32) (m_sav : Nat → Int32) (m_sc : Int32) (m_err : Nat → Int32) (m_shf : Nat → Int32) (m_stp : Nat → Int32) (m_que : Nat → Int32) (m_qd : Int32) (m_qx : Nat → Int32) (m_qy : Nat → Int32) (m_met : Nat → Int32) (m_per : Nat → Int32) (m_row : Nat → Int64) (m_det : Int64) (m_h : Int64) (a1 : Int32) {o : (Nat → Int32) × (Nat → Int32) × (Nat → Int32)} (h : pX6_spread a1 m_now m_qx m_qy m_met = some o) : CtV l yX6_spread wsX6_spread rmX6_spread Y [.ref (ma 0), .int a1] (kfl [gM Y ma m_now m_sav m_sc m_err m_shf m_stp m_que m_qd m_qx m_qy m_met m_per m_row m_det m_h]) (kfl [gM Y ma m_now m_sav m_sc m_err m_shf m_stp m_que m_qd o.1 o.2.1 o.2.2 m_per m_row m_det m_h]) := by
  refine ctV_intro (cc := cX6_spread) (maxL := 6) (own := RX6) (by decide +kernel) rfl rfl (Nat.le_of_ble_eq_true rfl) rfl ?_
  intro X A hX _ hret
  have hin6 : ∀ w ∈ u_ws RX6 TX6 15, w ∈ wsX6_spread := by decide +kernel
  have f0 := hX.w (Cond.fieldLink RX6 34 "PeriodicNetModel" "met" "[Z") (by decide +kernel)
  have f1 := hX.w (Cond.fieldLink RX6 28 "PeriodicNetModel" "potentialX" "[I") (by decide +kernel)
  have f2 := hX.w (Cond.fieldLink RX6 31 "PeriodicNetModel" "potentialY" "[I") (by decide +kernel)
  have f3 := hX.w (Cond.fieldLink RX6 7 "PeriodicNetModel" "now" "[I") (by decide +kernel)
  have L2 : ∀ (n : Nat) (l1 : Int32) (l2 : Int32) (z_m_now : Nat → Int32) (z_m_sav : Nat → Int32) (z_m_sc : Int32) (z_m_err : Nat → Int32) (z_m_shf : Nat → Int32) (z_m_stp : Nat → Int32) (z_m_que : Nat → Int32) (z_m_qd : Int32) (z_m_qx : Nat → Int32) (z_m_qy : Nat → Int32) (z_m_met : Nat → Int32) (z_m_per : Nat → Int32) (z_m_row : Nat → Int64) (z_m_det : Int64) (z_m_h : Int64) (o : Int32 × (Nat → Int32)), pX6_spread_L2 n l1 l2 z_m_met = some o → KW X Y A 6 0 0 (kfl [gM Y ma z_m_now z_m_sav z_m_sc z_m_err z_m_shf z_m_stp z_m_que z_m_qd z_m_qx z_m_qy o.2 z_m_per z_m_row z_m_det z_m_h]) [(0, .ref (ma 0)), (1, .int l1), (2, .int o.1)] 30 [] → KW X Y A 6 0 0 (kfl [gM Y ma z_m_now z_m_sav z_m_sc z_m_err z_m_shf z_m_stp z_m_que z_m_qd z_m_qx z_m_qy z_m_met z_m_per z_m_row z_m_det z_m_h]) [(0, .ref (ma 0)), (1, .int l1), (2, .int l2)] 2 [] := by
    intro n
    induction n with
    | zero => intro l1 l2 z_m_now z_m_sav z_m_sc z_m_err z_m_shf z_m_stp z_m_que z_m_qd z_m_qx z_m_qy z_m_met z_m_per z_m_row z_m_det z_m_h o h; cases h
    | succ n ih =>
      intro l1 l2 z_m_now z_m_sav z_m_sc z_m_err z_m_shf z_m_stp z_m_que z_m_qd z_m_qx z_m_qy z_m_met z_m_per z_m_row z_m_det z_m_h o h hK
      rw [pX6_spread_L2] at h
      refine kw_iload_n hX 2 dX6_spread_2 rfl 2 rfl ?_
      refine kw_bipush hX 3 dX6_spread_3 kcb_6 ?_
      refine kw_icmp_ge hX 5 30 dX6_spread_5 (by decide) (fun c1 => ?_) (fun c1 => ?_)
      · have h := kif_t c1 h
        obtain rfl := Option.some.inj h
        refine kw_lv (lv' := [(0, .ref (ma 0)), (1, .int l1), (2, .int l2)]) [0, 1, 2] rfl ?_
        exact hK
      · have h := kif_f c1 h
        refine kw_aload_n hX 8 dX6_spread_8 rfl 0 rfl ?_
        refine kw_get hX 9 (C := RX6) (T := TX6) (N := 15) hin6 10 f0 (fun _ h => h) 0 rfl rfl (by decide) rfl dX6_spread_9 ?_
        refine kw_iload_n hX 12 dX6_spread_12 rfl 2 rfl ?_
        refine kw_iload_n hX 13 dX6_spread_13 rfl 2 rfl ?_
        refine kw_iload_n hX 14 dX6_spread_14 rfl 1 rfl ?_
        obtain ⟨v3, hj6, h⟩ := kb_some h
        have J4 : KW X Y A 6 0 0 (kfl [gM Y ma z_m_now z_m_sav z_m_sc z_m_err z_m_shf z_m_stp z_m_que z_m_qd z_m_qx z_m_qy z_m_met z_m_per z_m_row z_m_det z_m_h]) [(0, .ref (ma 0)), (1, .int l1), (2, .int l2)] 23 [.int v3, .int l2, .ref (ma 9)] := by
          obtain ⟨g5, h⟩ := kgd_some h
          refine kw_zast hX 23 (ws' := (kfl [gM Y ma z_m_now z_m_sav z_m_sc z_m_err z_m_shf z_m_stp z_m_que z_m_qd z_m_qx z_m_qy (upd z_m_met (l2 : Int32).toNatClampNeg (vp_nar .boolean v3)) z_m_per z_m_row z_m_det z_m_h])) 9 rfl g5 rfl dX6_spread_23 ?_
          refine kw_iinc (v := (l2 + 1)) (lv' := [(2, .int (l2 + 1)), (0, .ref (ma 0)), (1, .int l1)]) hX 24 dX6_spread_24 2 rfl (kinc_1 _) (by decide) rfl ?_
          refine kw_goto hX 27 2 dX6_spread_27 (by decide) ?_
          refine kw_lv (lv' := [(0, .ref (ma 0)), (1, .int l1), (2, .int (l2 + 1))]) [1, 2, 0] rfl ?_
          exact ih l1 (l2 + 1) z_m_now z_m_sav z_m_sc z_m_err z_m_shf z_m_stp z_m_que z_m_qd z_m_qx z_m_qy (upd z_m_met (l2 : Int32).toNatClampNeg (vp_nar .boolean v3)) z_m_per z_m_row z_m_det z_m_h o h hK
        have h := hj6
        refine kw_icmp_ne hX 15 22 dX6_spread_15 (by decide) (fun c2 => ?_) (fun c2 => ?_)
        · have h := kif_f c2 h
          refine kw_iconst hX 22 dX6_spread_22 kci_0 ?_
          obtain rfl := Option.some.inj h
          refine kw_lv (lv' := [(0, .ref (ma 0)), (1, .int l1), (2, .int l2)]) [0, 1, 2] rfl ?_
          exact J4
        · have h := kif_t c2 h
          refine kw_iconst hX 18 dX6_spread_18 kci_1 ?_
          refine kw_goto hX 19 23 dX6_spread_19 (by decide) ?_
          obtain rfl := Option.some.inj h
          refine kw_lv (lv' := [(0, .ref (ma 0)), (1, .int l1), (2, .int l2)]) [0, 1, 2] rfl ?_
          exact J4
  have L54 : ∀ (n : Nat) (l2 : Int32) (l3 : Int32) (z_m_now : Nat → Int32) (z_m_sav : Nat → Int32) (z_m_sc : Int32) (z_m_err : Nat → Int32) (z_m_shf : Nat → Int32) (z_m_stp : Nat → Int32) (z_m_que : Nat → Int32) (z_m_qd : Int32) (z_m_qx : Nat → Int32) (z_m_qy : Nat → Int32) (z_m_met : Nat → Int32) (z_m_per : Nat → Int32) (z_m_row : Nat → Int64) (z_m_det : Int64) (z_m_h : Int64) (o : Int32 × (Nat → Int32) × (Nat → Int32) × (Nat → Int32)), pX6_spread_L54 n l2 l3 z_m_now z_m_qx z_m_qy z_m_met = some o → KW X Y A 6 0 0 (kfl [gM Y ma z_m_now z_m_sav z_m_sc z_m_err z_m_shf z_m_stp z_m_que z_m_qd o.2.1 o.2.2.1 o.2.2.2 z_m_per z_m_row z_m_det z_m_h]) [(0, .ref (ma 0)), (2, .int l2), (3, .int o.1)] 159 [] → KW X Y A 6 0 0 (kfl [gM Y ma z_m_now z_m_sav z_m_sc z_m_err z_m_shf z_m_stp z_m_que z_m_qd z_m_qx z_m_qy z_m_met z_m_per z_m_row z_m_det z_m_h]) [(0, .ref (ma 0)), (2, .int l2), (3, .int l3)] 54 [] := by
    intro n
    induction n with
    | zero => intro l2 l3 z_m_now z_m_sav z_m_sc z_m_err z_m_shf z_m_stp z_m_que z_m_qd z_m_qx z_m_qy z_m_met z_m_per z_m_row z_m_det z_m_h o h; cases h
    | succ n ih =>
      intro l2 l3 z_m_now z_m_sav z_m_sc z_m_err z_m_shf z_m_stp z_m_que z_m_qd z_m_qx z_m_qy z_m_met z_m_per z_m_row z_m_det z_m_h o h hK
      rw [pX6_spread_L54] at h
      refine kw_iload_n hX 54 dX6_spread_54 rfl 2 rfl ?_
      refine kw_iconst hX 55 dX6_spread_55 kci_2 ?_
      refine kw_aload_n hX 56 dX6_spread_56 rfl 0 rfl ?_
      refine kw_get hX 57 (C := RX6) (T := TX6) (N := 15) hin6 0 f3 (fun _ h => h) 0 rfl rfl (by decide) rfl dX6_spread_57 ?_
      refine kw_iconst hX 60 dX6_spread_60 kci_1 ?_
      obtain ⟨g12, h⟩ := kgd_some h
      refine kw_iald hX 61 1 rfl g12 dX6_spread_61 ?_
      refine kw_imul hX 62 dX6_spread_62 ?_
      refine kw_icmp_ge hX 63 159 dX6_spread_63 (by decide) (fun c13 => ?_) (fun c13 => ?_)
      · have h := kif_t c13 h
        obtain rfl := Option.some.inj h
        refine kw_lv (lv' := [(0, .ref (ma 0)), (2, .int l2), (3, .int l3)]) [0, 1, 2] rfl ?_
        exact hK
      · have h := kif_f c13 h
        refine kw_aload_n hX 66 dX6_spread_66 rfl 0 rfl ?_
        refine kw_iload_n hX 67 dX6_spread_67 rfl 2 rfl ?_
        refine kw_iconst hX 68 dX6_spread_68 kci_2 ?_
        obtain ⟨g14, h⟩ := kgd_some h
        refine kw_idiv hX 69 dX6_spread_69 (of_decide_eq_true g14) ?_
        refine kw_iload_n hX 70 dX6_spread_70 rfl 2 rfl ?_
        refine kw_iconst hX 71 dX6_spread_71 kci_2 ?_
        obtain ⟨g15, h⟩ := kgd_some h
        refine kw_irem hX 72 dX6_spread_72 (of_decide_eq_true g15) ?_
        obtain ⟨v16, hc17, h⟩ := kb_some h
        refine kw_callV_I hX 73 (As := [.int (l3 / 2), .int (l3 - l3 / 2 * 2)]) (rest := []) (kX6_of (kx_l X) Y ma z_m_now z_m_sav z_m_sc z_m_err z_m_shf z_m_stp z_m_que z_m_qd z_m_qx z_m_qy z_m_met z_m_per z_m_row z_m_det z_m_h (l3 / 2) (l3 - l3 / 2 * 2) hc17) gX6_spread_X6_of rfl 2 rfl hdV_X6_of ⟨rfl, rfl⟩ ⟨by decide, by decide⟩ ⟨Nat.zero_le _, Nat.zero_le _⟩ rfl (Nat.le_of_ble_eq_true rfl) [0] (by decide) rfl (kfc rfl kfn0) (gs1 := [gM Y ma z_m_now z_m_sav z_m_sc z_m_err z_m_shf z_m_stp z_m_que z_m_qd z_m_qx z_m_qy z_m_met z_m_per z_m_row z_m_det z_m_h]) rfl 0 6 rfl rfl rfl dX6_spread_73 ?_
        refine kw_istore (lv' := [(4, .int v16), (0, .ref (ma 0)), (2, .int l2), (3, .int l3)]) hX 76 dX6_spread_76 (by decide) rfl ?_
        refine kw_aload_n hX 78 dX6_spread_78 rfl 1 rfl ?_
        refine kw_iload_n hX 79 dX6_spread_79 rfl 3 rfl ?_
        obtain ⟨v18, hc19, h⟩ := kb_some h
        refine kw_callV_I hX 80 (As := [.int l3]) (rest := []) (kX6_leadsTo (kx_l X) Y ma z_m_now z_m_sav z_m_sc z_m_err z_m_shf z_m_stp z_m_que z_m_qd z_m_qx z_m_qy z_m_met z_m_per z_m_row z_m_det z_m_h l3 hc19) gX6_spread_X6_leadsTo rfl 1 rfl hdV_X6_leadsTo ⟨rfl, rfl⟩ ⟨by decide, by decide⟩ ⟨Nat.zero_le _, Nat.zero_le _⟩ rfl (Nat.le_of_ble_eq_true rfl) [0] (by decide) rfl (kfc rfl kfn0) (gs1 := [gM Y ma z_m_now z_m_sav z_m_sc z_m_err z_m_shf z_m_stp z_m_que z_m_qd z_m_qx z_m_qy z_m_met z_m_per z_m_row z_m_det z_m_h]) rfl 0 6 rfl rfl rfl dX6_spread_80 ?_
        refine kw_istore (lv' := [(5, .int v18), (4, .int v16), (0, .ref (ma 0)), (2, .int l2), (3, .int l3)]) hX 83 dX6_spread_83 (by decide) rfl ?_
        refine kw_aload_n hX 85 dX6_spread_85 rfl 2 rfl ?_
        refine kw_get hX 86 (C := RX6) (T := TX6) (N := 15) hin6 10 f0 (fun _ h => h) 0 rfl rfl (by decide) rfl dX6_spread_86 ?_
        refine kw_iload hX 89 dX6_spread_89 1 rfl ?_
        obtain ⟨g20, h⟩ := kgd_some h
        refine kw_zald hX 91 9 rfl g20 dX6_spread_91 ?_
        obtain ⟨v33, hj35, h⟩ := kb_some h
        have J34 : KW X Y A 6 0 0 (kfl [gM Y ma z_m_now z_m_sav z_m_sc z_m_err z_m_shf z_m_stp z_m_que z_m_qd v33.1 v33.2.1 v33.2.2 z_m_per z_m_row z_m_det z_m_h]) [(0, .ref (ma 0)), (2, .int l2), (3, .int l3)] 153 [] := by
          refine kw_iinc (v := (l3 + 1)) (lv' := [(3, .int (l3 + 1)), (0, .ref (ma 0)), (2, .int l2)]) hX 153 dX6_spread_153 2 rfl (kinc_1 _) (by decide) rfl ?_
          refine kw_goto hX 156 54 dX6_spread_156 (by decide) ?_
          refine kw_lv (lv' := [(0, .ref (ma 0)), (2, .int l2), (3, .int (l3 + 1))]) [1, 2, 0] rfl ?_
          exact ih l2 (l3 + 1) z_m_now z_m_sav z_m_sc z_m_err z_m_shf z_m_stp z_m_que z_m_qd v33.1 v33.2.1 v33.2.2 z_m_per z_m_row z_m_det z_m_h o h hK
        have h := hj35
        refine kw_if_eq hX 92 153 dX6_spread_92 (by decide) (fun c21 => ?_) (fun c21 => ?_)
        · have h := kif_t c21 h
          obtain rfl := Option.some.inj h
          refine kw_lv (lv' := [(0, .ref (ma 0)), (2, .int l2), (3, .int l3)]) [2, 3, 4] rfl ?_
          exact J34
        · have h := kif_f c21 h
          refine kw_aload_n hX 95 dX6_spread_95 rfl 2 rfl ?_
          refine kw_get hX 96 (C := RX6) (T := TX6) (N := 15) hin6 10 f0 (fun _ h => h) 0 rfl rfl (by decide) rfl dX6_spread_96 ?_
          refine kw_iload hX 99 dX6_spread_99 0 rfl ?_
          obtain ⟨g22, h⟩ := kgd_some h
          refine kw_zald hX 101 9 rfl g22 dX6_spread_101 ?_
          refine kw_if_ne hX 102 153 dX6_spread_102 (by decide) (fun c23 => ?_) (fun c23 => ?_)
          · have h := kif_f c23 h
            obtain rfl := Option.some.inj h
            refine kw_lv (lv' := [(0, .ref (ma 0)), (2, .int l2), (3, .int l3)]) [2, 3, 4] rfl ?_
            exact J34
          · have h := kif_t c23 h
            refine kw_aload_n hX 105 dX6_spread_105 rfl 2 rfl ?_
            refine kw_get hX 106 (C := RX6) (T := TX6) (N := 15) hin6 10 f0 (fun _ h => h) 0 rfl rfl (by decide) rfl dX6_spread_106 ?_
            refine kw_iload hX 109 dX6_spread_109 0 rfl ?_
            refine kw_iconst hX 111 dX6_spread_111 kci_1 ?_
            obtain ⟨g24, h⟩ := kgd_some h
            refine kw_zast hX 112 (ws' := (kfl [gM Y ma z_m_now z_m_sav z_m_sc z_m_err z_m_shf z_m_stp z_m_que z_m_qd z_m_qx z_m_qy (upd z_m_met (v18 : Int32).toNatClampNeg (vp_nar .boolean 1)) z_m_per z_m_row z_m_det z_m_h])) 9 rfl g24 rfl dX6_spread_112 ?_
            refine kw_aload_n hX 113 dX6_spread_113 rfl 2 rfl ?_
            refine kw_get hX 114 (C := RX6) (T := TX6) (N := 15) hin6 8 f1 (fun _ h => h) 0 rfl rfl (by decide) rfl dX6_spread_114 ?_
            refine kw_iload hX 117 dX6_spread_117 0 rfl ?_
            refine kw_aload_n hX 119 dX6_spread_119 rfl 2 rfl ?_
            refine kw_get hX 120 (C := RX6) (T := TX6) (N := 15) hin6 8 f1 (fun _ h => h) 0 rfl rfl (by decide) rfl dX6_spread_120 ?_
            refine kw_iload hX 123 dX6_spread_123 1 rfl ?_
            obtain ⟨g25, h⟩ := kgd_some h
            refine kw_iald hX 125 7 rfl g25 dX6_spread_125 ?_
            refine kw_aload_n hX 126 dX6_spread_126 rfl 2 rfl ?_
            refine kw_iload_n hX 127 dX6_spread_127 rfl 4 rfl ?_
            obtain ⟨v26, hc27, h⟩ := kb_some h
            refine kw_callV_I hX 128 (As := [.int l3]) (rest := [.int (z_m_qx (v16 : Int32).toNatClampNeg), .int v18, .ref (ma 7)]) (kX6_endX (kx_l X) Y ma z_m_now z_m_sav z_m_sc z_m_err z_m_shf z_m_stp z_m_que z_m_qd z_m_qx z_m_qy (upd z_m_met (v18 : Int32).toNatClampNeg (vp_nar .boolean 1)) z_m_per z_m_row z_m_det z_m_h l3 hc27) gX6_spread_X6_endX rfl 1 rfl hdV_X6_endX ⟨rfl, rfl⟩ ⟨by decide, by decide⟩ ⟨Nat.zero_le _, Nat.zero_le _⟩ rfl (Nat.le_of_ble_eq_true rfl) [0] (by decide) rfl (kfc rfl kfn0) (gs1 := [gM Y ma z_m_now z_m_sav z_m_sc z_m_err z_m_shf z_m_stp z_m_que z_m_qd z_m_qx z_m_qy (upd z_m_met (v18 : Int32).toNatClampNeg (vp_nar .boolean 1)) z_m_per z_m_row z_m_det z_m_h]) rfl 0 6 rfl rfl rfl dX6_spread_128 ?_
            refine kw_iadd hX 131 dX6_spread_131 ?_
            obtain ⟨g28, h⟩ := kgd_some h
            refine kw_iast hX 132 (ws' := (kfl [gM Y ma z_m_now z_m_sav z_m_sc z_m_err z_m_shf z_m_stp z_m_que z_m_qd (upd z_m_qx (v18 : Int32).toNatClampNeg ((z_m_qx (v16 : Int32).toNatClampNeg) + v26)) z_m_qy (upd z_m_met (v18 : Int32).toNatClampNeg (vp_nar .boolean 1)) z_m_per z_m_row z_m_det z_m_h])) 7 rfl g28 rfl dX6_spread_132 ?_
            refine kw_aload_n hX 133 dX6_spread_133 rfl 2 rfl ?_
            refine kw_get hX 134 (C := RX6) (T := TX6) (N := 15) hin6 9 f2 (fun _ h => h) 0 rfl rfl (by decide) rfl dX6_spread_134 ?_
            refine kw_iload hX 137 dX6_spread_137 0 rfl ?_
            refine kw_aload_n hX 139 dX6_spread_139 rfl 2 rfl ?_
            refine kw_get hX 140 (C := RX6) (T := TX6) (N := 15) hin6 9 f2 (fun _ h => h) 0 rfl rfl (by decide) rfl dX6_spread_140 ?_
            refine kw_iload hX 143 dX6_spread_143 1 rfl ?_
            obtain ⟨g29, h⟩ := kgd_some h
            refine kw_iald hX 145 8 rfl g29 dX6_spread_145 ?_
            refine kw_aload_n hX 146 dX6_spread_146 rfl 2 rfl ?_
            refine kw_iload_n hX 147 dX6_spread_147 rfl 4 rfl ?_
            obtain ⟨v30, hc31, h⟩ := kb_some h
            refine kw_callV_I hX 148 (As := [.int l3]) (rest := [.int (z_m_qy (v16 : Int32).toNatClampNeg), .int v18, .ref (ma 8)]) (kX6_endY (kx_l X) Y ma z_m_now z_m_sav z_m_sc z_m_err z_m_shf z_m_stp z_m_que z_m_qd (upd z_m_qx (v18 : Int32).toNatClampNeg ((z_m_qx (v16 : Int32).toNatClampNeg) + v26)) z_m_qy (upd z_m_met (v18 : Int32).toNatClampNeg (vp_nar .boolean 1)) z_m_per z_m_row z_m_det z_m_h l3 hc31) gX6_spread_X6_endY rfl 1 rfl hdV_X6_endY ⟨rfl, rfl⟩ ⟨by decide, by decide⟩ ⟨Nat.zero_le _, Nat.zero_le _⟩ rfl (Nat.le_of_ble_eq_true rfl) [0] (by decide) rfl (kfc rfl kfn0) (gs1 := [gM Y ma z_m_now z_m_sav z_m_sc z_m_err z_m_shf z_m_stp z_m_que z_m_qd (upd z_m_qx (v18 : Int32).toNatClampNeg ((z_m_qx (v16 : Int32).toNatClampNeg) + v26)) z_m_qy (upd z_m_met (v18 : Int32).toNatClampNeg (vp_nar .boolean 1)) z_m_per z_m_row z_m_det z_m_h]) rfl 0 6 rfl rfl rfl dX6_spread_148 ?_
            refine kw_iadd hX 151 dX6_spread_151 ?_
            obtain ⟨g32, h⟩ := kgd_some h
            refine kw_iast hX 152 (ws' := (kfl [gM Y ma z_m_now z_m_sav z_m_sc z_m_err z_m_shf z_m_stp z_m_que z_m_qd (upd z_m_qx (v18 : Int32).toNatClampNeg ((z_m_qx (v16 : Int32).toNatClampNeg) + v26)) (upd z_m_qy (v18 : Int32).toNatClampNeg ((z_m_qy (v16 : Int32).toNatClampNeg) + v30)) (upd z_m_met (v18 : Int32).toNatClampNeg (vp_nar .boolean 1)) z_m_per z_m_row z_m_det z_m_h])) 8 rfl g32 rfl dX6_spread_152 ?_
            obtain rfl := Option.some.inj h
            refine kw_lv (lv' := [(0, .ref (ma 0)), (2, .int l2), (3, .int l3)]) [2, 3, 4] rfl ?_
            exact J34
  have L46 : ∀ (n : Nat) (l2 : Int32) (z_m_now : Nat → Int32) (z_m_sav : Nat → Int32) (z_m_sc : Int32) (z_m_err : Nat → Int32) (z_m_shf : Nat → Int32) (z_m_stp : Nat → Int32) (z_m_que : Nat → Int32) (z_m_qd : Int32) (z_m_qx : Nat → Int32) (z_m_qy : Nat → Int32) (z_m_met : Nat → Int32) (z_m_per : Nat → Int32) (z_m_row : Nat → Int64) (z_m_det : Int64) (z_m_h : Int64) (o : Int32 × (Nat → Int32) × (Nat → Int32) × (Nat → Int32)), pX6_spread_L46 n l2 z_m_now z_m_qx z_m_qy z_m_met = some o → KW X Y A 6 0 0 (kfl [gM Y ma z_m_now z_m_sav z_m_sc z_m_err z_m_shf z_m_stp z_m_que z_m_qd o.2.1 o.2.2.1 o.2.2.2 z_m_per z_m_row z_m_det z_m_h]) [(0, .ref (ma 0)), (2, .int o.1)] 165 [] → KW X Y A 6 0 0 (kfl [gM Y ma z_m_now z_m_sav z_m_sc z_m_err z_m_shf z_m_stp z_m_que z_m_qd z_m_qx z_m_qy z_m_met z_m_per z_m_row z_m_det z_m_h]) [(0, .ref (ma 0)), (2, .int l2)] 46 [] := by
    intro n
    induction n with
    | zero => intro l2 z_m_now z_m_sav z_m_sc z_m_err z_m_shf z_m_stp z_m_que z_m_qd z_m_qx z_m_qy z_m_met z_m_per z_m_row z_m_det z_m_h o h; cases h
    | succ n ih =>
      intro l2 z_m_now z_m_sav z_m_sc z_m_err z_m_shf z_m_stp z_m_que z_m_qd z_m_qx z_m_qy z_m_met z_m_per z_m_row z_m_det z_m_h o h hK
      rw [pX6_spread_L46] at h
      refine kw_iload_n hX 46 dX6_spread_46 rfl 1 rfl ?_
      refine kw_bipush hX 47 dX6_spread_47 kcb_6 ?_
      refine kw_icmp_ge hX 49 165 dX6_spread_49 (by decide) (fun c11 => ?_) (fun c11 => ?_)
      · have h := kif_t c11 h
        obtain rfl := Option.some.inj h
        refine kw_lv (lv' := [(0, .ref (ma 0)), (2, .int l2)]) [0, 1] rfl ?_
        exact hK
      · have h := kif_f c11 h
        refine kw_iconst hX 52 dX6_spread_52 kci_0 ?_
        refine kw_istore_n (lv' := [(3, .int 0), (0, .ref (ma 0)), (2, .int l2)]) hX 53 dX6_spread_53 rfl (by decide) rfl ?_
        obtain ⟨v36, hl37, h⟩ := kb_some h
        refine kw_lv (lv' := [(0, .ref (ma 0)), (2, .int l2), (3, .int 0)]) [1, 2, 0] rfl ?_
        refine L54 KF l2 0 z_m_now z_m_sav z_m_sc z_m_err z_m_shf z_m_stp z_m_que z_m_qd z_m_qx z_m_qy z_m_met z_m_per z_m_row z_m_det z_m_h v36 hl37 ?_
        refine kw_iinc (v := (l2 + 1)) (lv' := [(2, .int (l2 + 1)), (0, .ref (ma 0)), (3, .int v36.1)]) hX 159 dX6_spread_159 1 rfl (kinc_1 _) (by decide) rfl ?_
        refine kw_goto hX 162 46 dX6_spread_162 (by decide) ?_
        refine kw_lv (lv' := [(0, .ref (ma 0)), (2, .int (l2 + 1))]) [1, 0] rfl ?_
        exact ih (l2 + 1) z_m_now z_m_sav z_m_sc z_m_err z_m_shf z_m_stp z_m_que z_m_qd v36.2.1 v36.2.2.1 v36.2.2.2 z_m_per z_m_row z_m_det z_m_h o h hK
  unfold pX6_spread at h
  refine kw_lv (lv' := [(0, .ref (ma 0)), (1, .int a1)]) [0, 1] rfl ?_
  refine kw_iconst hX 0 dX6_spread_0 kci_0 ?_
  refine kw_istore_n (lv' := [(2, .int 0), (0, .ref (ma 0)), (1, .int a1)]) hX 1 dX6_spread_1 rfl (by decide) rfl ?_
  obtain ⟨v7, hl8, h⟩ := kb_some h
  refine kw_lv (lv' := [(0, .ref (ma 0)), (1, .int a1), (2, .int 0)]) [1, 2, 0] rfl ?_
  refine L2 KF a1 0 m_now m_sav m_sc m_err m_shf m_stp m_que m_qd m_qx m_qy m_met m_per m_row m_det m_h v7 hl8 ?_
  refine kw_aload_n hX 30 dX6_spread_30 rfl 0 rfl ?_
  refine kw_get hX 31 (C := RX6) (T := TX6) (N := 15) hin6 8 f1 (fun _ h => h) 0 rfl rfl (by decide) rfl dX6_spread_31 ?_
  refine kw_iload_n hX 34 dX6_spread_34 rfl 1 rfl ?_
  refine kw_iconst hX 35 dX6_spread_35 kci_0 ?_
  obtain ⟨g9, h⟩ := kgd_some h
  refine kw_iast hX 36 (ws' := (kfl [gM Y ma m_now m_sav m_sc m_err m_shf m_stp m_que m_qd (upd m_qx (a1 : Int32).toNatClampNeg 0) m_qy v7.2 m_per m_row m_det m_h])) 7 rfl g9 rfl dX6_spread_36 ?_
  refine kw_aload_n hX 37 dX6_spread_37 rfl 0 rfl ?_
  refine kw_get hX 38 (C := RX6) (T := TX6) (N := 15) hin6 9 f2 (fun _ h => h) 0 rfl rfl (by decide) rfl dX6_spread_38 ?_
  refine kw_iload_n hX 41 dX6_spread_41 rfl 1 rfl ?_
  refine kw_iconst hX 42 dX6_spread_42 kci_0 ?_
  obtain ⟨g10, h⟩ := kgd_some h
  refine kw_iast hX 43 (ws' := (kfl [gM Y ma m_now m_sav m_sc m_err m_shf m_stp m_que m_qd (upd m_qx (a1 : Int32).toNatClampNeg 0) (upd m_qy (a1 : Int32).toNatClampNeg 0) v7.2 m_per m_row m_det m_h])) 8 rfl g10 rfl dX6_spread_43 ?_
  refine kw_iconst hX 44 dX6_spread_44 kci_0 ?_
  refine kw_istore_n (lv' := [(2, .int 0), (0, .ref (ma 0)), (1, .int a1)]) hX 45 dX6_spread_45 rfl (by decide) rfl ?_
  obtain ⟨v38, hl39, h⟩ := kb_some h
  refine kw_lv (lv' := [(0, .ref (ma 0)), (2, .int 0)]) [1, 0] rfl ?_
  refine L46 KF 0 m_now m_sav m_sc m_err m_shf m_stp m_que m_qd (upd m_qx (a1 : Int32).toNatClampNeg 0) (upd m_qy (a1 : Int32).toNatClampNeg 0) v7.2 m_per m_row m_det m_h v38 hl39 ?_
  obtain rfl := Option.some.inj h
  exact hret _ _ dX6_spread_165
def pX6_divisor_L22 : Nat → Int32 → Int32 → Option (Int32 × Int32)
  | 0, _, _ => none
  | n + 1, l2, l3 => (if l3 ≤ 0 then some (l2, l3) else kgd (decide (¬ l3 = 0)) (pX6_divisor_L22 n l3 (l2 - l2 / l3 * l3)))
def pX6_divisor (a1 : Int32) (a2 : Int32)  : Option (Int32) := kb ((if 0 ≤ a1 then some a1 else some (-a1)) : Option (Int32)) (fun v2 => kb ((if 0 ≤ a2 then some a2 else some (-a2)) : Option (Int32)) (fun v5 => kb (pX6_divisor_L22 KF v2 v5) (fun v9 => some v9.1)))
def rmX6_divisor : Room := { frames := 0, cells := 0, slots := 0, locals := 0 }
theorem hdS_X6_divisor : yX6_divisor.cls ≠ "java/lang/invoke/MethodHandle" ∧ yX6_divisor.cls ≠ "java/lang/invoke/VarHandle" ∧ (parseMethodDescriptor yX6_divisor.desc).map (fun d => d.parameters.length) = some 2 := ⟨by decide +kernel, by decide +kernel, by decide +kernel⟩
set_option maxHeartbeats 4000000 in
set_option maxRecDepth 100000 in
theorem kX6_divisor (l : Launch) (Y : KY)   (a1 : Int32) (a2 : Int32) {o : Int32} (h : pX6_divisor a1 a2 = some o) : CtI l yX6_divisor wsX6_divisor rmX6_divisor Y [.int a1, .int a2] (kfl []) o (kfl []) := by
  refine ctI_intro (cc := cX6_divisor) (maxL := 5) (own := RX6) (by decide +kernel) rfl rfl (Nat.le_of_ble_eq_true rfl) rfl ?_
  intro X A hX _ hret
  have L22 : ∀ (n : Nat) (l2 : Int32) (l3 : Int32)  (o : Int32 × Int32), pX6_divisor_L22 n l2 l3 = some o → KW X Y A 5 0 0 (kfl []) [(2, .int o.1), (3, .int o.2)] 39 [] → KW X Y A 5 0 0 (kfl []) [(2, .int l2), (3, .int l3)] 22 [] := by
    intro n
    induction n with
    | zero => intro l2 l3 o h; cases h
    | succ n ih =>
      intro l2 l3 o h hK
      rw [pX6_divisor_L22] at h
      refine kw_iload_n hX 22 dX6_divisor_22 rfl 1 rfl ?_
      refine kw_if_le hX 23 39 dX6_divisor_23 (by decide) (fun c7 => ?_) (fun c7 => ?_)
      · have h := kif_t c7 h
        obtain rfl := Option.some.inj h
        refine kw_lv (lv' := [(2, .int l2), (3, .int l3)]) [0, 1] rfl ?_
        exact hK
      · have h := kif_f c7 h
        refine kw_iload_n hX 26 dX6_divisor_26 rfl 0 rfl ?_
        refine kw_iload_n hX 27 dX6_divisor_27 rfl 1 rfl ?_
        obtain ⟨g8, h⟩ := kgd_some h
        refine kw_irem hX 28 dX6_divisor_28 (of_decide_eq_true g8) ?_
        refine kw_istore (lv' := [(4, .int (l2 - l2 / l3 * l3)), (2, .int l2), (3, .int l3)]) hX 29 dX6_divisor_29 (by decide) rfl ?_
        refine kw_iload_n hX 31 dX6_divisor_31 rfl 2 rfl ?_
        refine kw_istore_n (lv' := [(2, .int l3), (4, .int (l2 - l2 / l3 * l3)), (3, .int l3)]) hX 32 dX6_divisor_32 rfl (by decide) rfl ?_
        refine kw_iload hX 33 dX6_divisor_33 1 rfl ?_
        refine kw_istore_n (lv' := [(3, .int (l2 - l2 / l3 * l3)), (2, .int l3), (4, .int (l2 - l2 / l3 * l3))]) hX 35 dX6_divisor_35 rfl (by decide) rfl ?_
        refine kw_goto hX 36 22 dX6_divisor_36 (by decide) ?_
        refine kw_lv (lv' := [(2, .int l3), (3, .int (l2 - l2 / l3 * l3))]) [1, 0] rfl ?_
        exact ih l3 (l2 - l2 / l3 * l3) o h hK
  unfold pX6_divisor at h
  refine kw_lv (lv' := [(0, .int a1), (1, .int a2)]) [0, 1] rfl ?_
  refine kw_iload_n hX 0 dX6_divisor_0 rfl 0 rfl ?_
  obtain ⟨v2, hj12, h⟩ := kb_some h
  have J3 : KW X Y A 5 0 0 (kfl []) [(1, .int a2)] 10 [.int v2] := by
    refine kw_istore_n (lv' := [(2, .int v2), (1, .int a2)]) hX 10 dX6_divisor_10 rfl (by decide) rfl ?_
    refine kw_iload_n hX 11 dX6_divisor_11 rfl 1 rfl ?_
    obtain ⟨v5, hj11, h⟩ := kb_some h
    have J6 : KW X Y A 5 0 0 (kfl []) [(2, .int v2)] 21 [.int v5] := by
      refine kw_istore_n (lv' := [(3, .int v5), (2, .int v2)]) hX 21 dX6_divisor_21 rfl (by decide) rfl ?_
      obtain ⟨v9, hl10, h⟩ := kb_some h
      refine kw_lv (lv' := [(2, .int v2), (3, .int v5)]) [1, 0] rfl ?_
      refine L22 KF v2 v5 v9 hl10 ?_
      refine kw_iload_n hX 39 dX6_divisor_39 rfl 0 rfl ?_
      obtain rfl := Option.some.inj h
      exact hret _ _ dX6_divisor_40 rfl
    have h := hj11
    refine kw_if_ge hX 12 20 dX6_divisor_12 (by decide) (fun c4 => ?_) (fun c4 => ?_)
    · have h := kif_t c4 h
      refine kw_iload_n hX 20 dX6_divisor_20 rfl 1 rfl ?_
      obtain rfl := Option.some.inj h
      refine kw_lv (lv' := [(2, .int v2)]) [0] rfl ?_
      exact J6
    · have h := kif_f c4 h
      refine kw_iload_n hX 15 dX6_divisor_15 rfl 1 rfl ?_
      refine kw_ineg hX 16 dX6_divisor_16 ?_
      refine kw_goto hX 17 21 dX6_divisor_17 (by decide) ?_
      obtain rfl := Option.some.inj h
      refine kw_lv (lv' := [(2, .int v2)]) [0] rfl ?_
      exact J6
  have h := hj12
  refine kw_if_ge hX 1 9 dX6_divisor_1 (by decide) (fun c1 => ?_) (fun c1 => ?_)
  · have h := kif_t c1 h
    refine kw_iload_n hX 9 dX6_divisor_9 rfl 0 rfl ?_
    obtain rfl := Option.some.inj h
    refine kw_lv (lv' := [(1, .int a2)]) [1] rfl ?_
    exact J3
  · have h := kif_f c1 h
    refine kw_iload_n hX 4 dX6_divisor_4 rfl 0 rfl ?_
    refine kw_ineg hX 5 dX6_divisor_5 ?_
    refine kw_goto hX 6 10 dX6_divisor_6 (by decide) ?_
    obtain rfl := Option.some.inj h
    refine kw_lv (lv' := [(1, .int a2)]) [1] rfl ?_
    exact J3
def pX6_findPeriods_L7 : Nat → Int32 → (Nat → Int32) → (Nat → Int32) → (Nat → Int32) → (Nat → Int32) → (Nat → Int32) → Option (Int32 × (Nat → Int32))
  | 0, _, _, _, _, _, _ => none
  | n + 1, l2, z_m_now, z_m_qx, z_m_qy, z_m_met, z_m_per => (if (12 : Int32) ≤ l2 then some (l2, z_m_per) else kgd (kin 1 50) (kb ((if (z_m_now (1 : Int32).toNatClampNeg) ≤ l2 then some 0 else kb (pX6_of l2 0 z_m_now) (fun v6 => kgd (kin v6 6) ((if (z_m_met (v6 : Int32).toNatClampNeg) = 0 then some 0 else some 1)))) : Option (Int32)) (fun v10 => kb ((if v10 = 0 then some 0 else kb (pX6_of l2 0 z_m_now) (fun v13 => kgd (kin v13 6) (kb (pX6_of l2 2 z_m_now) (fun v16 => kb (pX6_of l2 1 z_m_now) (fun v18 => kgd (kin v18 6) (some (((z_m_qx (v13 : Int32).toNatClampNeg) + v16) - (z_m_qx (v18 : Int32).toNatClampNeg)))))))) : Option (Int32)) (fun v21 => kgd (kin (2 * l2) 24) (kb ((if v10 = 0 then some 0 else kb (pX6_of l2 0 z_m_now) (fun v25 => kgd (kin v25 6) (kb (pX6_of l2 3 z_m_now) (fun v28 => kb (pX6_of l2 1 z_m_now) (fun v30 => kgd (kin v30 6) (some (((z_m_qy (v25 : Int32).toNatClampNeg) + v28) - (z_m_qy (v30 : Int32).toNatClampNeg)))))))) : Option (Int32)) (fun v33 => kgd (kin ((2 * l2) + 1) 24) (pX6_findPeriods_L7 n (l2 + 1) z_m_now z_m_qx z_m_qy z_m_met (upd (upd z_m_per ((2 * l2) : Int32).toNatClampNeg v21) (((2 * l2) + 1) : Int32).toNatClampNeg v33))))))))
def pX6_findPeriods (a1 : Int32) (m_now : Nat → Int32) (m_qx : Nat → Int32) (m_qy : Nat → Int32) (m_met : Nat → Int32) (m_per : Nat → Int32) : Option ((Nat → Int32) × (Nat → Int32) × (Nat → Int32) × (Nat → Int32)) := kb (pX6_spread a1 m_now m_qx m_qy m_met) (fun v1 => kb (pX6_findPeriods_L7 KF 0 m_now v1.1 v1.2.1 v1.2.2 m_per) (fun v39 => some (v1.1, v1.2.1, v1.2.2, v39.2)))
def rmX6_findPeriods : Room := { frames := 3, cells := 0, slots := 0, locals := 68 }
theorem hdV_X6_findPeriods : yX6_findPeriods.cls = RX6 ∧ yX6_findPeriods.cls ≠ "java/lang/invoke/MethodHandle" ∧ yX6_findPeriods.cls ≠ "java/lang/invoke/VarHandle" ∧ (parseMethodDescriptor yX6_findPeriods.desc).map (fun d => d.parameters.length) = some 1 := ⟨rfl, by decide +kernel, by decide +kernel, by decide +kernel⟩
set_option maxHeartbeats 4000000 in
set_option maxRecDepth 100000 in
theorem kX6_findPeriods (l : Launch) (Y : KY) (ma : Nat → Nat) (m_now : Nat → Int32) (m_sav : Nat → Int32) (m_sc : Int32) (m_err : Nat → Int32) (m_shf : Nat → Int32) (m_stp : Nat → Int32) (m_que : Nat → Int32) (m_qd : Int32) (m_qx : Nat → Int32) (m_qy : Nat → Int32) (m_met : Nat → Int32) (m_per : Nat → Int32) (m_row : Nat → Int64) (m_det : Int64) (m_h : Int64) (a1 : Int32) {o : (Nat → Int32) × (Nat → Int32) × (Nat → Int32) × (Nat → Int32)} (h : pX6_findPeriods a1 m_now m_qx m_qy m_met m_per = some o) : CtV l yX6_findPeriods wsX6_findPeriods rmX6_findPeriods Y [.ref (ma 0), .int a1] (kfl [gM Y ma m_now m_sav m_sc m_err m_shf m_stp m_que m_qd m_qx m_qy m_met m_per m_row m_det m_h]) (kfl [gM Y ma m_now m_sav m_sc m_err m_shf m_stp m_que m_qd o.1 o.2.1 o.2.2.1 o.2.2.2 m_row m_det m_h]) := by
  refine ctV_intro (cc := cX6_findPeriods) (maxL := 4) (own := RX6) (by decide +kernel) rfl rfl (Nat.le_of_ble_eq_true rfl) rfl ?_
  intro X A hX _ hret
  have hin6 : ∀ w ∈ u_ws RX6 TX6 15, w ∈ wsX6_findPeriods := by decide +kernel
  have f0 := hX.w (Cond.fieldLink RX6 7 "PeriodicNetModel" "now" "[I") (by decide +kernel)
  have f1 := hX.w (Cond.fieldLink RX6 34 "PeriodicNetModel" "met" "[Z") (by decide +kernel)
  have f2 := hX.w (Cond.fieldLink RX6 38 "PeriodicNetModel" "periods" "[I") (by decide +kernel)
  have f3 := hX.w (Cond.fieldLink RX6 28 "PeriodicNetModel" "potentialX" "[I") (by decide +kernel)
  have f4 := hX.w (Cond.fieldLink RX6 31 "PeriodicNetModel" "potentialY" "[I") (by decide +kernel)
  have L7 : ∀ (n : Nat) (l2 : Int32) (z_m_now : Nat → Int32) (z_m_sav : Nat → Int32) (z_m_sc : Int32) (z_m_err : Nat → Int32) (z_m_shf : Nat → Int32) (z_m_stp : Nat → Int32) (z_m_que : Nat → Int32) (z_m_qd : Int32) (z_m_qx : Nat → Int32) (z_m_qy : Nat → Int32) (z_m_met : Nat → Int32) (z_m_per : Nat → Int32) (z_m_row : Nat → Int64) (z_m_det : Int64) (z_m_h : Int64) (o : Int32 × (Nat → Int32)), pX6_findPeriods_L7 n l2 z_m_now z_m_qx z_m_qy z_m_met z_m_per = some o → KW X Y A 4 0 0 (kfl [gM Y ma z_m_now z_m_sav z_m_sc z_m_err z_m_shf z_m_stp z_m_que z_m_qd z_m_qx z_m_qy z_m_met o.2 z_m_row z_m_det z_m_h]) [(0, .ref (ma 0)), (2, .int o.1)] 143 [] → KW X Y A 4 0 0 (kfl [gM Y ma z_m_now z_m_sav z_m_sc z_m_err z_m_shf z_m_stp z_m_que z_m_qd z_m_qx z_m_qy z_m_met z_m_per z_m_row z_m_det z_m_h]) [(0, .ref (ma 0)), (2, .int l2)] 7 [] := by
    intro n
    induction n with
    | zero => intro l2 z_m_now z_m_sav z_m_sc z_m_err z_m_shf z_m_stp z_m_que z_m_qd z_m_qx z_m_qy z_m_met z_m_per z_m_row z_m_det z_m_h o h; cases h
    | succ n ih =>
      intro l2 z_m_now z_m_sav z_m_sc z_m_err z_m_shf z_m_stp z_m_que z_m_qd z_m_qx z_m_qy z_m_met z_m_per z_m_row z_m_det z_m_h o h hK
      rw [pX6_findPeriods_L7] at h
      refine kw_iload_n hX 7 dX6_findPeriods_7 rfl 1 rfl ?_
      refine kw_bipush hX 8 dX6_findPeriods_8 kcb_12 ?_
      refine kw_icmp_ge hX 10 143 dX6_findPeriods_10 (by decide) (fun c3 => ?_) (fun c3 => ?_)
      · have h := kif_t c3 h
        obtain rfl := Option.some.inj h
        refine kw_lv (lv' := [(0, .ref (ma 0)), (2, .int l2)]) [0, 1] rfl ?_
        exact hK
      · have h := kif_f c3 h
        refine kw_iload_n hX 13 dX6_findPeriods_13 rfl 1 rfl ?_
        refine kw_aload_n hX 14 dX6_findPeriods_14 rfl 0 rfl ?_
        refine kw_get hX 15 (C := RX6) (T := TX6) (N := 15) hin6 0 f0 (fun _ h => h) 0 rfl rfl (by decide) rfl dX6_findPeriods_15 ?_
        refine kw_iconst hX 18 dX6_findPeriods_18 kci_1 ?_
        obtain ⟨g4, h⟩ := kgd_some h
        refine kw_iald hX 19 1 rfl g4 dX6_findPeriods_19 ?_
        obtain ⟨v10, hj38, h⟩ := kb_some h
        have J11 : KW X Y A 4 0 0 (kfl [gM Y ma z_m_now z_m_sav z_m_sc z_m_err z_m_shf z_m_stp z_m_que z_m_qd z_m_qx z_m_qy z_m_met z_m_per z_m_row z_m_det z_m_h]) [(0, .ref (ma 0)), (2, .int l2)] 42 [.int v10] := by
          refine kw_istore_n (lv' := [(3, .int v10), (0, .ref (ma 0)), (2, .int l2)]) hX 42 dX6_findPeriods_42 rfl (by decide) rfl ?_
          refine kw_aload_n hX 43 dX6_findPeriods_43 rfl 1 rfl ?_
          refine kw_get hX 44 (C := RX6) (T := TX6) (N := 15) hin6 11 f2 (fun _ h => h) 0 rfl rfl (by decide) rfl dX6_findPeriods_44 ?_
          refine kw_iconst hX 47 dX6_findPeriods_47 kci_2 ?_
          refine kw_iload_n hX 48 dX6_findPeriods_48 rfl 2 rfl ?_
          refine kw_imul hX 49 dX6_findPeriods_49 ?_
          refine kw_iload_n hX 50 dX6_findPeriods_50 rfl 0 rfl ?_
          obtain ⟨v21, hj37, h⟩ := kb_some h
          have J22 : KW X Y A 4 0 0 (kfl [gM Y ma z_m_now z_m_sav z_m_sc z_m_err z_m_shf z_m_stp z_m_que z_m_qd z_m_qx z_m_qy z_m_met z_m_per z_m_row z_m_det z_m_h]) [(0, .ref (ma 0)), (2, .int l2), (3, .int v10)] 88 [.int v21, .int (2 * l2), .ref (ma 10)] := by
            obtain ⟨g23, h⟩ := kgd_some h
            refine kw_iast hX 88 (ws' := (kfl [gM Y ma z_m_now z_m_sav z_m_sc z_m_err z_m_shf z_m_stp z_m_que z_m_qd z_m_qx z_m_qy z_m_met (upd z_m_per ((2 * l2) : Int32).toNatClampNeg v21) z_m_row z_m_det z_m_h])) 10 rfl g23 rfl dX6_findPeriods_88 ?_
            refine kw_aload_n hX 89 dX6_findPeriods_89 rfl 0 rfl ?_
            refine kw_get hX 90 (C := RX6) (T := TX6) (N := 15) hin6 11 f2 (fun _ h => h) 0 rfl rfl (by decide) rfl dX6_findPeriods_90 ?_
            refine kw_iconst hX 93 dX6_findPeriods_93 kci_2 ?_
            refine kw_iload_n hX 94 dX6_findPeriods_94 rfl 1 rfl ?_
            refine kw_imul hX 95 dX6_findPeriods_95 ?_
            refine kw_iconst hX 96 dX6_findPeriods_96 kci_1 ?_
            refine kw_iadd hX 97 dX6_findPeriods_97 ?_
            refine kw_iload_n hX 98 dX6_findPeriods_98 rfl 2 rfl ?_
            obtain ⟨v33, hj36, h⟩ := kb_some h
            have J34 : KW X Y A 4 0 0 (kfl [gM Y ma z_m_now z_m_sav z_m_sc z_m_err z_m_shf z_m_stp z_m_que z_m_qd z_m_qx z_m_qy z_m_met (upd z_m_per ((2 * l2) : Int32).toNatClampNeg v21) z_m_row z_m_det z_m_h]) [(0, .ref (ma 0)), (2, .int l2)] 136 [.int v33, .int ((2 * l2) + 1), .ref (ma 10)] := by
              obtain ⟨g35, h⟩ := kgd_some h
              refine kw_iast hX 136 (ws' := (kfl [gM Y ma z_m_now z_m_sav z_m_sc z_m_err z_m_shf z_m_stp z_m_que z_m_qd z_m_qx z_m_qy z_m_met (upd (upd z_m_per ((2 * l2) : Int32).toNatClampNeg v21) (((2 * l2) + 1) : Int32).toNatClampNeg v33) z_m_row z_m_det z_m_h])) 10 rfl g35 rfl dX6_findPeriods_136 ?_
              refine kw_iinc (v := (l2 + 1)) (lv' := [(2, .int (l2 + 1)), (0, .ref (ma 0))]) hX 137 dX6_findPeriods_137 1 rfl (kinc_1 _) (by decide) rfl ?_
              refine kw_goto hX 140 7 dX6_findPeriods_140 (by decide) ?_
              refine kw_lv (lv' := [(0, .ref (ma 0)), (2, .int (l2 + 1))]) [1, 0] rfl ?_
              exact ih (l2 + 1) z_m_now z_m_sav z_m_sc z_m_err z_m_shf z_m_stp z_m_que z_m_qd z_m_qx z_m_qy z_m_met (upd (upd z_m_per ((2 * l2) : Int32).toNatClampNeg v21) (((2 * l2) + 1) : Int32).toNatClampNeg v33) z_m_row z_m_det z_m_h o h hK
            have h := hj36
            refine kw_if_eq hX 99 135 dX6_findPeriods_99 (by decide) (fun c24 => ?_) (fun c24 => ?_)
            · have h := kif_t c24 h
              refine kw_iconst hX 135 dX6_findPeriods_135 kci_0 ?_
              obtain rfl := Option.some.inj h
              refine kw_lv (lv' := [(0, .ref (ma 0)), (2, .int l2)]) [0, 1] rfl ?_
              exact J34
            · have h := kif_f c24 h
              refine kw_aload_n hX 102 dX6_findPeriods_102 rfl 0 rfl ?_
              refine kw_get hX 103 (C := RX6) (T := TX6) (N := 15) hin6 9 f4 (fun _ h => h) 0 rfl rfl (by decide) rfl dX6_findPeriods_103 ?_
              refine kw_aload_n hX 106 dX6_findPeriods_106 rfl 0 rfl ?_
              refine kw_iload_n hX 107 dX6_findPeriods_107 rfl 1 rfl ?_
              refine kw_iconst hX 108 dX6_findPeriods_108 kci_0 ?_
              obtain ⟨v25, hc26, h⟩ := kb_some h
              refine kw_callV_I hX 109 (As := [.int l2, .int 0]) (rest := [.ref (ma 8), .int ((2 * l2) + 1), .ref (ma 10)]) (kX6_of (kx_l X) Y ma z_m_now z_m_sav z_m_sc z_m_err z_m_shf z_m_stp z_m_que z_m_qd z_m_qx z_m_qy z_m_met (upd z_m_per ((2 * l2) : Int32).toNatClampNeg v21) z_m_row z_m_det z_m_h l2 0 hc26) gX6_findPeriods_X6_of rfl 2 rfl hdV_X6_of ⟨rfl, rfl⟩ ⟨by decide, by decide⟩ ⟨Nat.zero_le _, Nat.zero_le _⟩ rfl (Nat.le_of_ble_eq_true rfl) [0] (by decide) rfl (kfc rfl kfn0) (gs1 := [gM Y ma z_m_now z_m_sav z_m_sc z_m_err z_m_shf z_m_stp z_m_que z_m_qd z_m_qx z_m_qy z_m_met (upd z_m_per ((2 * l2) : Int32).toNatClampNeg v21) z_m_row z_m_det z_m_h]) rfl 0 6 rfl rfl rfl dX6_findPeriods_109 ?_
              obtain ⟨g27, h⟩ := kgd_some h
              refine kw_iald hX 112 8 rfl g27 dX6_findPeriods_112 ?_
              refine kw_aload_n hX 113 dX6_findPeriods_113 rfl 0 rfl ?_
              refine kw_iload_n hX 114 dX6_findPeriods_114 rfl 1 rfl ?_
              refine kw_iconst hX 115 dX6_findPeriods_115 kci_3 ?_
              obtain ⟨v28, hc29, h⟩ := kb_some h
              refine kw_callV_I hX 116 (As := [.int l2, .int 3]) (rest := [.int (z_m_qy (v25 : Int32).toNatClampNeg), .int ((2 * l2) + 1), .ref (ma 10)]) (kX6_of (kx_l X) Y ma z_m_now z_m_sav z_m_sc z_m_err z_m_shf z_m_stp z_m_que z_m_qd z_m_qx z_m_qy z_m_met (upd z_m_per ((2 * l2) : Int32).toNatClampNeg v21) z_m_row z_m_det z_m_h l2 3 hc29) gX6_findPeriods_X6_of rfl 2 rfl hdV_X6_of ⟨rfl, rfl⟩ ⟨by decide, by decide⟩ ⟨Nat.zero_le _, Nat.zero_le _⟩ rfl (Nat.le_of_ble_eq_true rfl) [0] (by decide) rfl (kfc rfl kfn0) (gs1 := [gM Y ma z_m_now z_m_sav z_m_sc z_m_err z_m_shf z_m_stp z_m_que z_m_qd z_m_qx z_m_qy z_m_met (upd z_m_per ((2 * l2) : Int32).toNatClampNeg v21) z_m_row z_m_det z_m_h]) rfl 0 6 rfl rfl rfl dX6_findPeriods_116 ?_
              refine kw_iadd hX 119 dX6_findPeriods_119 ?_
              refine kw_aload_n hX 120 dX6_findPeriods_120 rfl 0 rfl ?_
              refine kw_get hX 121 (C := RX6) (T := TX6) (N := 15) hin6 9 f4 (fun _ h => h) 0 rfl rfl (by decide) rfl dX6_findPeriods_121 ?_
              refine kw_aload_n hX 124 dX6_findPeriods_124 rfl 0 rfl ?_
              refine kw_iload_n hX 125 dX6_findPeriods_125 rfl 1 rfl ?_
              refine kw_iconst hX 126 dX6_findPeriods_126 kci_1 ?_
              obtain ⟨v30, hc31, h⟩ := kb_some h
              refine kw_callV_I hX 127 (As := [.int l2, .int 1]) (rest := [.ref (ma 8), .int ((z_m_qy (v25 : Int32).toNatClampNeg) + v28), .int ((2 * l2) + 1), .ref (ma 10)]) (kX6_of (kx_l X) Y ma z_m_now z_m_sav z_m_sc z_m_err z_m_shf z_m_stp z_m_que z_m_qd z_m_qx z_m_qy z_m_met (upd z_m_per ((2 * l2) : Int32).toNatClampNeg v21) z_m_row z_m_det z_m_h l2 1 hc31) gX6_findPeriods_X6_of rfl 2 rfl hdV_X6_of ⟨rfl, rfl⟩ ⟨by decide, by decide⟩ ⟨Nat.zero_le _, Nat.zero_le _⟩ rfl (Nat.le_of_ble_eq_true rfl) [0] (by decide) rfl (kfc rfl kfn0) (gs1 := [gM Y ma z_m_now z_m_sav z_m_sc z_m_err z_m_shf z_m_stp z_m_que z_m_qd z_m_qx z_m_qy z_m_met (upd z_m_per ((2 * l2) : Int32).toNatClampNeg v21) z_m_row z_m_det z_m_h]) rfl 0 6 rfl rfl rfl dX6_findPeriods_127 ?_
              obtain ⟨g32, h⟩ := kgd_some h
              refine kw_iald hX 130 8 rfl g32 dX6_findPeriods_130 ?_
              refine kw_isub hX 131 dX6_findPeriods_131 ?_
              refine kw_goto hX 132 136 dX6_findPeriods_132 (by decide) ?_
              obtain rfl := Option.some.inj h
              refine kw_lv (lv' := [(0, .ref (ma 0)), (2, .int l2)]) [0, 1] rfl ?_
              exact J34
          have h := hj37
          refine kw_if_eq hX 51 87 dX6_findPeriods_51 (by decide) (fun c12 => ?_) (fun c12 => ?_)
          · have h := kif_t c12 h
            refine kw_iconst hX 87 dX6_findPeriods_87 kci_0 ?_
            obtain rfl := Option.some.inj h
            refine kw_lv (lv' := [(0, .ref (ma 0)), (2, .int l2), (3, .int v10)]) [1, 2, 0] rfl ?_
            exact J22
          · have h := kif_f c12 h
            refine kw_aload_n hX 54 dX6_findPeriods_54 rfl 1 rfl ?_
            refine kw_get hX 55 (C := RX6) (T := TX6) (N := 15) hin6 8 f3 (fun _ h => h) 0 rfl rfl (by decide) rfl dX6_findPeriods_55 ?_
            refine kw_aload_n hX 58 dX6_findPeriods_58 rfl 1 rfl ?_
            refine kw_iload_n hX 59 dX6_findPeriods_59 rfl 2 rfl ?_
            refine kw_iconst hX 60 dX6_findPeriods_60 kci_0 ?_
            obtain ⟨v13, hc14, h⟩ := kb_some h
            refine kw_callV_I hX 61 (As := [.int l2, .int 0]) (rest := [.ref (ma 7), .int (2 * l2), .ref (ma 10)]) (kX6_of (kx_l X) Y ma z_m_now z_m_sav z_m_sc z_m_err z_m_shf z_m_stp z_m_que z_m_qd z_m_qx z_m_qy z_m_met z_m_per z_m_row z_m_det z_m_h l2 0 hc14) gX6_findPeriods_X6_of rfl 2 rfl hdV_X6_of ⟨rfl, rfl⟩ ⟨by decide, by decide⟩ ⟨Nat.zero_le _, Nat.zero_le _⟩ rfl (Nat.le_of_ble_eq_true rfl) [0] (by decide) rfl (kfc rfl kfn0) (gs1 := [gM Y ma z_m_now z_m_sav z_m_sc z_m_err z_m_shf z_m_stp z_m_que z_m_qd z_m_qx z_m_qy z_m_met z_m_per z_m_row z_m_det z_m_h]) rfl 0 6 rfl rfl rfl dX6_findPeriods_61 ?_
            obtain ⟨g15, h⟩ := kgd_some h
            refine kw_iald hX 64 7 rfl g15 dX6_findPeriods_64 ?_
            refine kw_aload_n hX 65 dX6_findPeriods_65 rfl 1 rfl ?_
            refine kw_iload_n hX 66 dX6_findPeriods_66 rfl 2 rfl ?_
            refine kw_iconst hX 67 dX6_findPeriods_67 kci_2 ?_
            obtain ⟨v16, hc17, h⟩ := kb_some h
            refine kw_callV_I hX 68 (As := [.int l2, .int 2]) (rest := [.int (z_m_qx (v13 : Int32).toNatClampNeg), .int (2 * l2), .ref (ma 10)]) (kX6_of (kx_l X) Y ma z_m_now z_m_sav z_m_sc z_m_err z_m_shf z_m_stp z_m_que z_m_qd z_m_qx z_m_qy z_m_met z_m_per z_m_row z_m_det z_m_h l2 2 hc17) gX6_findPeriods_X6_of rfl 2 rfl hdV_X6_of ⟨rfl, rfl⟩ ⟨by decide, by decide⟩ ⟨Nat.zero_le _, Nat.zero_le _⟩ rfl (Nat.le_of_ble_eq_true rfl) [0] (by decide) rfl (kfc rfl kfn0) (gs1 := [gM Y ma z_m_now z_m_sav z_m_sc z_m_err z_m_shf z_m_stp z_m_que z_m_qd z_m_qx z_m_qy z_m_met z_m_per z_m_row z_m_det z_m_h]) rfl 0 6 rfl rfl rfl dX6_findPeriods_68 ?_
            refine kw_iadd hX 71 dX6_findPeriods_71 ?_
            refine kw_aload_n hX 72 dX6_findPeriods_72 rfl 1 rfl ?_
            refine kw_get hX 73 (C := RX6) (T := TX6) (N := 15) hin6 8 f3 (fun _ h => h) 0 rfl rfl (by decide) rfl dX6_findPeriods_73 ?_
            refine kw_aload_n hX 76 dX6_findPeriods_76 rfl 1 rfl ?_
            refine kw_iload_n hX 77 dX6_findPeriods_77 rfl 2 rfl ?_
            refine kw_iconst hX 78 dX6_findPeriods_78 kci_1 ?_
            obtain ⟨v18, hc19, h⟩ := kb_some h
            refine kw_callV_I hX 79 (As := [.int l2, .int 1]) (rest := [.ref (ma 7), .int ((z_m_qx (v13 : Int32).toNatClampNeg) + v16), .int (2 * l2), .ref (ma 10)]) (kX6_of (kx_l X) Y ma z_m_now z_m_sav z_m_sc z_m_err z_m_shf z_m_stp z_m_que z_m_qd z_m_qx z_m_qy z_m_met z_m_per z_m_row z_m_det z_m_h l2 1 hc19) gX6_findPeriods_X6_of rfl 2 rfl hdV_X6_of ⟨rfl, rfl⟩ ⟨by decide, by decide⟩ ⟨Nat.zero_le _, Nat.zero_le _⟩ rfl (Nat.le_of_ble_eq_true rfl) [0] (by decide) rfl (kfc rfl kfn0) (gs1 := [gM Y ma z_m_now z_m_sav z_m_sc z_m_err z_m_shf z_m_stp z_m_que z_m_qd z_m_qx z_m_qy z_m_met z_m_per z_m_row z_m_det z_m_h]) rfl 0 6 rfl rfl rfl dX6_findPeriods_79 ?_
            obtain ⟨g20, h⟩ := kgd_some h
            refine kw_iald hX 82 7 rfl g20 dX6_findPeriods_82 ?_
            refine kw_isub hX 83 dX6_findPeriods_83 ?_
            refine kw_goto hX 84 88 dX6_findPeriods_84 (by decide) ?_
            obtain rfl := Option.some.inj h
            refine kw_lv (lv' := [(0, .ref (ma 0)), (2, .int l2), (3, .int v10)]) [1, 2, 0] rfl ?_
            exact J22
        have h := hj38
        refine kw_icmp_ge hX 20 41 dX6_findPeriods_20 (by decide) (fun c5 => ?_) (fun c5 => ?_)
        · have h := kif_t c5 h
          refine kw_iconst hX 41 dX6_findPeriods_41 kci_0 ?_
          obtain rfl := Option.some.inj h
          refine kw_lv (lv' := [(0, .ref (ma 0)), (2, .int l2)]) [0, 1] rfl ?_
          exact J11
        · have h := kif_f c5 h
          refine kw_aload_n hX 23 dX6_findPeriods_23 rfl 0 rfl ?_
          refine kw_get hX 24 (C := RX6) (T := TX6) (N := 15) hin6 10 f1 (fun _ h => h) 0 rfl rfl (by decide) rfl dX6_findPeriods_24 ?_
          refine kw_aload_n hX 27 dX6_findPeriods_27 rfl 0 rfl ?_
          refine kw_iload_n hX 28 dX6_findPeriods_28 rfl 1 rfl ?_
          refine kw_iconst hX 29 dX6_findPeriods_29 kci_0 ?_
          obtain ⟨v6, hc7, h⟩ := kb_some h
          refine kw_callV_I hX 30 (As := [.int l2, .int 0]) (rest := [.ref (ma 9)]) (kX6_of (kx_l X) Y ma z_m_now z_m_sav z_m_sc z_m_err z_m_shf z_m_stp z_m_que z_m_qd z_m_qx z_m_qy z_m_met z_m_per z_m_row z_m_det z_m_h l2 0 hc7) gX6_findPeriods_X6_of rfl 2 rfl hdV_X6_of ⟨rfl, rfl⟩ ⟨by decide, by decide⟩ ⟨Nat.zero_le _, Nat.zero_le _⟩ rfl (Nat.le_of_ble_eq_true rfl) [0] (by decide) rfl (kfc rfl kfn0) (gs1 := [gM Y ma z_m_now z_m_sav z_m_sc z_m_err z_m_shf z_m_stp z_m_que z_m_qd z_m_qx z_m_qy z_m_met z_m_per z_m_row z_m_det z_m_h]) rfl 0 6 rfl rfl rfl dX6_findPeriods_30 ?_
          obtain ⟨g8, h⟩ := kgd_some h
          refine kw_zald hX 33 9 rfl g8 dX6_findPeriods_33 ?_
          refine kw_if_eq hX 34 41 dX6_findPeriods_34 (by decide) (fun c9 => ?_) (fun c9 => ?_)
          · have h := kif_t c9 h
            refine kw_iconst hX 41 dX6_findPeriods_41 kci_0 ?_
            obtain rfl := Option.some.inj h
            refine kw_lv (lv' := [(0, .ref (ma 0)), (2, .int l2)]) [0, 1] rfl ?_
            exact J11
          · have h := kif_f c9 h
            refine kw_iconst hX 37 dX6_findPeriods_37 kci_1 ?_
            refine kw_goto hX 38 42 dX6_findPeriods_38 (by decide) ?_
            obtain rfl := Option.some.inj h
            refine kw_lv (lv' := [(0, .ref (ma 0)), (2, .int l2)]) [0, 1] rfl ?_
            exact J11
  unfold pX6_findPeriods at h
  refine kw_lv (lv' := [(0, .ref (ma 0)), (1, .int a1)]) [0, 1] rfl ?_
  refine kw_aload_n hX 0 dX6_findPeriods_0 rfl 0 rfl ?_
  refine kw_iload_n hX 1 dX6_findPeriods_1 rfl 1 rfl ?_
  obtain ⟨v1, hc2, h⟩ := kb_some h
  refine kw_callV_V hX 2 (As := [.int a1]) (rest := []) (kX6_spread (kx_l X) Y ma m_now m_sav m_sc m_err m_shf m_stp m_que m_qd m_qx m_qy m_met m_per m_row m_det m_h a1 hc2) gX6_findPeriods_X6_spread rfl 1 rfl hdV_X6_spread ⟨rfl, rfl⟩ ⟨by decide, by decide⟩ ⟨Nat.zero_le _, Nat.zero_le _⟩ rfl (Nat.le_of_ble_eq_true rfl) [0] (by decide) rfl (kfc gM_f kfn0) (gs1 := [gM Y ma m_now m_sav m_sc m_err m_shf m_stp m_que m_qd v1.1 v1.2.1 v1.2.2 m_per m_row m_det m_h]) rfl 0 6 rfl rfl rfl dX6_findPeriods_2 ?_
  refine kw_iconst hX 5 dX6_findPeriods_5 kci_0 ?_
  refine kw_istore_n (lv' := [(2, .int 0), (0, .ref (ma 0)), (1, .int a1)]) hX 6 dX6_findPeriods_6 rfl (by decide) rfl ?_
  obtain ⟨v39, hl40, h⟩ := kb_some h
  refine kw_lv (lv' := [(0, .ref (ma 0)), (2, .int 0)]) [1, 0] rfl ?_
  refine L7 KF 0 m_now m_sav m_sc m_err m_shf m_stp m_que m_qd v1.1 v1.2.1 v1.2.2 m_per m_row m_det m_h v39 hl40 ?_
  obtain rfl := Option.some.inj h
  exact hret _ _ dX6_findPeriods_143
def pX6_commonDeterminant_L16 : Nat → Int32 → Int32 → Int32 → (Nat → Int32) → Option (Int32 × Int32)
  | 0, _, _, _, _ => none
  | n + 1, l1, l2, l3, z_m_per => (if l2 ≤ l3 then some (l1, l3) else kgd (kin (2 * l2) 24) (kgd (kin ((2 * l3) + 1) 24) (kgd (kin ((2 * l2) + 1) 24) (kgd (kin (2 * l3) 24) (kb (pX6_divisor l1 (((z_m_per ((2 * l2) : Int32).toNatClampNeg) * (z_m_per (((2 * l3) + 1) : Int32).toNatClampNeg)) - ((z_m_per (((2 * l2) + 1) : Int32).toNatClampNeg) * (z_m_per ((2 * l3) : Int32).toNatClampNeg)))) (fun v8 => pX6_commonDeterminant_L16 n v8 l2 (l3 + 1) z_m_per))))))
def pX6_commonDeterminant_L4 : Nat → Int32 → Int32 → (Nat → Int32) → (Nat → Int32) → Option (Int32 × Int32)
  | 0, _, _, _, _ => none
  | n + 1, l1, l2, z_m_now, z_m_per => kgd (kin 1 50) ((if (z_m_now (1 : Int32).toNatClampNeg) ≤ l2 then some (l1, l2) else kb (pX6_commonDeterminant_L16 KF l1 l2 0 z_m_per) (fun v10 => pX6_commonDeterminant_L4 n v10.1 (l2 + 1) z_m_now z_m_per)))
def pX6_commonDeterminant  (m_now : Nat → Int32) (m_per : Nat → Int32) : Option (Int32) := kb (pX6_commonDeterminant_L4 KF 0 0 m_now m_per) (fun v12 => some v12.1)
def rmX6_commonDeterminant : Room := { frames := 1, cells := 0, slots := 0, locals := 24 }
theorem hdV_X6_commonDeterminant : yX6_commonDeterminant.cls = RX6 ∧ yX6_commonDeterminant.cls ≠ "java/lang/invoke/MethodHandle" ∧ yX6_commonDeterminant.cls ≠ "java/lang/invoke/VarHandle" ∧ (parseMethodDescriptor yX6_commonDeterminant.desc).map (fun d => d.parameters.length) = some 0 := ⟨rfl, by decide +kernel, by decide +kernel, by decide +kernel⟩
set_option maxHeartbeats 4000000 in
set_option maxRecDepth 100000 in
theorem kX6_commonDeterminant (l : Launch) (Y : KY) (ma : Nat → Nat) (m_now : Nat → Int32) (m_sav : Nat → Int32) (m_sc : Int32) (m_err : Nat → Int32) (m_shf : Nat → Int32) (m_stp : Nat → Int32) (m_que : Nat → Int32) (m_qd : Int32) (m_qx : Nat → Int32) (m_qy : Nat → Int32) (m_met : Nat → Int32) (m_per : Nat → Int32) (m_row : Nat → Int64) (m_det : Int64) (m_h : Int64)  {o : Int32} (h : pX6_commonDeterminant m_now m_per = some o) : CtI l yX6_commonDeterminant wsX6_commonDeterminant rmX6_commonDeterminant Y [.ref (ma 0)] (kfl [gM Y ma m_now m_sav m_sc m_err m_shf m_stp m_que m_qd m_qx m_qy m_met m_per m_row m_det m_h]) o (kfl [gM Y ma m_now m_sav m_sc m_err m_shf m_stp m_que m_qd m_qx m_qy m_met m_per m_row m_det m_h]) := by
  refine ctI_intro (cc := cX6_commonDeterminant) (maxL := 4) (own := RX6) (by decide +kernel) rfl rfl (Nat.le_of_ble_eq_true rfl) rfl ?_
  intro X A hX _ hret
  have hin6 : ∀ w ∈ u_ws RX6 TX6 15, w ∈ wsX6_commonDeterminant := by decide +kernel
  have f0 := hX.w (Cond.fieldLink RX6 7 "PeriodicNetModel" "now" "[I") (by decide +kernel)
  have f1 := hX.w (Cond.fieldLink RX6 38 "PeriodicNetModel" "periods" "[I") (by decide +kernel)
  have L16 : ∀ (n : Nat) (l1 : Int32) (l2 : Int32) (l3 : Int32) (z_m_now : Nat → Int32) (z_m_sav : Nat → Int32) (z_m_sc : Int32) (z_m_err : Nat → Int32) (z_m_shf : Nat → Int32) (z_m_stp : Nat → Int32) (z_m_que : Nat → Int32) (z_m_qd : Int32) (z_m_qx : Nat → Int32) (z_m_qy : Nat → Int32) (z_m_met : Nat → Int32) (z_m_per : Nat → Int32) (z_m_row : Nat → Int64) (z_m_det : Int64) (z_m_h : Int64) (o : Int32 × Int32), pX6_commonDeterminant_L16 n l1 l2 l3 z_m_per = some o → KW X Y A 4 0 0 (kfl [gM Y ma z_m_now z_m_sav z_m_sc z_m_err z_m_shf z_m_stp z_m_que z_m_qd z_m_qx z_m_qy z_m_met z_m_per z_m_row z_m_det z_m_h]) [(0, .ref (ma 0)), (1, .int o.1), (2, .int l2), (3, .int o.2)] 71 [] → KW X Y A 4 0 0 (kfl [gM Y ma z_m_now z_m_sav z_m_sc z_m_err z_m_shf z_m_stp z_m_que z_m_qd z_m_qx z_m_qy z_m_met z_m_per z_m_row z_m_det z_m_h]) [(0, .ref (ma 0)), (1, .int l1), (2, .int l2), (3, .int l3)] 16 [] := by
    intro n
    induction n with
    | zero => intro l1 l2 l3 z_m_now z_m_sav z_m_sc z_m_err z_m_shf z_m_stp z_m_que z_m_qd z_m_qx z_m_qy z_m_met z_m_per z_m_row z_m_det z_m_h o h; cases h
    | succ n ih =>
      intro l1 l2 l3 z_m_now z_m_sav z_m_sc z_m_err z_m_shf z_m_stp z_m_que z_m_qd z_m_qx z_m_qy z_m_met z_m_per z_m_row z_m_det z_m_h o h hK
      rw [pX6_commonDeterminant_L16] at h
      refine kw_iload_n hX 16 dX6_commonDeterminant_16 rfl 3 rfl ?_
      refine kw_iload_n hX 17 dX6_commonDeterminant_17 rfl 2 rfl ?_
      refine kw_icmp_ge hX 18 71 dX6_commonDeterminant_18 (by decide) (fun c3 => ?_) (fun c3 => ?_)
      · have h := kif_t c3 h
        obtain rfl := Option.some.inj h
        refine kw_lv (lv' := [(0, .ref (ma 0)), (1, .int l1), (2, .int l2), (3, .int l3)]) [0, 1, 2, 3] rfl ?_
        exact hK
      · have h := kif_f c3 h
        refine kw_iload_n hX 21 dX6_commonDeterminant_21 rfl 1 rfl ?_
        refine kw_aload_n hX 22 dX6_commonDeterminant_22 rfl 0 rfl ?_
        refine kw_get hX 23 (C := RX6) (T := TX6) (N := 15) hin6 11 f1 (fun _ h => h) 0 rfl rfl (by decide) rfl dX6_commonDeterminant_23 ?_
        refine kw_iconst hX 26 dX6_commonDeterminant_26 kci_2 ?_
        refine kw_iload_n hX 27 dX6_commonDeterminant_27 rfl 2 rfl ?_
        refine kw_imul hX 28 dX6_commonDeterminant_28 ?_
        obtain ⟨g4, h⟩ := kgd_some h
        refine kw_iald hX 29 10 rfl g4 dX6_commonDeterminant_29 ?_
        refine kw_aload_n hX 30 dX6_commonDeterminant_30 rfl 0 rfl ?_
        refine kw_get hX 31 (C := RX6) (T := TX6) (N := 15) hin6 11 f1 (fun _ h => h) 0 rfl rfl (by decide) rfl dX6_commonDeterminant_31 ?_
        refine kw_iconst hX 34 dX6_commonDeterminant_34 kci_2 ?_
        refine kw_iload_n hX 35 dX6_commonDeterminant_35 rfl 3 rfl ?_
        refine kw_imul hX 36 dX6_commonDeterminant_36 ?_
        refine kw_iconst hX 37 dX6_commonDeterminant_37 kci_1 ?_
        refine kw_iadd hX 38 dX6_commonDeterminant_38 ?_
        obtain ⟨g5, h⟩ := kgd_some h
        refine kw_iald hX 39 10 rfl g5 dX6_commonDeterminant_39 ?_
        refine kw_imul hX 40 dX6_commonDeterminant_40 ?_
        refine kw_aload_n hX 41 dX6_commonDeterminant_41 rfl 0 rfl ?_
        refine kw_get hX 42 (C := RX6) (T := TX6) (N := 15) hin6 11 f1 (fun _ h => h) 0 rfl rfl (by decide) rfl dX6_commonDeterminant_42 ?_
        refine kw_iconst hX 45 dX6_commonDeterminant_45 kci_2 ?_
        refine kw_iload_n hX 46 dX6_commonDeterminant_46 rfl 2 rfl ?_
        refine kw_imul hX 47 dX6_commonDeterminant_47 ?_
        refine kw_iconst hX 48 dX6_commonDeterminant_48 kci_1 ?_
        refine kw_iadd hX 49 dX6_commonDeterminant_49 ?_
        obtain ⟨g6, h⟩ := kgd_some h
        refine kw_iald hX 50 10 rfl g6 dX6_commonDeterminant_50 ?_
        refine kw_aload_n hX 51 dX6_commonDeterminant_51 rfl 0 rfl ?_
        refine kw_get hX 52 (C := RX6) (T := TX6) (N := 15) hin6 11 f1 (fun _ h => h) 0 rfl rfl (by decide) rfl dX6_commonDeterminant_52 ?_
        refine kw_iconst hX 55 dX6_commonDeterminant_55 kci_2 ?_
        refine kw_iload_n hX 56 dX6_commonDeterminant_56 rfl 3 rfl ?_
        refine kw_imul hX 57 dX6_commonDeterminant_57 ?_
        obtain ⟨g7, h⟩ := kgd_some h
        refine kw_iald hX 58 10 rfl g7 dX6_commonDeterminant_58 ?_
        refine kw_imul hX 59 dX6_commonDeterminant_59 ?_
        refine kw_isub hX 60 dX6_commonDeterminant_60 ?_
        obtain ⟨v8, hc9, h⟩ := kb_some h
        refine kw_callS_I hX 61 (As := [.int l1, .int (((z_m_per ((2 * l2) : Int32).toNatClampNeg) * (z_m_per (((2 * l3) + 1) : Int32).toNatClampNeg)) - ((z_m_per (((2 * l2) + 1) : Int32).toNatClampNeg) * (z_m_per ((2 * l3) : Int32).toNatClampNeg)))]) (rest := []) (kX6_divisor (kx_l X) Y l1 (((z_m_per ((2 * l2) : Int32).toNatClampNeg) * (z_m_per (((2 * l3) + 1) : Int32).toNatClampNeg)) - ((z_m_per (((2 * l2) + 1) : Int32).toNatClampNeg) * (z_m_per ((2 * l3) : Int32).toNatClampNeg))) hc9) gX6_commonDeterminant_X6_divisor rfl 2 rfl hdS_X6_divisor ⟨rfl, rfl⟩ ⟨by decide, by decide⟩ ⟨Nat.zero_le _, Nat.zero_le _⟩ rfl (Nat.le_of_ble_eq_true rfl) [] (by decide) rfl kfn0 (gs1 := [gM Y ma z_m_now z_m_sav z_m_sc z_m_err z_m_shf z_m_stp z_m_que z_m_qd z_m_qx z_m_qy z_m_met z_m_per z_m_row z_m_det z_m_h]) rfl dX6_commonDeterminant_61 ?_
        refine kw_istore_n (lv' := [(1, .int v8), (0, .ref (ma 0)), (2, .int l2), (3, .int l3)]) hX 64 dX6_commonDeterminant_64 rfl (by decide) rfl ?_
        refine kw_iinc (v := (l3 + 1)) (lv' := [(3, .int (l3 + 1)), (1, .int v8), (0, .ref (ma 0)), (2, .int l2)]) hX 65 dX6_commonDeterminant_65 3 rfl (kinc_1 _) (by decide) rfl ?_
        refine kw_goto hX 68 16 dX6_commonDeterminant_68 (by decide) ?_
        refine kw_lv (lv' := [(0, .ref (ma 0)), (1, .int v8), (2, .int l2), (3, .int (l3 + 1))]) [2, 1, 3, 0] rfl ?_
        exact ih v8 l2 (l3 + 1) z_m_now z_m_sav z_m_sc z_m_err z_m_shf z_m_stp z_m_que z_m_qd z_m_qx z_m_qy z_m_met z_m_per z_m_row z_m_det z_m_h o h hK
  have L4 : ∀ (n : Nat) (l1 : Int32) (l2 : Int32) (z_m_now : Nat → Int32) (z_m_sav : Nat → Int32) (z_m_sc : Int32) (z_m_err : Nat → Int32) (z_m_shf : Nat → Int32) (z_m_stp : Nat → Int32) (z_m_que : Nat → Int32) (z_m_qd : Int32) (z_m_qx : Nat → Int32) (z_m_qy : Nat → Int32) (z_m_met : Nat → Int32) (z_m_per : Nat → Int32) (z_m_row : Nat → Int64) (z_m_det : Int64) (z_m_h : Int64) (o : Int32 × Int32), pX6_commonDeterminant_L4 n l1 l2 z_m_now z_m_per = some o → KW X Y A 4 0 0 (kfl [gM Y ma z_m_now z_m_sav z_m_sc z_m_err z_m_shf z_m_stp z_m_que z_m_qd z_m_qx z_m_qy z_m_met z_m_per z_m_row z_m_det z_m_h]) [(0, .ref (ma 0)), (1, .int o.1), (2, .int o.2)] 77 [] → KW X Y A 4 0 0 (kfl [gM Y ma z_m_now z_m_sav z_m_sc z_m_err z_m_shf z_m_stp z_m_que z_m_qd z_m_qx z_m_qy z_m_met z_m_per z_m_row z_m_det z_m_h]) [(0, .ref (ma 0)), (1, .int l1), (2, .int l2)] 4 [] := by
    intro n
    induction n with
    | zero => intro l1 l2 z_m_now z_m_sav z_m_sc z_m_err z_m_shf z_m_stp z_m_que z_m_qd z_m_qx z_m_qy z_m_met z_m_per z_m_row z_m_det z_m_h o h; cases h
    | succ n ih =>
      intro l1 l2 z_m_now z_m_sav z_m_sc z_m_err z_m_shf z_m_stp z_m_que z_m_qd z_m_qx z_m_qy z_m_met z_m_per z_m_row z_m_det z_m_h o h hK
      rw [pX6_commonDeterminant_L4] at h
      refine kw_iload_n hX 4 dX6_commonDeterminant_4 rfl 2 rfl ?_
      refine kw_aload_n hX 5 dX6_commonDeterminant_5 rfl 0 rfl ?_
      refine kw_get hX 6 (C := RX6) (T := TX6) (N := 15) hin6 0 f0 (fun _ h => h) 0 rfl rfl (by decide) rfl dX6_commonDeterminant_6 ?_
      refine kw_iconst hX 9 dX6_commonDeterminant_9 kci_1 ?_
      obtain ⟨g1, h⟩ := kgd_some h
      refine kw_iald hX 10 1 rfl g1 dX6_commonDeterminant_10 ?_
      refine kw_icmp_ge hX 11 77 dX6_commonDeterminant_11 (by decide) (fun c2 => ?_) (fun c2 => ?_)
      · have h := kif_t c2 h
        obtain rfl := Option.some.inj h
        refine kw_lv (lv' := [(0, .ref (ma 0)), (1, .int l1), (2, .int l2)]) [0, 1, 2] rfl ?_
        exact hK
      · have h := kif_f c2 h
        refine kw_iconst hX 14 dX6_commonDeterminant_14 kci_0 ?_
        refine kw_istore_n (lv' := [(3, .int 0), (0, .ref (ma 0)), (1, .int l1), (2, .int l2)]) hX 15 dX6_commonDeterminant_15 rfl (by decide) rfl ?_
        obtain ⟨v10, hl11, h⟩ := kb_some h
        refine kw_lv (lv' := [(0, .ref (ma 0)), (1, .int l1), (2, .int l2), (3, .int 0)]) [1, 2, 3, 0] rfl ?_
        refine L16 KF l1 l2 0 z_m_now z_m_sav z_m_sc z_m_err z_m_shf z_m_stp z_m_que z_m_qd z_m_qx z_m_qy z_m_met z_m_per z_m_row z_m_det z_m_h v10 hl11 ?_
        refine kw_iinc (v := (l2 + 1)) (lv' := [(2, .int (l2 + 1)), (0, .ref (ma 0)), (1, .int v10.1), (3, .int v10.2)]) hX 71 dX6_commonDeterminant_71 2 rfl (kinc_1 _) (by decide) rfl ?_
        refine kw_goto hX 74 4 dX6_commonDeterminant_74 (by decide) ?_
        refine kw_lv (lv' := [(0, .ref (ma 0)), (1, .int v10.1), (2, .int (l2 + 1))]) [1, 2, 0] rfl ?_
        exact ih v10.1 (l2 + 1) z_m_now z_m_sav z_m_sc z_m_err z_m_shf z_m_stp z_m_que z_m_qd z_m_qx z_m_qy z_m_met z_m_per z_m_row z_m_det z_m_h o h hK
  unfold pX6_commonDeterminant at h
  refine kw_lv (lv' := [(0, .ref (ma 0))]) [0] rfl ?_
  refine kw_iconst hX 0 dX6_commonDeterminant_0 kci_0 ?_
  refine kw_istore_n (lv' := [(1, .int 0), (0, .ref (ma 0))]) hX 1 dX6_commonDeterminant_1 rfl (by decide) rfl ?_
  refine kw_iconst hX 2 dX6_commonDeterminant_2 kci_0 ?_
  refine kw_istore_n (lv' := [(2, .int 0), (1, .int 0), (0, .ref (ma 0))]) hX 3 dX6_commonDeterminant_3 rfl (by decide) rfl ?_
  obtain ⟨v12, hl13, h⟩ := kb_some h
  refine kw_lv (lv' := [(0, .ref (ma 0)), (1, .int 0), (2, .int 0)]) [2, 1, 0] rfl ?_
  refine L4 KF 0 0 m_now m_sav m_sc m_err m_shf m_stp m_que m_qd m_qx m_qy m_met m_per m_row m_det m_h v12 hl13 ?_
  refine kw_iload_n hX 77 dX6_commonDeterminant_77 rfl 1 rfl ?_
  obtain rfl := Option.some.inj h
  exact hret _ _ dX6_commonDeterminant_78 rfl
def pX6_rankOf_L9 : Nat → Int32 → Int32 → (Nat → Int32) → (Nat → Int32) → Option (Int32 × Int32)
  | 0, _, _, _, _ => none
  | n + 1, l2, l3, z_m_now, z_m_per => kgd (kin 1 50) ((if (2 * (z_m_now (1 : Int32).toNatClampNeg)) ≤ l3 then some (l2, l3) else kb ((if l2 = 0 then kgd (kin l3 24) ((if (z_m_per (l3 : Int32).toNatClampNeg) = 0 then some 0 else some 1)) else some 1) : Option (Int32)) (fun v8 => pX6_rankOf_L9 n v8 (l3 + 1) z_m_now z_m_per)))
def pX6_rankOf (a1 : Int32) (m_now : Nat → Int32) (m_qx : Nat → Int32) (m_qy : Nat → Int32) (m_met : Nat → Int32) (m_per : Nat → Int32) : Option (Int32 × (Nat → Int32) × (Nat → Int32) × (Nat → Int32) × (Nat → Int32)) := kb (pX6_findPeriods a1 m_now m_qx m_qy m_met m_per) (fun v1 => kb (pX6_rankOf_L9 KF 0 0 m_now v1.2.2.2) (fun v11 => kb (pX6_commonDeterminant m_now v1.2.2.2) (fun v13 => (if v13 ≤ 0 then (if v11.1 = 0 then some (0, v1.1, v1.2.1, v1.2.2.1, v1.2.2.2) else some (1, v1.1, v1.2.1, v1.2.2.1, v1.2.2.2)) else some (2, v1.1, v1.2.1, v1.2.2.1, v1.2.2.2)))))
def rmX6_rankOf : Room := { frames := 4, cells := 0, slots := 0, locals := 91 }
theorem hdV_X6_rankOf : yX6_rankOf.cls = RX6 ∧ yX6_rankOf.cls ≠ "java/lang/invoke/MethodHandle" ∧ yX6_rankOf.cls ≠ "java/lang/invoke/VarHandle" ∧ (parseMethodDescriptor yX6_rankOf.desc).map (fun d => d.parameters.length) = some 1 := ⟨rfl, by decide +kernel, by decide +kernel, by decide +kernel⟩
set_option maxHeartbeats 4000000 in
set_option maxRecDepth 100000 in
theorem kX6_rankOf (l : Launch) (Y : KY) (ma : Nat → Nat) (m_now : Nat → Int32) (m_sav : Nat → Int32) (m_sc : Int32) (m_err : Nat → Int32) (m_shf : Nat → Int32) (m_stp : Nat → Int32) (m_que : Nat → Int32) (m_qd : Int32) (m_qx : Nat → Int32) (m_qy : Nat → Int32) (m_met : Nat → Int32) (m_per : Nat → Int32) (m_row : Nat → Int64) (m_det : Int64) (m_h : Int64) (a1 : Int32) {o : Int32 × (Nat → Int32) × (Nat → Int32) × (Nat → Int32) × (Nat → Int32)} (h : pX6_rankOf a1 m_now m_qx m_qy m_met m_per = some o) : CtI l yX6_rankOf wsX6_rankOf rmX6_rankOf Y [.ref (ma 0), .int a1] (kfl [gM Y ma m_now m_sav m_sc m_err m_shf m_stp m_que m_qd m_qx m_qy m_met m_per m_row m_det m_h]) o.1 (kfl [gM Y ma m_now m_sav m_sc m_err m_shf m_stp m_que m_qd o.2.1 o.2.2.1 o.2.2.2.1 o.2.2.2.2 m_row m_det m_h]) := by
  refine ctI_intro (cc := cX6_rankOf) (maxL := 4) (own := RX6) (by decide +kernel) rfl rfl (Nat.le_of_ble_eq_true rfl) rfl ?_
  intro X A hX _ hret
  have hin6 : ∀ w ∈ u_ws RX6 TX6 15, w ∈ wsX6_rankOf := by decide +kernel
  have f0 := hX.w (Cond.fieldLink RX6 7 "PeriodicNetModel" "now" "[I") (by decide +kernel)
  have f1 := hX.w (Cond.fieldLink RX6 38 "PeriodicNetModel" "periods" "[I") (by decide +kernel)
  have L9 : ∀ (n : Nat) (l2 : Int32) (l3 : Int32) (z_m_now : Nat → Int32) (z_m_sav : Nat → Int32) (z_m_sc : Int32) (z_m_err : Nat → Int32) (z_m_shf : Nat → Int32) (z_m_stp : Nat → Int32) (z_m_que : Nat → Int32) (z_m_qd : Int32) (z_m_qx : Nat → Int32) (z_m_qy : Nat → Int32) (z_m_met : Nat → Int32) (z_m_per : Nat → Int32) (z_m_row : Nat → Int64) (z_m_det : Int64) (z_m_h : Int64) (o : Int32 × Int32), pX6_rankOf_L9 n l2 l3 z_m_now z_m_per = some o → KW X Y A 4 0 0 (kfl [gM Y ma z_m_now z_m_sav z_m_sc z_m_err z_m_shf z_m_stp z_m_que z_m_qd z_m_qx z_m_qy z_m_met z_m_per z_m_row z_m_det z_m_h]) [(0, .ref (ma 0)), (2, .int o.1), (3, .int o.2)] 46 [] → KW X Y A 4 0 0 (kfl [gM Y ma z_m_now z_m_sav z_m_sc z_m_err z_m_shf z_m_stp z_m_que z_m_qd z_m_qx z_m_qy z_m_met z_m_per z_m_row z_m_det z_m_h]) [(0, .ref (ma 0)), (2, .int l2), (3, .int l3)] 9 [] := by
    intro n
    induction n with
    | zero => intro l2 l3 z_m_now z_m_sav z_m_sc z_m_err z_m_shf z_m_stp z_m_que z_m_qd z_m_qx z_m_qy z_m_met z_m_per z_m_row z_m_det z_m_h o h; cases h
    | succ n ih =>
      intro l2 l3 z_m_now z_m_sav z_m_sc z_m_err z_m_shf z_m_stp z_m_que z_m_qd z_m_qx z_m_qy z_m_met z_m_per z_m_row z_m_det z_m_h o h hK
      rw [pX6_rankOf_L9] at h
      refine kw_iload_n hX 9 dX6_rankOf_9 rfl 2 rfl ?_
      refine kw_iconst hX 10 dX6_rankOf_10 kci_2 ?_
      refine kw_aload_n hX 11 dX6_rankOf_11 rfl 0 rfl ?_
      refine kw_get hX 12 (C := RX6) (T := TX6) (N := 15) hin6 0 f0 (fun _ h => h) 0 rfl rfl (by decide) rfl dX6_rankOf_12 ?_
      refine kw_iconst hX 15 dX6_rankOf_15 kci_1 ?_
      obtain ⟨g3, h⟩ := kgd_some h
      refine kw_iald hX 16 1 rfl g3 dX6_rankOf_16 ?_
      refine kw_imul hX 17 dX6_rankOf_17 ?_
      refine kw_icmp_ge hX 18 46 dX6_rankOf_18 (by decide) (fun c4 => ?_) (fun c4 => ?_)
      · have h := kif_t c4 h
        obtain rfl := Option.some.inj h
        refine kw_lv (lv' := [(0, .ref (ma 0)), (2, .int l2), (3, .int l3)]) [0, 1, 2] rfl ?_
        exact hK
      · have h := kif_f c4 h
        refine kw_iload_n hX 21 dX6_rankOf_21 rfl 1 rfl ?_
        obtain ⟨v8, hj10, h⟩ := kb_some h
        have J9 : KW X Y A 4 0 0 (kfl [gM Y ma z_m_now z_m_sav z_m_sc z_m_err z_m_shf z_m_stp z_m_que z_m_qd z_m_qx z_m_qy z_m_met z_m_per z_m_row z_m_det z_m_h]) [(0, .ref (ma 0)), (3, .int l3)] 39 [.int v8] := by
          refine kw_istore_n (lv' := [(2, .int v8), (0, .ref (ma 0)), (3, .int l3)]) hX 39 dX6_rankOf_39 rfl (by decide) rfl ?_
          refine kw_iinc (v := (l3 + 1)) (lv' := [(3, .int (l3 + 1)), (2, .int v8), (0, .ref (ma 0))]) hX 40 dX6_rankOf_40 2 rfl (kinc_1 _) (by decide) rfl ?_
          refine kw_goto hX 43 9 dX6_rankOf_43 (by decide) ?_
          refine kw_lv (lv' := [(0, .ref (ma 0)), (2, .int v8), (3, .int (l3 + 1))]) [2, 1, 0] rfl ?_
          exact ih v8 (l3 + 1) z_m_now z_m_sav z_m_sc z_m_err z_m_shf z_m_stp z_m_que z_m_qd z_m_qx z_m_qy z_m_met z_m_per z_m_row z_m_det z_m_h o h hK
        have h := hj10
        refine kw_if_ne hX 22 34 dX6_rankOf_22 (by decide) (fun c5 => ?_) (fun c5 => ?_)
        · have h := kif_f c5 h
          refine kw_iconst hX 34 dX6_rankOf_34 kci_1 ?_
          refine kw_goto hX 35 39 dX6_rankOf_35 (by decide) ?_
          obtain rfl := Option.some.inj h
          refine kw_lv (lv' := [(0, .ref (ma 0)), (3, .int l3)]) [0, 2] rfl ?_
          exact J9
        · have h := kif_t c5 h
          refine kw_aload_n hX 25 dX6_rankOf_25 rfl 0 rfl ?_
          refine kw_get hX 26 (C := RX6) (T := TX6) (N := 15) hin6 11 f1 (fun _ h => h) 0 rfl rfl (by decide) rfl dX6_rankOf_26 ?_
          refine kw_iload_n hX 29 dX6_rankOf_29 rfl 2 rfl ?_
          obtain ⟨g6, h⟩ := kgd_some h
          refine kw_iald hX 30 10 rfl g6 dX6_rankOf_30 ?_
          refine kw_if_eq hX 31 38 dX6_rankOf_31 (by decide) (fun c7 => ?_) (fun c7 => ?_)
          · have h := kif_t c7 h
            refine kw_iconst hX 38 dX6_rankOf_38 kci_0 ?_
            obtain rfl := Option.some.inj h
            refine kw_lv (lv' := [(0, .ref (ma 0)), (3, .int l3)]) [0, 2] rfl ?_
            exact J9
          · have h := kif_f c7 h
            refine kw_iconst hX 34 dX6_rankOf_34 kci_1 ?_
            refine kw_goto hX 35 39 dX6_rankOf_35 (by decide) ?_
            obtain rfl := Option.some.inj h
            refine kw_lv (lv' := [(0, .ref (ma 0)), (3, .int l3)]) [0, 2] rfl ?_
            exact J9
  unfold pX6_rankOf at h
  refine kw_lv (lv' := [(0, .ref (ma 0)), (1, .int a1)]) [0, 1] rfl ?_
  refine kw_aload_n hX 0 dX6_rankOf_0 rfl 0 rfl ?_
  refine kw_iload_n hX 1 dX6_rankOf_1 rfl 1 rfl ?_
  obtain ⟨v1, hc2, h⟩ := kb_some h
  refine kw_callV_V hX 2 (As := [.int a1]) (rest := []) (kX6_findPeriods (kx_l X) Y ma m_now m_sav m_sc m_err m_shf m_stp m_que m_qd m_qx m_qy m_met m_per m_row m_det m_h a1 hc2) gX6_rankOf_X6_findPeriods rfl 1 rfl hdV_X6_findPeriods ⟨rfl, rfl⟩ ⟨by decide, by decide⟩ ⟨Nat.zero_le _, Nat.zero_le _⟩ rfl (Nat.le_of_ble_eq_true rfl) [0] (by decide) rfl (kfc gM_f kfn0) (gs1 := [gM Y ma m_now m_sav m_sc m_err m_shf m_stp m_que m_qd v1.1 v1.2.1 v1.2.2.1 v1.2.2.2 m_row m_det m_h]) rfl 0 6 rfl rfl rfl dX6_rankOf_2 ?_
  refine kw_iconst hX 5 dX6_rankOf_5 kci_0 ?_
  refine kw_istore_n (lv' := [(2, .int 0), (0, .ref (ma 0)), (1, .int a1)]) hX 6 dX6_rankOf_6 rfl (by decide) rfl ?_
  refine kw_iconst hX 7 dX6_rankOf_7 kci_0 ?_
  refine kw_istore_n (lv' := [(3, .int 0), (2, .int 0), (0, .ref (ma 0)), (1, .int a1)]) hX 8 dX6_rankOf_8 rfl (by decide) rfl ?_
  obtain ⟨v11, hl12, h⟩ := kb_some h
  refine kw_lv (lv' := [(0, .ref (ma 0)), (2, .int 0), (3, .int 0)]) [2, 1, 0] rfl ?_
  refine L9 KF 0 0 m_now m_sav m_sc m_err m_shf m_stp m_que m_qd v1.1 v1.2.1 v1.2.2.1 v1.2.2.2 m_row m_det m_h v11 hl12 ?_
  refine kw_aload_n hX 46 dX6_rankOf_46 rfl 0 rfl ?_
  obtain ⟨v13, hc14, h⟩ := kb_some h
  refine kw_callV_I hX 47 (As := []) (rest := []) (kX6_commonDeterminant (kx_l X) Y ma m_now m_sav m_sc m_err m_shf m_stp m_que m_qd v1.1 v1.2.1 v1.2.2.1 v1.2.2.2 m_row m_det m_h hc14) gX6_rankOf_X6_commonDeterminant rfl 0 rfl hdV_X6_commonDeterminant ⟨rfl, rfl⟩ ⟨by decide, by decide⟩ ⟨Nat.zero_le _, Nat.zero_le _⟩ rfl (Nat.le_of_ble_eq_true rfl) [0] (by decide) rfl (kfc rfl kfn0) (gs1 := [gM Y ma m_now m_sav m_sc m_err m_shf m_stp m_que m_qd v1.1 v1.2.1 v1.2.2.1 v1.2.2.2 m_row m_det m_h]) rfl 0 6 rfl rfl rfl dX6_rankOf_47 ?_
  refine kw_if_le hX 50 57 dX6_rankOf_50 (by decide) (fun c15 => ?_) (fun c15 => ?_)
  · have h := kif_t c15 h
    refine kw_iload_n hX 57 dX6_rankOf_57 rfl 1 rfl ?_
    refine kw_if_eq hX 58 65 dX6_rankOf_58 (by decide) (fun c16 => ?_) (fun c16 => ?_)
    · have h := kif_t c16 h
      refine kw_iconst hX 65 dX6_rankOf_65 kci_0 ?_
      obtain rfl := Option.some.inj h
      exact hret _ _ dX6_rankOf_66 rfl
    · have h := kif_f c16 h
      refine kw_iconst hX 61 dX6_rankOf_61 kci_1 ?_
      refine kw_goto hX 62 66 dX6_rankOf_62 (by decide) ?_
      obtain rfl := Option.some.inj h
      exact hret _ _ dX6_rankOf_66 rfl
  · have h := kif_f c15 h
    refine kw_iconst hX 53 dX6_rankOf_53 kci_2 ?_
    refine kw_goto hX 54 66 dX6_rankOf_54 (by decide) ?_
    obtain rfl := Option.some.inj h
    exact hret _ _ dX6_rankOf_66 rfl
def pX6_indexOf (a1 : Int32) (m_now : Nat → Int32) (m_qx : Nat → Int32) (m_qy : Nat → Int32) (m_met : Nat → Int32) (m_per : Nat → Int32) : Option (Int32 × (Nat → Int32) × (Nat → Int32) × (Nat → Int32) × (Nat → Int32)) := kb (pX6_findPeriods a1 m_now m_qx m_qy m_met m_per) (fun v1 => kb (pX6_commonDeterminant m_now v1.2.2.2) (fun v3 => (if v3 = 0 then some ((-1), v1.1, v1.2.1, v1.2.2.1, v1.2.2.2) else some (v3, v1.1, v1.2.1, v1.2.2.1, v1.2.2.2))))
def rmX6_indexOf : Room := { frames := 4, cells := 0, slots := 0, locals := 91 }
theorem hdV_X6_indexOf : yX6_indexOf.cls = RX6 ∧ yX6_indexOf.cls ≠ "java/lang/invoke/MethodHandle" ∧ yX6_indexOf.cls ≠ "java/lang/invoke/VarHandle" ∧ (parseMethodDescriptor yX6_indexOf.desc).map (fun d => d.parameters.length) = some 1 := ⟨rfl, by decide +kernel, by decide +kernel, by decide +kernel⟩
set_option maxHeartbeats 4000000 in
set_option maxRecDepth 100000 in
theorem kX6_indexOf (l : Launch) (Y : KY) (ma : Nat → Nat) (m_now : Nat → Int32) (m_sav : Nat → Int32) (m_sc : Int32) (m_err : Nat → Int32) (m_shf : Nat → Int32) (m_stp : Nat → Int32) (m_que : Nat → Int32) (m_qd : Int32) (m_qx : Nat → Int32) (m_qy : Nat → Int32) (m_met : Nat → Int32) (m_per : Nat → Int32) (m_row : Nat → Int64) (m_det : Int64) (m_h : Int64) (a1 : Int32) {o : Int32 × (Nat → Int32) × (Nat → Int32) × (Nat → Int32) × (Nat → Int32)} (h : pX6_indexOf a1 m_now m_qx m_qy m_met m_per = some o) : CtI l yX6_indexOf wsX6_indexOf rmX6_indexOf Y [.ref (ma 0), .int a1] (kfl [gM Y ma m_now m_sav m_sc m_err m_shf m_stp m_que m_qd m_qx m_qy m_met m_per m_row m_det m_h]) o.1 (kfl [gM Y ma m_now m_sav m_sc m_err m_shf m_stp m_que m_qd o.2.1 o.2.2.1 o.2.2.2.1 o.2.2.2.2 m_row m_det m_h]) := by
  refine ctI_intro (cc := cX6_indexOf) (maxL := 3) (own := RX6) (by decide +kernel) rfl rfl (Nat.le_of_ble_eq_true rfl) rfl ?_
  intro X A hX _ hret
  unfold pX6_indexOf at h
  refine kw_lv (lv' := [(0, .ref (ma 0)), (1, .int a1)]) [0, 1] rfl ?_
  refine kw_aload_n hX 0 dX6_indexOf_0 rfl 0 rfl ?_
  refine kw_iload_n hX 1 dX6_indexOf_1 rfl 1 rfl ?_
  obtain ⟨v1, hc2, h⟩ := kb_some h
  refine kw_callV_V hX 2 (As := [.int a1]) (rest := []) (kX6_findPeriods (kx_l X) Y ma m_now m_sav m_sc m_err m_shf m_stp m_que m_qd m_qx m_qy m_met m_per m_row m_det m_h a1 hc2) gX6_indexOf_X6_findPeriods rfl 1 rfl hdV_X6_findPeriods ⟨rfl, rfl⟩ ⟨by decide, by decide⟩ ⟨Nat.zero_le _, Nat.zero_le _⟩ rfl (Nat.le_of_ble_eq_true rfl) [0] (by decide) rfl (kfc gM_f kfn0) (gs1 := [gM Y ma m_now m_sav m_sc m_err m_shf m_stp m_que m_qd v1.1 v1.2.1 v1.2.2.1 v1.2.2.2 m_row m_det m_h]) rfl 0 6 rfl rfl rfl dX6_indexOf_2 ?_
  refine kw_aload_n hX 5 dX6_indexOf_5 rfl 0 rfl ?_
  obtain ⟨v3, hc4, h⟩ := kb_some h
  refine kw_callV_I hX 6 (As := []) (rest := []) (kX6_commonDeterminant (kx_l X) Y ma m_now m_sav m_sc m_err m_shf m_stp m_que m_qd v1.1 v1.2.1 v1.2.2.1 v1.2.2.2 m_row m_det m_h hc4) gX6_indexOf_X6_commonDeterminant rfl 0 rfl hdV_X6_commonDeterminant ⟨rfl, rfl⟩ ⟨by decide, by decide⟩ ⟨Nat.zero_le _, Nat.zero_le _⟩ rfl (Nat.le_of_ble_eq_true rfl) [0] (by decide) rfl (kfc rfl kfn0) (gs1 := [gM Y ma m_now m_sav m_sc m_err m_shf m_stp m_que m_qd v1.1 v1.2.1 v1.2.2.1 v1.2.2.2 m_row m_det m_h]) rfl 0 6 rfl rfl rfl dX6_indexOf_6 ?_
  refine kw_istore_n (lv' := [(2, .int v3), (0, .ref (ma 0)), (1, .int a1)]) hX 9 dX6_indexOf_9 rfl (by decide) rfl ?_
  refine kw_iload_n hX 10 dX6_indexOf_10 rfl 0 rfl ?_
  refine kw_if_ne hX 11 18 dX6_indexOf_11 (by decide) (fun c5 => ?_) (fun c5 => ?_)
  · have h := kif_f c5 h
    refine kw_iload_n hX 18 dX6_indexOf_18 rfl 0 rfl ?_
    obtain rfl := Option.some.inj h
    exact hret _ _ dX6_indexOf_19 rfl
  · have h := kif_t c5 h
    refine kw_iconst hX 14 dX6_indexOf_14 kci_m1 ?_
    refine kw_goto hX 15 19 dX6_indexOf_15 (by decide) ?_
    obtain rfl := Option.some.inj h
    exact hret _ _ dX6_indexOf_19 rfl
def pX6_rank (a1 : Int32) (m_now : Nat → Int32) (m_err : Nat → Int32) (m_qx : Nat → Int32) (m_qy : Nat → Int32) (m_met : Nat → Int32) (m_per : Nat → Int32) : Option (Int32 × (Nat → Int32) × (Nat → Int32) × (Nat → Int32) × (Nat → Int32) × (Nat → Int32)) := kb (pX6_isVertex a1 m_now) (fun v1 => (if v1 = 0 then kb (pX6_error (-2) m_err) (fun v4 => some (v4.1, v4.2, m_qx, m_qy, m_met, m_per)) else kb (pX6_rankOf a1 m_now m_qx m_qy m_met m_per) (fun v6 => some (v6.1, m_err, v6.2.1, v6.2.2.1, v6.2.2.2.1, v6.2.2.2.2))))
def rmX6_rank : Room := { frames := 5, cells := 0, slots := 0, locals := 114 }
theorem hdV_X6_rank : yX6_rank.cls = RX6 ∧ yX6_rank.cls ≠ "java/lang/invoke/MethodHandle" ∧ yX6_rank.cls ≠ "java/lang/invoke/VarHandle" ∧ (parseMethodDescriptor yX6_rank.desc).map (fun d => d.parameters.length) = some 1 := ⟨rfl, by decide +kernel, by decide +kernel, by decide +kernel⟩
set_option maxHeartbeats 4000000 in
set_option maxRecDepth 100000 in
theorem kX6_rank (l : Launch) (Y : KY) (ma : Nat → Nat) (m_now : Nat → Int32) (m_sav : Nat → Int32) (m_sc : Int32) (m_err : Nat → Int32) (m_shf : Nat → Int32) (m_stp : Nat → Int32) (m_que : Nat → Int32) (m_qd : Int32) (m_qx : Nat → Int32) (m_qy : Nat → Int32) (m_met : Nat → Int32) (m_per : Nat → Int32) (m_row : Nat → Int64) (m_det : Int64) (m_h : Int64) (a1 : Int32) {o : Int32 × (Nat → Int32) × (Nat → Int32) × (Nat → Int32) × (Nat → Int32) × (Nat → Int32)} (h : pX6_rank a1 m_now m_err m_qx m_qy m_met m_per = some o) : CtI l yX6_rank wsX6_rank rmX6_rank Y [.ref (ma 0), .int a1] (kfl [gM Y ma m_now m_sav m_sc m_err m_shf m_stp m_que m_qd m_qx m_qy m_met m_per m_row m_det m_h]) o.1 (kfl [gM Y ma m_now m_sav m_sc o.2.1 m_shf m_stp m_que m_qd o.2.2.1 o.2.2.2.1 o.2.2.2.2.1 o.2.2.2.2.2 m_row m_det m_h]) := by
  refine ctI_intro (cc := cX6_rank) (maxL := 2) (own := RX6) (by decide +kernel) rfl rfl (Nat.le_of_ble_eq_true rfl) rfl ?_
  intro X A hX _ hret
  unfold pX6_rank at h
  refine kw_lv (lv' := [(0, .ref (ma 0)), (1, .int a1)]) [0, 1] rfl ?_
  refine kw_aload_n hX 0 dX6_rank_0 rfl 0 rfl ?_
  refine kw_iload_n hX 1 dX6_rank_1 rfl 1 rfl ?_
  obtain ⟨v1, hc2, h⟩ := kb_some h
  refine kw_callV_I hX 2 (As := [.int a1]) (rest := []) (kX6_isVertex (kx_l X) Y ma m_now m_sav m_sc m_err m_shf m_stp m_que m_qd m_qx m_qy m_met m_per m_row m_det m_h a1 hc2) gX6_rank_X6_isVertex rfl 1 rfl hdV_X6_isVertex ⟨rfl, rfl⟩ ⟨by decide, by decide⟩ ⟨Nat.zero_le _, Nat.zero_le _⟩ rfl (Nat.le_of_ble_eq_true rfl) [0] (by decide) rfl (kfc rfl kfn0) (gs1 := [gM Y ma m_now m_sav m_sc m_err m_shf m_stp m_que m_qd m_qx m_qy m_met m_per m_row m_det m_h]) rfl 0 6 rfl rfl rfl dX6_rank_2 ?_
  refine kw_if_eq hX 5 16 dX6_rank_5 (by decide) (fun c3 => ?_) (fun c3 => ?_)
  · have h := kif_t c3 h
    refine kw_aload_n hX 16 dX6_rank_16 rfl 0 rfl ?_
    refine kw_bipush hX 17 dX6_rank_17 kcb_m2 ?_
    obtain ⟨v4, hc5, h⟩ := kb_some h
    refine kw_callV_I hX 19 (As := [.int (-2)]) (rest := []) (kX6_error (kx_l X) Y ma m_now m_sav m_sc m_err m_shf m_stp m_que m_qd m_qx m_qy m_met m_per m_row m_det m_h (-2) hc5) gX6_rank_X6_error rfl 1 rfl hdV_X6_error ⟨rfl, rfl⟩ ⟨by decide, by decide⟩ ⟨Nat.zero_le _, Nat.zero_le _⟩ rfl (Nat.le_of_ble_eq_true rfl) [0] (by decide) rfl (kfc gM_f kfn0) (gs1 := [gM Y ma m_now m_sav m_sc v4.2 m_shf m_stp m_que m_qd m_qx m_qy m_met m_per m_row m_det m_h]) rfl 0 6 rfl rfl rfl dX6_rank_19 ?_
    obtain rfl := Option.some.inj h
    exact hret _ _ dX6_rank_22 rfl
  · have h := kif_f c3 h
    refine kw_aload_n hX 8 dX6_rank_8 rfl 0 rfl ?_
    refine kw_iload_n hX 9 dX6_rank_9 rfl 1 rfl ?_
    obtain ⟨v6, hc7, h⟩ := kb_some h
    refine kw_callV_I hX 10 (As := [.int a1]) (rest := []) (kX6_rankOf (kx_l X) Y ma m_now m_sav m_sc m_err m_shf m_stp m_que m_qd m_qx m_qy m_met m_per m_row m_det m_h a1 hc7) gX6_rank_X6_rankOf rfl 1 rfl hdV_X6_rankOf ⟨rfl, rfl⟩ ⟨by decide, by decide⟩ ⟨Nat.zero_le _, Nat.zero_le _⟩ rfl (Nat.le_of_ble_eq_true rfl) [0] (by decide) rfl (kfc gM_f kfn0) (gs1 := [gM Y ma m_now m_sav m_sc m_err m_shf m_stp m_que m_qd v6.2.1 v6.2.2.1 v6.2.2.2.1 v6.2.2.2.2 m_row m_det m_h]) rfl 0 6 rfl rfl rfl dX6_rank_10 ?_
    refine kw_goto hX 13 22 dX6_rank_13 (by decide) ?_
    obtain rfl := Option.some.inj h
    exact hret _ _ dX6_rank_22 rfl
def pX6_index (a1 : Int32) (m_now : Nat → Int32) (m_err : Nat → Int32) (m_qx : Nat → Int32) (m_qy : Nat → Int32) (m_met : Nat → Int32) (m_per : Nat → Int32) : Option (Int32 × (Nat → Int32) × (Nat → Int32) × (Nat → Int32) × (Nat → Int32) × (Nat → Int32)) := kb (pX6_isVertex a1 m_now) (fun v1 => (if v1 = 0 then kb (pX6_error (-2) m_err) (fun v4 => some (v4.1, v4.2, m_qx, m_qy, m_met, m_per)) else kb (pX6_indexOf a1 m_now m_qx m_qy m_met m_per) (fun v6 => some (v6.1, m_err, v6.2.1, v6.2.2.1, v6.2.2.2.1, v6.2.2.2.2))))
def rmX6_index : Room := { frames := 5, cells := 0, slots := 0, locals := 113 }
theorem hdV_X6_index : yX6_index.cls = RX6 ∧ yX6_index.cls ≠ "java/lang/invoke/MethodHandle" ∧ yX6_index.cls ≠ "java/lang/invoke/VarHandle" ∧ (parseMethodDescriptor yX6_index.desc).map (fun d => d.parameters.length) = some 1 := ⟨rfl, by decide +kernel, by decide +kernel, by decide +kernel⟩
set_option maxHeartbeats 4000000 in
set_option maxRecDepth 100000 in
theorem kX6_index (l : Launch) (Y : KY) (ma : Nat → Nat) (m_now : Nat → Int32) (m_sav : Nat → Int32) (m_sc : Int32) (m_err : Nat → Int32) (m_shf : Nat → Int32) (m_stp : Nat → Int32) (m_que : Nat → Int32) (m_qd : Int32) (m_qx : Nat → Int32) (m_qy : Nat → Int32) (m_met : Nat → Int32) (m_per : Nat → Int32) (m_row : Nat → Int64) (m_det : Int64) (m_h : Int64) (a1 : Int32) {o : Int32 × (Nat → Int32) × (Nat → Int32) × (Nat → Int32) × (Nat → Int32) × (Nat → Int32)} (h : pX6_index a1 m_now m_err m_qx m_qy m_met m_per = some o) : CtI l yX6_index wsX6_index rmX6_index Y [.ref (ma 0), .int a1] (kfl [gM Y ma m_now m_sav m_sc m_err m_shf m_stp m_que m_qd m_qx m_qy m_met m_per m_row m_det m_h]) o.1 (kfl [gM Y ma m_now m_sav m_sc o.2.1 m_shf m_stp m_que m_qd o.2.2.1 o.2.2.2.1 o.2.2.2.2.1 o.2.2.2.2.2 m_row m_det m_h]) := by
  refine ctI_intro (cc := cX6_index) (maxL := 2) (own := RX6) (by decide +kernel) rfl rfl (Nat.le_of_ble_eq_true rfl) rfl ?_
  intro X A hX _ hret
  unfold pX6_index at h
  refine kw_lv (lv' := [(0, .ref (ma 0)), (1, .int a1)]) [0, 1] rfl ?_
  refine kw_aload_n hX 0 dX6_index_0 rfl 0 rfl ?_
  refine kw_iload_n hX 1 dX6_index_1 rfl 1 rfl ?_
  obtain ⟨v1, hc2, h⟩ := kb_some h
  refine kw_callV_I hX 2 (As := [.int a1]) (rest := []) (kX6_isVertex (kx_l X) Y ma m_now m_sav m_sc m_err m_shf m_stp m_que m_qd m_qx m_qy m_met m_per m_row m_det m_h a1 hc2) gX6_index_X6_isVertex rfl 1 rfl hdV_X6_isVertex ⟨rfl, rfl⟩ ⟨by decide, by decide⟩ ⟨Nat.zero_le _, Nat.zero_le _⟩ rfl (Nat.le_of_ble_eq_true rfl) [0] (by decide) rfl (kfc rfl kfn0) (gs1 := [gM Y ma m_now m_sav m_sc m_err m_shf m_stp m_que m_qd m_qx m_qy m_met m_per m_row m_det m_h]) rfl 0 6 rfl rfl rfl dX6_index_2 ?_
  refine kw_if_eq hX 5 16 dX6_index_5 (by decide) (fun c3 => ?_) (fun c3 => ?_)
  · have h := kif_t c3 h
    refine kw_aload_n hX 16 dX6_index_16 rfl 0 rfl ?_
    refine kw_bipush hX 17 dX6_index_17 kcb_m2 ?_
    obtain ⟨v4, hc5, h⟩ := kb_some h
    refine kw_callV_I hX 19 (As := [.int (-2)]) (rest := []) (kX6_error (kx_l X) Y ma m_now m_sav m_sc m_err m_shf m_stp m_que m_qd m_qx m_qy m_met m_per m_row m_det m_h (-2) hc5) gX6_index_X6_error rfl 1 rfl hdV_X6_error ⟨rfl, rfl⟩ ⟨by decide, by decide⟩ ⟨Nat.zero_le _, Nat.zero_le _⟩ rfl (Nat.le_of_ble_eq_true rfl) [0] (by decide) rfl (kfc gM_f kfn0) (gs1 := [gM Y ma m_now m_sav m_sc v4.2 m_shf m_stp m_que m_qd m_qx m_qy m_met m_per m_row m_det m_h]) rfl 0 6 rfl rfl rfl dX6_index_19 ?_
    obtain rfl := Option.some.inj h
    exact hret _ _ dX6_index_22 rfl
  · have h := kif_f c3 h
    refine kw_aload_n hX 8 dX6_index_8 rfl 0 rfl ?_
    refine kw_iload_n hX 9 dX6_index_9 rfl 1 rfl ?_
    obtain ⟨v6, hc7, h⟩ := kb_some h
    refine kw_callV_I hX 10 (As := [.int a1]) (rest := []) (kX6_indexOf (kx_l X) Y ma m_now m_sav m_sc m_err m_shf m_stp m_que m_qd m_qx m_qy m_met m_per m_row m_det m_h a1 hc7) gX6_index_X6_indexOf rfl 1 rfl hdV_X6_indexOf ⟨rfl, rfl⟩ ⟨by decide, by decide⟩ ⟨Nat.zero_le _, Nat.zero_le _⟩ rfl (Nat.le_of_ble_eq_true rfl) [0] (by decide) rfl (kfc gM_f kfn0) (gs1 := [gM Y ma m_now m_sav m_sc m_err m_shf m_stp m_que m_qd v6.2.1 v6.2.2.1 v6.2.2.2.1 v6.2.2.2.2 m_row m_det m_h]) rfl 0 6 rfl rfl rfl dX6_index_10 ?_
    refine kw_goto hX 13 22 dX6_index_13 (by decide) ?_
    obtain rfl := Option.some.inj h
    exact hret _ _ dX6_index_22 rfl
def pX6_connected_L9 : Nat → Int32 → Int32 → (Nat → Int32) → (Nat → Int32) → Option (Int32 × Int32)
  | 0, _, _, _, _ => none
  | n + 1, l1, l2, z_m_now, z_m_met => kgd (kin 0 50) ((if (z_m_now (0 : Int32).toNatClampNeg) ≤ l2 then some (l1, l2) else kb ((if l1 = 0 then some 0 else kgd (kin l2 6) ((if (z_m_met (l2 : Int32).toNatClampNeg) = 0 then some 0 else some 1))) : Option (Int32)) (fun v8 => pX6_connected_L9 n v8 (l2 + 1) z_m_now z_m_met)))
def pX6_connected  (m_now : Nat → Int32) (m_qx : Nat → Int32) (m_qy : Nat → Int32) (m_met : Nat → Int32) : Option (Int32 × (Nat → Int32) × (Nat → Int32) × (Nat → Int32)) := kb (pX6_spread 0 m_now m_qx m_qy m_met) (fun v1 => kb (pX6_connected_L9 KF 1 0 m_now v1.2.2) (fun v11 => kgd (kzb v11.1) (some (v11.1, v1.1, v1.2.1, v1.2.2))))
def rmX6_connected : Room := { frames := 3, cells := 0, slots := 0, locals := 68 }
theorem hdV_X6_connected : yX6_connected.cls = RX6 ∧ yX6_connected.cls ≠ "java/lang/invoke/MethodHandle" ∧ yX6_connected.cls ≠ "java/lang/invoke/VarHandle" ∧ (parseMethodDescriptor yX6_connected.desc).map (fun d => d.parameters.length) = some 0 := ⟨rfl, by decide +kernel, by decide +kernel, by decide +kernel⟩
set_option maxHeartbeats 4000000 in
set_option maxRecDepth 100000 in
theorem kX6_connected (l : Launch) (Y : KY) (ma : Nat → Nat) (m_now : Nat → Int32) (m_sav : Nat → Int32) (m_sc : Int32) (m_err : Nat → Int32) (m_shf : Nat → Int32) (m_stp : Nat → Int32) (m_que : Nat → Int32) (m_qd : Int32) (m_qx : Nat → Int32) (m_qy : Nat → Int32) (m_met : Nat → Int32) (m_per : Nat → Int32) (m_row : Nat → Int64) (m_det : Int64) (m_h : Int64)  {o : Int32 × (Nat → Int32) × (Nat → Int32) × (Nat → Int32)} (h : pX6_connected m_now m_qx m_qy m_met = some o) : CtI l yX6_connected wsX6_connected rmX6_connected Y [.ref (ma 0)] (kfl [gM Y ma m_now m_sav m_sc m_err m_shf m_stp m_que m_qd m_qx m_qy m_met m_per m_row m_det m_h]) o.1 (kfl [gM Y ma m_now m_sav m_sc m_err m_shf m_stp m_que m_qd o.2.1 o.2.2.1 o.2.2.2 m_per m_row m_det m_h]) := by
  refine ctI_intro (cc := cX6_connected) (maxL := 3) (own := RX6) (by decide +kernel) rfl rfl (Nat.le_of_ble_eq_true rfl) rfl ?_
  intro X A hX _ hret
  have hin6 : ∀ w ∈ u_ws RX6 TX6 15, w ∈ wsX6_connected := by decide +kernel
  have f0 := hX.w (Cond.fieldLink RX6 7 "PeriodicNetModel" "now" "[I") (by decide +kernel)
  have f1 := hX.w (Cond.fieldLink RX6 34 "PeriodicNetModel" "met" "[Z") (by decide +kernel)
  have L9 : ∀ (n : Nat) (l1 : Int32) (l2 : Int32) (z_m_now : Nat → Int32) (z_m_sav : Nat → Int32) (z_m_sc : Int32) (z_m_err : Nat → Int32) (z_m_shf : Nat → Int32) (z_m_stp : Nat → Int32) (z_m_que : Nat → Int32) (z_m_qd : Int32) (z_m_qx : Nat → Int32) (z_m_qy : Nat → Int32) (z_m_met : Nat → Int32) (z_m_per : Nat → Int32) (z_m_row : Nat → Int64) (z_m_det : Int64) (z_m_h : Int64) (o : Int32 × Int32), pX6_connected_L9 n l1 l2 z_m_now z_m_met = some o → KW X Y A 3 0 0 (kfl [gM Y ma z_m_now z_m_sav z_m_sc z_m_err z_m_shf z_m_stp z_m_que z_m_qd z_m_qx z_m_qy z_m_met z_m_per z_m_row z_m_det z_m_h]) [(0, .ref (ma 0)), (1, .int o.1), (2, .int o.2)] 44 [] → KW X Y A 3 0 0 (kfl [gM Y ma z_m_now z_m_sav z_m_sc z_m_err z_m_shf z_m_stp z_m_que z_m_qd z_m_qx z_m_qy z_m_met z_m_per z_m_row z_m_det z_m_h]) [(0, .ref (ma 0)), (1, .int l1), (2, .int l2)] 9 [] := by
    intro n
    induction n with
    | zero => intro l1 l2 z_m_now z_m_sav z_m_sc z_m_err z_m_shf z_m_stp z_m_que z_m_qd z_m_qx z_m_qy z_m_met z_m_per z_m_row z_m_det z_m_h o h; cases h
    | succ n ih =>
      intro l1 l2 z_m_now z_m_sav z_m_sc z_m_err z_m_shf z_m_stp z_m_que z_m_qd z_m_qx z_m_qy z_m_met z_m_per z_m_row z_m_det z_m_h o h hK
      rw [pX6_connected_L9] at h
      refine kw_iload_n hX 9 dX6_connected_9 rfl 2 rfl ?_
      refine kw_aload_n hX 10 dX6_connected_10 rfl 0 rfl ?_
      refine kw_get hX 11 (C := RX6) (T := TX6) (N := 15) hin6 0 f0 (fun _ h => h) 0 rfl rfl (by decide) rfl dX6_connected_11 ?_
      refine kw_iconst hX 14 dX6_connected_14 kci_0 ?_
      obtain ⟨g3, h⟩ := kgd_some h
      refine kw_iald hX 15 1 rfl g3 dX6_connected_15 ?_
      refine kw_icmp_ge hX 16 44 dX6_connected_16 (by decide) (fun c4 => ?_) (fun c4 => ?_)
      · have h := kif_t c4 h
        obtain rfl := Option.some.inj h
        refine kw_lv (lv' := [(0, .ref (ma 0)), (1, .int l1), (2, .int l2)]) [0, 1, 2] rfl ?_
        exact hK
      · have h := kif_f c4 h
        refine kw_iload_n hX 19 dX6_connected_19 rfl 1 rfl ?_
        obtain ⟨v8, hj10, h⟩ := kb_some h
        have J9 : KW X Y A 3 0 0 (kfl [gM Y ma z_m_now z_m_sav z_m_sc z_m_err z_m_shf z_m_stp z_m_que z_m_qd z_m_qx z_m_qy z_m_met z_m_per z_m_row z_m_det z_m_h]) [(0, .ref (ma 0)), (2, .int l2)] 37 [.int v8] := by
          refine kw_istore_n (lv' := [(1, .int v8), (0, .ref (ma 0)), (2, .int l2)]) hX 37 dX6_connected_37 rfl (by decide) rfl ?_
          refine kw_iinc (v := (l2 + 1)) (lv' := [(2, .int (l2 + 1)), (1, .int v8), (0, .ref (ma 0))]) hX 38 dX6_connected_38 2 rfl (kinc_1 _) (by decide) rfl ?_
          refine kw_goto hX 41 9 dX6_connected_41 (by decide) ?_
          refine kw_lv (lv' := [(0, .ref (ma 0)), (1, .int v8), (2, .int (l2 + 1))]) [2, 1, 0] rfl ?_
          exact ih v8 (l2 + 1) z_m_now z_m_sav z_m_sc z_m_err z_m_shf z_m_stp z_m_que z_m_qd z_m_qx z_m_qy z_m_met z_m_per z_m_row z_m_det z_m_h o h hK
        have h := hj10
        refine kw_if_eq hX 20 36 dX6_connected_20 (by decide) (fun c5 => ?_) (fun c5 => ?_)
        · have h := kif_t c5 h
          refine kw_iconst hX 36 dX6_connected_36 kci_0 ?_
          obtain rfl := Option.some.inj h
          refine kw_lv (lv' := [(0, .ref (ma 0)), (2, .int l2)]) [0, 2] rfl ?_
          exact J9
        · have h := kif_f c5 h
          refine kw_aload_n hX 23 dX6_connected_23 rfl 0 rfl ?_
          refine kw_get hX 24 (C := RX6) (T := TX6) (N := 15) hin6 10 f1 (fun _ h => h) 0 rfl rfl (by decide) rfl dX6_connected_24 ?_
          refine kw_iload_n hX 27 dX6_connected_27 rfl 2 rfl ?_
          obtain ⟨g6, h⟩ := kgd_some h
          refine kw_zald hX 28 9 rfl g6 dX6_connected_28 ?_
          refine kw_if_eq hX 29 36 dX6_connected_29 (by decide) (fun c7 => ?_) (fun c7 => ?_)
          · have h := kif_t c7 h
            refine kw_iconst hX 36 dX6_connected_36 kci_0 ?_
            obtain rfl := Option.some.inj h
            refine kw_lv (lv' := [(0, .ref (ma 0)), (2, .int l2)]) [0, 2] rfl ?_
            exact J9
          · have h := kif_f c7 h
            refine kw_iconst hX 32 dX6_connected_32 kci_1 ?_
            refine kw_goto hX 33 37 dX6_connected_33 (by decide) ?_
            obtain rfl := Option.some.inj h
            refine kw_lv (lv' := [(0, .ref (ma 0)), (2, .int l2)]) [0, 2] rfl ?_
            exact J9
  unfold pX6_connected at h
  refine kw_lv (lv' := [(0, .ref (ma 0))]) [0] rfl ?_
  refine kw_aload_n hX 0 dX6_connected_0 rfl 0 rfl ?_
  refine kw_iconst hX 1 dX6_connected_1 kci_0 ?_
  obtain ⟨v1, hc2, h⟩ := kb_some h
  refine kw_callV_V hX 2 (As := [.int 0]) (rest := []) (kX6_spread (kx_l X) Y ma m_now m_sav m_sc m_err m_shf m_stp m_que m_qd m_qx m_qy m_met m_per m_row m_det m_h 0 hc2) gX6_connected_X6_spread rfl 1 rfl hdV_X6_spread ⟨rfl, rfl⟩ ⟨by decide, by decide⟩ ⟨Nat.zero_le _, Nat.zero_le _⟩ rfl (Nat.le_of_ble_eq_true rfl) [0] (by decide) rfl (kfc gM_f kfn0) (gs1 := [gM Y ma m_now m_sav m_sc m_err m_shf m_stp m_que m_qd v1.1 v1.2.1 v1.2.2 m_per m_row m_det m_h]) rfl 0 6 rfl rfl rfl dX6_connected_2 ?_
  refine kw_iconst hX 5 dX6_connected_5 kci_1 ?_
  refine kw_istore_n (lv' := [(1, .int 1), (0, .ref (ma 0))]) hX 6 dX6_connected_6 rfl (by decide) rfl ?_
  refine kw_iconst hX 7 dX6_connected_7 kci_0 ?_
  refine kw_istore_n (lv' := [(2, .int 0), (1, .int 1), (0, .ref (ma 0))]) hX 8 dX6_connected_8 rfl (by decide) rfl ?_
  obtain ⟨v11, hl12, h⟩ := kb_some h
  refine kw_lv (lv' := [(0, .ref (ma 0)), (1, .int 1), (2, .int 0)]) [2, 1, 0] rfl ?_
  refine L9 KF 1 0 m_now m_sav m_sc m_err m_shf m_stp m_que m_qd v1.1 v1.2.1 v1.2.2 m_per m_row m_det m_h v11 hl12 ?_
  refine kw_iload_n hX 44 dX6_connected_44 rfl 1 rfl ?_
  obtain ⟨g13, h⟩ := kgd_some h
  obtain rfl := Option.some.inj h
  exact hret _ _ dX6_connected_45 (kzb_nar g13)
def pX6_isConnected  (m_now : Nat → Int32) (m_qx : Nat → Int32) (m_qy : Nat → Int32) (m_met : Nat → Int32) : Option (Int32 × (Nat → Int32) × (Nat → Int32) × (Nat → Int32)) := kb (pX6_connected m_now m_qx m_qy m_met) (fun v1 => (if v1.1 = 0 then some (0, v1.2.1, v1.2.2.1, v1.2.2.2) else some (1, v1.2.1, v1.2.2.1, v1.2.2.2)))
def rmX6_isConnected : Room := { frames := 4, cells := 0, slots := 0, locals := 90 }
theorem hdV_X6_isConnected : yX6_isConnected.cls = RX6 ∧ yX6_isConnected.cls ≠ "java/lang/invoke/MethodHandle" ∧ yX6_isConnected.cls ≠ "java/lang/invoke/VarHandle" ∧ (parseMethodDescriptor yX6_isConnected.desc).map (fun d => d.parameters.length) = some 0 := ⟨rfl, by decide +kernel, by decide +kernel, by decide +kernel⟩
set_option maxHeartbeats 4000000 in
set_option maxRecDepth 100000 in
theorem kX6_isConnected (l : Launch) (Y : KY) (ma : Nat → Nat) (m_now : Nat → Int32) (m_sav : Nat → Int32) (m_sc : Int32) (m_err : Nat → Int32) (m_shf : Nat → Int32) (m_stp : Nat → Int32) (m_que : Nat → Int32) (m_qd : Int32) (m_qx : Nat → Int32) (m_qy : Nat → Int32) (m_met : Nat → Int32) (m_per : Nat → Int32) (m_row : Nat → Int64) (m_det : Int64) (m_h : Int64)  {o : Int32 × (Nat → Int32) × (Nat → Int32) × (Nat → Int32)} (h : pX6_isConnected m_now m_qx m_qy m_met = some o) : CtI l yX6_isConnected wsX6_isConnected rmX6_isConnected Y [.ref (ma 0)] (kfl [gM Y ma m_now m_sav m_sc m_err m_shf m_stp m_que m_qd m_qx m_qy m_met m_per m_row m_det m_h]) o.1 (kfl [gM Y ma m_now m_sav m_sc m_err m_shf m_stp m_que m_qd o.2.1 o.2.2.1 o.2.2.2 m_per m_row m_det m_h]) := by
  refine ctI_intro (cc := cX6_isConnected) (maxL := 1) (own := RX6) (by decide +kernel) rfl rfl (Nat.le_of_ble_eq_true rfl) rfl ?_
  intro X A hX _ hret
  unfold pX6_isConnected at h
  refine kw_lv (lv' := [(0, .ref (ma 0))]) [0] rfl ?_
  refine kw_aload_n hX 0 dX6_isConnected_0 rfl 0 rfl ?_
  obtain ⟨v1, hc2, h⟩ := kb_some h
  refine kw_callV_I hX 1 (As := []) (rest := []) (kX6_connected (kx_l X) Y ma m_now m_sav m_sc m_err m_shf m_stp m_que m_qd m_qx m_qy m_met m_per m_row m_det m_h hc2) gX6_isConnected_X6_connected rfl 0 rfl hdV_X6_connected ⟨rfl, rfl⟩ ⟨by decide, by decide⟩ ⟨Nat.zero_le _, Nat.zero_le _⟩ rfl (Nat.le_of_ble_eq_true rfl) [0] (by decide) rfl (kfc gM_f kfn0) (gs1 := [gM Y ma m_now m_sav m_sc m_err m_shf m_stp m_que m_qd v1.2.1 v1.2.2.1 v1.2.2.2 m_per m_row m_det m_h]) rfl 0 6 rfl rfl rfl dX6_isConnected_1 ?_
  refine kw_if_eq hX 4 11 dX6_isConnected_4 (by decide) (fun c3 => ?_) (fun c3 => ?_)
  · have h := kif_t c3 h
    refine kw_iconst hX 11 dX6_isConnected_11 kci_0 ?_
    obtain rfl := Option.some.inj h
    exact hret _ _ dX6_isConnected_12 rfl
  · have h := kif_f c3 h
    refine kw_iconst hX 7 dX6_isConnected_7 kci_1 ?_
    refine kw_goto hX 8 12 dX6_isConnected_8 (by decide) ?_
    obtain rfl := Option.some.inj h
    exact hret _ _ dX6_isConnected_12 rfl
def pX6_cell (a1 : Int32) (a2 : Int32)  : Option (Int32) := some ((8 * a1) + a2)
def rmX6_cell : Room := { frames := 0, cells := 0, slots := 0, locals := 0 }
theorem hdS_X6_cell : yX6_cell.cls ≠ "java/lang/invoke/MethodHandle" ∧ yX6_cell.cls ≠ "java/lang/invoke/VarHandle" ∧ (parseMethodDescriptor yX6_cell.desc).map (fun d => d.parameters.length) = some 2 := ⟨by decide +kernel, by decide +kernel, by decide +kernel⟩
set_option maxHeartbeats 4000000 in
set_option maxRecDepth 100000 in
theorem kX6_cell (l : Launch) (Y : KY)   (a1 : Int32) (a2 : Int32) {o : Int32} (h : pX6_cell a1 a2 = some o) : CtI l yX6_cell wsX6_cell rmX6_cell Y [.int a1, .int a2] (kfl []) o (kfl []) := by
  refine ctI_intro (cc := cX6_cell) (maxL := 2) (own := RX6) (by decide +kernel) rfl rfl (Nat.le_of_ble_eq_true rfl) rfl ?_
  intro X A hX _ hret
  unfold pX6_cell at h
  refine kw_lv (lv' := [(0, .int a1), (1, .int a2)]) [0, 1] rfl ?_
  refine kw_bipush hX 0 dX6_cell_0 kcb_8 ?_
  refine kw_iload_n hX 2 dX6_cell_2 rfl 0 rfl ?_
  refine kw_imul hX 3 dX6_cell_3 ?_
  refine kw_iload_n hX 4 dX6_cell_4 rfl 1 rfl ?_
  refine kw_iadd hX 5 dX6_cell_5 ?_
  obtain rfl := Option.some.inj h
  exact hret _ _ dX6_cell_6 rfl
def pX6_makeRows_L2 : Nat → Int32 → (Nat → Int64) → Option (Int32 × (Nat → Int64))
  | 0, _, _ => none
  | n + 1, l1, z_m_row => (if (56 : Int32) ≤ l1 then some (l1, z_m_row) else kgd (kin l1 56) (pX6_makeRows_L2 n (l1 + 1) (vp_updL z_m_row (l1 : Int32).toNatClampNeg 0)))
def pX6_makeRows_L23 : Nat → Int32 → (Nat → Int32) → (Nat → Int64) → Option (Int32 × (Nat → Int64))
  | 0, _, _, _ => none
  | n + 1, l1, z_m_now, z_m_row => kgd (kin 1 50) ((if (2 * (z_m_now (1 : Int32).toNatClampNeg)) ≤ l1 then some (l1, z_m_row) else kgd (decide (¬ (2 : Int32) = 0)) (kgd (decide (¬ (2 : Int32) = 0)) (kb (pX6_of (l1 / 2) (l1 - l1 / 2 * 2) z_m_now) (fun v9 => kb (pX6_leadsTo l1 z_m_now) (fun v11 => kb ((if v9 ≤ 0 then some z_m_row else kb (pX6_cell (v9 - 1) (v9 - 1)) (fun v14 => kgd (kin v14 56) (kgd (kin v14 56) (kb (pX6_cell (v9 - 1) 5) (fun v18 => kgd (kin v18 56) (kb (pX6_endX l1 z_m_now) (fun v21 => kgd (kin v18 56) (kb (pX6_cell (v9 - 1) 6) (fun v24 => kgd (kin v24 56) (kb (pX6_endY l1 z_m_now) (fun v27 => kgd (kin v24 56) (some (vp_updL (vp_updL (vp_updL z_m_row (v14 : Int32).toNatClampNeg ((z_m_row (v14 : Int32).toNatClampNeg) + 1)) (v18 : Int32).toNatClampNeg (((vp_updL z_m_row (v14 : Int32).toNatClampNeg ((z_m_row (v14 : Int32).toNatClampNeg) + 1)) (v18 : Int32).toNatClampNeg) + (v21 : Int32).toInt64)) (v24 : Int32).toNatClampNeg (((vp_updL (vp_updL z_m_row (v14 : Int32).toNatClampNeg ((z_m_row (v14 : Int32).toNatClampNeg) + 1)) (v18 : Int32).toNatClampNeg (((vp_updL z_m_row (v14 : Int32).toNatClampNeg ((z_m_row (v14 : Int32).toNatClampNeg) + 1)) (v18 : Int32).toNatClampNeg) + (v21 : Int32).toInt64)) (v24 : Int32).toNatClampNeg) + (v27 : Int32).toInt64)))))))))))))) : Option ((Nat → Int64))) (fun v30 => kb ((if v9 ≤ 0 then some v30 else (if v11 ≤ 0 then some v30 else kb (pX6_cell (v9 - 1) (v11 - 1)) (fun v34 => kgd (kin v34 56) (kgd (kin v34 56) (some (vp_updL v30 (v34 : Int32).toNatClampNeg ((v30 (v34 : Int32).toNatClampNeg) - 1))))))) : Option ((Nat → Int64))) (fun v38 => pX6_makeRows_L23 n (l1 + 1) z_m_now v38))))))))
def pX6_makeRows  (m_now : Nat → Int32) (m_row : Nat → Int64) : Option ((Nat → Int64)) := kb (pX6_makeRows_L2 KF 0 m_row) (fun v3 => kb (pX6_makeRows_L23 KF 0 m_now v3.2) (fun v42 => some v42.2))
def rmX6_makeRows : Room := { frames := 2, cells := 0, slots := 0, locals := 43 }
theorem hdV_X6_makeRows : yX6_makeRows.cls = RX6 ∧ yX6_makeRows.cls ≠ "java/lang/invoke/MethodHandle" ∧ yX6_makeRows.cls ≠ "java/lang/invoke/VarHandle" ∧ (parseMethodDescriptor yX6_makeRows.desc).map (fun d => d.parameters.length) = some 0 := ⟨rfl, by decide +kernel, by decide +kernel, by decide +kernel⟩
set_option maxHeartbeats 4000000 in
set_option maxRecDepth 100000 in
theorem kX6_makeRows (l : Launch) (Y : KY) (ma : Nat → Nat) (m_now : Nat → Int32) (m_sav : Nat → Int32) (m_sc : Int32) (m_err : Nat → Int32) (m_shf : Nat → Int32) (m_stp : Nat → Int32) (m_que : Nat → Int32) (m_qd : Int32) (m_qx : Nat → Int32) (m_qy : Nat → Int32) (m_met : Nat → Int32) (m_per : Nat → Int32) (m_row : Nat → Int64) (m_det : Int64) (m_h : Int64)  {o : (Nat → Int64)} (h : pX6_makeRows m_now m_row = some o) : CtV l yX6_makeRows wsX6_makeRows rmX6_makeRows Y [.ref (ma 0)] (kfl [gM Y ma m_now m_sav m_sc m_err m_shf m_stp m_que m_qd m_qx m_qy m_met m_per m_row m_det m_h]) (kfl [gM Y ma m_now m_sav m_sc m_err m_shf m_stp m_que m_qd m_qx m_qy m_met m_per o m_det m_h]) := by
  refine ctV_intro (cc := cX6_makeRows) (maxL := 4) (own := RX6) (by decide +kernel) rfl rfl (Nat.le_of_ble_eq_true rfl) rfl ?_
  intro X A hX _ hret
  have hin6 : ∀ w ∈ u_ws RX6 TX6 15, w ∈ wsX6_makeRows := by decide +kernel
  have f0 := hX.w (Cond.fieldLink RX6 41 "PeriodicNetModel" "rows" "[J") (by decide +kernel)
  have f1 := hX.w (Cond.fieldLink RX6 7 "PeriodicNetModel" "now" "[I") (by decide +kernel)
  have L2 : ∀ (n : Nat) (l1 : Int32) (z_m_now : Nat → Int32) (z_m_sav : Nat → Int32) (z_m_sc : Int32) (z_m_err : Nat → Int32) (z_m_shf : Nat → Int32) (z_m_stp : Nat → Int32) (z_m_que : Nat → Int32) (z_m_qd : Int32) (z_m_qx : Nat → Int32) (z_m_qy : Nat → Int32) (z_m_met : Nat → Int32) (z_m_per : Nat → Int32) (z_m_row : Nat → Int64) (z_m_det : Int64) (z_m_h : Int64) (o : Int32 × (Nat → Int64)), pX6_makeRows_L2 n l1 z_m_row = some o → KW X Y A 4 0 0 (kfl [gM Y ma z_m_now z_m_sav z_m_sc z_m_err z_m_shf z_m_stp z_m_que z_m_qd z_m_qx z_m_qy z_m_met z_m_per o.2 z_m_det z_m_h]) [(0, .ref (ma 0)), (1, .int o.1)] 21 [] → KW X Y A 4 0 0 (kfl [gM Y ma z_m_now z_m_sav z_m_sc z_m_err z_m_shf z_m_stp z_m_que z_m_qd z_m_qx z_m_qy z_m_met z_m_per z_m_row z_m_det z_m_h]) [(0, .ref (ma 0)), (1, .int l1)] 2 [] := by
    intro n
    induction n with
    | zero => intro l1 z_m_now z_m_sav z_m_sc z_m_err z_m_shf z_m_stp z_m_que z_m_qd z_m_qx z_m_qy z_m_met z_m_per z_m_row z_m_det z_m_h o h; cases h
    | succ n ih =>
      intro l1 z_m_now z_m_sav z_m_sc z_m_err z_m_shf z_m_stp z_m_que z_m_qd z_m_qx z_m_qy z_m_met z_m_per z_m_row z_m_det z_m_h o h hK
      rw [pX6_makeRows_L2] at h
      refine kw_iload_n hX 2 dX6_makeRows_2 rfl 1 rfl ?_
      refine kw_bipush hX 3 dX6_makeRows_3 kcb_56 ?_
      refine kw_icmp_ge hX 5 21 dX6_makeRows_5 (by decide) (fun c1 => ?_) (fun c1 => ?_)
      · have h := kif_t c1 h
        obtain rfl := Option.some.inj h
        refine kw_lv (lv' := [(0, .ref (ma 0)), (1, .int l1)]) [0, 1] rfl ?_
        exact hK
      · have h := kif_f c1 h
        refine kw_aload_n hX 8 dX6_makeRows_8 rfl 0 rfl ?_
        refine kw_get hX 9 (C := RX6) (T := TX6) (N := 15) hin6 12 f0 (fun _ h => h) 0 rfl rfl (by decide) rfl dX6_makeRows_9 ?_
        refine kw_iload_n hX 12 dX6_makeRows_12 rfl 1 rfl ?_
        refine kw_lconst hX 13 dX6_makeRows_13 kcl_0 ?_
        obtain ⟨g2, h⟩ := kgd_some h
        refine kw_last hX 14 (ws' := (kfl [gM Y ma z_m_now z_m_sav z_m_sc z_m_err z_m_shf z_m_stp z_m_que z_m_qd z_m_qx z_m_qy z_m_met z_m_per (vp_updL z_m_row (l1 : Int32).toNatClampNeg 0) z_m_det z_m_h])) 11 rfl g2 rfl dX6_makeRows_14 ?_
        refine kw_iinc (v := (l1 + 1)) (lv' := [(1, .int (l1 + 1)), (0, .ref (ma 0))]) hX 15 dX6_makeRows_15 1 rfl (kinc_1 _) (by decide) rfl ?_
        refine kw_goto hX 18 2 dX6_makeRows_18 (by decide) ?_
        refine kw_lv (lv' := [(0, .ref (ma 0)), (1, .int (l1 + 1))]) [1, 0] rfl ?_
        exact ih (l1 + 1) z_m_now z_m_sav z_m_sc z_m_err z_m_shf z_m_stp z_m_que z_m_qd z_m_qx z_m_qy z_m_met z_m_per (vp_updL z_m_row (l1 : Int32).toNatClampNeg 0) z_m_det z_m_h o h hK
  have L23 : ∀ (n : Nat) (l1 : Int32) (z_m_now : Nat → Int32) (z_m_sav : Nat → Int32) (z_m_sc : Int32) (z_m_err : Nat → Int32) (z_m_shf : Nat → Int32) (z_m_stp : Nat → Int32) (z_m_que : Nat → Int32) (z_m_qd : Int32) (z_m_qx : Nat → Int32) (z_m_qy : Nat → Int32) (z_m_met : Nat → Int32) (z_m_per : Nat → Int32) (z_m_row : Nat → Int64) (z_m_det : Int64) (z_m_h : Int64) (o : Int32 × (Nat → Int64)), pX6_makeRows_L23 n l1 z_m_now z_m_row = some o → KW X Y A 4 0 0 (kfl [gM Y ma z_m_now z_m_sav z_m_sc z_m_err z_m_shf z_m_stp z_m_que z_m_qd z_m_qx z_m_qy z_m_met z_m_per o.2 z_m_det z_m_h]) [(0, .ref (ma 0)), (1, .int o.1)] 149 [] → KW X Y A 4 0 0 (kfl [gM Y ma z_m_now z_m_sav z_m_sc z_m_err z_m_shf z_m_stp z_m_que z_m_qd z_m_qx z_m_qy z_m_met z_m_per z_m_row z_m_det z_m_h]) [(0, .ref (ma 0)), (1, .int l1)] 23 [] := by
    intro n
    induction n with
    | zero => intro l1 z_m_now z_m_sav z_m_sc z_m_err z_m_shf z_m_stp z_m_que z_m_qd z_m_qx z_m_qy z_m_met z_m_per z_m_row z_m_det z_m_h o h; cases h
    | succ n ih =>
      intro l1 z_m_now z_m_sav z_m_sc z_m_err z_m_shf z_m_stp z_m_que z_m_qd z_m_qx z_m_qy z_m_met z_m_per z_m_row z_m_det z_m_h o h hK
      rw [pX6_makeRows_L23] at h
      refine kw_iload_n hX 23 dX6_makeRows_23 rfl 1 rfl ?_
      refine kw_iconst hX 24 dX6_makeRows_24 kci_2 ?_
      refine kw_aload_n hX 25 dX6_makeRows_25 rfl 0 rfl ?_
      refine kw_get hX 26 (C := RX6) (T := TX6) (N := 15) hin6 0 f1 (fun _ h => h) 0 rfl rfl (by decide) rfl dX6_makeRows_26 ?_
      refine kw_iconst hX 29 dX6_makeRows_29 kci_1 ?_
      obtain ⟨g5, h⟩ := kgd_some h
      refine kw_iald hX 30 1 rfl g5 dX6_makeRows_30 ?_
      refine kw_imul hX 31 dX6_makeRows_31 ?_
      refine kw_icmp_ge hX 32 149 dX6_makeRows_32 (by decide) (fun c6 => ?_) (fun c6 => ?_)
      · have h := kif_t c6 h
        obtain rfl := Option.some.inj h
        refine kw_lv (lv' := [(0, .ref (ma 0)), (1, .int l1)]) [0, 1] rfl ?_
        exact hK
      · have h := kif_f c6 h
        refine kw_aload_n hX 35 dX6_makeRows_35 rfl 0 rfl ?_
        refine kw_iload_n hX 36 dX6_makeRows_36 rfl 1 rfl ?_
        refine kw_iconst hX 37 dX6_makeRows_37 kci_2 ?_
        obtain ⟨g7, h⟩ := kgd_some h
        refine kw_idiv hX 38 dX6_makeRows_38 (of_decide_eq_true g7) ?_
        refine kw_iload_n hX 39 dX6_makeRows_39 rfl 1 rfl ?_
        refine kw_iconst hX 40 dX6_makeRows_40 kci_2 ?_
        obtain ⟨g8, h⟩ := kgd_some h
        refine kw_irem hX 41 dX6_makeRows_41 (of_decide_eq_true g8) ?_
        obtain ⟨v9, hc10, h⟩ := kb_some h
        refine kw_callV_I hX 42 (As := [.int (l1 / 2), .int (l1 - l1 / 2 * 2)]) (rest := []) (kX6_of (kx_l X) Y ma z_m_now z_m_sav z_m_sc z_m_err z_m_shf z_m_stp z_m_que z_m_qd z_m_qx z_m_qy z_m_met z_m_per z_m_row z_m_det z_m_h (l1 / 2) (l1 - l1 / 2 * 2) hc10) gX6_makeRows_X6_of rfl 2 rfl hdV_X6_of ⟨rfl, rfl⟩ ⟨by decide, by decide⟩ ⟨Nat.zero_le _, Nat.zero_le _⟩ rfl (Nat.le_of_ble_eq_true rfl) [0] (by decide) rfl (kfc rfl kfn0) (gs1 := [gM Y ma z_m_now z_m_sav z_m_sc z_m_err z_m_shf z_m_stp z_m_que z_m_qd z_m_qx z_m_qy z_m_met z_m_per z_m_row z_m_det z_m_h]) rfl 0 6 rfl rfl rfl dX6_makeRows_42 ?_
        refine kw_istore_n (lv' := [(2, .int v9), (0, .ref (ma 0)), (1, .int l1)]) hX 45 dX6_makeRows_45 rfl (by decide) rfl ?_
        refine kw_aload_n hX 46 dX6_makeRows_46 rfl 1 rfl ?_
        refine kw_iload_n hX 47 dX6_makeRows_47 rfl 2 rfl ?_
        obtain ⟨v11, hc12, h⟩ := kb_some h
        refine kw_callV_I hX 48 (As := [.int l1]) (rest := []) (kX6_leadsTo (kx_l X) Y ma z_m_now z_m_sav z_m_sc z_m_err z_m_shf z_m_stp z_m_que z_m_qd z_m_qx z_m_qy z_m_met z_m_per z_m_row z_m_det z_m_h l1 hc12) gX6_makeRows_X6_leadsTo rfl 1 rfl hdV_X6_leadsTo ⟨rfl, rfl⟩ ⟨by decide, by decide⟩ ⟨Nat.zero_le _, Nat.zero_le _⟩ rfl (Nat.le_of_ble_eq_true rfl) [0] (by decide) rfl (kfc rfl kfn0) (gs1 := [gM Y ma z_m_now z_m_sav z_m_sc z_m_err z_m_shf z_m_stp z_m_que z_m_qd z_m_qx z_m_qy z_m_met z_m_per z_m_row z_m_det z_m_h]) rfl 0 6 rfl rfl rfl dX6_makeRows_48 ?_
        refine kw_istore_n (lv' := [(3, .int v11), (2, .int v9), (0, .ref (ma 0)), (1, .int l1)]) hX 51 dX6_makeRows_51 rfl (by decide) rfl ?_
        refine kw_iload_n hX 52 dX6_makeRows_52 rfl 1 rfl ?_
        obtain ⟨v30, hj41, h⟩ := kb_some h
        have J31 : KW X Y A 4 0 0 (kfl [gM Y ma z_m_now z_m_sav z_m_sc z_m_err z_m_shf z_m_stp z_m_que z_m_qd z_m_qx z_m_qy z_m_met z_m_per v30 z_m_det z_m_h]) [(0, .ref (ma 0)), (1, .int l1), (2, .int v9), (3, .int v11)] 117 [] := by
          refine kw_iload_n hX 117 dX6_makeRows_117 rfl 2 rfl ?_
          obtain ⟨v38, hj40, h⟩ := kb_some h
          have J39 : KW X Y A 4 0 0 (kfl [gM Y ma z_m_now z_m_sav z_m_sc z_m_err z_m_shf z_m_stp z_m_que z_m_qd z_m_qx z_m_qy z_m_met z_m_per v38 z_m_det z_m_h]) [(0, .ref (ma 0)), (1, .int l1)] 143 [] := by
            refine kw_iinc (v := (l1 + 1)) (lv' := [(1, .int (l1 + 1)), (0, .ref (ma 0))]) hX 143 dX6_makeRows_143 1 rfl (kinc_1 _) (by decide) rfl ?_
            refine kw_goto hX 146 23 dX6_makeRows_146 (by decide) ?_
            refine kw_lv (lv' := [(0, .ref (ma 0)), (1, .int (l1 + 1))]) [1, 0] rfl ?_
            exact ih (l1 + 1) z_m_now z_m_sav z_m_sc z_m_err z_m_shf z_m_stp z_m_que z_m_qd z_m_qx z_m_qy z_m_met z_m_per v38 z_m_det z_m_h o h hK
          have h := hj40
          refine kw_if_le hX 118 143 dX6_makeRows_118 (by decide) (fun c32 => ?_) (fun c32 => ?_)
          · have h := kif_t c32 h
            obtain rfl := Option.some.inj h
            refine kw_lv (lv' := [(0, .ref (ma 0)), (1, .int l1)]) [0, 1] rfl ?_
            exact J39
          · have h := kif_f c32 h
            refine kw_iload_n hX 121 dX6_makeRows_121 rfl 3 rfl ?_
            refine kw_if_le hX 122 143 dX6_makeRows_122 (by decide) (fun c33 => ?_) (fun c33 => ?_)
            · have h := kif_t c33 h
              obtain rfl := Option.some.inj h
              refine kw_lv (lv' := [(0, .ref (ma 0)), (1, .int l1)]) [0, 1] rfl ?_
              exact J39
            · have h := kif_f c33 h
              refine kw_aload_n hX 125 dX6_makeRows_125 rfl 0 rfl ?_
              refine kw_get hX 126 (C := RX6) (T := TX6) (N := 15) hin6 12 f0 (fun _ h => h) 0 rfl rfl (by decide) rfl dX6_makeRows_126 ?_
              refine kw_iload_n hX 129 dX6_makeRows_129 rfl 2 rfl ?_
              refine kw_iconst hX 130 dX6_makeRows_130 kci_1 ?_
              refine kw_isub hX 131 dX6_makeRows_131 ?_
              refine kw_iload_n hX 132 dX6_makeRows_132 rfl 3 rfl ?_
              refine kw_iconst hX 133 dX6_makeRows_133 kci_1 ?_
              refine kw_isub hX 134 dX6_makeRows_134 ?_
              obtain ⟨v34, hc35, h⟩ := kb_some h
              refine kw_callS_I hX 135 (As := [.int (v9 - 1), .int (v11 - 1)]) (rest := [.ref (ma 11)]) (kX6_cell (kx_l X) Y (v9 - 1) (v11 - 1) hc35) gX6_makeRows_X6_cell rfl 2 rfl hdS_X6_cell ⟨rfl, rfl⟩ ⟨by decide, by decide⟩ ⟨Nat.zero_le _, Nat.zero_le _⟩ rfl (Nat.le_of_ble_eq_true rfl) [] (by decide) rfl kfn0 (gs1 := [gM Y ma z_m_now z_m_sav z_m_sc z_m_err z_m_shf z_m_stp z_m_que z_m_qd z_m_qx z_m_qy z_m_met z_m_per v30 z_m_det z_m_h]) rfl dX6_makeRows_135 ?_
              refine kw_dup2 hX 138 dX6_makeRows_138 rfl rfl ?_
              obtain ⟨g36, h⟩ := kgd_some h
              refine kw_lald hX 139 11 rfl g36 dX6_makeRows_139 ?_
              refine kw_lconst hX 140 dX6_makeRows_140 kcl_1 ?_
              refine kw_lsub hX 141 dX6_makeRows_141 ?_
              obtain ⟨g37, h⟩ := kgd_some h
              refine kw_last hX 142 (ws' := (kfl [gM Y ma z_m_now z_m_sav z_m_sc z_m_err z_m_shf z_m_stp z_m_que z_m_qd z_m_qx z_m_qy z_m_met z_m_per (vp_updL v30 (v34 : Int32).toNatClampNeg ((v30 (v34 : Int32).toNatClampNeg) - 1)) z_m_det z_m_h])) 11 rfl g37 rfl dX6_makeRows_142 ?_
              obtain rfl := Option.some.inj h
              refine kw_lv (lv' := [(0, .ref (ma 0)), (1, .int l1)]) [0, 1] rfl ?_
              exact J39
        have h := hj41
        refine kw_if_le hX 53 117 dX6_makeRows_53 (by decide) (fun c13 => ?_) (fun c13 => ?_)
        · have h := kif_t c13 h
          obtain rfl := Option.some.inj h
          refine kw_lv (lv' := [(0, .ref (ma 0)), (1, .int l1), (2, .int v9), (3, .int v11)]) [2, 3, 1, 0] rfl ?_
          exact J31
        · have h := kif_f c13 h
          refine kw_aload_n hX 56 dX6_makeRows_56 rfl 2 rfl ?_
          refine kw_get hX 57 (C := RX6) (T := TX6) (N := 15) hin6 12 f0 (fun _ h => h) 0 rfl rfl (by decide) rfl dX6_makeRows_57 ?_
          refine kw_iload_n hX 60 dX6_makeRows_60 rfl 1 rfl ?_
          refine kw_iconst hX 61 dX6_makeRows_61 kci_1 ?_
          refine kw_isub hX 62 dX6_makeRows_62 ?_
          refine kw_iload_n hX 63 dX6_makeRows_63 rfl 1 rfl ?_
          refine kw_iconst hX 64 dX6_makeRows_64 kci_1 ?_
          refine kw_isub hX 65 dX6_makeRows_65 ?_
          obtain ⟨v14, hc15, h⟩ := kb_some h
          refine kw_callS_I hX 66 (As := [.int (v9 - 1), .int (v9 - 1)]) (rest := [.ref (ma 11)]) (kX6_cell (kx_l X) Y (v9 - 1) (v9 - 1) hc15) gX6_makeRows_X6_cell rfl 2 rfl hdS_X6_cell ⟨rfl, rfl⟩ ⟨by decide, by decide⟩ ⟨Nat.zero_le _, Nat.zero_le _⟩ rfl (Nat.le_of_ble_eq_true rfl) [] (by decide) rfl kfn0 (gs1 := [gM Y ma z_m_now z_m_sav z_m_sc z_m_err z_m_shf z_m_stp z_m_que z_m_qd z_m_qx z_m_qy z_m_met z_m_per z_m_row z_m_det z_m_h]) rfl dX6_makeRows_66 ?_
          refine kw_dup2 hX 69 dX6_makeRows_69 rfl rfl ?_
          obtain ⟨g16, h⟩ := kgd_some h
          refine kw_lald hX 70 11 rfl g16 dX6_makeRows_70 ?_
          refine kw_lconst hX 71 dX6_makeRows_71 kcl_1 ?_
          refine kw_ladd hX 72 dX6_makeRows_72 ?_
          obtain ⟨g17, h⟩ := kgd_some h
          refine kw_last hX 73 (ws' := (kfl [gM Y ma z_m_now z_m_sav z_m_sc z_m_err z_m_shf z_m_stp z_m_que z_m_qd z_m_qx z_m_qy z_m_met z_m_per (vp_updL z_m_row (v14 : Int32).toNatClampNeg ((z_m_row (v14 : Int32).toNatClampNeg) + 1)) z_m_det z_m_h])) 11 rfl g17 rfl dX6_makeRows_73 ?_
          refine kw_aload_n hX 74 dX6_makeRows_74 rfl 2 rfl ?_
          refine kw_get hX 75 (C := RX6) (T := TX6) (N := 15) hin6 12 f0 (fun _ h => h) 0 rfl rfl (by decide) rfl dX6_makeRows_75 ?_
          refine kw_iload_n hX 78 dX6_makeRows_78 rfl 1 rfl ?_
          refine kw_iconst hX 79 dX6_makeRows_79 kci_1 ?_
          refine kw_isub hX 80 dX6_makeRows_80 ?_
          refine kw_iconst hX 81 dX6_makeRows_81 kci_5 ?_
          obtain ⟨v18, hc19, h⟩ := kb_some h
          refine kw_callS_I hX 82 (As := [.int (v9 - 1), .int 5]) (rest := [.ref (ma 11)]) (kX6_cell (kx_l X) Y (v9 - 1) 5 hc19) gX6_makeRows_X6_cell rfl 2 rfl hdS_X6_cell ⟨rfl, rfl⟩ ⟨by decide, by decide⟩ ⟨Nat.zero_le _, Nat.zero_le _⟩ rfl (Nat.le_of_ble_eq_true rfl) [] (by decide) rfl kfn0 (gs1 := [gM Y ma z_m_now z_m_sav z_m_sc z_m_err z_m_shf z_m_stp z_m_que z_m_qd z_m_qx z_m_qy z_m_met z_m_per (vp_updL z_m_row (v14 : Int32).toNatClampNeg ((z_m_row (v14 : Int32).toNatClampNeg) + 1)) z_m_det z_m_h]) rfl dX6_makeRows_82 ?_
          refine kw_dup2 hX 85 dX6_makeRows_85 rfl rfl ?_
          obtain ⟨g20, h⟩ := kgd_some h
          refine kw_lald hX 86 11 rfl g20 dX6_makeRows_86 ?_
          refine kw_aload_n hX 87 dX6_makeRows_87 rfl 2 rfl ?_
          refine kw_iload_n hX 88 dX6_makeRows_88 rfl 3 rfl ?_
          obtain ⟨v21, hc22, h⟩ := kb_some h
          refine kw_callV_I hX 89 (As := [.int l1]) (rest := [.long ((vp_updL z_m_row (v14 : Int32).toNatClampNeg ((z_m_row (v14 : Int32).toNatClampNeg) + 1)) (v18 : Int32).toNatClampNeg), .int v18, .ref (ma 11)]) (kX6_endX (kx_l X) Y ma z_m_now z_m_sav z_m_sc z_m_err z_m_shf z_m_stp z_m_que z_m_qd z_m_qx z_m_qy z_m_met z_m_per (vp_updL z_m_row (v14 : Int32).toNatClampNeg ((z_m_row (v14 : Int32).toNatClampNeg) + 1)) z_m_det z_m_h l1 hc22) gX6_makeRows_X6_endX rfl 1 rfl hdV_X6_endX ⟨rfl, rfl⟩ ⟨by decide, by decide⟩ ⟨Nat.zero_le _, Nat.zero_le _⟩ rfl (Nat.le_of_ble_eq_true rfl) [0] (by decide) rfl (kfc rfl kfn0) (gs1 := [gM Y ma z_m_now z_m_sav z_m_sc z_m_err z_m_shf z_m_stp z_m_que z_m_qd z_m_qx z_m_qy z_m_met z_m_per (vp_updL z_m_row (v14 : Int32).toNatClampNeg ((z_m_row (v14 : Int32).toNatClampNeg) + 1)) z_m_det z_m_h]) rfl 0 6 rfl rfl rfl dX6_makeRows_89 ?_
          refine kw_i2l hX 92 dX6_makeRows_92 ?_
          refine kw_ladd hX 93 dX6_makeRows_93 ?_
          obtain ⟨g23, h⟩ := kgd_some h
          refine kw_last hX 94 (ws' := (kfl [gM Y ma z_m_now z_m_sav z_m_sc z_m_err z_m_shf z_m_stp z_m_que z_m_qd z_m_qx z_m_qy z_m_met z_m_per (vp_updL (vp_updL z_m_row (v14 : Int32).toNatClampNeg ((z_m_row (v14 : Int32).toNatClampNeg) + 1)) (v18 : Int32).toNatClampNeg (((vp_updL z_m_row (v14 : Int32).toNatClampNeg ((z_m_row (v14 : Int32).toNatClampNeg) + 1)) (v18 : Int32).toNatClampNeg) + (v21 : Int32).toInt64)) z_m_det z_m_h])) 11 rfl g23 rfl dX6_makeRows_94 ?_
          refine kw_aload_n hX 95 dX6_makeRows_95 rfl 2 rfl ?_
          refine kw_get hX 96 (C := RX6) (T := TX6) (N := 15) hin6 12 f0 (fun _ h => h) 0 rfl rfl (by decide) rfl dX6_makeRows_96 ?_
          refine kw_iload_n hX 99 dX6_makeRows_99 rfl 1 rfl ?_
          refine kw_iconst hX 100 dX6_makeRows_100 kci_1 ?_
          refine kw_isub hX 101 dX6_makeRows_101 ?_
          refine kw_bipush hX 102 dX6_makeRows_102 kcb_6 ?_
          obtain ⟨v24, hc25, h⟩ := kb_some h
          refine kw_callS_I hX 104 (As := [.int (v9 - 1), .int 6]) (rest := [.ref (ma 11)]) (kX6_cell (kx_l X) Y (v9 - 1) 6 hc25) gX6_makeRows_X6_cell rfl 2 rfl hdS_X6_cell ⟨rfl, rfl⟩ ⟨by decide, by decide⟩ ⟨Nat.zero_le _, Nat.zero_le _⟩ rfl (Nat.le_of_ble_eq_true rfl) [] (by decide) rfl kfn0 (gs1 := [gM Y ma z_m_now z_m_sav z_m_sc z_m_err z_m_shf z_m_stp z_m_que z_m_qd z_m_qx z_m_qy z_m_met z_m_per (vp_updL (vp_updL z_m_row (v14 : Int32).toNatClampNeg ((z_m_row (v14 : Int32).toNatClampNeg) + 1)) (v18 : Int32).toNatClampNeg (((vp_updL z_m_row (v14 : Int32).toNatClampNeg ((z_m_row (v14 : Int32).toNatClampNeg) + 1)) (v18 : Int32).toNatClampNeg) + (v21 : Int32).toInt64)) z_m_det z_m_h]) rfl dX6_makeRows_104 ?_
          refine kw_dup2 hX 107 dX6_makeRows_107 rfl rfl ?_
          obtain ⟨g26, h⟩ := kgd_some h
          refine kw_lald hX 108 11 rfl g26 dX6_makeRows_108 ?_
          refine kw_aload_n hX 109 dX6_makeRows_109 rfl 2 rfl ?_
          refine kw_iload_n hX 110 dX6_makeRows_110 rfl 3 rfl ?_
          obtain ⟨v27, hc28, h⟩ := kb_some h
          refine kw_callV_I hX 111 (As := [.int l1]) (rest := [.long ((vp_updL (vp_updL z_m_row (v14 : Int32).toNatClampNeg ((z_m_row (v14 : Int32).toNatClampNeg) + 1)) (v18 : Int32).toNatClampNeg (((vp_updL z_m_row (v14 : Int32).toNatClampNeg ((z_m_row (v14 : Int32).toNatClampNeg) + 1)) (v18 : Int32).toNatClampNeg) + (v21 : Int32).toInt64)) (v24 : Int32).toNatClampNeg), .int v24, .ref (ma 11)]) (kX6_endY (kx_l X) Y ma z_m_now z_m_sav z_m_sc z_m_err z_m_shf z_m_stp z_m_que z_m_qd z_m_qx z_m_qy z_m_met z_m_per (vp_updL (vp_updL z_m_row (v14 : Int32).toNatClampNeg ((z_m_row (v14 : Int32).toNatClampNeg) + 1)) (v18 : Int32).toNatClampNeg (((vp_updL z_m_row (v14 : Int32).toNatClampNeg ((z_m_row (v14 : Int32).toNatClampNeg) + 1)) (v18 : Int32).toNatClampNeg) + (v21 : Int32).toInt64)) z_m_det z_m_h l1 hc28) gX6_makeRows_X6_endY rfl 1 rfl hdV_X6_endY ⟨rfl, rfl⟩ ⟨by decide, by decide⟩ ⟨Nat.zero_le _, Nat.zero_le _⟩ rfl (Nat.le_of_ble_eq_true rfl) [0] (by decide) rfl (kfc rfl kfn0) (gs1 := [gM Y ma z_m_now z_m_sav z_m_sc z_m_err z_m_shf z_m_stp z_m_que z_m_qd z_m_qx z_m_qy z_m_met z_m_per (vp_updL (vp_updL z_m_row (v14 : Int32).toNatClampNeg ((z_m_row (v14 : Int32).toNatClampNeg) + 1)) (v18 : Int32).toNatClampNeg (((vp_updL z_m_row (v14 : Int32).toNatClampNeg ((z_m_row (v14 : Int32).toNatClampNeg) + 1)) (v18 : Int32).toNatClampNeg) + (v21 : Int32).toInt64)) z_m_det z_m_h]) rfl 0 6 rfl rfl rfl dX6_makeRows_111 ?_
          refine kw_i2l hX 114 dX6_makeRows_114 ?_
          refine kw_ladd hX 115 dX6_makeRows_115 ?_
          obtain ⟨g29, h⟩ := kgd_some h
          refine kw_last hX 116 (ws' := (kfl [gM Y ma z_m_now z_m_sav z_m_sc z_m_err z_m_shf z_m_stp z_m_que z_m_qd z_m_qx z_m_qy z_m_met z_m_per (vp_updL (vp_updL (vp_updL z_m_row (v14 : Int32).toNatClampNeg ((z_m_row (v14 : Int32).toNatClampNeg) + 1)) (v18 : Int32).toNatClampNeg (((vp_updL z_m_row (v14 : Int32).toNatClampNeg ((z_m_row (v14 : Int32).toNatClampNeg) + 1)) (v18 : Int32).toNatClampNeg) + (v21 : Int32).toInt64)) (v24 : Int32).toNatClampNeg (((vp_updL (vp_updL z_m_row (v14 : Int32).toNatClampNeg ((z_m_row (v14 : Int32).toNatClampNeg) + 1)) (v18 : Int32).toNatClampNeg (((vp_updL z_m_row (v14 : Int32).toNatClampNeg ((z_m_row (v14 : Int32).toNatClampNeg) + 1)) (v18 : Int32).toNatClampNeg) + (v21 : Int32).toInt64)) (v24 : Int32).toNatClampNeg) + (v27 : Int32).toInt64)) z_m_det z_m_h])) 11 rfl g29 rfl dX6_makeRows_116 ?_
          obtain rfl := Option.some.inj h
          refine kw_lv (lv' := [(0, .ref (ma 0)), (1, .int l1), (2, .int v9), (3, .int v11)]) [2, 3, 1, 0] rfl ?_
          exact J31
  unfold pX6_makeRows at h
  refine kw_lv (lv' := [(0, .ref (ma 0))]) [0] rfl ?_
  refine kw_iconst hX 0 dX6_makeRows_0 kci_0 ?_
  refine kw_istore_n (lv' := [(1, .int 0), (0, .ref (ma 0))]) hX 1 dX6_makeRows_1 rfl (by decide) rfl ?_
  obtain ⟨v3, hl4, h⟩ := kb_some h
  refine kw_lv (lv' := [(0, .ref (ma 0)), (1, .int 0)]) [1, 0] rfl ?_
  refine L2 KF 0 m_now m_sav m_sc m_err m_shf m_stp m_que m_qd m_qx m_qy m_met m_per m_row m_det m_h v3 hl4 ?_
  refine kw_iconst hX 21 dX6_makeRows_21 kci_0 ?_
  refine kw_istore_n (lv' := [(1, .int 0), (0, .ref (ma 0))]) hX 22 dX6_makeRows_22 rfl (by decide) rfl ?_
  obtain ⟨v42, hl43, h⟩ := kb_some h
  refine kw_lv (lv' := [(0, .ref (ma 0)), (1, .int 0)]) [1, 0] rfl ?_
  refine L23 KF 0 m_now m_sav m_sc m_err m_shf m_stp m_que m_qd m_qx m_qy m_met m_per v3.2 m_det m_h v42 hl43 ?_
  obtain rfl := Option.some.inj h
  exact hret _ _ dX6_makeRows_149
def pX6_place_L66 : Nat → Int32 → Int64 → Int32 → Int64 → Int32 → (Nat → Int64) → Int64 → Option (Int32 × (Nat → Int64))
  | 0, _, _, _, _, _, _, _ => none
  | n + 1, l1, l2, l4, l5, l7, z_m_row, z_m_det => (if (7 : Int32) ≤ l7 then some (l7, z_m_row) else (if l4 = l1 then some (l7, z_m_row) else kb (pX6_cell l4 l7) (fun v15 => kb (pX6_cell l4 l7) (fun v17 => kgd (kin v17 56) (kb (pX6_cell l1 l7) (fun v20 => kgd (kin v20 56) (kgd (decide (¬ z_m_det = 0)) (kgd (kin v15 56) (pX6_place_L66 n l1 l2 l4 l5 (l7 + 1) (vp_updL z_m_row (v15 : Int32).toNatClampNeg (((l2 * (z_m_row (v17 : Int32).toNatClampNeg)) - (l5 * (z_m_row (v20 : Int32).toNatClampNeg))) / z_m_det)) z_m_det)))))))))
def pX6_place_L37 : Nat → Int32 → Int64 → Int32 → (Nat → Int32) → (Nat → Int64) → Int64 → Option (Int32 × (Nat → Int64))
  | 0, _, _, _, _, _, _ => none
  | n + 1, l1, l2, l4, z_m_now, z_m_row, z_m_det => kgd (kin 0 50) ((if ((z_m_now (0 : Int32).toNatClampNeg) - 1) ≤ l4 then some (l4, z_m_row) else kb (pX6_cell l4 l1) (fun v10 => kgd (kin v10 56) (kb (pX6_place_L66 KF l1 l2 l4 (z_m_row (v10 : Int32).toNatClampNeg) 0 z_m_row z_m_det) (fun v25 => pX6_place_L37 n l1 l2 (l4 + 1) z_m_now v25.2 z_m_det)))))
def pX6_place_L11 : Nat → Int32 → (Nat → Int32) → (Nat → Int64) → Int64 → Option (Int32 × (Nat → Int64) × Int64)
  | 0, _, _, _, _ => none
  | n + 1, l1, z_m_now, z_m_row, z_m_det => kgd (kin 0 50) ((if ((z_m_now (0 : Int32).toNatClampNeg) - 1) ≤ l1 then some (l1, z_m_row, z_m_det) else kb (pX6_cell l1 l1) (fun v5 => kgd (kin v5 56) (kb (pX6_place_L37 KF l1 (z_m_row (v5 : Int32).toNatClampNeg) 0 z_m_now z_m_row z_m_det) (fun v27 => pX6_place_L11 n (l1 + 1) z_m_now v27.2 (z_m_row (v5 : Int32).toNatClampNeg))))))
def pX6_place  (m_now : Nat → Int32) (m_row : Nat → Int64) (m_det : Int64) : Option ((Nat → Int64) × Int64) := kb (pX6_makeRows m_now m_row) (fun v1 => kb (pX6_place_L11 KF 0 m_now v1 1) (fun v29 => some (v29.2.1, v29.2.2)))
def rmX6_place : Room := { frames := 3, cells := 0, slots := 0, locals := 66 }
theorem hdV_X6_place : yX6_place.cls = RX6 ∧ yX6_place.cls ≠ "java/lang/invoke/MethodHandle" ∧ yX6_place.cls ≠ "java/lang/invoke/VarHandle" ∧ (parseMethodDescriptor yX6_place.desc).map (fun d => d.parameters.length) = some 0 := ⟨rfl, by decide +kernel, by decide +kernel, by decide +kernel⟩
set_option maxHeartbeats 4000000 in
set_option maxRecDepth 100000 in
theorem kX6_place (l : Launch) (Y : KY) (ma : Nat → Nat) (m_now : Nat → Int32) (m_sav : Nat → Int32) (m_sc : Int32) (m_err : Nat → Int32) (m_shf : Nat → Int32) (m_stp : Nat → Int32) (m_que : Nat → Int32) (m_qd : Int32) (m_qx : Nat → Int32) (m_qy : Nat → Int32) (m_met : Nat → Int32) (m_per : Nat → Int32) (m_row : Nat → Int64) (m_det : Int64) (m_h : Int64)  {o : (Nat → Int64) × Int64} (h : pX6_place m_now m_row m_det = some o) : CtV l yX6_place wsX6_place rmX6_place Y [.ref (ma 0)] (kfl [gM Y ma m_now m_sav m_sc m_err m_shf m_stp m_que m_qd m_qx m_qy m_met m_per m_row m_det m_h]) (kfl [gM Y ma m_now m_sav m_sc m_err m_shf m_stp m_que m_qd m_qx m_qy m_met m_per o.1 o.2 m_h]) := by
  refine ctV_intro (cc := cX6_place) (maxL := 8) (own := RX6) (by decide +kernel) rfl rfl (Nat.le_of_ble_eq_true rfl) rfl ?_
  intro X A hX _ hret
  have hin6 : ∀ w ∈ u_ws RX6 TX6 15, w ∈ wsX6_place := by decide +kernel
  have f0 := hX.w (Cond.fieldLink RX6 152 "PeriodicNetModel" "determinant" "J") (by decide +kernel)
  have f1 := hX.w (Cond.fieldLink RX6 7 "PeriodicNetModel" "now" "[I") (by decide +kernel)
  have f2 := hX.w (Cond.fieldLink RX6 41 "PeriodicNetModel" "rows" "[J") (by decide +kernel)
  have L66 : ∀ (n : Nat) (l1 : Int32) (l2 : Int64) (l4 : Int32) (l5 : Int64) (l7 : Int32) (z_m_now : Nat → Int32) (z_m_sav : Nat → Int32) (z_m_sc : Int32) (z_m_err : Nat → Int32) (z_m_shf : Nat → Int32) (z_m_stp : Nat → Int32) (z_m_que : Nat → Int32) (z_m_qd : Int32) (z_m_qx : Nat → Int32) (z_m_qy : Nat → Int32) (z_m_met : Nat → Int32) (z_m_per : Nat → Int32) (z_m_row : Nat → Int64) (z_m_det : Int64) (z_m_h : Int64) (o : Int32 × (Nat → Int64)), pX6_place_L66 n l1 l2 l4 l5 l7 z_m_row z_m_det = some o → KW X Y A 8 0 0 (kfl [gM Y ma z_m_now z_m_sav z_m_sc z_m_err z_m_shf z_m_stp z_m_que z_m_qd z_m_qx z_m_qy z_m_met z_m_per o.2 z_m_det z_m_h]) [(0, .ref (ma 0)), (1, .int l1), (2, .long l2), (4, .int l4), (5, .long l5), (7, .int o.1)] 131 [] → KW X Y A 8 0 0 (kfl [gM Y ma z_m_now z_m_sav z_m_sc z_m_err z_m_shf z_m_stp z_m_que z_m_qd z_m_qx z_m_qy z_m_met z_m_per z_m_row z_m_det z_m_h]) [(0, .ref (ma 0)), (1, .int l1), (2, .long l2), (4, .int l4), (5, .long l5), (7, .int l7)] 66 [] := by
    intro n
    induction n with
    | zero => intro l1 l2 l4 l5 l7 z_m_now z_m_sav z_m_sc z_m_err z_m_shf z_m_stp z_m_que z_m_qd z_m_qx z_m_qy z_m_met z_m_per z_m_row z_m_det z_m_h o h; cases h
    | succ n ih =>
      intro l1 l2 l4 l5 l7 z_m_now z_m_sav z_m_sc z_m_err z_m_shf z_m_stp z_m_que z_m_qd z_m_qx z_m_qy z_m_met z_m_per z_m_row z_m_det z_m_h o h hK
      rw [pX6_place_L66] at h
      refine kw_iload hX 66 dX6_place_66 5 rfl ?_
      refine kw_bipush hX 68 dX6_place_68 kcb_7 ?_
      refine kw_icmp_ge hX 70 131 dX6_place_70 (by decide) (fun c13 => ?_) (fun c13 => ?_)
      · have h := kif_t c13 h
        obtain rfl := Option.some.inj h
        refine kw_lv (lv' := [(0, .ref (ma 0)), (1, .int l1), (2, .long l2), (4, .int l4), (5, .long l5), (7, .int l7)]) [0, 1, 2, 3, 4, 5] rfl ?_
        exact hK
      · have h := kif_f c13 h
        refine kw_iload hX 73 dX6_place_73 3 rfl ?_
        refine kw_iload_n hX 75 dX6_place_75 rfl 1 rfl ?_
        refine kw_icmp_eq hX 76 131 dX6_place_76 (by decide) (fun c14 => ?_) (fun c14 => ?_)
        · have h := kif_t c14 h
          obtain rfl := Option.some.inj h
          refine kw_lv (lv' := [(0, .ref (ma 0)), (1, .int l1), (2, .long l2), (4, .int l4), (5, .long l5), (7, .int l7)]) [0, 1, 2, 3, 4, 5] rfl ?_
          exact hK
        · have h := kif_f c14 h
          refine kw_aload_n hX 79 dX6_place_79 rfl 0 rfl ?_
          refine kw_get hX 80 (C := RX6) (T := TX6) (N := 15) hin6 12 f2 (fun _ h => h) 0 rfl rfl (by decide) rfl dX6_place_80 ?_
          refine kw_iload hX 83 dX6_place_83 3 rfl ?_
          refine kw_iload hX 85 dX6_place_85 5 rfl ?_
          obtain ⟨v15, hc16, h⟩ := kb_some h
          refine kw_callS_I hX 87 (As := [.int l4, .int l7]) (rest := [.ref (ma 11)]) (kX6_cell (kx_l X) Y l4 l7 hc16) gX6_place_X6_cell rfl 2 rfl hdS_X6_cell ⟨rfl, rfl⟩ ⟨by decide, by decide⟩ ⟨Nat.zero_le _, Nat.zero_le _⟩ rfl (Nat.le_of_ble_eq_true rfl) [] (by decide) rfl kfn0 (gs1 := [gM Y ma z_m_now z_m_sav z_m_sc z_m_err z_m_shf z_m_stp z_m_que z_m_qd z_m_qx z_m_qy z_m_met z_m_per z_m_row z_m_det z_m_h]) rfl dX6_place_87 ?_
          refine kw_lload_n hX 90 dX6_place_90 rfl 2 rfl ?_
          refine kw_aload_n hX 91 dX6_place_91 rfl 0 rfl ?_
          refine kw_get hX 92 (C := RX6) (T := TX6) (N := 15) hin6 12 f2 (fun _ h => h) 0 rfl rfl (by decide) rfl dX6_place_92 ?_
          refine kw_iload hX 95 dX6_place_95 3 rfl ?_
          refine kw_iload hX 97 dX6_place_97 5 rfl ?_
          obtain ⟨v17, hc18, h⟩ := kb_some h
          refine kw_callS_I hX 99 (As := [.int l4, .int l7]) (rest := [.ref (ma 11), .long l2, .int v15, .ref (ma 11)]) (kX6_cell (kx_l X) Y l4 l7 hc18) gX6_place_X6_cell rfl 2 rfl hdS_X6_cell ⟨rfl, rfl⟩ ⟨by decide, by decide⟩ ⟨Nat.zero_le _, Nat.zero_le _⟩ rfl (Nat.le_of_ble_eq_true rfl) [] (by decide) rfl kfn0 (gs1 := [gM Y ma z_m_now z_m_sav z_m_sc z_m_err z_m_shf z_m_stp z_m_que z_m_qd z_m_qx z_m_qy z_m_met z_m_per z_m_row z_m_det z_m_h]) rfl dX6_place_99 ?_
          obtain ⟨g19, h⟩ := kgd_some h
          refine kw_lald hX 102 11 rfl g19 dX6_place_102 ?_
          refine kw_lmul hX 103 dX6_place_103 ?_
          refine kw_lload hX 104 dX6_place_104 4 rfl ?_
          refine kw_aload_n hX 106 dX6_place_106 rfl 0 rfl ?_
          refine kw_get hX 107 (C := RX6) (T := TX6) (N := 15) hin6 12 f2 (fun _ h => h) 0 rfl rfl (by decide) rfl dX6_place_107 ?_
          refine kw_iload_n hX 110 dX6_place_110 rfl 1 rfl ?_
          refine kw_iload hX 111 dX6_place_111 5 rfl ?_
          obtain ⟨v20, hc21, h⟩ := kb_some h
          refine kw_callS_I hX 113 (As := [.int l1, .int l7]) (rest := [.ref (ma 11), .long l5, .long (l2 * (z_m_row (v17 : Int32).toNatClampNeg)), .int v15, .ref (ma 11)]) (kX6_cell (kx_l X) Y l1 l7 hc21) gX6_place_X6_cell rfl 2 rfl hdS_X6_cell ⟨rfl, rfl⟩ ⟨by decide, by decide⟩ ⟨Nat.zero_le _, Nat.zero_le _⟩ rfl (Nat.le_of_ble_eq_true rfl) [] (by decide) rfl kfn0 (gs1 := [gM Y ma z_m_now z_m_sav z_m_sc z_m_err z_m_shf z_m_stp z_m_que z_m_qd z_m_qx z_m_qy z_m_met z_m_per z_m_row z_m_det z_m_h]) rfl dX6_place_113 ?_
          obtain ⟨g22, h⟩ := kgd_some h
          refine kw_lald hX 116 11 rfl g22 dX6_place_116 ?_
          refine kw_lmul hX 117 dX6_place_117 ?_
          refine kw_lsub hX 118 dX6_place_118 ?_
          refine kw_aload_n hX 119 dX6_place_119 rfl 0 rfl ?_
          refine kw_get hX 120 (C := RX6) (T := TX6) (N := 15) hin6 13 f0 (fun _ h => h) 0 rfl rfl (by decide) rfl dX6_place_120 ?_
          obtain ⟨g23, h⟩ := kgd_some h
          refine kw_ldiv hX 123 dX6_place_123 (of_decide_eq_true g23) ?_
          obtain ⟨g24, h⟩ := kgd_some h
          refine kw_last hX 124 (ws' := (kfl [gM Y ma z_m_now z_m_sav z_m_sc z_m_err z_m_shf z_m_stp z_m_que z_m_qd z_m_qx z_m_qy z_m_met z_m_per (vp_updL z_m_row (v15 : Int32).toNatClampNeg (((l2 * (z_m_row (v17 : Int32).toNatClampNeg)) - (l5 * (z_m_row (v20 : Int32).toNatClampNeg))) / z_m_det)) z_m_det z_m_h])) 11 rfl g24 rfl dX6_place_124 ?_
          refine kw_iinc (v := (l7 + 1)) (lv' := [(7, .int (l7 + 1)), (0, .ref (ma 0)), (1, .int l1), (2, .long l2), (4, .int l4), (5, .long l5)]) hX 125 dX6_place_125 5 rfl (kinc_1 _) (by decide) rfl ?_
          refine kw_goto hX 128 66 dX6_place_128 (by decide) ?_
          refine kw_lv (lv' := [(0, .ref (ma 0)), (1, .int l1), (2, .long l2), (4, .int l4), (5, .long l5), (7, .int (l7 + 1))]) [1, 2, 3, 4, 5, 0] rfl ?_
          exact ih l1 l2 l4 l5 (l7 + 1) z_m_now z_m_sav z_m_sc z_m_err z_m_shf z_m_stp z_m_que z_m_qd z_m_qx z_m_qy z_m_met z_m_per (vp_updL z_m_row (v15 : Int32).toNatClampNeg (((l2 * (z_m_row (v17 : Int32).toNatClampNeg)) - (l5 * (z_m_row (v20 : Int32).toNatClampNeg))) / z_m_det)) z_m_det z_m_h o h hK
  have L37 : ∀ (n : Nat) (l1 : Int32) (l2 : Int64) (l4 : Int32) (z_m_now : Nat → Int32) (z_m_sav : Nat → Int32) (z_m_sc : Int32) (z_m_err : Nat → Int32) (z_m_shf : Nat → Int32) (z_m_stp : Nat → Int32) (z_m_que : Nat → Int32) (z_m_qd : Int32) (z_m_qx : Nat → Int32) (z_m_qy : Nat → Int32) (z_m_met : Nat → Int32) (z_m_per : Nat → Int32) (z_m_row : Nat → Int64) (z_m_det : Int64) (z_m_h : Int64) (o : Int32 × (Nat → Int64)), pX6_place_L37 n l1 l2 l4 z_m_now z_m_row z_m_det = some o → KW X Y A 8 0 0 (kfl [gM Y ma z_m_now z_m_sav z_m_sc z_m_err z_m_shf z_m_stp z_m_que z_m_qd z_m_qx z_m_qy z_m_met z_m_per o.2 z_m_det z_m_h]) [(0, .ref (ma 0)), (1, .int l1), (2, .long l2), (4, .int o.1)] 137 [] → KW X Y A 8 0 0 (kfl [gM Y ma z_m_now z_m_sav z_m_sc z_m_err z_m_shf z_m_stp z_m_que z_m_qd z_m_qx z_m_qy z_m_met z_m_per z_m_row z_m_det z_m_h]) [(0, .ref (ma 0)), (1, .int l1), (2, .long l2), (4, .int l4)] 37 [] := by
    intro n
    induction n with
    | zero => intro l1 l2 l4 z_m_now z_m_sav z_m_sc z_m_err z_m_shf z_m_stp z_m_que z_m_qd z_m_qx z_m_qy z_m_met z_m_per z_m_row z_m_det z_m_h o h; cases h
    | succ n ih =>
      intro l1 l2 l4 z_m_now z_m_sav z_m_sc z_m_err z_m_shf z_m_stp z_m_que z_m_qd z_m_qx z_m_qy z_m_met z_m_per z_m_row z_m_det z_m_h o h hK
      rw [pX6_place_L37] at h
      refine kw_iload hX 37 dX6_place_37 3 rfl ?_
      refine kw_aload_n hX 39 dX6_place_39 rfl 0 rfl ?_
      refine kw_get hX 40 (C := RX6) (T := TX6) (N := 15) hin6 0 f1 (fun _ h => h) 0 rfl rfl (by decide) rfl dX6_place_40 ?_
      refine kw_iconst hX 43 dX6_place_43 kci_0 ?_
      obtain ⟨g8, h⟩ := kgd_some h
      refine kw_iald hX 44 1 rfl g8 dX6_place_44 ?_
      refine kw_iconst hX 45 dX6_place_45 kci_1 ?_
      refine kw_isub hX 46 dX6_place_46 ?_
      refine kw_icmp_ge hX 47 137 dX6_place_47 (by decide) (fun c9 => ?_) (fun c9 => ?_)
      · have h := kif_t c9 h
        obtain rfl := Option.some.inj h
        refine kw_lv (lv' := [(0, .ref (ma 0)), (1, .int l1), (2, .long l2), (4, .int l4)]) [0, 1, 2, 3] rfl ?_
        exact hK
      · have h := kif_f c9 h
        refine kw_aload_n hX 50 dX6_place_50 rfl 0 rfl ?_
        refine kw_get hX 51 (C := RX6) (T := TX6) (N := 15) hin6 12 f2 (fun _ h => h) 0 rfl rfl (by decide) rfl dX6_place_51 ?_
        refine kw_iload hX 54 dX6_place_54 3 rfl ?_
        refine kw_iload_n hX 56 dX6_place_56 rfl 1 rfl ?_
        obtain ⟨v10, hc11, h⟩ := kb_some h
        refine kw_callS_I hX 57 (As := [.int l4, .int l1]) (rest := [.ref (ma 11)]) (kX6_cell (kx_l X) Y l4 l1 hc11) gX6_place_X6_cell rfl 2 rfl hdS_X6_cell ⟨rfl, rfl⟩ ⟨by decide, by decide⟩ ⟨Nat.zero_le _, Nat.zero_le _⟩ rfl (Nat.le_of_ble_eq_true rfl) [] (by decide) rfl kfn0 (gs1 := [gM Y ma z_m_now z_m_sav z_m_sc z_m_err z_m_shf z_m_stp z_m_que z_m_qd z_m_qx z_m_qy z_m_met z_m_per z_m_row z_m_det z_m_h]) rfl dX6_place_57 ?_
        obtain ⟨g12, h⟩ := kgd_some h
        refine kw_lald hX 60 11 rfl g12 dX6_place_60 ?_
        refine kw_lstore (lv' := [(5, .long (z_m_row (v10 : Int32).toNatClampNeg)), (0, .ref (ma 0)), (1, .int l1), (2, .long l2), (4, .int l4)]) hX 61 dX6_place_61 (by decide) rfl ?_
        refine kw_iconst hX 63 dX6_place_63 kci_0 ?_
        refine kw_istore (lv' := [(7, .int 0), (5, .long (z_m_row (v10 : Int32).toNatClampNeg)), (0, .ref (ma 0)), (1, .int l1), (2, .long l2), (4, .int l4)]) hX 64 dX6_place_64 (by decide) rfl ?_
        obtain ⟨v25, hl26, h⟩ := kb_some h
        refine kw_lv (lv' := [(0, .ref (ma 0)), (1, .int l1), (2, .long l2), (4, .int l4), (5, .long (z_m_row (v10 : Int32).toNatClampNeg)), (7, .int 0)]) [2, 3, 4, 5, 1, 0] rfl ?_
        refine L66 KF l1 l2 l4 (z_m_row (v10 : Int32).toNatClampNeg) 0 z_m_now z_m_sav z_m_sc z_m_err z_m_shf z_m_stp z_m_que z_m_qd z_m_qx z_m_qy z_m_met z_m_per z_m_row z_m_det z_m_h v25 hl26 ?_
        refine kw_iinc (v := (l4 + 1)) (lv' := [(4, .int (l4 + 1)), (0, .ref (ma 0)), (1, .int l1), (2, .long l2), (5, .long (z_m_row (v10 : Int32).toNatClampNeg)), (7, .int v25.1)]) hX 131 dX6_place_131 3 rfl (kinc_1 _) (by decide) rfl ?_
        refine kw_goto hX 134 37 dX6_place_134 (by decide) ?_
        refine kw_lv (lv' := [(0, .ref (ma 0)), (1, .int l1), (2, .long l2), (4, .int (l4 + 1))]) [1, 2, 3, 0] rfl ?_
        exact ih l1 l2 (l4 + 1) z_m_now z_m_sav z_m_sc z_m_err z_m_shf z_m_stp z_m_que z_m_qd z_m_qx z_m_qy z_m_met z_m_per v25.2 z_m_det z_m_h o h hK
  have L11 : ∀ (n : Nat) (l1 : Int32) (z_m_now : Nat → Int32) (z_m_sav : Nat → Int32) (z_m_sc : Int32) (z_m_err : Nat → Int32) (z_m_shf : Nat → Int32) (z_m_stp : Nat → Int32) (z_m_que : Nat → Int32) (z_m_qd : Int32) (z_m_qx : Nat → Int32) (z_m_qy : Nat → Int32) (z_m_met : Nat → Int32) (z_m_per : Nat → Int32) (z_m_row : Nat → Int64) (z_m_det : Int64) (z_m_h : Int64) (o : Int32 × (Nat → Int64) × Int64), pX6_place_L11 n l1 z_m_now z_m_row z_m_det = some o → KW X Y A 8 0 0 (kfl [gM Y ma z_m_now z_m_sav z_m_sc z_m_err z_m_shf z_m_stp z_m_que z_m_qd z_m_qx z_m_qy z_m_met z_m_per o.2.1 o.2.2 z_m_h]) [(0, .ref (ma 0)), (1, .int o.1)] 148 [] → KW X Y A 8 0 0 (kfl [gM Y ma z_m_now z_m_sav z_m_sc z_m_err z_m_shf z_m_stp z_m_que z_m_qd z_m_qx z_m_qy z_m_met z_m_per z_m_row z_m_det z_m_h]) [(0, .ref (ma 0)), (1, .int l1)] 11 [] := by
    intro n
    induction n with
    | zero => intro l1 z_m_now z_m_sav z_m_sc z_m_err z_m_shf z_m_stp z_m_que z_m_qd z_m_qx z_m_qy z_m_met z_m_per z_m_row z_m_det z_m_h o h; cases h
    | succ n ih =>
      intro l1 z_m_now z_m_sav z_m_sc z_m_err z_m_shf z_m_stp z_m_que z_m_qd z_m_qx z_m_qy z_m_met z_m_per z_m_row z_m_det z_m_h o h hK
      rw [pX6_place_L11] at h
      refine kw_iload_n hX 11 dX6_place_11 rfl 1 rfl ?_
      refine kw_aload_n hX 12 dX6_place_12 rfl 0 rfl ?_
      refine kw_get hX 13 (C := RX6) (T := TX6) (N := 15) hin6 0 f1 (fun _ h => h) 0 rfl rfl (by decide) rfl dX6_place_13 ?_
      refine kw_iconst hX 16 dX6_place_16 kci_0 ?_
      obtain ⟨g3, h⟩ := kgd_some h
      refine kw_iald hX 17 1 rfl g3 dX6_place_17 ?_
      refine kw_iconst hX 18 dX6_place_18 kci_1 ?_
      refine kw_isub hX 19 dX6_place_19 ?_
      refine kw_icmp_ge hX 20 148 dX6_place_20 (by decide) (fun c4 => ?_) (fun c4 => ?_)
      · have h := kif_t c4 h
        obtain rfl := Option.some.inj h
        refine kw_lv (lv' := [(0, .ref (ma 0)), (1, .int l1)]) [0, 1] rfl ?_
        exact hK
      · have h := kif_f c4 h
        refine kw_aload_n hX 23 dX6_place_23 rfl 0 rfl ?_
        refine kw_get hX 24 (C := RX6) (T := TX6) (N := 15) hin6 12 f2 (fun _ h => h) 0 rfl rfl (by decide) rfl dX6_place_24 ?_
        refine kw_iload_n hX 27 dX6_place_27 rfl 1 rfl ?_
        refine kw_iload_n hX 28 dX6_place_28 rfl 1 rfl ?_
        obtain ⟨v5, hc6, h⟩ := kb_some h
        refine kw_callS_I hX 29 (As := [.int l1, .int l1]) (rest := [.ref (ma 11)]) (kX6_cell (kx_l X) Y l1 l1 hc6) gX6_place_X6_cell rfl 2 rfl hdS_X6_cell ⟨rfl, rfl⟩ ⟨by decide, by decide⟩ ⟨Nat.zero_le _, Nat.zero_le _⟩ rfl (Nat.le_of_ble_eq_true rfl) [] (by decide) rfl kfn0 (gs1 := [gM Y ma z_m_now z_m_sav z_m_sc z_m_err z_m_shf z_m_stp z_m_que z_m_qd z_m_qx z_m_qy z_m_met z_m_per z_m_row z_m_det z_m_h]) rfl dX6_place_29 ?_
        obtain ⟨g7, h⟩ := kgd_some h
        refine kw_lald hX 32 11 rfl g7 dX6_place_32 ?_
        refine kw_lstore_n (lv' := [(2, .long (z_m_row (v5 : Int32).toNatClampNeg)), (0, .ref (ma 0)), (1, .int l1)]) hX 33 dX6_place_33 rfl (by decide) rfl ?_
        refine kw_iconst hX 34 dX6_place_34 kci_0 ?_
        refine kw_istore (lv' := [(4, .int 0), (2, .long (z_m_row (v5 : Int32).toNatClampNeg)), (0, .ref (ma 0)), (1, .int l1)]) hX 35 dX6_place_35 (by decide) rfl ?_
        obtain ⟨v27, hl28, h⟩ := kb_some h
        refine kw_lv (lv' := [(0, .ref (ma 0)), (1, .int l1), (2, .long (z_m_row (v5 : Int32).toNatClampNeg)), (4, .int 0)]) [2, 3, 1, 0] rfl ?_
        refine L37 KF l1 (z_m_row (v5 : Int32).toNatClampNeg) 0 z_m_now z_m_sav z_m_sc z_m_err z_m_shf z_m_stp z_m_que z_m_qd z_m_qx z_m_qy z_m_met z_m_per z_m_row z_m_det z_m_h v27 hl28 ?_
        refine kw_aload_n hX 137 dX6_place_137 rfl 0 rfl ?_
        refine kw_lload_n hX 138 dX6_place_138 rfl 2 rfl ?_
        refine kw_put hX 139 (C := RX6) (T := TX6) (N := 15) (ws' := (kfl [gM Y ma z_m_now z_m_sav z_m_sc z_m_err z_m_shf z_m_stp z_m_que z_m_qd z_m_qx z_m_qy z_m_met z_m_per v27.2 (z_m_row (v5 : Int32).toNatClampNeg) z_m_h])) hin6 tyX6 tyX6_ok nmX6 13 f0 (fun _ h => h) 0 rfl rfl (by decide) rfl (ty := .long) (tyX6_ok 13 (by decide)) rfl rfl (Nat.le_of_ble_eq_true rfl) rfl dX6_place_139 ?_
        refine kw_iinc (v := (l1 + 1)) (lv' := [(1, .int (l1 + 1)), (0, .ref (ma 0)), (2, .long (z_m_row (v5 : Int32).toNatClampNeg)), (4, .int v27.1)]) hX 142 dX6_place_142 1 rfl (kinc_1 _) (by decide) rfl ?_
        refine kw_goto hX 145 11 dX6_place_145 (by decide) ?_
        refine kw_lv (lv' := [(0, .ref (ma 0)), (1, .int (l1 + 1))]) [1, 0] rfl ?_
        exact ih (l1 + 1) z_m_now z_m_sav z_m_sc z_m_err z_m_shf z_m_stp z_m_que z_m_qd z_m_qx z_m_qy z_m_met z_m_per v27.2 (z_m_row (v5 : Int32).toNatClampNeg) z_m_h o h hK
  unfold pX6_place at h
  refine kw_lv (lv' := [(0, .ref (ma 0))]) [0] rfl ?_
  refine kw_aload_n hX 0 dX6_place_0 rfl 0 rfl ?_
  obtain ⟨v1, hc2, h⟩ := kb_some h
  refine kw_callV_V hX 1 (As := []) (rest := []) (kX6_makeRows (kx_l X) Y ma m_now m_sav m_sc m_err m_shf m_stp m_que m_qd m_qx m_qy m_met m_per m_row m_det m_h hc2) gX6_place_X6_makeRows rfl 0 rfl hdV_X6_makeRows ⟨rfl, rfl⟩ ⟨by decide, by decide⟩ ⟨Nat.zero_le _, Nat.zero_le _⟩ rfl (Nat.le_of_ble_eq_true rfl) [0] (by decide) rfl (kfc gM_f kfn0) (gs1 := [gM Y ma m_now m_sav m_sc m_err m_shf m_stp m_que m_qd m_qx m_qy m_met m_per v1 m_det m_h]) rfl 0 6 rfl rfl rfl dX6_place_1 ?_
  refine kw_aload_n hX 4 dX6_place_4 rfl 0 rfl ?_
  refine kw_lconst hX 5 dX6_place_5 kcl_1 ?_
  refine kw_put hX 6 (C := RX6) (T := TX6) (N := 15) (ws' := (kfl [gM Y ma m_now m_sav m_sc m_err m_shf m_stp m_que m_qd m_qx m_qy m_met m_per v1 1 m_h])) hin6 tyX6 tyX6_ok nmX6 13 f0 (fun _ h => h) 0 rfl rfl (by decide) rfl (ty := .long) (tyX6_ok 13 (by decide)) rfl rfl (Nat.le_of_ble_eq_true rfl) rfl dX6_place_6 ?_
  refine kw_iconst hX 9 dX6_place_9 kci_0 ?_
  refine kw_istore_n (lv' := [(1, .int 0), (0, .ref (ma 0))]) hX 10 dX6_place_10 rfl (by decide) rfl ?_
  obtain ⟨v29, hl30, h⟩ := kb_some h
  refine kw_lv (lv' := [(0, .ref (ma 0)), (1, .int 0)]) [1, 0] rfl ?_
  refine L11 KF 0 m_now m_sav m_sc m_err m_shf m_stp m_que m_qd m_qx m_qy m_met m_per v1 1 m_h v29 hl30 ?_
  obtain rfl := Option.some.inj h
  exact hret _ _ dX6_place_148
def pX6_scaled (a1 : Int32) (a2 : Int32) (m_row : Nat → Int64) : Option (Int64) := (if a1 = 0 then some 0 else kb (pX6_cell (a1 - 1) (5 + a2)) (fun v2 => kgd (kin v2 56) (some (m_row (v2 : Int32).toNatClampNeg))))
def rmX6_scaled : Room := { frames := 1, cells := 0, slots := 0, locals := 21 }
theorem hdV_X6_scaled : yX6_scaled.cls = RX6 ∧ yX6_scaled.cls ≠ "java/lang/invoke/MethodHandle" ∧ yX6_scaled.cls ≠ "java/lang/invoke/VarHandle" ∧ (parseMethodDescriptor yX6_scaled.desc).map (fun d => d.parameters.length) = some 2 := ⟨rfl, by decide +kernel, by decide +kernel, by decide +kernel⟩
set_option maxHeartbeats 4000000 in
set_option maxRecDepth 100000 in
theorem kX6_scaled (l : Launch) (Y : KY) (ma : Nat → Nat) (m_now : Nat → Int32) (m_sav : Nat → Int32) (m_sc : Int32) (m_err : Nat → Int32) (m_shf : Nat → Int32) (m_stp : Nat → Int32) (m_que : Nat → Int32) (m_qd : Int32) (m_qx : Nat → Int32) (m_qy : Nat → Int32) (m_met : Nat → Int32) (m_per : Nat → Int32) (m_row : Nat → Int64) (m_det : Int64) (m_h : Int64) (a1 : Int32) (a2 : Int32) {o : Int64} (h : pX6_scaled a1 a2 m_row = some o) : CtL l yX6_scaled wsX6_scaled rmX6_scaled Y [.ref (ma 0), .int a1, .int a2] (kfl [gM Y ma m_now m_sav m_sc m_err m_shf m_stp m_que m_qd m_qx m_qy m_met m_per m_row m_det m_h]) o (kfl [gM Y ma m_now m_sav m_sc m_err m_shf m_stp m_que m_qd m_qx m_qy m_met m_per m_row m_det m_h]) := by
  refine ctL_intro (cc := cX6_scaled) (maxL := 3) (own := RX6) (by decide +kernel) rfl rfl (Nat.le_of_ble_eq_true rfl) rfl ?_
  intro X A hX _ hret
  have hin6 : ∀ w ∈ u_ws RX6 TX6 15, w ∈ wsX6_scaled := by decide +kernel
  have f0 := hX.w (Cond.fieldLink RX6 41 "PeriodicNetModel" "rows" "[J") (by decide +kernel)
  unfold pX6_scaled at h
  refine kw_lv (lv' := [(0, .ref (ma 0)), (1, .int a1), (2, .int a2)]) [0, 1, 2] rfl ?_
  refine kw_iload_n hX 0 dX6_scaled_0 rfl 1 rfl ?_
  refine kw_if_ne hX 1 8 dX6_scaled_1 (by decide) (fun c1 => ?_) (fun c1 => ?_)
  · have h := kif_f c1 h
    refine kw_aload_n hX 8 dX6_scaled_8 rfl 0 rfl ?_
    refine kw_get hX 9 (C := RX6) (T := TX6) (N := 15) hin6 12 f0 (fun _ h => h) 0 rfl rfl (by decide) rfl dX6_scaled_9 ?_
    refine kw_iload_n hX 12 dX6_scaled_12 rfl 1 rfl ?_
    refine kw_iconst hX 13 dX6_scaled_13 kci_1 ?_
    refine kw_isub hX 14 dX6_scaled_14 ?_
    refine kw_iconst hX 15 dX6_scaled_15 kci_5 ?_
    refine kw_iload_n hX 16 dX6_scaled_16 rfl 2 rfl ?_
    refine kw_iadd hX 17 dX6_scaled_17 ?_
    obtain ⟨v2, hc3, h⟩ := kb_some h
    refine kw_callS_I hX 18 (As := [.int (a1 - 1), .int (5 + a2)]) (rest := [.ref (ma 11)]) (kX6_cell (kx_l X) Y (a1 - 1) (5 + a2) hc3) gX6_scaled_X6_cell rfl 2 rfl hdS_X6_cell ⟨rfl, rfl⟩ ⟨by decide, by decide⟩ ⟨Nat.zero_le _, Nat.zero_le _⟩ rfl (Nat.le_of_ble_eq_true rfl) [] (by decide) rfl kfn0 (gs1 := [gM Y ma m_now m_sav m_sc m_err m_shf m_stp m_que m_qd m_qx m_qy m_met m_per m_row m_det m_h]) rfl dX6_scaled_18 ?_
    obtain ⟨g4, h⟩ := kgd_some h
    refine kw_lald hX 21 11 rfl g4 dX6_scaled_21 ?_
    obtain rfl := Option.some.inj h
    exact hret _ _ dX6_scaled_22
  · have h := kif_t c1 h
    refine kw_lconst hX 4 dX6_scaled_4 kcl_0 ?_
    refine kw_goto hX 5 22 dX6_scaled_5 (by decide) ?_
    obtain rfl := Option.some.inj h
    exact hret _ _ dX6_scaled_22
def pX6_common_L17 : Nat → Int64 → Int64 → Option (Int64 × Int64)
  | 0, _, _ => none
  | n + 1, l4, l6 => (if (lg_cmp l6 0) ≤ 0 then some (l4, l6) else kgd (decide (¬ l6 = 0)) (pX6_common_L17 n l6 (l4 - l4 / l6 * l6)))
def pX6_common (a1 : Int64) (a2 : Int64)  : Option (Int64) := kb ((if 0 ≤ (lg_cmp a1 0) then some a1 else some (-a1)) : Option (Int64)) (fun v2 => kb (pX6_common_L17 KF v2 a2) (fun v6 => some v6.1))
def rmX6_common : Room := { frames := 0, cells := 0, slots := 0, locals := 0 }
theorem hdS_X6_common : yX6_common.cls ≠ "java/lang/invoke/MethodHandle" ∧ yX6_common.cls ≠ "java/lang/invoke/VarHandle" ∧ (parseMethodDescriptor yX6_common.desc).map (fun d => d.parameters.length) = some 2 := ⟨by decide +kernel, by decide +kernel, by decide +kernel⟩
set_option maxHeartbeats 4000000 in
set_option maxRecDepth 100000 in
theorem kX6_common (l : Launch) (Y : KY)   (a1 : Int64) (a2 : Int64) {o : Int64} (h : pX6_common a1 a2 = some o) : CtL l yX6_common wsX6_common rmX6_common Y [.long a1, .long a2] (kfl []) o (kfl []) := by
  refine ctL_intro (cc := cX6_common) (maxL := 10) (own := RX6) (by decide +kernel) rfl rfl (Nat.le_of_ble_eq_true rfl) rfl ?_
  intro X A hX _ hret
  have L17 : ∀ (n : Nat) (l4 : Int64) (l6 : Int64)  (o : Int64 × Int64), pX6_common_L17 n l4 l6 = some o → KW X Y A 10 0 0 (kfl []) [(4, .long o.1), (6, .long o.2)] 42 [] → KW X Y A 10 0 0 (kfl []) [(4, .long l4), (6, .long l6)] 17 [] := by
    intro n
    induction n with
    | zero => intro l4 l6 o h; cases h
    | succ n ih =>
      intro l4 l6 o h hK
      rw [pX6_common_L17] at h
      refine kw_lload hX 17 dX6_common_17 1 rfl ?_
      refine kw_lconst hX 19 dX6_common_19 kcl_0 ?_
      refine kw_lcmp hX 20 dX6_common_20 ?_
      refine kw_if_le hX 21 42 dX6_common_21 (by decide) (fun c4 => ?_) (fun c4 => ?_)
      · have h := kif_t c4 h
        obtain rfl := Option.some.inj h
        refine kw_lv (lv' := [(4, .long l4), (6, .long l6)]) [0, 1] rfl ?_
        exact hK
      · have h := kif_f c4 h
        refine kw_lload hX 24 dX6_common_24 0 rfl ?_
        refine kw_lload hX 26 dX6_common_26 1 rfl ?_
        obtain ⟨g5, h⟩ := kgd_some h
        refine kw_lrem hX 28 dX6_common_28 (of_decide_eq_true g5) ?_
        refine kw_lstore (lv' := [(8, .long (l4 - l4 / l6 * l6)), (4, .long l4), (6, .long l6)]) hX 29 dX6_common_29 (by decide) rfl ?_
        refine kw_lload hX 31 dX6_common_31 2 rfl ?_
        refine kw_lstore (lv' := [(4, .long l6), (8, .long (l4 - l4 / l6 * l6)), (6, .long l6)]) hX 33 dX6_common_33 (by decide) rfl ?_
        refine kw_lload hX 35 dX6_common_35 1 rfl ?_
        refine kw_lstore (lv' := [(6, .long (l4 - l4 / l6 * l6)), (4, .long l6), (8, .long (l4 - l4 / l6 * l6))]) hX 37 dX6_common_37 (by decide) rfl ?_
        refine kw_goto hX 39 17 dX6_common_39 (by decide) ?_
        refine kw_lv (lv' := [(4, .long l6), (6, .long (l4 - l4 / l6 * l6))]) [1, 0] rfl ?_
        exact ih l6 (l4 - l4 / l6 * l6) o h hK
  unfold pX6_common at h
  refine kw_lv (lv' := [(0, .long a1), (2, .long a2)]) [0, 1] rfl ?_
  refine kw_lload_n hX 0 dX6_common_0 rfl 0 rfl ?_
  refine kw_lconst hX 1 dX6_common_1 kcl_0 ?_
  refine kw_lcmp hX 2 dX6_common_2 ?_
  obtain ⟨v2, hj8, h⟩ := kb_some h
  have J3 : KW X Y A 10 0 0 (kfl []) [(2, .long a2)] 12 [.long v2] := by
    refine kw_lstore (lv' := [(4, .long v2), (2, .long a2)]) hX 12 dX6_common_12 (by decide) rfl ?_
    refine kw_lload_n hX 14 dX6_common_14 rfl 1 rfl ?_
    refine kw_lstore (lv' := [(6, .long a2), (4, .long v2), (2, .long a2)]) hX 15 dX6_common_15 (by decide) rfl ?_
    obtain ⟨v6, hl7, h⟩ := kb_some h
    refine kw_lv (lv' := [(4, .long v2), (6, .long a2)]) [1, 0] rfl ?_
    refine L17 KF v2 a2 v6 hl7 ?_
    refine kw_lload hX 42 dX6_common_42 0 rfl ?_
    obtain rfl := Option.some.inj h
    exact hret _ _ dX6_common_44
  have h := hj8
  refine kw_if_ge hX 3 11 dX6_common_3 (by decide) (fun c1 => ?_) (fun c1 => ?_)
  · have h := kif_t c1 h
    refine kw_lload_n hX 11 dX6_common_11 rfl 0 rfl ?_
    obtain rfl := Option.some.inj h
    refine kw_lv (lv' := [(2, .long a2)]) [1] rfl ?_
    exact J3
  · have h := kif_f c1 h
    refine kw_lload_n hX 6 dX6_common_6 rfl 0 rfl ?_
    refine kw_lneg hX 7 dX6_common_7 ?_
    refine kw_goto hX 8 12 dX6_common_8 (by decide) ?_
    obtain rfl := Option.some.inj h
    refine kw_lv (lv' := [(2, .long a2)]) [1] rfl ?_
    exact J3
def pX6_upper (a1 : Int32) (a2 : Int32) (m_row : Nat → Int64) (m_det : Int64) : Option (Int64) := kb (pX6_scaled a1 a2 m_row) (fun v1 => kb (pX6_scaled a1 a2 m_row) (fun v3 => kb (pX6_common v3 m_det) (fun v5 => kgd (decide (¬ v5 = 0)) (some (v1 / v5)))))
def rmX6_upper : Room := { frames := 2, cells := 0, slots := 0, locals := 43 }
theorem hdV_X6_upper : yX6_upper.cls = RX6 ∧ yX6_upper.cls ≠ "java/lang/invoke/MethodHandle" ∧ yX6_upper.cls ≠ "java/lang/invoke/VarHandle" ∧ (parseMethodDescriptor yX6_upper.desc).map (fun d => d.parameters.length) = some 2 := ⟨rfl, by decide +kernel, by decide +kernel, by decide +kernel⟩
set_option maxHeartbeats 4000000 in
set_option maxRecDepth 100000 in
theorem kX6_upper (l : Launch) (Y : KY) (ma : Nat → Nat) (m_now : Nat → Int32) (m_sav : Nat → Int32) (m_sc : Int32) (m_err : Nat → Int32) (m_shf : Nat → Int32) (m_stp : Nat → Int32) (m_que : Nat → Int32) (m_qd : Int32) (m_qx : Nat → Int32) (m_qy : Nat → Int32) (m_met : Nat → Int32) (m_per : Nat → Int32) (m_row : Nat → Int64) (m_det : Int64) (m_h : Int64) (a1 : Int32) (a2 : Int32) {o : Int64} (h : pX6_upper a1 a2 m_row m_det = some o) : CtL l yX6_upper wsX6_upper rmX6_upper Y [.ref (ma 0), .int a1, .int a2] (kfl [gM Y ma m_now m_sav m_sc m_err m_shf m_stp m_que m_qd m_qx m_qy m_met m_per m_row m_det m_h]) o (kfl [gM Y ma m_now m_sav m_sc m_err m_shf m_stp m_que m_qd m_qx m_qy m_met m_per m_row m_det m_h]) := by
  refine ctL_intro (cc := cX6_upper) (maxL := 3) (own := RX6) (by decide +kernel) rfl rfl (Nat.le_of_ble_eq_true rfl) rfl ?_
  intro X A hX _ hret
  have hin6 : ∀ w ∈ u_ws RX6 TX6 15, w ∈ wsX6_upper := by decide +kernel
  have f0 := hX.w (Cond.fieldLink RX6 152 "PeriodicNetModel" "determinant" "J") (by decide +kernel)
  unfold pX6_upper at h
  refine kw_lv (lv' := [(0, .ref (ma 0)), (1, .int a1), (2, .int a2)]) [0, 1, 2] rfl ?_
  refine kw_aload_n hX 0 dX6_upper_0 rfl 0 rfl ?_
  refine kw_iload_n hX 1 dX6_upper_1 rfl 1 rfl ?_
  refine kw_iload_n hX 2 dX6_upper_2 rfl 2 rfl ?_
  obtain ⟨v1, hc2, h⟩ := kb_some h
  refine kw_callV_L hX 3 (As := [.int a1, .int a2]) (rest := []) (kX6_scaled (kx_l X) Y ma m_now m_sav m_sc m_err m_shf m_stp m_que m_qd m_qx m_qy m_met m_per m_row m_det m_h a1 a2 hc2) gX6_upper_X6_scaled rfl 2 rfl hdV_X6_scaled ⟨rfl, rfl⟩ ⟨by decide, by decide⟩ ⟨Nat.zero_le _, Nat.zero_le _⟩ rfl (Nat.le_of_ble_eq_true rfl) [0] (by decide) rfl (kfc rfl kfn0) (gs1 := [gM Y ma m_now m_sav m_sc m_err m_shf m_stp m_que m_qd m_qx m_qy m_met m_per m_row m_det m_h]) rfl 0 6 rfl rfl rfl dX6_upper_3 ?_
  refine kw_aload_n hX 6 dX6_upper_6 rfl 0 rfl ?_
  refine kw_iload_n hX 7 dX6_upper_7 rfl 1 rfl ?_
  refine kw_iload_n hX 8 dX6_upper_8 rfl 2 rfl ?_
  obtain ⟨v3, hc4, h⟩ := kb_some h
  refine kw_callV_L hX 9 (As := [.int a1, .int a2]) (rest := [.long v1]) (kX6_scaled (kx_l X) Y ma m_now m_sav m_sc m_err m_shf m_stp m_que m_qd m_qx m_qy m_met m_per m_row m_det m_h a1 a2 hc4) gX6_upper_X6_scaled rfl 2 rfl hdV_X6_scaled ⟨rfl, rfl⟩ ⟨by decide, by decide⟩ ⟨Nat.zero_le _, Nat.zero_le _⟩ rfl (Nat.le_of_ble_eq_true rfl) [0] (by decide) rfl (kfc rfl kfn0) (gs1 := [gM Y ma m_now m_sav m_sc m_err m_shf m_stp m_que m_qd m_qx m_qy m_met m_per m_row m_det m_h]) rfl 0 6 rfl rfl rfl dX6_upper_9 ?_
  refine kw_aload_n hX 12 dX6_upper_12 rfl 0 rfl ?_
  refine kw_get hX 13 (C := RX6) (T := TX6) (N := 15) hin6 13 f0 (fun _ h => h) 0 rfl rfl (by decide) rfl dX6_upper_13 ?_
  obtain ⟨v5, hc6, h⟩ := kb_some h
  refine kw_callS_L hX 16 (As := [.long v3, .long m_det]) (rest := [.long v1]) (kX6_common (kx_l X) Y v3 m_det hc6) gX6_upper_X6_common rfl 2 rfl hdS_X6_common ⟨rfl, rfl⟩ ⟨by decide, by decide⟩ ⟨Nat.zero_le _, Nat.zero_le _⟩ rfl (Nat.le_of_ble_eq_true rfl) [] (by decide) rfl kfn0 (gs1 := [gM Y ma m_now m_sav m_sc m_err m_shf m_stp m_que m_qd m_qx m_qy m_met m_per m_row m_det m_h]) rfl dX6_upper_16 ?_
  obtain ⟨g7, h⟩ := kgd_some h
  refine kw_ldiv hX 19 dX6_upper_19 (of_decide_eq_true g7) ?_
  obtain rfl := Option.some.inj h
  exact hret _ _ dX6_upper_20
def pX6_lower (a1 : Int32) (a2 : Int32) (m_row : Nat → Int64) (m_det : Int64) : Option (Int64) := kb (pX6_scaled a1 a2 m_row) (fun v1 => kb (pX6_common v1 m_det) (fun v3 => kgd (decide (¬ v3 = 0)) (some (m_det / v3))))
def rmX6_lower : Room := { frames := 2, cells := 0, slots := 0, locals := 43 }
theorem hdV_X6_lower : yX6_lower.cls = RX6 ∧ yX6_lower.cls ≠ "java/lang/invoke/MethodHandle" ∧ yX6_lower.cls ≠ "java/lang/invoke/VarHandle" ∧ (parseMethodDescriptor yX6_lower.desc).map (fun d => d.parameters.length) = some 2 := ⟨rfl, by decide +kernel, by decide +kernel, by decide +kernel⟩
set_option maxHeartbeats 4000000 in
set_option maxRecDepth 100000 in
theorem kX6_lower (l : Launch) (Y : KY) (ma : Nat → Nat) (m_now : Nat → Int32) (m_sav : Nat → Int32) (m_sc : Int32) (m_err : Nat → Int32) (m_shf : Nat → Int32) (m_stp : Nat → Int32) (m_que : Nat → Int32) (m_qd : Int32) (m_qx : Nat → Int32) (m_qy : Nat → Int32) (m_met : Nat → Int32) (m_per : Nat → Int32) (m_row : Nat → Int64) (m_det : Int64) (m_h : Int64) (a1 : Int32) (a2 : Int32) {o : Int64} (h : pX6_lower a1 a2 m_row m_det = some o) : CtL l yX6_lower wsX6_lower rmX6_lower Y [.ref (ma 0), .int a1, .int a2] (kfl [gM Y ma m_now m_sav m_sc m_err m_shf m_stp m_que m_qd m_qx m_qy m_met m_per m_row m_det m_h]) o (kfl [gM Y ma m_now m_sav m_sc m_err m_shf m_stp m_que m_qd m_qx m_qy m_met m_per m_row m_det m_h]) := by
  refine ctL_intro (cc := cX6_lower) (maxL := 3) (own := RX6) (by decide +kernel) rfl rfl (Nat.le_of_ble_eq_true rfl) rfl ?_
  intro X A hX _ hret
  have hin6 : ∀ w ∈ u_ws RX6 TX6 15, w ∈ wsX6_lower := by decide +kernel
  have f0 := hX.w (Cond.fieldLink RX6 152 "PeriodicNetModel" "determinant" "J") (by decide +kernel)
  unfold pX6_lower at h
  refine kw_lv (lv' := [(0, .ref (ma 0)), (1, .int a1), (2, .int a2)]) [0, 1, 2] rfl ?_
  refine kw_aload_n hX 0 dX6_lower_0 rfl 0 rfl ?_
  refine kw_get hX 1 (C := RX6) (T := TX6) (N := 15) hin6 13 f0 (fun _ h => h) 0 rfl rfl (by decide) rfl dX6_lower_1 ?_
  refine kw_aload_n hX 4 dX6_lower_4 rfl 0 rfl ?_
  refine kw_iload_n hX 5 dX6_lower_5 rfl 1 rfl ?_
  refine kw_iload_n hX 6 dX6_lower_6 rfl 2 rfl ?_
  obtain ⟨v1, hc2, h⟩ := kb_some h
  refine kw_callV_L hX 7 (As := [.int a1, .int a2]) (rest := [.long m_det]) (kX6_scaled (kx_l X) Y ma m_now m_sav m_sc m_err m_shf m_stp m_que m_qd m_qx m_qy m_met m_per m_row m_det m_h a1 a2 hc2) gX6_lower_X6_scaled rfl 2 rfl hdV_X6_scaled ⟨rfl, rfl⟩ ⟨by decide, by decide⟩ ⟨Nat.zero_le _, Nat.zero_le _⟩ rfl (Nat.le_of_ble_eq_true rfl) [0] (by decide) rfl (kfc rfl kfn0) (gs1 := [gM Y ma m_now m_sav m_sc m_err m_shf m_stp m_que m_qd m_qx m_qy m_met m_per m_row m_det m_h]) rfl 0 6 rfl rfl rfl dX6_lower_7 ?_
  refine kw_aload_n hX 10 dX6_lower_10 rfl 0 rfl ?_
  refine kw_get hX 11 (C := RX6) (T := TX6) (N := 15) hin6 13 f0 (fun _ h => h) 0 rfl rfl (by decide) rfl dX6_lower_11 ?_
  obtain ⟨v3, hc4, h⟩ := kb_some h
  refine kw_callS_L hX 14 (As := [.long v1, .long m_det]) (rest := [.long m_det]) (kX6_common (kx_l X) Y v1 m_det hc4) gX6_lower_X6_common rfl 2 rfl hdS_X6_common ⟨rfl, rfl⟩ ⟨by decide, by decide⟩ ⟨Nat.zero_le _, Nat.zero_le _⟩ rfl (Nat.le_of_ble_eq_true rfl) [] (by decide) rfl kfn0 (gs1 := [gM Y ma m_now m_sav m_sc m_err m_shf m_stp m_que m_qd m_qx m_qy m_met m_per m_row m_det m_h]) rfl dX6_lower_14 ?_
  obtain ⟨g5, h⟩ := kgd_some h
  refine kw_ldiv hX 17 dX6_lower_17 (of_decide_eq_true g5) ?_
  obtain rfl := Option.some.inj h
  exact hret _ _ dX6_lower_18
def pX6_placementError (a1 : Int32) (m_now : Nat → Int32) (m_err : Nat → Int32) (m_qx : Nat → Int32) (m_qy : Nat → Int32) (m_met : Nat → Int32) (m_row : Nat → Int64) (m_det : Int64) : Option (Int32 × (Nat → Int32) × (Nat → Int32) × (Nat → Int32) × (Nat → Int32) × (Nat → Int64) × Int64) := (if a1 = 0 then kb (pX6_error (-2) m_err) (fun v9 => some (v9.1, v9.2, m_qx, m_qy, m_met, m_row, m_det)) else kb (pX6_connected m_now m_qx m_qy m_met) (fun v2 => (if v2.1 = 0 then kb (pX6_error (-6) m_err) (fun v7 => some (v7.1, v7.2, v2.2.1, v2.2.2.1, v2.2.2.2, m_row, m_det)) else kb (pX6_place m_now m_row m_det) (fun v5 => some (0, m_err, v2.2.1, v2.2.2.1, v2.2.2.2, v5.1, v5.2)))))
def rmX6_placementError : Room := { frames := 4, cells := 0, slots := 0, locals := 93 }
theorem hdV_X6_placementError : yX6_placementError.cls = RX6 ∧ yX6_placementError.cls ≠ "java/lang/invoke/MethodHandle" ∧ yX6_placementError.cls ≠ "java/lang/invoke/VarHandle" ∧ (parseMethodDescriptor yX6_placementError.desc).map (fun d => d.parameters.length) = some 1 := ⟨rfl, by decide +kernel, by decide +kernel, by decide +kernel⟩
set_option maxHeartbeats 4000000 in
set_option maxRecDepth 100000 in
theorem kX6_placementError (l : Launch) (Y : KY) (ma : Nat → Nat) (m_now : Nat → Int32) (m_sav : Nat → Int32) (m_sc : Int32) (m_err : Nat → Int32) (m_shf : Nat → Int32) (m_stp : Nat → Int32) (m_que : Nat → Int32) (m_qd : Int32) (m_qx : Nat → Int32) (m_qy : Nat → Int32) (m_met : Nat → Int32) (m_per : Nat → Int32) (m_row : Nat → Int64) (m_det : Int64) (m_h : Int64) (a1 : Int32) {o : Int32 × (Nat → Int32) × (Nat → Int32) × (Nat → Int32) × (Nat → Int32) × (Nat → Int64) × Int64} (h : pX6_placementError a1 m_now m_err m_qx m_qy m_met m_row m_det = some o) : CtI l yX6_placementError wsX6_placementError rmX6_placementError Y [.ref (ma 0), .int a1] (kfl [gM Y ma m_now m_sav m_sc m_err m_shf m_stp m_que m_qd m_qx m_qy m_met m_per m_row m_det m_h]) o.1 (kfl [gM Y ma m_now m_sav m_sc o.2.1 m_shf m_stp m_que m_qd o.2.2.1 o.2.2.2.1 o.2.2.2.2.1 m_per o.2.2.2.2.2.1 o.2.2.2.2.2.2 m_h]) := by
  refine ctI_intro (cc := cX6_placementError) (maxL := 2) (own := RX6) (by decide +kernel) rfl rfl (Nat.le_of_ble_eq_true rfl) rfl ?_
  intro X A hX _ hret
  unfold pX6_placementError at h
  refine kw_lv (lv' := [(0, .ref (ma 0)), (1, .int a1)]) [0, 1] rfl ?_
  refine kw_iload_n hX 0 dX6_placementError_0 rfl 1 rfl ?_
  refine kw_if_ne hX 1 11 dX6_placementError_1 (by decide) (fun c1 => ?_) (fun c1 => ?_)
  · have h := kif_f c1 h
    refine kw_aload_n hX 11 dX6_placementError_11 rfl 0 rfl ?_
    obtain ⟨v2, hc3, h⟩ := kb_some h
    refine kw_callV_I hX 12 (As := []) (rest := []) (kX6_connected (kx_l X) Y ma m_now m_sav m_sc m_err m_shf m_stp m_que m_qd m_qx m_qy m_met m_per m_row m_det m_h hc3) gX6_placementError_X6_connected rfl 0 rfl hdV_X6_connected ⟨rfl, rfl⟩ ⟨by decide, by decide⟩ ⟨Nat.zero_le _, Nat.zero_le _⟩ rfl (Nat.le_of_ble_eq_true rfl) [0] (by decide) rfl (kfc gM_f kfn0) (gs1 := [gM Y ma m_now m_sav m_sc m_err m_shf m_stp m_que m_qd v2.2.1 v2.2.2.1 v2.2.2.2 m_per m_row m_det m_h]) rfl 0 6 rfl rfl rfl dX6_placementError_12 ?_
    refine kw_if_ne hX 15 25 dX6_placementError_15 (by decide) (fun c4 => ?_) (fun c4 => ?_)
    · have h := kif_f c4 h
      refine kw_aload_n hX 25 dX6_placementError_25 rfl 0 rfl ?_
      obtain ⟨v5, hc6, h⟩ := kb_some h
      refine kw_callV_V hX 26 (As := []) (rest := []) (kX6_place (kx_l X) Y ma m_now m_sav m_sc m_err m_shf m_stp m_que m_qd v2.2.1 v2.2.2.1 v2.2.2.2 m_per m_row m_det m_h hc6) gX6_placementError_X6_place rfl 0 rfl hdV_X6_place ⟨rfl, rfl⟩ ⟨by decide, by decide⟩ ⟨Nat.zero_le _, Nat.zero_le _⟩ rfl (Nat.le_of_ble_eq_true rfl) [0] (by decide) rfl (kfc gM_f kfn0) (gs1 := [gM Y ma m_now m_sav m_sc m_err m_shf m_stp m_que m_qd v2.2.1 v2.2.2.1 v2.2.2.2 m_per v5.1 v5.2 m_h]) rfl 0 6 rfl rfl rfl dX6_placementError_26 ?_
      refine kw_iconst hX 29 dX6_placementError_29 kci_0 ?_
      obtain rfl := Option.some.inj h
      exact hret _ _ dX6_placementError_30 rfl
    · have h := kif_t c4 h
      refine kw_aload_n hX 18 dX6_placementError_18 rfl 0 rfl ?_
      refine kw_bipush hX 19 dX6_placementError_19 kcb_m6 ?_
      obtain ⟨v7, hc8, h⟩ := kb_some h
      refine kw_callV_I hX 21 (As := [.int (-6)]) (rest := []) (kX6_error (kx_l X) Y ma m_now m_sav m_sc m_err m_shf m_stp m_que m_qd v2.2.1 v2.2.2.1 v2.2.2.2 m_per m_row m_det m_h (-6) hc8) gX6_placementError_X6_error rfl 1 rfl hdV_X6_error ⟨rfl, rfl⟩ ⟨by decide, by decide⟩ ⟨Nat.zero_le _, Nat.zero_le _⟩ rfl (Nat.le_of_ble_eq_true rfl) [0] (by decide) rfl (kfc gM_f kfn0) (gs1 := [gM Y ma m_now m_sav m_sc v7.2 m_shf m_stp m_que m_qd v2.2.1 v2.2.2.1 v2.2.2.2 m_per m_row m_det m_h]) rfl 0 6 rfl rfl rfl dX6_placementError_21 ?_
      obtain rfl := Option.some.inj h
      exact hret _ _ dX6_placementError_24 rfl
  · have h := kif_t c1 h
    refine kw_aload_n hX 4 dX6_placementError_4 rfl 0 rfl ?_
    refine kw_bipush hX 5 dX6_placementError_5 kcb_m2 ?_
    obtain ⟨v9, hc10, h⟩ := kb_some h
    refine kw_callV_I hX 7 (As := [.int (-2)]) (rest := []) (kX6_error (kx_l X) Y ma m_now m_sav m_sc m_err m_shf m_stp m_que m_qd m_qx m_qy m_met m_per m_row m_det m_h (-2) hc10) gX6_placementError_X6_error rfl 1 rfl hdV_X6_error ⟨rfl, rfl⟩ ⟨by decide, by decide⟩ ⟨Nat.zero_le _, Nat.zero_le _⟩ rfl (Nat.le_of_ble_eq_true rfl) [0] (by decide) rfl (kfc gM_f kfn0) (gs1 := [gM Y ma m_now m_sav m_sc v9.2 m_shf m_stp m_que m_qd m_qx m_qy m_met m_per m_row m_det m_h]) rfl 0 6 rfl rfl rfl dX6_placementError_7 ?_
    obtain rfl := Option.some.inj h
    exact hret _ _ dX6_placementError_10 rfl
def pX6_numerator (a1 : Int32) (a2 : Int32) (m_now : Nat → Int32) (m_err : Nat → Int32) (m_qx : Nat → Int32) (m_qy : Nat → Int32) (m_met : Nat → Int32) (m_row : Nat → Int64) (m_det : Int64) : Option (Int64 × (Nat → Int32) × (Nat → Int32) × (Nat → Int32) × (Nat → Int32) × (Nat → Int64) × Int64) := kb (pX6_isVertex a1 m_now) (fun v1 => kb ((if v1 = 0 then some 0 else kb (pX6_in a2 0 1) (fun v4 => (if v4 = 0 then some 0 else some 1))) : Option (Int32)) (fun v7 => kb (pX6_placementError v7 m_now m_err m_qx m_qy m_met m_row m_det) (fun v9 => (if 0 ≤ v9.1 then kb (pX6_upper a1 a2 v9.2.2.2.2.2.1 v9.2.2.2.2.2.2) (fun v12 => some (v12, v9.2.1, v9.2.2.1, v9.2.2.2.1, v9.2.2.2.2.1, v9.2.2.2.2.2.1, v9.2.2.2.2.2.2)) else some ((v9.1 : Int32).toInt64, v9.2.1, v9.2.2.1, v9.2.2.2.1, v9.2.2.2.2.1, v9.2.2.2.2.2.1, v9.2.2.2.2.2.2)))))
def rmX6_numerator : Room := { frames := 5, cells := 0, slots := 0, locals := 114 }
theorem hdV_X6_numerator : yX6_numerator.cls = RX6 ∧ yX6_numerator.cls ≠ "java/lang/invoke/MethodHandle" ∧ yX6_numerator.cls ≠ "java/lang/invoke/VarHandle" ∧ (parseMethodDescriptor yX6_numerator.desc).map (fun d => d.parameters.length) = some 2 := ⟨rfl, by decide +kernel, by decide +kernel, by decide +kernel⟩
set_option maxHeartbeats 4000000 in
set_option maxRecDepth 100000 in
theorem kX6_numerator (l : Launch) (Y : KY) (ma : Nat → Nat) (m_now : Nat → Int32) (m_sav : Nat → Int32) (m_sc : Int32) (m_err : Nat → Int32) (m_shf : Nat → Int32) (m_stp : Nat → Int32) (m_que : Nat → Int32) (m_qd : Int32) (m_qx : Nat → Int32) (m_qy : Nat → Int32) (m_met : Nat → Int32) (m_per : Nat → Int32) (m_row : Nat → Int64) (m_det : Int64) (m_h : Int64) (a1 : Int32) (a2 : Int32) {o : Int64 × (Nat → Int32) × (Nat → Int32) × (Nat → Int32) × (Nat → Int32) × (Nat → Int64) × Int64} (h : pX6_numerator a1 a2 m_now m_err m_qx m_qy m_met m_row m_det = some o) : CtL l yX6_numerator wsX6_numerator rmX6_numerator Y [.ref (ma 0), .int a1, .int a2] (kfl [gM Y ma m_now m_sav m_sc m_err m_shf m_stp m_que m_qd m_qx m_qy m_met m_per m_row m_det m_h]) o.1 (kfl [gM Y ma m_now m_sav m_sc o.2.1 m_shf m_stp m_que m_qd o.2.2.1 o.2.2.2.1 o.2.2.2.2.1 m_per o.2.2.2.2.2.1 o.2.2.2.2.2.2 m_h]) := by
  refine ctL_intro (cc := cX6_numerator) (maxL := 4) (own := RX6) (by decide +kernel) rfl rfl (Nat.le_of_ble_eq_true rfl) rfl ?_
  intro X A hX _ hret
  unfold pX6_numerator at h
  refine kw_lv (lv' := [(0, .ref (ma 0)), (1, .int a1), (2, .int a2)]) [0, 1, 2] rfl ?_
  refine kw_aload_n hX 0 dX6_numerator_0 rfl 0 rfl ?_
  refine kw_aload_n hX 1 dX6_numerator_1 rfl 0 rfl ?_
  refine kw_iload_n hX 2 dX6_numerator_2 rfl 1 rfl ?_
  obtain ⟨v1, hc2, h⟩ := kb_some h
  refine kw_callV_I hX 3 (As := [.int a1]) (rest := [.ref (ma 0)]) (kX6_isVertex (kx_l X) Y ma m_now m_sav m_sc m_err m_shf m_stp m_que m_qd m_qx m_qy m_met m_per m_row m_det m_h a1 hc2) gX6_numerator_X6_isVertex rfl 1 rfl hdV_X6_isVertex ⟨rfl, rfl⟩ ⟨by decide, by decide⟩ ⟨Nat.zero_le _, Nat.zero_le _⟩ rfl (Nat.le_of_ble_eq_true rfl) [0] (by decide) rfl (kfc rfl kfn0) (gs1 := [gM Y ma m_now m_sav m_sc m_err m_shf m_stp m_que m_qd m_qx m_qy m_met m_per m_row m_det m_h]) rfl 0 6 rfl rfl rfl dX6_numerator_3 ?_
  obtain ⟨v7, hj14, h⟩ := kb_some h
  have J8 : KW X Y A 4 0 0 (kfl [gM Y ma m_now m_sav m_sc m_err m_shf m_stp m_que m_qd m_qx m_qy m_met m_per m_row m_det m_h]) [(0, .ref (ma 0)), (1, .int a1), (2, .int a2)] 23 [.int v7, .ref (ma 0)] := by
    obtain ⟨v9, hc10, h⟩ := kb_some h
    refine kw_callV_I hX 23 (As := [.int v7]) (rest := []) (kX6_placementError (kx_l X) Y ma m_now m_sav m_sc m_err m_shf m_stp m_que m_qd m_qx m_qy m_met m_per m_row m_det m_h v7 hc10) gX6_numerator_X6_placementError rfl 1 rfl hdV_X6_placementError ⟨rfl, rfl⟩ ⟨by decide, by decide⟩ ⟨Nat.zero_le _, Nat.zero_le _⟩ rfl (Nat.le_of_ble_eq_true rfl) [0] (by decide) rfl (kfc gM_f kfn0) (gs1 := [gM Y ma m_now m_sav m_sc v9.2.1 m_shf m_stp m_que m_qd v9.2.2.1 v9.2.2.2.1 v9.2.2.2.2.1 m_per v9.2.2.2.2.2.1 v9.2.2.2.2.2.2 m_h]) rfl 0 6 rfl rfl rfl dX6_numerator_23 ?_
    refine kw_istore_n (lv' := [(3, .int v9.1), (0, .ref (ma 0)), (1, .int a1), (2, .int a2)]) hX 26 dX6_numerator_26 rfl (by decide) rfl ?_
    refine kw_iload_n hX 27 dX6_numerator_27 rfl 0 rfl ?_
    refine kw_if_ge hX 28 36 dX6_numerator_28 (by decide) (fun c11 => ?_) (fun c11 => ?_)
    · have h := kif_t c11 h
      refine kw_aload_n hX 36 dX6_numerator_36 rfl 1 rfl ?_
      refine kw_iload_n hX 37 dX6_numerator_37 rfl 2 rfl ?_
      refine kw_iload_n hX 38 dX6_numerator_38 rfl 3 rfl ?_
      obtain ⟨v12, hc13, h⟩ := kb_some h
      refine kw_callV_L hX 39 (As := [.int a1, .int a2]) (rest := []) (kX6_upper (kx_l X) Y ma m_now m_sav m_sc v9.2.1 m_shf m_stp m_que m_qd v9.2.2.1 v9.2.2.2.1 v9.2.2.2.2.1 m_per v9.2.2.2.2.2.1 v9.2.2.2.2.2.2 m_h a1 a2 hc13) gX6_numerator_X6_upper rfl 2 rfl hdV_X6_upper ⟨rfl, rfl⟩ ⟨by decide, by decide⟩ ⟨Nat.zero_le _, Nat.zero_le _⟩ rfl (Nat.le_of_ble_eq_true rfl) [0] (by decide) rfl (kfc rfl kfn0) (gs1 := [gM Y ma m_now m_sav m_sc v9.2.1 m_shf m_stp m_que m_qd v9.2.2.1 v9.2.2.2.1 v9.2.2.2.2.1 m_per v9.2.2.2.2.2.1 v9.2.2.2.2.2.2 m_h]) rfl 0 6 rfl rfl rfl dX6_numerator_39 ?_
      obtain rfl := Option.some.inj h
      exact hret _ _ dX6_numerator_42
    · have h := kif_f c11 h
      refine kw_iload_n hX 31 dX6_numerator_31 rfl 0 rfl ?_
      refine kw_i2l hX 32 dX6_numerator_32 ?_
      refine kw_goto hX 33 42 dX6_numerator_33 (by decide) ?_
      obtain rfl := Option.some.inj h
      exact hret _ _ dX6_numerator_42
  have h := hj14
  refine kw_if_eq hX 6 22 dX6_numerator_6 (by decide) (fun c3 => ?_) (fun c3 => ?_)
  · have h := kif_t c3 h
    refine kw_iconst hX 22 dX6_numerator_22 kci_0 ?_
    obtain rfl := Option.some.inj h
    refine kw_lv (lv' := [(0, .ref (ma 0)), (1, .int a1), (2, .int a2)]) [0, 1, 2] rfl ?_
    exact J8
  · have h := kif_f c3 h
    refine kw_iload_n hX 9 dX6_numerator_9 rfl 2 rfl ?_
    refine kw_iconst hX 10 dX6_numerator_10 kci_0 ?_
    refine kw_iconst hX 11 dX6_numerator_11 kci_1 ?_
    obtain ⟨v4, hc5, h⟩ := kb_some h
    refine kw_callS_I hX 12 (As := [.int a2, .int 0, .int 1]) (rest := [.ref (ma 0)]) (kX6_in (kx_l X) Y a2 0 1 hc5) gX6_numerator_X6_in rfl 3 rfl hdS_X6_in ⟨rfl, rfl⟩ ⟨by decide, by decide⟩ ⟨Nat.zero_le _, Nat.zero_le _⟩ rfl (Nat.le_of_ble_eq_true rfl) [] (by decide) rfl kfn0 (gs1 := [gM Y ma m_now m_sav m_sc m_err m_shf m_stp m_que m_qd m_qx m_qy m_met m_per m_row m_det m_h]) rfl dX6_numerator_12 ?_
    refine kw_if_eq hX 15 22 dX6_numerator_15 (by decide) (fun c6 => ?_) (fun c6 => ?_)
    · have h := kif_t c6 h
      refine kw_iconst hX 22 dX6_numerator_22 kci_0 ?_
      obtain rfl := Option.some.inj h
      refine kw_lv (lv' := [(0, .ref (ma 0)), (1, .int a1), (2, .int a2)]) [0, 1, 2] rfl ?_
      exact J8
    · have h := kif_f c6 h
      refine kw_iconst hX 18 dX6_numerator_18 kci_1 ?_
      refine kw_goto hX 19 23 dX6_numerator_19 (by decide) ?_
      obtain rfl := Option.some.inj h
      refine kw_lv (lv' := [(0, .ref (ma 0)), (1, .int a1), (2, .int a2)]) [0, 1, 2] rfl ?_
      exact J8
def pX6_denominator (a1 : Int32) (a2 : Int32) (m_now : Nat → Int32) (m_err : Nat → Int32) (m_qx : Nat → Int32) (m_qy : Nat → Int32) (m_met : Nat → Int32) (m_row : Nat → Int64) (m_det : Int64) : Option (Int64 × (Nat → Int32) × (Nat → Int32) × (Nat → Int32) × (Nat → Int32) × (Nat → Int64) × Int64) := kb (pX6_isVertex a1 m_now) (fun v1 => kb ((if v1 = 0 then some 0 else kb (pX6_in a2 0 1) (fun v4 => (if v4 = 0 then some 0 else some 1))) : Option (Int32)) (fun v7 => kb (pX6_placementError v7 m_now m_err m_qx m_qy m_met m_row m_det) (fun v9 => (if 0 ≤ v9.1 then kb (pX6_lower a1 a2 v9.2.2.2.2.2.1 v9.2.2.2.2.2.2) (fun v12 => some (v12, v9.2.1, v9.2.2.1, v9.2.2.2.1, v9.2.2.2.2.1, v9.2.2.2.2.2.1, v9.2.2.2.2.2.2)) else some ((v9.1 : Int32).toInt64, v9.2.1, v9.2.2.1, v9.2.2.2.1, v9.2.2.2.2.1, v9.2.2.2.2.2.1, v9.2.2.2.2.2.2)))))
def rmX6_denominator : Room := { frames := 5, cells := 0, slots := 0, locals := 114 }
theorem hdV_X6_denominator : yX6_denominator.cls = RX6 ∧ yX6_denominator.cls ≠ "java/lang/invoke/MethodHandle" ∧ yX6_denominator.cls ≠ "java/lang/invoke/VarHandle" ∧ (parseMethodDescriptor yX6_denominator.desc).map (fun d => d.parameters.length) = some 2 := ⟨rfl, by decide +kernel, by decide +kernel, by decide +kernel⟩
set_option maxHeartbeats 4000000 in
set_option maxRecDepth 100000 in
theorem kX6_denominator (l : Launch) (Y : KY) (ma : Nat → Nat) (m_now : Nat → Int32) (m_sav : Nat → Int32) (m_sc : Int32) (m_err : Nat → Int32) (m_shf : Nat → Int32) (m_stp : Nat → Int32) (m_que : Nat → Int32) (m_qd : Int32) (m_qx : Nat → Int32) (m_qy : Nat → Int32) (m_met : Nat → Int32) (m_per : Nat → Int32) (m_row : Nat → Int64) (m_det : Int64) (m_h : Int64) (a1 : Int32) (a2 : Int32) {o : Int64 × (Nat → Int32) × (Nat → Int32) × (Nat → Int32) × (Nat → Int32) × (Nat → Int64) × Int64} (h : pX6_denominator a1 a2 m_now m_err m_qx m_qy m_met m_row m_det = some o) : CtL l yX6_denominator wsX6_denominator rmX6_denominator Y [.ref (ma 0), .int a1, .int a2] (kfl [gM Y ma m_now m_sav m_sc m_err m_shf m_stp m_que m_qd m_qx m_qy m_met m_per m_row m_det m_h]) o.1 (kfl [gM Y ma m_now m_sav m_sc o.2.1 m_shf m_stp m_que m_qd o.2.2.1 o.2.2.2.1 o.2.2.2.2.1 m_per o.2.2.2.2.2.1 o.2.2.2.2.2.2 m_h]) := by
  refine ctL_intro (cc := cX6_denominator) (maxL := 4) (own := RX6) (by decide +kernel) rfl rfl (Nat.le_of_ble_eq_true rfl) rfl ?_
  intro X A hX _ hret
  unfold pX6_denominator at h
  refine kw_lv (lv' := [(0, .ref (ma 0)), (1, .int a1), (2, .int a2)]) [0, 1, 2] rfl ?_
  refine kw_aload_n hX 0 dX6_denominator_0 rfl 0 rfl ?_
  refine kw_aload_n hX 1 dX6_denominator_1 rfl 0 rfl ?_
  refine kw_iload_n hX 2 dX6_denominator_2 rfl 1 rfl ?_
  obtain ⟨v1, hc2, h⟩ := kb_some h
  refine kw_callV_I hX 3 (As := [.int a1]) (rest := [.ref (ma 0)]) (kX6_isVertex (kx_l X) Y ma m_now m_sav m_sc m_err m_shf m_stp m_que m_qd m_qx m_qy m_met m_per m_row m_det m_h a1 hc2) gX6_denominator_X6_isVertex rfl 1 rfl hdV_X6_isVertex ⟨rfl, rfl⟩ ⟨by decide, by decide⟩ ⟨Nat.zero_le _, Nat.zero_le _⟩ rfl (Nat.le_of_ble_eq_true rfl) [0] (by decide) rfl (kfc rfl kfn0) (gs1 := [gM Y ma m_now m_sav m_sc m_err m_shf m_stp m_que m_qd m_qx m_qy m_met m_per m_row m_det m_h]) rfl 0 6 rfl rfl rfl dX6_denominator_3 ?_
  obtain ⟨v7, hj14, h⟩ := kb_some h
  have J8 : KW X Y A 4 0 0 (kfl [gM Y ma m_now m_sav m_sc m_err m_shf m_stp m_que m_qd m_qx m_qy m_met m_per m_row m_det m_h]) [(0, .ref (ma 0)), (1, .int a1), (2, .int a2)] 23 [.int v7, .ref (ma 0)] := by
    obtain ⟨v9, hc10, h⟩ := kb_some h
    refine kw_callV_I hX 23 (As := [.int v7]) (rest := []) (kX6_placementError (kx_l X) Y ma m_now m_sav m_sc m_err m_shf m_stp m_que m_qd m_qx m_qy m_met m_per m_row m_det m_h v7 hc10) gX6_denominator_X6_placementError rfl 1 rfl hdV_X6_placementError ⟨rfl, rfl⟩ ⟨by decide, by decide⟩ ⟨Nat.zero_le _, Nat.zero_le _⟩ rfl (Nat.le_of_ble_eq_true rfl) [0] (by decide) rfl (kfc gM_f kfn0) (gs1 := [gM Y ma m_now m_sav m_sc v9.2.1 m_shf m_stp m_que m_qd v9.2.2.1 v9.2.2.2.1 v9.2.2.2.2.1 m_per v9.2.2.2.2.2.1 v9.2.2.2.2.2.2 m_h]) rfl 0 6 rfl rfl rfl dX6_denominator_23 ?_
    refine kw_istore_n (lv' := [(3, .int v9.1), (0, .ref (ma 0)), (1, .int a1), (2, .int a2)]) hX 26 dX6_denominator_26 rfl (by decide) rfl ?_
    refine kw_iload_n hX 27 dX6_denominator_27 rfl 0 rfl ?_
    refine kw_if_ge hX 28 36 dX6_denominator_28 (by decide) (fun c11 => ?_) (fun c11 => ?_)
    · have h := kif_t c11 h
      refine kw_aload_n hX 36 dX6_denominator_36 rfl 1 rfl ?_
      refine kw_iload_n hX 37 dX6_denominator_37 rfl 2 rfl ?_
      refine kw_iload_n hX 38 dX6_denominator_38 rfl 3 rfl ?_
      obtain ⟨v12, hc13, h⟩ := kb_some h
      refine kw_callV_L hX 39 (As := [.int a1, .int a2]) (rest := []) (kX6_lower (kx_l X) Y ma m_now m_sav m_sc v9.2.1 m_shf m_stp m_que m_qd v9.2.2.1 v9.2.2.2.1 v9.2.2.2.2.1 m_per v9.2.2.2.2.2.1 v9.2.2.2.2.2.2 m_h a1 a2 hc13) gX6_denominator_X6_lower rfl 2 rfl hdV_X6_lower ⟨rfl, rfl⟩ ⟨by decide, by decide⟩ ⟨Nat.zero_le _, Nat.zero_le _⟩ rfl (Nat.le_of_ble_eq_true rfl) [0] (by decide) rfl (kfc rfl kfn0) (gs1 := [gM Y ma m_now m_sav m_sc v9.2.1 m_shf m_stp m_que m_qd v9.2.2.1 v9.2.2.2.1 v9.2.2.2.2.1 m_per v9.2.2.2.2.2.1 v9.2.2.2.2.2.2 m_h]) rfl 0 6 rfl rfl rfl dX6_denominator_39 ?_
      obtain rfl := Option.some.inj h
      exact hret _ _ dX6_denominator_42
    · have h := kif_f c11 h
      refine kw_iload_n hX 31 dX6_denominator_31 rfl 0 rfl ?_
      refine kw_i2l hX 32 dX6_denominator_32 ?_
      refine kw_goto hX 33 42 dX6_denominator_33 (by decide) ?_
      obtain rfl := Option.some.inj h
      exact hret _ _ dX6_denominator_42
  have h := hj14
  refine kw_if_eq hX 6 22 dX6_denominator_6 (by decide) (fun c3 => ?_) (fun c3 => ?_)
  · have h := kif_t c3 h
    refine kw_iconst hX 22 dX6_denominator_22 kci_0 ?_
    obtain rfl := Option.some.inj h
    refine kw_lv (lv' := [(0, .ref (ma 0)), (1, .int a1), (2, .int a2)]) [0, 1, 2] rfl ?_
    exact J8
  · have h := kif_f c3 h
    refine kw_iload_n hX 9 dX6_denominator_9 rfl 2 rfl ?_
    refine kw_iconst hX 10 dX6_denominator_10 kci_0 ?_
    refine kw_iconst hX 11 dX6_denominator_11 kci_1 ?_
    obtain ⟨v4, hc5, h⟩ := kb_some h
    refine kw_callS_I hX 12 (As := [.int a2, .int 0, .int 1]) (rest := [.ref (ma 0)]) (kX6_in (kx_l X) Y a2 0 1 hc5) gX6_denominator_X6_in rfl 3 rfl hdS_X6_in ⟨rfl, rfl⟩ ⟨by decide, by decide⟩ ⟨Nat.zero_le _, Nat.zero_le _⟩ rfl (Nat.le_of_ble_eq_true rfl) [] (by decide) rfl kfn0 (gs1 := [gM Y ma m_now m_sav m_sc m_err m_shf m_stp m_que m_qd m_qx m_qy m_met m_per m_row m_det m_h]) rfl dX6_denominator_12 ?_
    refine kw_if_eq hX 15 22 dX6_denominator_15 (by decide) (fun c6 => ?_) (fun c6 => ?_)
    · have h := kif_t c6 h
      refine kw_iconst hX 22 dX6_denominator_22 kci_0 ?_
      obtain rfl := Option.some.inj h
      refine kw_lv (lv' := [(0, .ref (ma 0)), (1, .int a1), (2, .int a2)]) [0, 1, 2] rfl ?_
      exact J8
    · have h := kif_f c6 h
      refine kw_iconst hX 18 dX6_denominator_18 kci_1 ?_
      refine kw_goto hX 19 23 dX6_denominator_19 (by decide) ?_
      obtain rfl := Option.some.inj h
      refine kw_lv (lv' := [(0, .ref (ma 0)), (1, .int a1), (2, .int a2)]) [0, 1, 2] rfl ?_
      exact J8
def pX6_doCollide (a1 : Int32) (a2 : Int32) (m_row : Nat → Int64) (m_det : Int64) : Option (Int32) := kb (pX6_scaled a1 0 m_row) (fun v1 => kb (pX6_scaled a2 0 m_row) (fun v3 => kgd (decide (¬ m_det = 0)) ((if (lg_cmp ((v1 - v3) - (v1 - v3) / m_det * m_det) 0) = 0 then kb (pX6_scaled a1 1 m_row) (fun v7 => kb (pX6_scaled a2 1 m_row) (fun v9 => kgd (decide (¬ m_det = 0)) ((if (lg_cmp ((v7 - v9) - (v7 - v9) / m_det * m_det) 0) = 0 then some 1 else some 0)))) else some 0))))
def rmX6_doCollide : Room := { frames := 2, cells := 0, slots := 0, locals := 43 }
theorem hdV_X6_doCollide : yX6_doCollide.cls = RX6 ∧ yX6_doCollide.cls ≠ "java/lang/invoke/MethodHandle" ∧ yX6_doCollide.cls ≠ "java/lang/invoke/VarHandle" ∧ (parseMethodDescriptor yX6_doCollide.desc).map (fun d => d.parameters.length) = some 2 := ⟨rfl, by decide +kernel, by decide +kernel, by decide +kernel⟩
set_option maxHeartbeats 4000000 in
set_option maxRecDepth 100000 in
theorem kX6_doCollide (l : Launch) (Y : KY) (ma : Nat → Nat) (m_now : Nat → Int32) (m_sav : Nat → Int32) (m_sc : Int32) (m_err : Nat → Int32) (m_shf : Nat → Int32) (m_stp : Nat → Int32) (m_que : Nat → Int32) (m_qd : Int32) (m_qx : Nat → Int32) (m_qy : Nat → Int32) (m_met : Nat → Int32) (m_per : Nat → Int32) (m_row : Nat → Int64) (m_det : Int64) (m_h : Int64) (a1 : Int32) (a2 : Int32) {o : Int32} (h : pX6_doCollide a1 a2 m_row m_det = some o) : CtI l yX6_doCollide wsX6_doCollide rmX6_doCollide Y [.ref (ma 0), .int a1, .int a2] (kfl [gM Y ma m_now m_sav m_sc m_err m_shf m_stp m_que m_qd m_qx m_qy m_met m_per m_row m_det m_h]) o (kfl [gM Y ma m_now m_sav m_sc m_err m_shf m_stp m_que m_qd m_qx m_qy m_met m_per m_row m_det m_h]) := by
  refine ctI_intro (cc := cX6_doCollide) (maxL := 3) (own := RX6) (by decide +kernel) rfl rfl (Nat.le_of_ble_eq_true rfl) rfl ?_
  intro X A hX _ hret
  have hin6 : ∀ w ∈ u_ws RX6 TX6 15, w ∈ wsX6_doCollide := by decide +kernel
  have f0 := hX.w (Cond.fieldLink RX6 152 "PeriodicNetModel" "determinant" "J") (by decide +kernel)
  unfold pX6_doCollide at h
  refine kw_lv (lv' := [(0, .ref (ma 0)), (1, .int a1), (2, .int a2)]) [0, 1, 2] rfl ?_
  refine kw_aload_n hX 0 dX6_doCollide_0 rfl 0 rfl ?_
  refine kw_iload_n hX 1 dX6_doCollide_1 rfl 1 rfl ?_
  refine kw_iconst hX 2 dX6_doCollide_2 kci_0 ?_
  obtain ⟨v1, hc2, h⟩ := kb_some h
  refine kw_callV_L hX 3 (As := [.int a1, .int 0]) (rest := []) (kX6_scaled (kx_l X) Y ma m_now m_sav m_sc m_err m_shf m_stp m_que m_qd m_qx m_qy m_met m_per m_row m_det m_h a1 0 hc2) gX6_doCollide_X6_scaled rfl 2 rfl hdV_X6_scaled ⟨rfl, rfl⟩ ⟨by decide, by decide⟩ ⟨Nat.zero_le _, Nat.zero_le _⟩ rfl (Nat.le_of_ble_eq_true rfl) [0] (by decide) rfl (kfc rfl kfn0) (gs1 := [gM Y ma m_now m_sav m_sc m_err m_shf m_stp m_que m_qd m_qx m_qy m_met m_per m_row m_det m_h]) rfl 0 6 rfl rfl rfl dX6_doCollide_3 ?_
  refine kw_aload_n hX 6 dX6_doCollide_6 rfl 0 rfl ?_
  refine kw_iload_n hX 7 dX6_doCollide_7 rfl 2 rfl ?_
  refine kw_iconst hX 8 dX6_doCollide_8 kci_0 ?_
  obtain ⟨v3, hc4, h⟩ := kb_some h
  refine kw_callV_L hX 9 (As := [.int a2, .int 0]) (rest := [.long v1]) (kX6_scaled (kx_l X) Y ma m_now m_sav m_sc m_err m_shf m_stp m_que m_qd m_qx m_qy m_met m_per m_row m_det m_h a2 0 hc4) gX6_doCollide_X6_scaled rfl 2 rfl hdV_X6_scaled ⟨rfl, rfl⟩ ⟨by decide, by decide⟩ ⟨Nat.zero_le _, Nat.zero_le _⟩ rfl (Nat.le_of_ble_eq_true rfl) [0] (by decide) rfl (kfc rfl kfn0) (gs1 := [gM Y ma m_now m_sav m_sc m_err m_shf m_stp m_que m_qd m_qx m_qy m_met m_per m_row m_det m_h]) rfl 0 6 rfl rfl rfl dX6_doCollide_9 ?_
  refine kw_lsub hX 12 dX6_doCollide_12 ?_
  refine kw_aload_n hX 13 dX6_doCollide_13 rfl 0 rfl ?_
  refine kw_get hX 14 (C := RX6) (T := TX6) (N := 15) hin6 13 f0 (fun _ h => h) 0 rfl rfl (by decide) rfl dX6_doCollide_14 ?_
  obtain ⟨g5, h⟩ := kgd_some h
  refine kw_lrem hX 17 dX6_doCollide_17 (of_decide_eq_true g5) ?_
  refine kw_lconst hX 18 dX6_doCollide_18 kcl_0 ?_
  refine kw_lcmp hX 19 dX6_doCollide_19 ?_
  refine kw_if_ne hX 20 50 dX6_doCollide_20 (by decide) (fun c6 => ?_) (fun c6 => ?_)
  · have h := kif_f c6 h
    refine kw_iconst hX 50 dX6_doCollide_50 kci_0 ?_
    obtain rfl := Option.some.inj h
    exact hret _ _ dX6_doCollide_51 rfl
  · have h := kif_t c6 h
    refine kw_aload_n hX 23 dX6_doCollide_23 rfl 0 rfl ?_
    refine kw_iload_n hX 24 dX6_doCollide_24 rfl 1 rfl ?_
    refine kw_iconst hX 25 dX6_doCollide_25 kci_1 ?_
    obtain ⟨v7, hc8, h⟩ := kb_some h
    refine kw_callV_L hX 26 (As := [.int a1, .int 1]) (rest := []) (kX6_scaled (kx_l X) Y ma m_now m_sav m_sc m_err m_shf m_stp m_que m_qd m_qx m_qy m_met m_per m_row m_det m_h a1 1 hc8) gX6_doCollide_X6_scaled rfl 2 rfl hdV_X6_scaled ⟨rfl, rfl⟩ ⟨by decide, by decide⟩ ⟨Nat.zero_le _, Nat.zero_le _⟩ rfl (Nat.le_of_ble_eq_true rfl) [0] (by decide) rfl (kfc rfl kfn0) (gs1 := [gM Y ma m_now m_sav m_sc m_err m_shf m_stp m_que m_qd m_qx m_qy m_met m_per m_row m_det m_h]) rfl 0 6 rfl rfl rfl dX6_doCollide_26 ?_
    refine kw_aload_n hX 29 dX6_doCollide_29 rfl 0 rfl ?_
    refine kw_iload_n hX 30 dX6_doCollide_30 rfl 2 rfl ?_
    refine kw_iconst hX 31 dX6_doCollide_31 kci_1 ?_
    obtain ⟨v9, hc10, h⟩ := kb_some h
    refine kw_callV_L hX 32 (As := [.int a2, .int 1]) (rest := [.long v7]) (kX6_scaled (kx_l X) Y ma m_now m_sav m_sc m_err m_shf m_stp m_que m_qd m_qx m_qy m_met m_per m_row m_det m_h a2 1 hc10) gX6_doCollide_X6_scaled rfl 2 rfl hdV_X6_scaled ⟨rfl, rfl⟩ ⟨by decide, by decide⟩ ⟨Nat.zero_le _, Nat.zero_le _⟩ rfl (Nat.le_of_ble_eq_true rfl) [0] (by decide) rfl (kfc rfl kfn0) (gs1 := [gM Y ma m_now m_sav m_sc m_err m_shf m_stp m_que m_qd m_qx m_qy m_met m_per m_row m_det m_h]) rfl 0 6 rfl rfl rfl dX6_doCollide_32 ?_
    refine kw_lsub hX 35 dX6_doCollide_35 ?_
    refine kw_aload_n hX 36 dX6_doCollide_36 rfl 0 rfl ?_
    refine kw_get hX 37 (C := RX6) (T := TX6) (N := 15) hin6 13 f0 (fun _ h => h) 0 rfl rfl (by decide) rfl dX6_doCollide_37 ?_
    obtain ⟨g11, h⟩ := kgd_some h
    refine kw_lrem hX 40 dX6_doCollide_40 (of_decide_eq_true g11) ?_
    refine kw_lconst hX 41 dX6_doCollide_41 kcl_0 ?_
    refine kw_lcmp hX 42 dX6_doCollide_42 ?_
    refine kw_if_ne hX 43 50 dX6_doCollide_43 (by decide) (fun c12 => ?_) (fun c12 => ?_)
    · have h := kif_f c12 h
      refine kw_iconst hX 50 dX6_doCollide_50 kci_0 ?_
      obtain rfl := Option.some.inj h
      exact hret _ _ dX6_doCollide_51 rfl
    · have h := kif_t c12 h
      refine kw_iconst hX 46 dX6_doCollide_46 kci_1 ?_
      refine kw_goto hX 47 51 dX6_doCollide_47 (by decide) ?_
      obtain rfl := Option.some.inj h
      exact hret _ _ dX6_doCollide_51 rfl
def pX6_collide (a1 : Int32) (a2 : Int32) (m_now : Nat → Int32) (m_err : Nat → Int32) (m_qx : Nat → Int32) (m_qy : Nat → Int32) (m_met : Nat → Int32) (m_row : Nat → Int64) (m_det : Int64) : Option (Int32 × (Nat → Int32) × (Nat → Int32) × (Nat → Int32) × (Nat → Int32) × (Nat → Int64) × Int64) := kb (pX6_isVertex a1 m_now) (fun v1 => kb ((if v1 = 0 then some 0 else kb (pX6_isVertex a2 m_now) (fun v4 => (if v4 = 0 then some 0 else (if a1 = a2 then some 0 else some 1)))) : Option (Int32)) (fun v8 => kb (pX6_placementError v8 m_now m_err m_qx m_qy m_met m_row m_det) (fun v10 => (if 0 ≤ v10.1 then kb (pX6_doCollide a1 a2 v10.2.2.2.2.2.1 v10.2.2.2.2.2.2) (fun v13 => (if v13 = 0 then some (0, v10.2.1, v10.2.2.1, v10.2.2.2.1, v10.2.2.2.2.1, v10.2.2.2.2.2.1, v10.2.2.2.2.2.2) else some (1, v10.2.1, v10.2.2.1, v10.2.2.2.1, v10.2.2.2.2.1, v10.2.2.2.2.2.1, v10.2.2.2.2.2.2))) else some (v10.1, v10.2.1, v10.2.2.1, v10.2.2.2.1, v10.2.2.2.2.1, v10.2.2.2.2.2.1, v10.2.2.2.2.2.2)))))
def rmX6_collide : Room := { frames := 5, cells := 0, slots := 0, locals := 114 }
theorem hdV_X6_collide : yX6_collide.cls = RX6 ∧ yX6_collide.cls ≠ "java/lang/invoke/MethodHandle" ∧ yX6_collide.cls ≠ "java/lang/invoke/VarHandle" ∧ (parseMethodDescriptor yX6_collide.desc).map (fun d => d.parameters.length) = some 2 := ⟨rfl, by decide +kernel, by decide +kernel, by decide +kernel⟩
set_option maxHeartbeats 4000000 in
set_option maxRecDepth 100000 in
theorem kX6_collide (l : Launch) (Y : KY) (ma : Nat → Nat) (m_now : Nat → Int32) (m_sav : Nat → Int32) (m_sc : Int32) (m_err : Nat → Int32) (m_shf : Nat → Int32) (m_stp : Nat → Int32) (m_que : Nat → Int32) (m_qd : Int32) (m_qx : Nat → Int32) (m_qy : Nat → Int32) (m_met : Nat → Int32) (m_per : Nat → Int32) (m_row : Nat → Int64) (m_det : Int64) (m_h : Int64) (a1 : Int32) (a2 : Int32) {o : Int32 × (Nat → Int32) × (Nat → Int32) × (Nat → Int32) × (Nat → Int32) × (Nat → Int64) × Int64} (h : pX6_collide a1 a2 m_now m_err m_qx m_qy m_met m_row m_det = some o) : CtI l yX6_collide wsX6_collide rmX6_collide Y [.ref (ma 0), .int a1, .int a2] (kfl [gM Y ma m_now m_sav m_sc m_err m_shf m_stp m_que m_qd m_qx m_qy m_met m_per m_row m_det m_h]) o.1 (kfl [gM Y ma m_now m_sav m_sc o.2.1 m_shf m_stp m_que m_qd o.2.2.1 o.2.2.2.1 o.2.2.2.2.1 m_per o.2.2.2.2.2.1 o.2.2.2.2.2.2 m_h]) := by
  refine ctI_intro (cc := cX6_collide) (maxL := 4) (own := RX6) (by decide +kernel) rfl rfl (Nat.le_of_ble_eq_true rfl) rfl ?_
  intro X A hX _ hret
  unfold pX6_collide at h
  refine kw_lv (lv' := [(0, .ref (ma 0)), (1, .int a1), (2, .int a2)]) [0, 1, 2] rfl ?_
  refine kw_aload_n hX 0 dX6_collide_0 rfl 0 rfl ?_
  refine kw_aload_n hX 1 dX6_collide_1 rfl 0 rfl ?_
  refine kw_iload_n hX 2 dX6_collide_2 rfl 1 rfl ?_
  obtain ⟨v1, hc2, h⟩ := kb_some h
  refine kw_callV_I hX 3 (As := [.int a1]) (rest := [.ref (ma 0)]) (kX6_isVertex (kx_l X) Y ma m_now m_sav m_sc m_err m_shf m_stp m_que m_qd m_qx m_qy m_met m_per m_row m_det m_h a1 hc2) gX6_collide_X6_isVertex rfl 1 rfl hdV_X6_isVertex ⟨rfl, rfl⟩ ⟨by decide, by decide⟩ ⟨Nat.zero_le _, Nat.zero_le _⟩ rfl (Nat.le_of_ble_eq_true rfl) [0] (by decide) rfl (kfc rfl kfn0) (gs1 := [gM Y ma m_now m_sav m_sc m_err m_shf m_stp m_que m_qd m_qx m_qy m_met m_per m_row m_det m_h]) rfl 0 6 rfl rfl rfl dX6_collide_3 ?_
  obtain ⟨v8, hj16, h⟩ := kb_some h
  have J9 : KW X Y A 4 0 0 (kfl [gM Y ma m_now m_sav m_sc m_err m_shf m_stp m_que m_qd m_qx m_qy m_met m_per m_row m_det m_h]) [(0, .ref (ma 0)), (1, .int a1), (2, .int a2)] 27 [.int v8, .ref (ma 0)] := by
    obtain ⟨v10, hc11, h⟩ := kb_some h
    refine kw_callV_I hX 27 (As := [.int v8]) (rest := []) (kX6_placementError (kx_l X) Y ma m_now m_sav m_sc m_err m_shf m_stp m_que m_qd m_qx m_qy m_met m_per m_row m_det m_h v8 hc11) gX6_collide_X6_placementError rfl 1 rfl hdV_X6_placementError ⟨rfl, rfl⟩ ⟨by decide, by decide⟩ ⟨Nat.zero_le _, Nat.zero_le _⟩ rfl (Nat.le_of_ble_eq_true rfl) [0] (by decide) rfl (kfc gM_f kfn0) (gs1 := [gM Y ma m_now m_sav m_sc v10.2.1 m_shf m_stp m_que m_qd v10.2.2.1 v10.2.2.2.1 v10.2.2.2.2.1 m_per v10.2.2.2.2.2.1 v10.2.2.2.2.2.2 m_h]) rfl 0 6 rfl rfl rfl dX6_collide_27 ?_
    refine kw_istore_n (lv' := [(3, .int v10.1), (0, .ref (ma 0)), (1, .int a1), (2, .int a2)]) hX 30 dX6_collide_30 rfl (by decide) rfl ?_
    refine kw_iload_n hX 31 dX6_collide_31 rfl 0 rfl ?_
    refine kw_if_ge hX 32 39 dX6_collide_32 (by decide) (fun c12 => ?_) (fun c12 => ?_)
    · have h := kif_t c12 h
      refine kw_aload_n hX 39 dX6_collide_39 rfl 1 rfl ?_
      refine kw_iload_n hX 40 dX6_collide_40 rfl 2 rfl ?_
      refine kw_iload_n hX 41 dX6_collide_41 rfl 3 rfl ?_
      obtain ⟨v13, hc14, h⟩ := kb_some h
      refine kw_callV_I hX 42 (As := [.int a1, .int a2]) (rest := []) (kX6_doCollide (kx_l X) Y ma m_now m_sav m_sc v10.2.1 m_shf m_stp m_que m_qd v10.2.2.1 v10.2.2.2.1 v10.2.2.2.2.1 m_per v10.2.2.2.2.2.1 v10.2.2.2.2.2.2 m_h a1 a2 hc14) gX6_collide_X6_doCollide rfl 2 rfl hdV_X6_doCollide ⟨rfl, rfl⟩ ⟨by decide, by decide⟩ ⟨Nat.zero_le _, Nat.zero_le _⟩ rfl (Nat.le_of_ble_eq_true rfl) [0] (by decide) rfl (kfc rfl kfn0) (gs1 := [gM Y ma m_now m_sav m_sc v10.2.1 m_shf m_stp m_que m_qd v10.2.2.1 v10.2.2.2.1 v10.2.2.2.2.1 m_per v10.2.2.2.2.2.1 v10.2.2.2.2.2.2 m_h]) rfl 0 6 rfl rfl rfl dX6_collide_42 ?_
      refine kw_if_eq hX 45 52 dX6_collide_45 (by decide) (fun c15 => ?_) (fun c15 => ?_)
      · have h := kif_t c15 h
        refine kw_iconst hX 52 dX6_collide_52 kci_0 ?_
        obtain rfl := Option.some.inj h
        exact hret _ _ dX6_collide_53 rfl
      · have h := kif_f c15 h
        refine kw_iconst hX 48 dX6_collide_48 kci_1 ?_
        refine kw_goto hX 49 53 dX6_collide_49 (by decide) ?_
        obtain rfl := Option.some.inj h
        exact hret _ _ dX6_collide_53 rfl
    · have h := kif_f c12 h
      refine kw_iload_n hX 35 dX6_collide_35 rfl 0 rfl ?_
      refine kw_goto hX 36 53 dX6_collide_36 (by decide) ?_
      obtain rfl := Option.some.inj h
      exact hret _ _ dX6_collide_53 rfl
  have h := hj16
  refine kw_if_eq hX 6 26 dX6_collide_6 (by decide) (fun c3 => ?_) (fun c3 => ?_)
  · have h := kif_t c3 h
    refine kw_iconst hX 26 dX6_collide_26 kci_0 ?_
    obtain rfl := Option.some.inj h
    refine kw_lv (lv' := [(0, .ref (ma 0)), (1, .int a1), (2, .int a2)]) [0, 1, 2] rfl ?_
    exact J9
  · have h := kif_f c3 h
    refine kw_aload_n hX 9 dX6_collide_9 rfl 0 rfl ?_
    refine kw_iload_n hX 10 dX6_collide_10 rfl 2 rfl ?_
    obtain ⟨v4, hc5, h⟩ := kb_some h
    refine kw_callV_I hX 11 (As := [.int a2]) (rest := [.ref (ma 0)]) (kX6_isVertex (kx_l X) Y ma m_now m_sav m_sc m_err m_shf m_stp m_que m_qd m_qx m_qy m_met m_per m_row m_det m_h a2 hc5) gX6_collide_X6_isVertex rfl 1 rfl hdV_X6_isVertex ⟨rfl, rfl⟩ ⟨by decide, by decide⟩ ⟨Nat.zero_le _, Nat.zero_le _⟩ rfl (Nat.le_of_ble_eq_true rfl) [0] (by decide) rfl (kfc rfl kfn0) (gs1 := [gM Y ma m_now m_sav m_sc m_err m_shf m_stp m_que m_qd m_qx m_qy m_met m_per m_row m_det m_h]) rfl 0 6 rfl rfl rfl dX6_collide_11 ?_
    refine kw_if_eq hX 14 26 dX6_collide_14 (by decide) (fun c6 => ?_) (fun c6 => ?_)
    · have h := kif_t c6 h
      refine kw_iconst hX 26 dX6_collide_26 kci_0 ?_
      obtain rfl := Option.some.inj h
      refine kw_lv (lv' := [(0, .ref (ma 0)), (1, .int a1), (2, .int a2)]) [0, 1, 2] rfl ?_
      exact J9
    · have h := kif_f c6 h
      refine kw_iload_n hX 17 dX6_collide_17 rfl 1 rfl ?_
      refine kw_iload_n hX 18 dX6_collide_18 rfl 2 rfl ?_
      refine kw_icmp_eq hX 19 26 dX6_collide_19 (by decide) (fun c7 => ?_) (fun c7 => ?_)
      · have h := kif_t c7 h
        refine kw_iconst hX 26 dX6_collide_26 kci_0 ?_
        obtain rfl := Option.some.inj h
        refine kw_lv (lv' := [(0, .ref (ma 0)), (1, .int a1), (2, .int a2)]) [0, 1, 2] rfl ?_
        exact J9
      · have h := kif_f c7 h
        refine kw_iconst hX 22 dX6_collide_22 kci_1 ?_
        refine kw_goto hX 23 27 dX6_collide_23 (by decide) ?_
        obtain rfl := Option.some.inj h
        refine kw_lv (lv' := [(0, .ref (ma 0)), (1, .int a1), (2, .int a2)]) [0, 1, 2] rfl ?_
        exact J9
def pX6_collisions_L29 : Nat → Int32 → Int32 → Int32 → (Nat → Int64) → Int64 → Option (Int32 × Int32)
  | 0, _, _, _, _, _ => none
  | n + 1, l2, l3, l4, z_m_row, z_m_det => (if l3 ≤ l4 then some (l2, l4) else kb (pX6_doCollide l3 l4 z_m_row z_m_det) (fun v7 => kb ((if v7 = 0 then some 0 else some 1) : Option (Int32)) (fun v10 => pX6_collisions_L29 n (l2 + v10) l3 (l4 + 1) z_m_row z_m_det)))
def pX6_collisions_L16 : Nat → Int32 → Int32 → (Nat → Int32) → (Nat → Int64) → Int64 → Option (Int32 × Int32)
  | 0, _, _, _, _, _ => none
  | n + 1, l2, l3, z_m_now, z_m_row, z_m_det => kgd (kin 0 50) ((if (z_m_now (0 : Int32).toNatClampNeg) ≤ l3 then some (l2, l3) else kb (pX6_collisions_L29 KF l2 l3 0 z_m_row z_m_det) (fun v13 => pX6_collisions_L16 n v13.1 (l3 + 1) z_m_now z_m_row z_m_det)))
def pX6_collisions  (m_now : Nat → Int32) (m_err : Nat → Int32) (m_qx : Nat → Int32) (m_qy : Nat → Int32) (m_met : Nat → Int32) (m_row : Nat → Int64) (m_det : Int64) : Option (Int32 × (Nat → Int32) × (Nat → Int32) × (Nat → Int32) × (Nat → Int32) × (Nat → Int64) × Int64) := kb (pX6_placementError 1 m_now m_err m_qx m_qy m_met m_row m_det) (fun v1 => (if 0 ≤ v1.1 then kb (pX6_collisions_L16 KF 0 0 m_now v1.2.2.2.2.2.1 v1.2.2.2.2.2.2) (fun v15 => some (v15.1, v1.2.1, v1.2.2.1, v1.2.2.2.1, v1.2.2.2.2.1, v1.2.2.2.2.2.1, v1.2.2.2.2.2.2)) else some (v1.1, v1.2.1, v1.2.2.1, v1.2.2.2.1, v1.2.2.2.2.1, v1.2.2.2.2.2.1, v1.2.2.2.2.2.2)))
def rmX6_collisions : Room := { frames := 5, cells := 0, slots := 0, locals := 114 }
theorem hdV_X6_collisions : yX6_collisions.cls = RX6 ∧ yX6_collisions.cls ≠ "java/lang/invoke/MethodHandle" ∧ yX6_collisions.cls ≠ "java/lang/invoke/VarHandle" ∧ (parseMethodDescriptor yX6_collisions.desc).map (fun d => d.parameters.length) = some 0 := ⟨rfl, by decide +kernel, by decide +kernel, by decide +kernel⟩
set_option maxHeartbeats 4000000 in
set_option maxRecDepth 100000 in
theorem kX6_collisions (l : Launch) (Y : KY) (ma : Nat → Nat) (m_now : Nat → Int32) (m_sav : Nat → Int32) (m_sc : Int32) (m_err : Nat → Int32) (m_shf : Nat → Int32) (m_stp : Nat → Int32) (m_que : Nat → Int32) (m_qd : Int32) (m_qx : Nat → Int32) (m_qy : Nat → Int32) (m_met : Nat → Int32) (m_per : Nat → Int32) (m_row : Nat → Int64) (m_det : Int64) (m_h : Int64)  {o : Int32 × (Nat → Int32) × (Nat → Int32) × (Nat → Int32) × (Nat → Int32) × (Nat → Int64) × Int64} (h : pX6_collisions m_now m_err m_qx m_qy m_met m_row m_det = some o) : CtI l yX6_collisions wsX6_collisions rmX6_collisions Y [.ref (ma 0)] (kfl [gM Y ma m_now m_sav m_sc m_err m_shf m_stp m_que m_qd m_qx m_qy m_met m_per m_row m_det m_h]) o.1 (kfl [gM Y ma m_now m_sav m_sc o.2.1 m_shf m_stp m_que m_qd o.2.2.1 o.2.2.2.1 o.2.2.2.2.1 m_per o.2.2.2.2.2.1 o.2.2.2.2.2.2 m_h]) := by
  refine ctI_intro (cc := cX6_collisions) (maxL := 5) (own := RX6) (by decide +kernel) rfl rfl (Nat.le_of_ble_eq_true rfl) rfl ?_
  intro X A hX _ hret
  have hin6 : ∀ w ∈ u_ws RX6 TX6 15, w ∈ wsX6_collisions := by decide +kernel
  have f0 := hX.w (Cond.fieldLink RX6 7 "PeriodicNetModel" "now" "[I") (by decide +kernel)
  have L29 : ∀ (n : Nat) (l2 : Int32) (l3 : Int32) (l4 : Int32) (z_m_now : Nat → Int32) (z_m_sav : Nat → Int32) (z_m_sc : Int32) (z_m_err : Nat → Int32) (z_m_shf : Nat → Int32) (z_m_stp : Nat → Int32) (z_m_que : Nat → Int32) (z_m_qd : Int32) (z_m_qx : Nat → Int32) (z_m_qy : Nat → Int32) (z_m_met : Nat → Int32) (z_m_per : Nat → Int32) (z_m_row : Nat → Int64) (z_m_det : Int64) (z_m_h : Int64) (o : Int32 × Int32), pX6_collisions_L29 n l2 l3 l4 z_m_row z_m_det = some o → KW X Y A 5 0 0 (kfl [gM Y ma z_m_now z_m_sav z_m_sc z_m_err z_m_shf z_m_stp z_m_que z_m_qd z_m_qx z_m_qy z_m_met z_m_per z_m_row z_m_det z_m_h]) [(0, .ref (ma 0)), (2, .int o.1), (3, .int l3), (4, .int o.2)] 59 [] → KW X Y A 5 0 0 (kfl [gM Y ma z_m_now z_m_sav z_m_sc z_m_err z_m_shf z_m_stp z_m_que z_m_qd z_m_qx z_m_qy z_m_met z_m_per z_m_row z_m_det z_m_h]) [(0, .ref (ma 0)), (2, .int l2), (3, .int l3), (4, .int l4)] 29 [] := by
    intro n
    induction n with
    | zero => intro l2 l3 l4 z_m_now z_m_sav z_m_sc z_m_err z_m_shf z_m_stp z_m_que z_m_qd z_m_qx z_m_qy z_m_met z_m_per z_m_row z_m_det z_m_h o h; cases h
    | succ n ih =>
      intro l2 l3 l4 z_m_now z_m_sav z_m_sc z_m_err z_m_shf z_m_stp z_m_que z_m_qd z_m_qx z_m_qy z_m_met z_m_per z_m_row z_m_det z_m_h o h hK
      rw [pX6_collisions_L29] at h
      refine kw_iload hX 29 dX6_collisions_29 3 rfl ?_
      refine kw_iload_n hX 31 dX6_collisions_31 rfl 2 rfl ?_
      refine kw_icmp_ge hX 32 59 dX6_collisions_32 (by decide) (fun c6 => ?_) (fun c6 => ?_)
      · have h := kif_t c6 h
        obtain rfl := Option.some.inj h
        refine kw_lv (lv' := [(0, .ref (ma 0)), (2, .int l2), (3, .int l3), (4, .int l4)]) [0, 1, 2, 3] rfl ?_
        exact hK
      · have h := kif_f c6 h
        refine kw_iload_n hX 35 dX6_collisions_35 rfl 1 rfl ?_
        refine kw_aload_n hX 36 dX6_collisions_36 rfl 0 rfl ?_
        refine kw_iload_n hX 37 dX6_collisions_37 rfl 2 rfl ?_
        refine kw_iload hX 38 dX6_collisions_38 3 rfl ?_
        obtain ⟨v7, hc8, h⟩ := kb_some h
        refine kw_callV_I hX 40 (As := [.int l3, .int l4]) (rest := [.int l2]) (kX6_doCollide (kx_l X) Y ma z_m_now z_m_sav z_m_sc z_m_err z_m_shf z_m_stp z_m_que z_m_qd z_m_qx z_m_qy z_m_met z_m_per z_m_row z_m_det z_m_h l3 l4 hc8) gX6_collisions_X6_doCollide rfl 2 rfl hdV_X6_doCollide ⟨rfl, rfl⟩ ⟨by decide, by decide⟩ ⟨Nat.zero_le _, Nat.zero_le _⟩ rfl (Nat.le_of_ble_eq_true rfl) [0] (by decide) rfl (kfc rfl kfn0) (gs1 := [gM Y ma z_m_now z_m_sav z_m_sc z_m_err z_m_shf z_m_stp z_m_que z_m_qd z_m_qx z_m_qy z_m_met z_m_per z_m_row z_m_det z_m_h]) rfl 0 6 rfl rfl rfl dX6_collisions_40 ?_
        obtain ⟨v10, hj12, h⟩ := kb_some h
        have J11 : KW X Y A 5 0 0 (kfl [gM Y ma z_m_now z_m_sav z_m_sc z_m_err z_m_shf z_m_stp z_m_que z_m_qd z_m_qx z_m_qy z_m_met z_m_per z_m_row z_m_det z_m_h]) [(0, .ref (ma 0)), (3, .int l3), (4, .int l4)] 51 [.int v10, .int l2] := by
          refine kw_iadd hX 51 dX6_collisions_51 ?_
          refine kw_istore_n (lv' := [(2, .int (l2 + v10)), (0, .ref (ma 0)), (3, .int l3), (4, .int l4)]) hX 52 dX6_collisions_52 rfl (by decide) rfl ?_
          refine kw_iinc (v := (l4 + 1)) (lv' := [(4, .int (l4 + 1)), (2, .int (l2 + v10)), (0, .ref (ma 0)), (3, .int l3)]) hX 53 dX6_collisions_53 3 rfl (kinc_1 _) (by decide) rfl ?_
          refine kw_goto hX 56 29 dX6_collisions_56 (by decide) ?_
          refine kw_lv (lv' := [(0, .ref (ma 0)), (2, .int (l2 + v10)), (3, .int l3), (4, .int (l4 + 1))]) [2, 1, 3, 0] rfl ?_
          exact ih (l2 + v10) l3 (l4 + 1) z_m_now z_m_sav z_m_sc z_m_err z_m_shf z_m_stp z_m_que z_m_qd z_m_qx z_m_qy z_m_met z_m_per z_m_row z_m_det z_m_h o h hK
        have h := hj12
        refine kw_if_eq hX 43 50 dX6_collisions_43 (by decide) (fun c9 => ?_) (fun c9 => ?_)
        · have h := kif_t c9 h
          refine kw_iconst hX 50 dX6_collisions_50 kci_0 ?_
          obtain rfl := Option.some.inj h
          refine kw_lv (lv' := [(0, .ref (ma 0)), (3, .int l3), (4, .int l4)]) [0, 2, 3] rfl ?_
          exact J11
        · have h := kif_f c9 h
          refine kw_iconst hX 46 dX6_collisions_46 kci_1 ?_
          refine kw_goto hX 47 51 dX6_collisions_47 (by decide) ?_
          obtain rfl := Option.some.inj h
          refine kw_lv (lv' := [(0, .ref (ma 0)), (3, .int l3), (4, .int l4)]) [0, 2, 3] rfl ?_
          exact J11
  have L16 : ∀ (n : Nat) (l2 : Int32) (l3 : Int32) (z_m_now : Nat → Int32) (z_m_sav : Nat → Int32) (z_m_sc : Int32) (z_m_err : Nat → Int32) (z_m_shf : Nat → Int32) (z_m_stp : Nat → Int32) (z_m_que : Nat → Int32) (z_m_qd : Int32) (z_m_qx : Nat → Int32) (z_m_qy : Nat → Int32) (z_m_met : Nat → Int32) (z_m_per : Nat → Int32) (z_m_row : Nat → Int64) (z_m_det : Int64) (z_m_h : Int64) (o : Int32 × Int32), pX6_collisions_L16 n l2 l3 z_m_now z_m_row z_m_det = some o → KW X Y A 5 0 0 (kfl [gM Y ma z_m_now z_m_sav z_m_sc z_m_err z_m_shf z_m_stp z_m_que z_m_qd z_m_qx z_m_qy z_m_met z_m_per z_m_row z_m_det z_m_h]) [(0, .ref (ma 0)), (2, .int o.1), (3, .int o.2)] 65 [] → KW X Y A 5 0 0 (kfl [gM Y ma z_m_now z_m_sav z_m_sc z_m_err z_m_shf z_m_stp z_m_que z_m_qd z_m_qx z_m_qy z_m_met z_m_per z_m_row z_m_det z_m_h]) [(0, .ref (ma 0)), (2, .int l2), (3, .int l3)] 16 [] := by
    intro n
    induction n with
    | zero => intro l2 l3 z_m_now z_m_sav z_m_sc z_m_err z_m_shf z_m_stp z_m_que z_m_qd z_m_qx z_m_qy z_m_met z_m_per z_m_row z_m_det z_m_h o h; cases h
    | succ n ih =>
      intro l2 l3 z_m_now z_m_sav z_m_sc z_m_err z_m_shf z_m_stp z_m_que z_m_qd z_m_qx z_m_qy z_m_met z_m_per z_m_row z_m_det z_m_h o h hK
      rw [pX6_collisions_L16] at h
      refine kw_iload_n hX 16 dX6_collisions_16 rfl 2 rfl ?_
      refine kw_aload_n hX 17 dX6_collisions_17 rfl 0 rfl ?_
      refine kw_get hX 18 (C := RX6) (T := TX6) (N := 15) hin6 0 f0 (fun _ h => h) 0 rfl rfl (by decide) rfl dX6_collisions_18 ?_
      refine kw_iconst hX 21 dX6_collisions_21 kci_0 ?_
      obtain ⟨g4, h⟩ := kgd_some h
      refine kw_iald hX 22 1 rfl g4 dX6_collisions_22 ?_
      refine kw_icmp_ge hX 23 65 dX6_collisions_23 (by decide) (fun c5 => ?_) (fun c5 => ?_)
      · have h := kif_t c5 h
        obtain rfl := Option.some.inj h
        refine kw_lv (lv' := [(0, .ref (ma 0)), (2, .int l2), (3, .int l3)]) [0, 1, 2] rfl ?_
        exact hK
      · have h := kif_f c5 h
        refine kw_iconst hX 26 dX6_collisions_26 kci_0 ?_
        refine kw_istore (lv' := [(4, .int 0), (0, .ref (ma 0)), (2, .int l2), (3, .int l3)]) hX 27 dX6_collisions_27 (by decide) rfl ?_
        obtain ⟨v13, hl14, h⟩ := kb_some h
        refine kw_lv (lv' := [(0, .ref (ma 0)), (2, .int l2), (3, .int l3), (4, .int 0)]) [1, 2, 3, 0] rfl ?_
        refine L29 KF l2 l3 0 z_m_now z_m_sav z_m_sc z_m_err z_m_shf z_m_stp z_m_que z_m_qd z_m_qx z_m_qy z_m_met z_m_per z_m_row z_m_det z_m_h v13 hl14 ?_
        refine kw_iinc (v := (l3 + 1)) (lv' := [(3, .int (l3 + 1)), (0, .ref (ma 0)), (2, .int v13.1), (4, .int v13.2)]) hX 59 dX6_collisions_59 2 rfl (kinc_1 _) (by decide) rfl ?_
        refine kw_goto hX 62 16 dX6_collisions_62 (by decide) ?_
        refine kw_lv (lv' := [(0, .ref (ma 0)), (2, .int v13.1), (3, .int (l3 + 1))]) [1, 2, 0] rfl ?_
        exact ih v13.1 (l3 + 1) z_m_now z_m_sav z_m_sc z_m_err z_m_shf z_m_stp z_m_que z_m_qd z_m_qx z_m_qy z_m_met z_m_per z_m_row z_m_det z_m_h o h hK
  unfold pX6_collisions at h
  refine kw_lv (lv' := [(0, .ref (ma 0))]) [0] rfl ?_
  refine kw_aload_n hX 0 dX6_collisions_0 rfl 0 rfl ?_
  refine kw_iconst hX 1 dX6_collisions_1 kci_1 ?_
  obtain ⟨v1, hc2, h⟩ := kb_some h
  refine kw_callV_I hX 2 (As := [.int 1]) (rest := []) (kX6_placementError (kx_l X) Y ma m_now m_sav m_sc m_err m_shf m_stp m_que m_qd m_qx m_qy m_met m_per m_row m_det m_h 1 hc2) gX6_collisions_X6_placementError rfl 1 rfl hdV_X6_placementError ⟨rfl, rfl⟩ ⟨by decide, by decide⟩ ⟨Nat.zero_le _, Nat.zero_le _⟩ rfl (Nat.le_of_ble_eq_true rfl) [0] (by decide) rfl (kfc gM_f kfn0) (gs1 := [gM Y ma m_now m_sav m_sc v1.2.1 m_shf m_stp m_que m_qd v1.2.2.1 v1.2.2.2.1 v1.2.2.2.2.1 m_per v1.2.2.2.2.2.1 v1.2.2.2.2.2.2 m_h]) rfl 0 6 rfl rfl rfl dX6_collisions_2 ?_
  refine kw_istore_n (lv' := [(1, .int v1.1), (0, .ref (ma 0))]) hX 5 dX6_collisions_5 rfl (by decide) rfl ?_
  refine kw_iload_n hX 6 dX6_collisions_6 rfl 0 rfl ?_
  refine kw_if_ge hX 7 12 dX6_collisions_7 (by decide) (fun c3 => ?_) (fun c3 => ?_)
  · have h := kif_t c3 h
    refine kw_iconst hX 12 dX6_collisions_12 kci_0 ?_
    refine kw_istore_n (lv' := [(2, .int 0), (1, .int v1.1), (0, .ref (ma 0))]) hX 13 dX6_collisions_13 rfl (by decide) rfl ?_
    refine kw_iconst hX 14 dX6_collisions_14 kci_0 ?_
    refine kw_istore_n (lv' := [(3, .int 0), (2, .int 0), (1, .int v1.1), (0, .ref (ma 0))]) hX 15 dX6_collisions_15 rfl (by decide) rfl ?_
    obtain ⟨v15, hl16, h⟩ := kb_some h
    refine kw_lv (lv' := [(0, .ref (ma 0)), (2, .int 0), (3, .int 0)]) [3, 1, 0] rfl ?_
    refine L16 KF 0 0 m_now m_sav m_sc v1.2.1 m_shf m_stp m_que m_qd v1.2.2.1 v1.2.2.2.1 v1.2.2.2.2.1 m_per v1.2.2.2.2.2.1 v1.2.2.2.2.2.2 m_h v15 hl16 ?_
    refine kw_iload_n hX 65 dX6_collisions_65 rfl 1 rfl ?_
    obtain rfl := Option.some.inj h
    exact hret _ _ dX6_collisions_66 rfl
  · have h := kif_f c3 h
    refine kw_iload_n hX 10 dX6_collisions_10 rfl 0 rfl ?_
    obtain rfl := Option.some.inj h
    exact hret _ _ dX6_collisions_11 rfl
def pX6_positionBits (a1 : Int32) (a2 : Int32) (m_now : Nat → Int32) (m_err : Nat → Int32) (m_qx : Nat → Int32) (m_qy : Nat → Int32) (m_met : Nat → Int32) (m_row : Nat → Int64) (m_det : Int64) : Option (Int32 × (Nat → Int32) × (Nat → Int32) × (Nat → Int32) × (Nat → Int32) × (Nat → Int64) × Int64) := kb (pX6_isVertex a1 m_now) (fun v1 => kb ((if v1 = 0 then some 0 else kb (pX6_in a2 0 1) (fun v4 => (if v4 = 0 then some 0 else some 1))) : Option (Int32)) (fun v7 => kb (pX6_placementError v7 m_now m_err m_qx m_qy m_met m_row m_det) (fun v9 => (if 0 ≤ v9.1 then kb (pX6_upper a1 a2 v9.2.2.2.2.2.1 v9.2.2.2.2.2.2) (fun v12 => kb (pX6_lower a1 a2 v9.2.2.2.2.2.1 v9.2.2.2.2.2.2) (fun v14 => kgd (kfn (FP.fdiv (FP.l2f v12) (FP.l2f v14))) (kb (pJ_ftib (FP.fdiv (FP.l2f v12) (FP.l2f v14))) (fun v17 => some (v17, v9.2.1, v9.2.2.1, v9.2.2.2.1, v9.2.2.2.2.1, v9.2.2.2.2.2.1, v9.2.2.2.2.2.2))))) else some (v9.1, v9.2.1, v9.2.2.1, v9.2.2.2.1, v9.2.2.2.2.1, v9.2.2.2.2.2.1, v9.2.2.2.2.2.2)))))
def rmX6_positionBits : Room := { frames := 5, cells := 0, slots := 0, locals := 114 }
theorem hdV_X6_positionBits : yX6_positionBits.cls = RX6 ∧ yX6_positionBits.cls ≠ "java/lang/invoke/MethodHandle" ∧ yX6_positionBits.cls ≠ "java/lang/invoke/VarHandle" ∧ (parseMethodDescriptor yX6_positionBits.desc).map (fun d => d.parameters.length) = some 2 := ⟨rfl, by decide +kernel, by decide +kernel, by decide +kernel⟩
set_option maxHeartbeats 4000000 in
set_option maxRecDepth 100000 in
theorem kX6_positionBits (l : Launch) (Y : KY) (ma : Nat → Nat) (m_now : Nat → Int32) (m_sav : Nat → Int32) (m_sc : Int32) (m_err : Nat → Int32) (m_shf : Nat → Int32) (m_stp : Nat → Int32) (m_que : Nat → Int32) (m_qd : Int32) (m_qx : Nat → Int32) (m_qy : Nat → Int32) (m_met : Nat → Int32) (m_per : Nat → Int32) (m_row : Nat → Int64) (m_det : Int64) (m_h : Int64) (a1 : Int32) (a2 : Int32) {o : Int32 × (Nat → Int32) × (Nat → Int32) × (Nat → Int32) × (Nat → Int32) × (Nat → Int64) × Int64} (h : pX6_positionBits a1 a2 m_now m_err m_qx m_qy m_met m_row m_det = some o) : CtI l yX6_positionBits wsX6_positionBits rmX6_positionBits Y [.ref (ma 0), .int a1, .int a2] (kfl [gM Y ma m_now m_sav m_sc m_err m_shf m_stp m_que m_qd m_qx m_qy m_met m_per m_row m_det m_h]) o.1 (kfl [gM Y ma m_now m_sav m_sc o.2.1 m_shf m_stp m_que m_qd o.2.2.1 o.2.2.2.1 o.2.2.2.2.1 m_per o.2.2.2.2.2.1 o.2.2.2.2.2.2 m_h]) := by
  refine ctI_intro (cc := cX6_positionBits) (maxL := 4) (own := RX6) (by decide +kernel) rfl rfl (Nat.le_of_ble_eq_true rfl) rfl ?_
  intro X A hX _ hret
  unfold pX6_positionBits at h
  refine kw_lv (lv' := [(0, .ref (ma 0)), (1, .int a1), (2, .int a2)]) [0, 1, 2] rfl ?_
  refine kw_aload_n hX 0 dX6_positionBits_0 rfl 0 rfl ?_
  refine kw_aload_n hX 1 dX6_positionBits_1 rfl 0 rfl ?_
  refine kw_iload_n hX 2 dX6_positionBits_2 rfl 1 rfl ?_
  obtain ⟨v1, hc2, h⟩ := kb_some h
  refine kw_callV_I hX 3 (As := [.int a1]) (rest := [.ref (ma 0)]) (kX6_isVertex (kx_l X) Y ma m_now m_sav m_sc m_err m_shf m_stp m_que m_qd m_qx m_qy m_met m_per m_row m_det m_h a1 hc2) gX6_positionBits_X6_isVertex rfl 1 rfl hdV_X6_isVertex ⟨rfl, rfl⟩ ⟨by decide, by decide⟩ ⟨Nat.zero_le _, Nat.zero_le _⟩ rfl (Nat.le_of_ble_eq_true rfl) [0] (by decide) rfl (kfc rfl kfn0) (gs1 := [gM Y ma m_now m_sav m_sc m_err m_shf m_stp m_que m_qd m_qx m_qy m_met m_per m_row m_det m_h]) rfl 0 6 rfl rfl rfl dX6_positionBits_3 ?_
  obtain ⟨v7, hj19, h⟩ := kb_some h
  have J8 : KW X Y A 4 0 0 (kfl [gM Y ma m_now m_sav m_sc m_err m_shf m_stp m_que m_qd m_qx m_qy m_met m_per m_row m_det m_h]) [(0, .ref (ma 0)), (1, .int a1), (2, .int a2)] 23 [.int v7, .ref (ma 0)] := by
    obtain ⟨v9, hc10, h⟩ := kb_some h
    refine kw_callV_I hX 23 (As := [.int v7]) (rest := []) (kX6_placementError (kx_l X) Y ma m_now m_sav m_sc m_err m_shf m_stp m_que m_qd m_qx m_qy m_met m_per m_row m_det m_h v7 hc10) gX6_positionBits_X6_placementError rfl 1 rfl hdV_X6_placementError ⟨rfl, rfl⟩ ⟨by decide, by decide⟩ ⟨Nat.zero_le _, Nat.zero_le _⟩ rfl (Nat.le_of_ble_eq_true rfl) [0] (by decide) rfl (kfc gM_f kfn0) (gs1 := [gM Y ma m_now m_sav m_sc v9.2.1 m_shf m_stp m_que m_qd v9.2.2.1 v9.2.2.2.1 v9.2.2.2.2.1 m_per v9.2.2.2.2.2.1 v9.2.2.2.2.2.2 m_h]) rfl 0 6 rfl rfl rfl dX6_positionBits_23 ?_
    refine kw_istore_n (lv' := [(3, .int v9.1), (0, .ref (ma 0)), (1, .int a1), (2, .int a2)]) hX 26 dX6_positionBits_26 rfl (by decide) rfl ?_
    refine kw_iload_n hX 27 dX6_positionBits_27 rfl 0 rfl ?_
    refine kw_if_ge hX 28 35 dX6_positionBits_28 (by decide) (fun c11 => ?_) (fun c11 => ?_)
    · have h := kif_t c11 h
      refine kw_aload_n hX 35 dX6_positionBits_35 rfl 1 rfl ?_
      refine kw_iload_n hX 36 dX6_positionBits_36 rfl 2 rfl ?_
      refine kw_iload_n hX 37 dX6_positionBits_37 rfl 3 rfl ?_
      obtain ⟨v12, hc13, h⟩ := kb_some h
      refine kw_callV_L hX 38 (As := [.int a1, .int a2]) (rest := []) (kX6_upper (kx_l X) Y ma m_now m_sav m_sc v9.2.1 m_shf m_stp m_que m_qd v9.2.2.1 v9.2.2.2.1 v9.2.2.2.2.1 m_per v9.2.2.2.2.2.1 v9.2.2.2.2.2.2 m_h a1 a2 hc13) gX6_positionBits_X6_upper rfl 2 rfl hdV_X6_upper ⟨rfl, rfl⟩ ⟨by decide, by decide⟩ ⟨Nat.zero_le _, Nat.zero_le _⟩ rfl (Nat.le_of_ble_eq_true rfl) [0] (by decide) rfl (kfc rfl kfn0) (gs1 := [gM Y ma m_now m_sav m_sc v9.2.1 m_shf m_stp m_que m_qd v9.2.2.1 v9.2.2.2.1 v9.2.2.2.2.1 m_per v9.2.2.2.2.2.1 v9.2.2.2.2.2.2 m_h]) rfl 0 6 rfl rfl rfl dX6_positionBits_38 ?_
      refine kw_l2f hX 41 dX6_positionBits_41 ?_
      refine kw_aload_n hX 42 dX6_positionBits_42 rfl 1 rfl ?_
      refine kw_iload_n hX 43 dX6_positionBits_43 rfl 2 rfl ?_
      refine kw_iload_n hX 44 dX6_positionBits_44 rfl 3 rfl ?_
      obtain ⟨v14, hc15, h⟩ := kb_some h
      refine kw_callV_L hX 45 (As := [.int a1, .int a2]) (rest := [.float (FP.l2f v12)]) (kX6_lower (kx_l X) Y ma m_now m_sav m_sc v9.2.1 m_shf m_stp m_que m_qd v9.2.2.1 v9.2.2.2.1 v9.2.2.2.2.1 m_per v9.2.2.2.2.2.1 v9.2.2.2.2.2.2 m_h a1 a2 hc15) gX6_positionBits_X6_lower rfl 2 rfl hdV_X6_lower ⟨rfl, rfl⟩ ⟨by decide, by decide⟩ ⟨Nat.zero_le _, Nat.zero_le _⟩ rfl (Nat.le_of_ble_eq_true rfl) [0] (by decide) rfl (kfc rfl kfn0) (gs1 := [gM Y ma m_now m_sav m_sc v9.2.1 m_shf m_stp m_que m_qd v9.2.2.1 v9.2.2.2.1 v9.2.2.2.2.1 m_per v9.2.2.2.2.2.1 v9.2.2.2.2.2.2 m_h]) rfl 0 6 rfl rfl rfl dX6_positionBits_45 ?_
      refine kw_l2f hX 48 dX6_positionBits_48 ?_
      obtain ⟨g16, h⟩ := kgd_some h
      refine kw_fdiv hX 49 dX6_positionBits_49 g16 ?_
      obtain ⟨v17, hc18, h⟩ := kb_some h
      refine kw_callS_I hX 50 (As := [.float (FP.fdiv (FP.l2f v12) (FP.l2f v14))]) (rest := []) (kJ_ftib (kx_l X) Y (FP.fdiv (FP.l2f v12) (FP.l2f v14)) hc18) gX6_positionBits_Jxf58ca_floatToIntBits_5c35a rfl 1 rfl hdS_J ⟨rfl, rfl⟩ ⟨by decide, by decide⟩ ⟨Nat.zero_le _, Nat.zero_le _⟩ rfl (Nat.le_of_ble_eq_true rfl) [] (by decide) rfl kfn0 (gs1 := [gM Y ma m_now m_sav m_sc v9.2.1 m_shf m_stp m_que m_qd v9.2.2.1 v9.2.2.2.1 v9.2.2.2.2.1 m_per v9.2.2.2.2.2.1 v9.2.2.2.2.2.2 m_h]) rfl dX6_positionBits_50 ?_
      obtain rfl := Option.some.inj h
      exact hret _ _ dX6_positionBits_53 rfl
    · have h := kif_f c11 h
      refine kw_iload_n hX 31 dX6_positionBits_31 rfl 0 rfl ?_
      refine kw_goto hX 32 53 dX6_positionBits_32 (by decide) ?_
      obtain rfl := Option.some.inj h
      exact hret _ _ dX6_positionBits_53 rfl
  have h := hj19
  refine kw_if_eq hX 6 22 dX6_positionBits_6 (by decide) (fun c3 => ?_) (fun c3 => ?_)
  · have h := kif_t c3 h
    refine kw_iconst hX 22 dX6_positionBits_22 kci_0 ?_
    obtain rfl := Option.some.inj h
    refine kw_lv (lv' := [(0, .ref (ma 0)), (1, .int a1), (2, .int a2)]) [0, 1, 2] rfl ?_
    exact J8
  · have h := kif_f c3 h
    refine kw_iload_n hX 9 dX6_positionBits_9 rfl 2 rfl ?_
    refine kw_iconst hX 10 dX6_positionBits_10 kci_0 ?_
    refine kw_iconst hX 11 dX6_positionBits_11 kci_1 ?_
    obtain ⟨v4, hc5, h⟩ := kb_some h
    refine kw_callS_I hX 12 (As := [.int a2, .int 0, .int 1]) (rest := [.ref (ma 0)]) (kX6_in (kx_l X) Y a2 0 1 hc5) gX6_positionBits_X6_in rfl 3 rfl hdS_X6_in ⟨rfl, rfl⟩ ⟨by decide, by decide⟩ ⟨Nat.zero_le _, Nat.zero_le _⟩ rfl (Nat.le_of_ble_eq_true rfl) [] (by decide) rfl kfn0 (gs1 := [gM Y ma m_now m_sav m_sc m_err m_shf m_stp m_que m_qd m_qx m_qy m_met m_per m_row m_det m_h]) rfl dX6_positionBits_12 ?_
    refine kw_if_eq hX 15 22 dX6_positionBits_15 (by decide) (fun c6 => ?_) (fun c6 => ?_)
    · have h := kif_t c6 h
      refine kw_iconst hX 22 dX6_positionBits_22 kci_0 ?_
      obtain rfl := Option.some.inj h
      refine kw_lv (lv' := [(0, .ref (ma 0)), (1, .int a1), (2, .int a2)]) [0, 1, 2] rfl ?_
      exact J8
    · have h := kif_f c6 h
      refine kw_iconst hX 18 dX6_positionBits_18 kci_1 ?_
      refine kw_goto hX 19 23 dX6_positionBits_19 (by decide) ?_
      obtain rfl := Option.some.inj h
      refine kw_lv (lv' := [(0, .ref (ma 0)), (1, .int a1), (2, .int a2)]) [0, 1, 2] rfl ?_
      exact J8
def pX6_errorCount (a1 : Int32) (m_err : Nat → Int32) : Option (Int32 × (Nat → Int32)) := kb (pX6_in a1 (-7) (-2)) (fun v1 => (if v1 = 0 then kb (pX6_error (-2) m_err) (fun v4 => some (v4.1, v4.2)) else kgd (kin ((-2) - a1) 6) (some ((m_err (((-2) - a1) : Int32).toNatClampNeg), m_err))))
def rmX6_errorCount : Room := { frames := 1, cells := 0, slots := 0, locals := 22 }
theorem hdV_X6_errorCount : yX6_errorCount.cls = RX6 ∧ yX6_errorCount.cls ≠ "java/lang/invoke/MethodHandle" ∧ yX6_errorCount.cls ≠ "java/lang/invoke/VarHandle" ∧ (parseMethodDescriptor yX6_errorCount.desc).map (fun d => d.parameters.length) = some 1 := ⟨rfl, by decide +kernel, by decide +kernel, by decide +kernel⟩
set_option maxHeartbeats 4000000 in
set_option maxRecDepth 100000 in
theorem kX6_errorCount (l : Launch) (Y : KY) (ma : Nat → Nat) (m_now : Nat → Int32) (m_sav : Nat → Int32) (m_sc : Int32) (m_err : Nat → Int32) (m_shf : Nat → Int32) (m_stp : Nat → Int32) (m_que : Nat → Int32) (m_qd : Int32) (m_qx : Nat → Int32) (m_qy : Nat → Int32) (m_met : Nat → Int32) (m_per : Nat → Int32) (m_row : Nat → Int64) (m_det : Int64) (m_h : Int64) (a1 : Int32) {o : Int32 × (Nat → Int32)} (h : pX6_errorCount a1 m_err = some o) : CtI l yX6_errorCount wsX6_errorCount rmX6_errorCount Y [.ref (ma 0), .int a1] (kfl [gM Y ma m_now m_sav m_sc m_err m_shf m_stp m_que m_qd m_qx m_qy m_met m_per m_row m_det m_h]) o.1 (kfl [gM Y ma m_now m_sav m_sc o.2 m_shf m_stp m_que m_qd m_qx m_qy m_met m_per m_row m_det m_h]) := by
  refine ctI_intro (cc := cX6_errorCount) (maxL := 2) (own := RX6) (by decide +kernel) rfl rfl (Nat.le_of_ble_eq_true rfl) rfl ?_
  intro X A hX _ hret
  have hin6 : ∀ w ∈ u_ws RX6 TX6 15, w ∈ wsX6_errorCount := by decide +kernel
  have f0 := hX.w (Cond.fieldLink RX6 16 "PeriodicNetModel" "errors" "[I") (by decide +kernel)
  unfold pX6_errorCount at h
  refine kw_lv (lv' := [(0, .ref (ma 0)), (1, .int a1)]) [0, 1] rfl ?_
  refine kw_iload_n hX 0 dX6_errorCount_0 rfl 1 rfl ?_
  refine kw_bipush hX 1 dX6_errorCount_1 kcb_m7 ?_
  refine kw_bipush hX 3 dX6_errorCount_3 kcb_m2 ?_
  obtain ⟨v1, hc2, h⟩ := kb_some h
  refine kw_callS_I hX 5 (As := [.int a1, .int (-7), .int (-2)]) (rest := []) (kX6_in (kx_l X) Y a1 (-7) (-2) hc2) gX6_errorCount_X6_in rfl 3 rfl hdS_X6_in ⟨rfl, rfl⟩ ⟨by decide, by decide⟩ ⟨Nat.zero_le _, Nat.zero_le _⟩ rfl (Nat.le_of_ble_eq_true rfl) [] (by decide) rfl kfn0 (gs1 := [gM Y ma m_now m_sav m_sc m_err m_shf m_stp m_que m_qd m_qx m_qy m_met m_per m_row m_det m_h]) rfl dX6_errorCount_5 ?_
  refine kw_if_eq hX 8 23 dX6_errorCount_8 (by decide) (fun c3 => ?_) (fun c3 => ?_)
  · have h := kif_t c3 h
    refine kw_aload_n hX 23 dX6_errorCount_23 rfl 0 rfl ?_
    refine kw_bipush hX 24 dX6_errorCount_24 kcb_m2 ?_
    obtain ⟨v4, hc5, h⟩ := kb_some h
    refine kw_callV_I hX 26 (As := [.int (-2)]) (rest := []) (kX6_error (kx_l X) Y ma m_now m_sav m_sc m_err m_shf m_stp m_que m_qd m_qx m_qy m_met m_per m_row m_det m_h (-2) hc5) gX6_errorCount_X6_error rfl 1 rfl hdV_X6_error ⟨rfl, rfl⟩ ⟨by decide, by decide⟩ ⟨Nat.zero_le _, Nat.zero_le _⟩ rfl (Nat.le_of_ble_eq_true rfl) [0] (by decide) rfl (kfc gM_f kfn0) (gs1 := [gM Y ma m_now m_sav m_sc v4.2 m_shf m_stp m_que m_qd m_qx m_qy m_met m_per m_row m_det m_h]) rfl 0 6 rfl rfl rfl dX6_errorCount_26 ?_
    obtain rfl := Option.some.inj h
    exact hret _ _ dX6_errorCount_29 rfl
  · have h := kif_f c3 h
    refine kw_aload_n hX 11 dX6_errorCount_11 rfl 0 rfl ?_
    refine kw_get hX 12 (C := RX6) (T := TX6) (N := 15) hin6 3 f0 (fun _ h => h) 0 rfl rfl (by decide) rfl dX6_errorCount_12 ?_
    refine kw_bipush hX 15 dX6_errorCount_15 kcb_m2 ?_
    refine kw_iload_n hX 17 dX6_errorCount_17 rfl 1 rfl ?_
    refine kw_isub hX 18 dX6_errorCount_18 ?_
    obtain ⟨g6, h⟩ := kgd_some h
    refine kw_iald hX 19 3 rfl g6 dX6_errorCount_19 ?_
    refine kw_goto hX 20 29 dX6_errorCount_20 (by decide) ?_
    obtain rfl := Option.some.inj h
    exact hret _ _ dX6_errorCount_29 rfl
def pX6_mix (a1 : Int64) (m_h : Int64) : Option (Int64) := some ((31 * m_h) + a1)
def rmX6_mix : Room := { frames := 0, cells := 0, slots := 0, locals := 0 }
theorem hdV_X6_mix : yX6_mix.cls = RX6 ∧ yX6_mix.cls ≠ "java/lang/invoke/MethodHandle" ∧ yX6_mix.cls ≠ "java/lang/invoke/VarHandle" ∧ (parseMethodDescriptor yX6_mix.desc).map (fun d => d.parameters.length) = some 1 := ⟨rfl, by decide +kernel, by decide +kernel, by decide +kernel⟩
set_option maxHeartbeats 4000000 in
set_option maxRecDepth 100000 in
theorem kX6_mix (l : Launch) (Y : KY) (ma : Nat → Nat) (m_now : Nat → Int32) (m_sav : Nat → Int32) (m_sc : Int32) (m_err : Nat → Int32) (m_shf : Nat → Int32) (m_stp : Nat → Int32) (m_que : Nat → Int32) (m_qd : Int32) (m_qx : Nat → Int32) (m_qy : Nat → Int32) (m_met : Nat → Int32) (m_per : Nat → Int32) (m_row : Nat → Int64) (m_det : Int64) (m_h : Int64) (a1 : Int64) {o : Int64} (h : pX6_mix a1 m_h = some o) : CtV l yX6_mix wsX6_mix rmX6_mix Y [.ref (ma 0), .long a1] (kfl [gM Y ma m_now m_sav m_sc m_err m_shf m_stp m_que m_qd m_qx m_qy m_met m_per m_row m_det m_h]) (kfl [gM Y ma m_now m_sav m_sc m_err m_shf m_stp m_que m_qd m_qx m_qy m_met m_per m_row m_det o]) := by
  refine ctV_intro (cc := cX6_mix) (maxL := 3) (own := RX6) (by decide +kernel) rfl rfl (Nat.le_of_ble_eq_true rfl) rfl ?_
  intro X A hX _ hret
  have hin6 : ∀ w ∈ u_ws RX6 TX6 15, w ∈ wsX6_mix := by decide +kernel
  have f0 := hX.w (Cond.constantLong RX6 186 (31)) (by decide +kernel)
  have f1 := hX.w (Cond.fieldLink RX6 188 "PeriodicNetModel" "h" "J") (by decide +kernel)
  unfold pX6_mix at h
  refine kw_lv (lv' := [(0, .ref (ma 0)), (1, .long a1)]) [0, 1] rfl ?_
  refine kw_aload_n hX 0 dX6_mix_0 rfl 0 rfl ?_
  refine kw_ldc2 hX 1 dX6_mix_1 f0 ?_
  refine kw_aload_n hX 4 dX6_mix_4 rfl 0 rfl ?_
  refine kw_get hX 5 (C := RX6) (T := TX6) (N := 15) hin6 14 f1 (fun _ h => h) 0 rfl rfl (by decide) rfl dX6_mix_5 ?_
  refine kw_lmul hX 8 dX6_mix_8 ?_
  refine kw_lload_n hX 9 dX6_mix_9 rfl 1 rfl ?_
  refine kw_ladd hX 10 dX6_mix_10 ?_
  refine kw_put hX 11 (C := RX6) (T := TX6) (N := 15) (ws' := (kfl [gM Y ma m_now m_sav m_sc m_err m_shf m_stp m_que m_qd m_qx m_qy m_met m_per m_row m_det ((31 * m_h) + a1)])) hin6 tyX6 tyX6_ok nmX6 14 f1 (fun _ h => h) 0 rfl rfl (by decide) rfl (ty := .long) (tyX6_ok 14 (by decide)) rfl rfl (Nat.le_of_ble_eq_true rfl) rfl dX6_mix_11 ?_
  obtain rfl := Option.some.inj h
  exact hret _ _ dX6_mix_14
def pX6_mixPositions_L18 : Nat → Int32 → Int32 → (Nat → Int64) → Int64 → Int64 → Option (Int32 × Int64)
  | 0, _, _, _, _, _ => none
  | n + 1, l1, l2, z_m_row, z_m_det, z_m_h => (if (2 : Int32) ≤ l2 then some (l2, z_m_h) else kb (pX6_upper l1 l2 z_m_row z_m_det) (fun v6 => kb (pX6_mix v6 z_m_h) (fun v8 => kb (pX6_lower l1 l2 z_m_row z_m_det) (fun v10 => kb (pX6_mix v10 v8) (fun v12 => pX6_mixPositions_L18 n l1 (l2 + 1) z_m_row z_m_det v12)))))
def pX6_mixPositions_L6 : Nat → Int32 → (Nat → Int32) → (Nat → Int64) → Int64 → Int64 → Option (Int32 × Int64)
  | 0, _, _, _, _, _ => none
  | n + 1, l1, z_m_now, z_m_row, z_m_det, z_m_h => kgd (kin 0 50) ((if (z_m_now (0 : Int32).toNatClampNeg) ≤ l1 then some (l1, z_m_h) else kb (pX6_mixPositions_L18 KF l1 0 z_m_row z_m_det z_m_h) (fun v14 => pX6_mixPositions_L6 n (l1 + 1) z_m_now z_m_row z_m_det v14.2)))
def pX6_mixPositions  (m_now : Nat → Int32) (m_row : Nat → Int64) (m_det : Int64) (m_h : Int64) : Option ((Nat → Int64) × Int64 × Int64) := kb (pX6_place m_now m_row m_det) (fun v1 => kb (pX6_mixPositions_L6 KF 0 m_now v1.1 v1.2 m_h) (fun v16 => some (v1.1, v1.2, v16.2)))
def rmX6_mixPositions : Room := { frames := 4, cells := 0, slots := 0, locals := 93 }
theorem hdV_X6_mixPositions : yX6_mixPositions.cls = RX6 ∧ yX6_mixPositions.cls ≠ "java/lang/invoke/MethodHandle" ∧ yX6_mixPositions.cls ≠ "java/lang/invoke/VarHandle" ∧ (parseMethodDescriptor yX6_mixPositions.desc).map (fun d => d.parameters.length) = some 0 := ⟨rfl, by decide +kernel, by decide +kernel, by decide +kernel⟩
set_option maxHeartbeats 4000000 in
set_option maxRecDepth 100000 in
theorem kX6_mixPositions (l : Launch) (Y : KY) (ma : Nat → Nat) (m_now : Nat → Int32) (m_sav : Nat → Int32) (m_sc : Int32) (m_err : Nat → Int32) (m_shf : Nat → Int32) (m_stp : Nat → Int32) (m_que : Nat → Int32) (m_qd : Int32) (m_qx : Nat → Int32) (m_qy : Nat → Int32) (m_met : Nat → Int32) (m_per : Nat → Int32) (m_row : Nat → Int64) (m_det : Int64) (m_h : Int64)  {o : (Nat → Int64) × Int64 × Int64} (h : pX6_mixPositions m_now m_row m_det m_h = some o) : CtV l yX6_mixPositions wsX6_mixPositions rmX6_mixPositions Y [.ref (ma 0)] (kfl [gM Y ma m_now m_sav m_sc m_err m_shf m_stp m_que m_qd m_qx m_qy m_met m_per m_row m_det m_h]) (kfl [gM Y ma m_now m_sav m_sc m_err m_shf m_stp m_que m_qd m_qx m_qy m_met m_per o.1 o.2.1 o.2.2]) := by
  refine ctV_intro (cc := cX6_mixPositions) (maxL := 3) (own := RX6) (by decide +kernel) rfl rfl (Nat.le_of_ble_eq_true rfl) rfl ?_
  intro X A hX _ hret
  have hin6 : ∀ w ∈ u_ws RX6 TX6 15, w ∈ wsX6_mixPositions := by decide +kernel
  have f0 := hX.w (Cond.fieldLink RX6 7 "PeriodicNetModel" "now" "[I") (by decide +kernel)
  have L18 : ∀ (n : Nat) (l1 : Int32) (l2 : Int32) (z_m_now : Nat → Int32) (z_m_sav : Nat → Int32) (z_m_sc : Int32) (z_m_err : Nat → Int32) (z_m_shf : Nat → Int32) (z_m_stp : Nat → Int32) (z_m_que : Nat → Int32) (z_m_qd : Int32) (z_m_qx : Nat → Int32) (z_m_qy : Nat → Int32) (z_m_met : Nat → Int32) (z_m_per : Nat → Int32) (z_m_row : Nat → Int64) (z_m_det : Int64) (z_m_h : Int64) (o : Int32 × Int64), pX6_mixPositions_L18 n l1 l2 z_m_row z_m_det z_m_h = some o → KW X Y A 3 0 0 (kfl [gM Y ma z_m_now z_m_sav z_m_sc z_m_err z_m_shf z_m_stp z_m_que z_m_qd z_m_qx z_m_qy z_m_met z_m_per z_m_row z_m_det o.2]) [(0, .ref (ma 0)), (1, .int l1), (2, .int o.1)] 49 [] → KW X Y A 3 0 0 (kfl [gM Y ma z_m_now z_m_sav z_m_sc z_m_err z_m_shf z_m_stp z_m_que z_m_qd z_m_qx z_m_qy z_m_met z_m_per z_m_row z_m_det z_m_h]) [(0, .ref (ma 0)), (1, .int l1), (2, .int l2)] 18 [] := by
    intro n
    induction n with
    | zero => intro l1 l2 z_m_now z_m_sav z_m_sc z_m_err z_m_shf z_m_stp z_m_que z_m_qd z_m_qx z_m_qy z_m_met z_m_per z_m_row z_m_det z_m_h o h; cases h
    | succ n ih =>
      intro l1 l2 z_m_now z_m_sav z_m_sc z_m_err z_m_shf z_m_stp z_m_que z_m_qd z_m_qx z_m_qy z_m_met z_m_per z_m_row z_m_det z_m_h o h hK
      rw [pX6_mixPositions_L18] at h
      refine kw_iload_n hX 18 dX6_mixPositions_18 rfl 2 rfl ?_
      refine kw_iconst hX 19 dX6_mixPositions_19 kci_2 ?_
      refine kw_icmp_ge hX 20 49 dX6_mixPositions_20 (by decide) (fun c5 => ?_) (fun c5 => ?_)
      · have h := kif_t c5 h
        obtain rfl := Option.some.inj h
        refine kw_lv (lv' := [(0, .ref (ma 0)), (1, .int l1), (2, .int l2)]) [0, 1, 2] rfl ?_
        exact hK
      · have h := kif_f c5 h
        refine kw_aload_n hX 23 dX6_mixPositions_23 rfl 0 rfl ?_
        refine kw_aload_n hX 24 dX6_mixPositions_24 rfl 0 rfl ?_
        refine kw_iload_n hX 25 dX6_mixPositions_25 rfl 1 rfl ?_
        refine kw_iload_n hX 26 dX6_mixPositions_26 rfl 2 rfl ?_
        obtain ⟨v6, hc7, h⟩ := kb_some h
        refine kw_callV_L hX 27 (As := [.int l1, .int l2]) (rest := [.ref (ma 0)]) (kX6_upper (kx_l X) Y ma z_m_now z_m_sav z_m_sc z_m_err z_m_shf z_m_stp z_m_que z_m_qd z_m_qx z_m_qy z_m_met z_m_per z_m_row z_m_det z_m_h l1 l2 hc7) gX6_mixPositions_X6_upper rfl 2 rfl hdV_X6_upper ⟨rfl, rfl⟩ ⟨by decide, by decide⟩ ⟨Nat.zero_le _, Nat.zero_le _⟩ rfl (Nat.le_of_ble_eq_true rfl) [0] (by decide) rfl (kfc rfl kfn0) (gs1 := [gM Y ma z_m_now z_m_sav z_m_sc z_m_err z_m_shf z_m_stp z_m_que z_m_qd z_m_qx z_m_qy z_m_met z_m_per z_m_row z_m_det z_m_h]) rfl 0 6 rfl rfl rfl dX6_mixPositions_27 ?_
        obtain ⟨v8, hc9, h⟩ := kb_some h
        refine kw_callV_V hX 30 (As := [.long v6]) (rest := []) (kX6_mix (kx_l X) Y ma z_m_now z_m_sav z_m_sc z_m_err z_m_shf z_m_stp z_m_que z_m_qd z_m_qx z_m_qy z_m_met z_m_per z_m_row z_m_det z_m_h v6 hc9) gX6_mixPositions_X6_mix rfl 1 rfl hdV_X6_mix ⟨rfl, rfl⟩ ⟨by decide, by decide⟩ ⟨Nat.zero_le _, Nat.zero_le _⟩ rfl (Nat.le_of_ble_eq_true rfl) [0] (by decide) rfl (kfc gM_f kfn0) (gs1 := [gM Y ma z_m_now z_m_sav z_m_sc z_m_err z_m_shf z_m_stp z_m_que z_m_qd z_m_qx z_m_qy z_m_met z_m_per z_m_row z_m_det v8]) rfl 0 6 rfl rfl rfl dX6_mixPositions_30 ?_
        refine kw_aload_n hX 33 dX6_mixPositions_33 rfl 0 rfl ?_
        refine kw_aload_n hX 34 dX6_mixPositions_34 rfl 0 rfl ?_
        refine kw_iload_n hX 35 dX6_mixPositions_35 rfl 1 rfl ?_
        refine kw_iload_n hX 36 dX6_mixPositions_36 rfl 2 rfl ?_
        obtain ⟨v10, hc11, h⟩ := kb_some h
        refine kw_callV_L hX 37 (As := [.int l1, .int l2]) (rest := [.ref (ma 0)]) (kX6_lower (kx_l X) Y ma z_m_now z_m_sav z_m_sc z_m_err z_m_shf z_m_stp z_m_que z_m_qd z_m_qx z_m_qy z_m_met z_m_per z_m_row z_m_det v8 l1 l2 hc11) gX6_mixPositions_X6_lower rfl 2 rfl hdV_X6_lower ⟨rfl, rfl⟩ ⟨by decide, by decide⟩ ⟨Nat.zero_le _, Nat.zero_le _⟩ rfl (Nat.le_of_ble_eq_true rfl) [0] (by decide) rfl (kfc rfl kfn0) (gs1 := [gM Y ma z_m_now z_m_sav z_m_sc z_m_err z_m_shf z_m_stp z_m_que z_m_qd z_m_qx z_m_qy z_m_met z_m_per z_m_row z_m_det v8]) rfl 0 6 rfl rfl rfl dX6_mixPositions_37 ?_
        obtain ⟨v12, hc13, h⟩ := kb_some h
        refine kw_callV_V hX 40 (As := [.long v10]) (rest := []) (kX6_mix (kx_l X) Y ma z_m_now z_m_sav z_m_sc z_m_err z_m_shf z_m_stp z_m_que z_m_qd z_m_qx z_m_qy z_m_met z_m_per z_m_row z_m_det v8 v10 hc13) gX6_mixPositions_X6_mix rfl 1 rfl hdV_X6_mix ⟨rfl, rfl⟩ ⟨by decide, by decide⟩ ⟨Nat.zero_le _, Nat.zero_le _⟩ rfl (Nat.le_of_ble_eq_true rfl) [0] (by decide) rfl (kfc gM_f kfn0) (gs1 := [gM Y ma z_m_now z_m_sav z_m_sc z_m_err z_m_shf z_m_stp z_m_que z_m_qd z_m_qx z_m_qy z_m_met z_m_per z_m_row z_m_det v12]) rfl 0 6 rfl rfl rfl dX6_mixPositions_40 ?_
        refine kw_iinc (v := (l2 + 1)) (lv' := [(2, .int (l2 + 1)), (0, .ref (ma 0)), (1, .int l1)]) hX 43 dX6_mixPositions_43 2 rfl (kinc_1 _) (by decide) rfl ?_
        refine kw_goto hX 46 18 dX6_mixPositions_46 (by decide) ?_
        refine kw_lv (lv' := [(0, .ref (ma 0)), (1, .int l1), (2, .int (l2 + 1))]) [1, 2, 0] rfl ?_
        exact ih l1 (l2 + 1) z_m_now z_m_sav z_m_sc z_m_err z_m_shf z_m_stp z_m_que z_m_qd z_m_qx z_m_qy z_m_met z_m_per z_m_row z_m_det v12 o h hK
  have L6 : ∀ (n : Nat) (l1 : Int32) (z_m_now : Nat → Int32) (z_m_sav : Nat → Int32) (z_m_sc : Int32) (z_m_err : Nat → Int32) (z_m_shf : Nat → Int32) (z_m_stp : Nat → Int32) (z_m_que : Nat → Int32) (z_m_qd : Int32) (z_m_qx : Nat → Int32) (z_m_qy : Nat → Int32) (z_m_met : Nat → Int32) (z_m_per : Nat → Int32) (z_m_row : Nat → Int64) (z_m_det : Int64) (z_m_h : Int64) (o : Int32 × Int64), pX6_mixPositions_L6 n l1 z_m_now z_m_row z_m_det z_m_h = some o → KW X Y A 3 0 0 (kfl [gM Y ma z_m_now z_m_sav z_m_sc z_m_err z_m_shf z_m_stp z_m_que z_m_qd z_m_qx z_m_qy z_m_met z_m_per z_m_row z_m_det o.2]) [(0, .ref (ma 0)), (1, .int o.1)] 55 [] → KW X Y A 3 0 0 (kfl [gM Y ma z_m_now z_m_sav z_m_sc z_m_err z_m_shf z_m_stp z_m_que z_m_qd z_m_qx z_m_qy z_m_met z_m_per z_m_row z_m_det z_m_h]) [(0, .ref (ma 0)), (1, .int l1)] 6 [] := by
    intro n
    induction n with
    | zero => intro l1 z_m_now z_m_sav z_m_sc z_m_err z_m_shf z_m_stp z_m_que z_m_qd z_m_qx z_m_qy z_m_met z_m_per z_m_row z_m_det z_m_h o h; cases h
    | succ n ih =>
      intro l1 z_m_now z_m_sav z_m_sc z_m_err z_m_shf z_m_stp z_m_que z_m_qd z_m_qx z_m_qy z_m_met z_m_per z_m_row z_m_det z_m_h o h hK
      rw [pX6_mixPositions_L6] at h
      refine kw_iload_n hX 6 dX6_mixPositions_6 rfl 1 rfl ?_
      refine kw_aload_n hX 7 dX6_mixPositions_7 rfl 0 rfl ?_
      refine kw_get hX 8 (C := RX6) (T := TX6) (N := 15) hin6 0 f0 (fun _ h => h) 0 rfl rfl (by decide) rfl dX6_mixPositions_8 ?_
      refine kw_iconst hX 11 dX6_mixPositions_11 kci_0 ?_
      obtain ⟨g3, h⟩ := kgd_some h
      refine kw_iald hX 12 1 rfl g3 dX6_mixPositions_12 ?_
      refine kw_icmp_ge hX 13 55 dX6_mixPositions_13 (by decide) (fun c4 => ?_) (fun c4 => ?_)
      · have h := kif_t c4 h
        obtain rfl := Option.some.inj h
        refine kw_lv (lv' := [(0, .ref (ma 0)), (1, .int l1)]) [0, 1] rfl ?_
        exact hK
      · have h := kif_f c4 h
        refine kw_iconst hX 16 dX6_mixPositions_16 kci_0 ?_
        refine kw_istore_n (lv' := [(2, .int 0), (0, .ref (ma 0)), (1, .int l1)]) hX 17 dX6_mixPositions_17 rfl (by decide) rfl ?_
        obtain ⟨v14, hl15, h⟩ := kb_some h
        refine kw_lv (lv' := [(0, .ref (ma 0)), (1, .int l1), (2, .int 0)]) [1, 2, 0] rfl ?_
        refine L18 KF l1 0 z_m_now z_m_sav z_m_sc z_m_err z_m_shf z_m_stp z_m_que z_m_qd z_m_qx z_m_qy z_m_met z_m_per z_m_row z_m_det z_m_h v14 hl15 ?_
        refine kw_iinc (v := (l1 + 1)) (lv' := [(1, .int (l1 + 1)), (0, .ref (ma 0)), (2, .int v14.1)]) hX 49 dX6_mixPositions_49 1 rfl (kinc_1 _) (by decide) rfl ?_
        refine kw_goto hX 52 6 dX6_mixPositions_52 (by decide) ?_
        refine kw_lv (lv' := [(0, .ref (ma 0)), (1, .int (l1 + 1))]) [1, 0] rfl ?_
        exact ih (l1 + 1) z_m_now z_m_sav z_m_sc z_m_err z_m_shf z_m_stp z_m_que z_m_qd z_m_qx z_m_qy z_m_met z_m_per z_m_row z_m_det v14.2 o h hK
  unfold pX6_mixPositions at h
  refine kw_lv (lv' := [(0, .ref (ma 0))]) [0] rfl ?_
  refine kw_aload_n hX 0 dX6_mixPositions_0 rfl 0 rfl ?_
  obtain ⟨v1, hc2, h⟩ := kb_some h
  refine kw_callV_V hX 1 (As := []) (rest := []) (kX6_place (kx_l X) Y ma m_now m_sav m_sc m_err m_shf m_stp m_que m_qd m_qx m_qy m_met m_per m_row m_det m_h hc2) gX6_mixPositions_X6_place rfl 0 rfl hdV_X6_place ⟨rfl, rfl⟩ ⟨by decide, by decide⟩ ⟨Nat.zero_le _, Nat.zero_le _⟩ rfl (Nat.le_of_ble_eq_true rfl) [0] (by decide) rfl (kfc gM_f kfn0) (gs1 := [gM Y ma m_now m_sav m_sc m_err m_shf m_stp m_que m_qd m_qx m_qy m_met m_per v1.1 v1.2 m_h]) rfl 0 6 rfl rfl rfl dX6_mixPositions_1 ?_
  refine kw_iconst hX 4 dX6_mixPositions_4 kci_0 ?_
  refine kw_istore_n (lv' := [(1, .int 0), (0, .ref (ma 0))]) hX 5 dX6_mixPositions_5 rfl (by decide) rfl ?_
  obtain ⟨v16, hl17, h⟩ := kb_some h
  refine kw_lv (lv' := [(0, .ref (ma 0)), (1, .int 0)]) [1, 0] rfl ?_
  refine L6 KF 0 m_now m_sav m_sc m_err m_shf m_stp m_que m_qd m_qx m_qy m_met m_per v1.1 v1.2 m_h v16 hl17 ?_
  obtain rfl := Option.some.inj h
  exact hret _ _ dX6_mixPositions_55
def pX6_digest_L9 : Nat → Int32 → (Nat → Int32) → Int64 → Option (Int32 × Int64)
  | 0, _, _, _ => none
  | n + 1, l1, z_m_err, z_m_h => (if (6 : Int32) ≤ l1 then some (l1, z_m_h) else kgd (kin l1 6) (kb (pX6_mix (((z_m_err (l1 : Int32).toNatClampNeg) : Int32).toInt64) z_m_h) (fun v3 => pX6_digest_L9 n (l1 + 1) z_m_err v3)))
def pX6_digest_L34 : Nat → Int32 → (Nat → Int32) → Int64 → Option (Int32 × Int64)
  | 0, _, _, _ => none
  | n + 1, l1, z_m_now, z_m_h => kgd (kin 1 50) ((if (2 + (4 * (z_m_now (1 : Int32).toNatClampNeg))) ≤ l1 then some (l1, z_m_h) else kgd (kin l1 50) (kb (pX6_mix (((z_m_now (l1 : Int32).toNatClampNeg) : Int32).toInt64) z_m_h) (fun v10 => pX6_digest_L34 n (l1 + 1) z_m_now v10))))
def pX6_digest_L101 : Nat → Int32 → Int32 → (Nat → Int32) → (Nat → Int32) → Int32 → Int64 → Option (Int32 × Int64)
  | 0, _, _, _, _, _, _ => none
  | n + 1, l1, l2, z_m_stp, z_m_que, z_m_qd, z_m_h => (if (5 : Int32) ≤ l2 then some (l2, z_m_h) else kb (pX6_countAt l2 z_m_stp z_m_que z_m_qd) (fun v25 => kb (pX6_mix ((v25 : Int32).toInt64) z_m_h) (fun v27 => pX6_digest_L101 n l1 (l2 + 1) z_m_stp z_m_que z_m_qd v27)))
def pX6_digest_L67 : Nat → Int32 → (Nat → Int32) → (Nat → Int32) → (Nat → Int32) → Int32 → (Nat → Int32) → (Nat → Int32) → (Nat → Int32) → (Nat → Int32) → Int64 → Option (Int32 × (Nat → Int32) × (Nat → Int32) × Int32 × (Nat → Int32) × (Nat → Int32) × (Nat → Int32) × (Nat → Int32) × Int64)
  | 0, _, _, _, _, _, _, _, _, _, _ => none
  | n + 1, l1, z_m_now, z_m_stp, z_m_que, z_m_qd, z_m_qx, z_m_qy, z_m_met, z_m_per, z_m_h => kgd (kin 0 50) ((if (z_m_now (0 : Int32).toNatClampNeg) ≤ l1 then some (l1, z_m_stp, z_m_que, z_m_qd, z_m_qx, z_m_qy, z_m_met, z_m_per, z_m_h) else kb (pX6_degreeOf l1 z_m_now) (fun v16 => kb (pX6_mix ((v16 : Int32).toInt64) z_m_h) (fun v18 => kb (pX6_node l1 0 0) (fun v20 => kb (pX6_search v20 (-1) 4 z_m_now z_m_stp z_m_que z_m_qd) (fun v22 => kb (pX6_digest_L101 KF l1 1 v22.1 v22.2.1 v22.2.2 v18) (fun v29 => kb (pX6_rankOf l1 z_m_now z_m_qx z_m_qy z_m_met z_m_per) (fun v31 => kb (pX6_mix ((v31.1 : Int32).toInt64) v29.2) (fun v33 => kb (pX6_indexOf l1 z_m_now v31.2.1 v31.2.2.1 v31.2.2.2.1 v31.2.2.2.2) (fun v35 => kb (pX6_mix ((v35.1 : Int32).toInt64) v33) (fun v37 => pX6_digest_L67 n (l1 + 1) z_m_now v22.1 v22.2.1 v22.2.2 v35.2.1 v35.2.2.1 v35.2.2.2.1 v35.2.2.2.2 v37)))))))))))
def pX6_digest  (m_now : Nat → Int32) (m_sc : Int32) (m_err : Nat → Int32) (m_stp : Nat → Int32) (m_que : Nat → Int32) (m_qd : Int32) (m_qx : Nat → Int32) (m_qy : Nat → Int32) (m_met : Nat → Int32) (m_per : Nat → Int32) (m_row : Nat → Int64) (m_det : Int64) (m_h : Int64) : Option (Int64 × (Nat → Int32) × (Nat → Int32) × Int32 × (Nat → Int32) × (Nat → Int32) × (Nat → Int32) × (Nat → Int32) × (Nat → Int64) × Int64 × Int64) := kb (pX6_digest_L9 KF 0 m_err 2699) (fun v5 => kb (pX6_digest_L34 KF 0 m_now v5.2) (fun v12 => kb (pX6_digest_L67 KF 0 m_now m_stp m_que m_qd m_qx m_qy m_met m_per v12.2) (fun v39 => kb (pX6_connected m_now v39.2.2.2.2.1 v39.2.2.2.2.2.1 v39.2.2.2.2.2.2.1) (fun v41 => kb ((if v41.1 = 0 then some 0 else some 1) : Option (Int64)) (fun v44 => kb (pX6_mix v44 v39.2.2.2.2.2.2.2.2) (fun v46 => kb ((if v41.1 = 0 then some (m_row, m_det, v46) else kb (pX6_mixPositions m_now m_row m_det v46) (fun v49 => some (v49.1, v49.2.1, v49.2.2))) : Option ((Nat → Int64) × Int64 × Int64)) (fun v51 => kb (pX6_mix ((m_sc : Int32).toInt64) v51.2.2) (fun v53 => some (v53, v39.2.1, v39.2.2.1, v39.2.2.2.1, v41.2.1, v41.2.2.1, v41.2.2.2, v39.2.2.2.2.2.2.2.1, v51.1, v51.2.1, v53)))))))))
def rmX6_digest : Room := { frames := 5, cells := 0, slots := 0, locals := 115 }
theorem hdV_X6_digest : yX6_digest.cls = RX6 ∧ yX6_digest.cls ≠ "java/lang/invoke/MethodHandle" ∧ yX6_digest.cls ≠ "java/lang/invoke/VarHandle" ∧ (parseMethodDescriptor yX6_digest.desc).map (fun d => d.parameters.length) = some 0 := ⟨rfl, by decide +kernel, by decide +kernel, by decide +kernel⟩
set_option maxHeartbeats 4000000 in
set_option maxRecDepth 100000 in
theorem kX6_digest (l : Launch) (Y : KY) (ma : Nat → Nat) (m_now : Nat → Int32) (m_sav : Nat → Int32) (m_sc : Int32) (m_err : Nat → Int32) (m_shf : Nat → Int32) (m_stp : Nat → Int32) (m_que : Nat → Int32) (m_qd : Int32) (m_qx : Nat → Int32) (m_qy : Nat → Int32) (m_met : Nat → Int32) (m_per : Nat → Int32) (m_row : Nat → Int64) (m_det : Int64) (m_h : Int64)  {o : Int64 × (Nat → Int32) × (Nat → Int32) × Int32 × (Nat → Int32) × (Nat → Int32) × (Nat → Int32) × (Nat → Int32) × (Nat → Int64) × Int64 × Int64} (h : pX6_digest m_now m_sc m_err m_stp m_que m_qd m_qx m_qy m_met m_per m_row m_det m_h = some o) : CtL l yX6_digest wsX6_digest rmX6_digest Y [.ref (ma 0)] (kfl [gM Y ma m_now m_sav m_sc m_err m_shf m_stp m_que m_qd m_qx m_qy m_met m_per m_row m_det m_h]) o.1 (kfl [gM Y ma m_now m_sav m_sc m_err m_shf o.2.1 o.2.2.1 o.2.2.2.1 o.2.2.2.2.1 o.2.2.2.2.2.1 o.2.2.2.2.2.2.1 o.2.2.2.2.2.2.2.1 o.2.2.2.2.2.2.2.2.1 o.2.2.2.2.2.2.2.2.2.1 o.2.2.2.2.2.2.2.2.2.2]) := by
  refine ctL_intro (cc := cX6_digest) (maxL := 3) (own := RX6) (by decide +kernel) rfl rfl (Nat.le_of_ble_eq_true rfl) rfl ?_
  intro X A hX _ hret
  have hin6 : ∀ w ∈ u_ws RX6 TX6 15, w ∈ wsX6_digest := by decide +kernel
  have f0 := hX.w (Cond.constantLong RX6 195 (2699)) (by decide +kernel)
  have f1 := hX.w (Cond.fieldLink RX6 188 "PeriodicNetModel" "h" "J") (by decide +kernel)
  have f2 := hX.w (Cond.fieldLink RX6 16 "PeriodicNetModel" "errors" "[I") (by decide +kernel)
  have f3 := hX.w (Cond.fieldLink RX6 7 "PeriodicNetModel" "now" "[I") (by decide +kernel)
  have f4 := hX.w (Cond.fieldLink RX6 45 "PeriodicNetModel" "savedCount" "I") (by decide +kernel)
  have L9 : ∀ (n : Nat) (l1 : Int32) (z_m_now : Nat → Int32) (z_m_sav : Nat → Int32) (z_m_sc : Int32) (z_m_err : Nat → Int32) (z_m_shf : Nat → Int32) (z_m_stp : Nat → Int32) (z_m_que : Nat → Int32) (z_m_qd : Int32) (z_m_qx : Nat → Int32) (z_m_qy : Nat → Int32) (z_m_met : Nat → Int32) (z_m_per : Nat → Int32) (z_m_row : Nat → Int64) (z_m_det : Int64) (z_m_h : Int64) (o : Int32 × Int64), pX6_digest_L9 n l1 z_m_err z_m_h = some o → KW X Y A 3 0 0 (kfl [gM Y ma z_m_now z_m_sav z_m_sc z_m_err z_m_shf z_m_stp z_m_que z_m_qd z_m_qx z_m_qy z_m_met z_m_per z_m_row z_m_det o.2]) [(0, .ref (ma 0)), (1, .int o.1)] 32 [] → KW X Y A 3 0 0 (kfl [gM Y ma z_m_now z_m_sav z_m_sc z_m_err z_m_shf z_m_stp z_m_que z_m_qd z_m_qx z_m_qy z_m_met z_m_per z_m_row z_m_det z_m_h]) [(0, .ref (ma 0)), (1, .int l1)] 9 [] := by
    intro n
    induction n with
    | zero => intro l1 z_m_now z_m_sav z_m_sc z_m_err z_m_shf z_m_stp z_m_que z_m_qd z_m_qx z_m_qy z_m_met z_m_per z_m_row z_m_det z_m_h o h; cases h
    | succ n ih =>
      intro l1 z_m_now z_m_sav z_m_sc z_m_err z_m_shf z_m_stp z_m_que z_m_qd z_m_qx z_m_qy z_m_met z_m_per z_m_row z_m_det z_m_h o h hK
      rw [pX6_digest_L9] at h
      refine kw_iload_n hX 9 dX6_digest_9 rfl 1 rfl ?_
      refine kw_bipush hX 10 dX6_digest_10 kcb_6 ?_
      refine kw_icmp_ge hX 12 32 dX6_digest_12 (by decide) (fun c1 => ?_) (fun c1 => ?_)
      · have h := kif_t c1 h
        obtain rfl := Option.some.inj h
        refine kw_lv (lv' := [(0, .ref (ma 0)), (1, .int l1)]) [0, 1] rfl ?_
        exact hK
      · have h := kif_f c1 h
        refine kw_aload_n hX 15 dX6_digest_15 rfl 0 rfl ?_
        refine kw_aload_n hX 16 dX6_digest_16 rfl 0 rfl ?_
        refine kw_get hX 17 (C := RX6) (T := TX6) (N := 15) hin6 3 f2 (fun _ h => h) 0 rfl rfl (by decide) rfl dX6_digest_17 ?_
        refine kw_iload_n hX 20 dX6_digest_20 rfl 1 rfl ?_
        obtain ⟨g2, h⟩ := kgd_some h
        refine kw_iald hX 21 3 rfl g2 dX6_digest_21 ?_
        refine kw_i2l hX 22 dX6_digest_22 ?_
        obtain ⟨v3, hc4, h⟩ := kb_some h
        refine kw_callV_V hX 23 (As := [.long (((z_m_err (l1 : Int32).toNatClampNeg) : Int32).toInt64)]) (rest := []) (kX6_mix (kx_l X) Y ma z_m_now z_m_sav z_m_sc z_m_err z_m_shf z_m_stp z_m_que z_m_qd z_m_qx z_m_qy z_m_met z_m_per z_m_row z_m_det z_m_h (((z_m_err (l1 : Int32).toNatClampNeg) : Int32).toInt64) hc4) gX6_digest_X6_mix rfl 1 rfl hdV_X6_mix ⟨rfl, rfl⟩ ⟨by decide, by decide⟩ ⟨Nat.zero_le _, Nat.zero_le _⟩ rfl (Nat.le_of_ble_eq_true rfl) [0] (by decide) rfl (kfc gM_f kfn0) (gs1 := [gM Y ma z_m_now z_m_sav z_m_sc z_m_err z_m_shf z_m_stp z_m_que z_m_qd z_m_qx z_m_qy z_m_met z_m_per z_m_row z_m_det v3]) rfl 0 6 rfl rfl rfl dX6_digest_23 ?_
        refine kw_iinc (v := (l1 + 1)) (lv' := [(1, .int (l1 + 1)), (0, .ref (ma 0))]) hX 26 dX6_digest_26 1 rfl (kinc_1 _) (by decide) rfl ?_
        refine kw_goto hX 29 9 dX6_digest_29 (by decide) ?_
        refine kw_lv (lv' := [(0, .ref (ma 0)), (1, .int (l1 + 1))]) [1, 0] rfl ?_
        exact ih (l1 + 1) z_m_now z_m_sav z_m_sc z_m_err z_m_shf z_m_stp z_m_que z_m_qd z_m_qx z_m_qy z_m_met z_m_per z_m_row z_m_det v3 o h hK
  have L34 : ∀ (n : Nat) (l1 : Int32) (z_m_now : Nat → Int32) (z_m_sav : Nat → Int32) (z_m_sc : Int32) (z_m_err : Nat → Int32) (z_m_shf : Nat → Int32) (z_m_stp : Nat → Int32) (z_m_que : Nat → Int32) (z_m_qd : Int32) (z_m_qx : Nat → Int32) (z_m_qy : Nat → Int32) (z_m_met : Nat → Int32) (z_m_per : Nat → Int32) (z_m_row : Nat → Int64) (z_m_det : Int64) (z_m_h : Int64) (o : Int32 × Int64), pX6_digest_L34 n l1 z_m_now z_m_h = some o → KW X Y A 3 0 0 (kfl [gM Y ma z_m_now z_m_sav z_m_sc z_m_err z_m_shf z_m_stp z_m_que z_m_qd z_m_qx z_m_qy z_m_met z_m_per z_m_row z_m_det o.2]) [(0, .ref (ma 0)), (1, .int o.1)] 65 [] → KW X Y A 3 0 0 (kfl [gM Y ma z_m_now z_m_sav z_m_sc z_m_err z_m_shf z_m_stp z_m_que z_m_qd z_m_qx z_m_qy z_m_met z_m_per z_m_row z_m_det z_m_h]) [(0, .ref (ma 0)), (1, .int l1)] 34 [] := by
    intro n
    induction n with
    | zero => intro l1 z_m_now z_m_sav z_m_sc z_m_err z_m_shf z_m_stp z_m_que z_m_qd z_m_qx z_m_qy z_m_met z_m_per z_m_row z_m_det z_m_h o h; cases h
    | succ n ih =>
      intro l1 z_m_now z_m_sav z_m_sc z_m_err z_m_shf z_m_stp z_m_que z_m_qd z_m_qx z_m_qy z_m_met z_m_per z_m_row z_m_det z_m_h o h hK
      rw [pX6_digest_L34] at h
      refine kw_iload_n hX 34 dX6_digest_34 rfl 1 rfl ?_
      refine kw_iconst hX 35 dX6_digest_35 kci_2 ?_
      refine kw_iconst hX 36 dX6_digest_36 kci_4 ?_
      refine kw_aload_n hX 37 dX6_digest_37 rfl 0 rfl ?_
      refine kw_get hX 38 (C := RX6) (T := TX6) (N := 15) hin6 0 f3 (fun _ h => h) 0 rfl rfl (by decide) rfl dX6_digest_38 ?_
      refine kw_iconst hX 41 dX6_digest_41 kci_1 ?_
      obtain ⟨g7, h⟩ := kgd_some h
      refine kw_iald hX 42 1 rfl g7 dX6_digest_42 ?_
      refine kw_imul hX 43 dX6_digest_43 ?_
      refine kw_iadd hX 44 dX6_digest_44 ?_
      refine kw_icmp_ge hX 45 65 dX6_digest_45 (by decide) (fun c8 => ?_) (fun c8 => ?_)
      · have h := kif_t c8 h
        obtain rfl := Option.some.inj h
        refine kw_lv (lv' := [(0, .ref (ma 0)), (1, .int l1)]) [0, 1] rfl ?_
        exact hK
      · have h := kif_f c8 h
        refine kw_aload_n hX 48 dX6_digest_48 rfl 0 rfl ?_
        refine kw_aload_n hX 49 dX6_digest_49 rfl 0 rfl ?_
        refine kw_get hX 50 (C := RX6) (T := TX6) (N := 15) hin6 0 f3 (fun _ h => h) 0 rfl rfl (by decide) rfl dX6_digest_50 ?_
        refine kw_iload_n hX 53 dX6_digest_53 rfl 1 rfl ?_
        obtain ⟨g9, h⟩ := kgd_some h
        refine kw_iald hX 54 1 rfl g9 dX6_digest_54 ?_
        refine kw_i2l hX 55 dX6_digest_55 ?_
        obtain ⟨v10, hc11, h⟩ := kb_some h
        refine kw_callV_V hX 56 (As := [.long (((z_m_now (l1 : Int32).toNatClampNeg) : Int32).toInt64)]) (rest := []) (kX6_mix (kx_l X) Y ma z_m_now z_m_sav z_m_sc z_m_err z_m_shf z_m_stp z_m_que z_m_qd z_m_qx z_m_qy z_m_met z_m_per z_m_row z_m_det z_m_h (((z_m_now (l1 : Int32).toNatClampNeg) : Int32).toInt64) hc11) gX6_digest_X6_mix rfl 1 rfl hdV_X6_mix ⟨rfl, rfl⟩ ⟨by decide, by decide⟩ ⟨Nat.zero_le _, Nat.zero_le _⟩ rfl (Nat.le_of_ble_eq_true rfl) [0] (by decide) rfl (kfc gM_f kfn0) (gs1 := [gM Y ma z_m_now z_m_sav z_m_sc z_m_err z_m_shf z_m_stp z_m_que z_m_qd z_m_qx z_m_qy z_m_met z_m_per z_m_row z_m_det v10]) rfl 0 6 rfl rfl rfl dX6_digest_56 ?_
        refine kw_iinc (v := (l1 + 1)) (lv' := [(1, .int (l1 + 1)), (0, .ref (ma 0))]) hX 59 dX6_digest_59 1 rfl (kinc_1 _) (by decide) rfl ?_
        refine kw_goto hX 62 34 dX6_digest_62 (by decide) ?_
        refine kw_lv (lv' := [(0, .ref (ma 0)), (1, .int (l1 + 1))]) [1, 0] rfl ?_
        exact ih (l1 + 1) z_m_now z_m_sav z_m_sc z_m_err z_m_shf z_m_stp z_m_que z_m_qd z_m_qx z_m_qy z_m_met z_m_per z_m_row z_m_det v10 o h hK
  have L101 : ∀ (n : Nat) (l1 : Int32) (l2 : Int32) (z_m_now : Nat → Int32) (z_m_sav : Nat → Int32) (z_m_sc : Int32) (z_m_err : Nat → Int32) (z_m_shf : Nat → Int32) (z_m_stp : Nat → Int32) (z_m_que : Nat → Int32) (z_m_qd : Int32) (z_m_qx : Nat → Int32) (z_m_qy : Nat → Int32) (z_m_met : Nat → Int32) (z_m_per : Nat → Int32) (z_m_row : Nat → Int64) (z_m_det : Int64) (z_m_h : Int64) (o : Int32 × Int64), pX6_digest_L101 n l1 l2 z_m_stp z_m_que z_m_qd z_m_h = some o → KW X Y A 3 0 0 (kfl [gM Y ma z_m_now z_m_sav z_m_sc z_m_err z_m_shf z_m_stp z_m_que z_m_qd z_m_qx z_m_qy z_m_met z_m_per z_m_row z_m_det o.2]) [(0, .ref (ma 0)), (1, .int l1), (2, .int o.1)] 122 [] → KW X Y A 3 0 0 (kfl [gM Y ma z_m_now z_m_sav z_m_sc z_m_err z_m_shf z_m_stp z_m_que z_m_qd z_m_qx z_m_qy z_m_met z_m_per z_m_row z_m_det z_m_h]) [(0, .ref (ma 0)), (1, .int l1), (2, .int l2)] 101 [] := by
    intro n
    induction n with
    | zero => intro l1 l2 z_m_now z_m_sav z_m_sc z_m_err z_m_shf z_m_stp z_m_que z_m_qd z_m_qx z_m_qy z_m_met z_m_per z_m_row z_m_det z_m_h o h; cases h
    | succ n ih =>
      intro l1 l2 z_m_now z_m_sav z_m_sc z_m_err z_m_shf z_m_stp z_m_que z_m_qd z_m_qx z_m_qy z_m_met z_m_per z_m_row z_m_det z_m_h o h hK
      rw [pX6_digest_L101] at h
      refine kw_iload_n hX 101 dX6_digest_101 rfl 2 rfl ?_
      refine kw_iconst hX 102 dX6_digest_102 kci_5 ?_
      refine kw_icmp_ge hX 103 122 dX6_digest_103 (by decide) (fun c24 => ?_) (fun c24 => ?_)
      · have h := kif_t c24 h
        obtain rfl := Option.some.inj h
        refine kw_lv (lv' := [(0, .ref (ma 0)), (1, .int l1), (2, .int l2)]) [0, 1, 2] rfl ?_
        exact hK
      · have h := kif_f c24 h
        refine kw_aload_n hX 106 dX6_digest_106 rfl 0 rfl ?_
        refine kw_aload_n hX 107 dX6_digest_107 rfl 0 rfl ?_
        refine kw_iload_n hX 108 dX6_digest_108 rfl 2 rfl ?_
        obtain ⟨v25, hc26, h⟩ := kb_some h
        refine kw_callV_I hX 109 (As := [.int l2]) (rest := [.ref (ma 0)]) (kX6_countAt (kx_l X) Y ma z_m_now z_m_sav z_m_sc z_m_err z_m_shf z_m_stp z_m_que z_m_qd z_m_qx z_m_qy z_m_met z_m_per z_m_row z_m_det z_m_h l2 hc26) gX6_digest_X6_countAt rfl 1 rfl hdV_X6_countAt ⟨rfl, rfl⟩ ⟨by decide, by decide⟩ ⟨Nat.zero_le _, Nat.zero_le _⟩ rfl (Nat.le_of_ble_eq_true rfl) [0] (by decide) rfl (kfc rfl kfn0) (gs1 := [gM Y ma z_m_now z_m_sav z_m_sc z_m_err z_m_shf z_m_stp z_m_que z_m_qd z_m_qx z_m_qy z_m_met z_m_per z_m_row z_m_det z_m_h]) rfl 0 6 rfl rfl rfl dX6_digest_109 ?_
        refine kw_i2l hX 112 dX6_digest_112 ?_
        obtain ⟨v27, hc28, h⟩ := kb_some h
        refine kw_callV_V hX 113 (As := [.long ((v25 : Int32).toInt64)]) (rest := []) (kX6_mix (kx_l X) Y ma z_m_now z_m_sav z_m_sc z_m_err z_m_shf z_m_stp z_m_que z_m_qd z_m_qx z_m_qy z_m_met z_m_per z_m_row z_m_det z_m_h ((v25 : Int32).toInt64) hc28) gX6_digest_X6_mix rfl 1 rfl hdV_X6_mix ⟨rfl, rfl⟩ ⟨by decide, by decide⟩ ⟨Nat.zero_le _, Nat.zero_le _⟩ rfl (Nat.le_of_ble_eq_true rfl) [0] (by decide) rfl (kfc gM_f kfn0) (gs1 := [gM Y ma z_m_now z_m_sav z_m_sc z_m_err z_m_shf z_m_stp z_m_que z_m_qd z_m_qx z_m_qy z_m_met z_m_per z_m_row z_m_det v27]) rfl 0 6 rfl rfl rfl dX6_digest_113 ?_
        refine kw_iinc (v := (l2 + 1)) (lv' := [(2, .int (l2 + 1)), (0, .ref (ma 0)), (1, .int l1)]) hX 116 dX6_digest_116 2 rfl (kinc_1 _) (by decide) rfl ?_
        refine kw_goto hX 119 101 dX6_digest_119 (by decide) ?_
        refine kw_lv (lv' := [(0, .ref (ma 0)), (1, .int l1), (2, .int (l2 + 1))]) [1, 2, 0] rfl ?_
        exact ih l1 (l2 + 1) z_m_now z_m_sav z_m_sc z_m_err z_m_shf z_m_stp z_m_que z_m_qd z_m_qx z_m_qy z_m_met z_m_per z_m_row z_m_det v27 o h hK
  have L67 : ∀ (n : Nat) (l1 : Int32) (z_m_now : Nat → Int32) (z_m_sav : Nat → Int32) (z_m_sc : Int32) (z_m_err : Nat → Int32) (z_m_shf : Nat → Int32) (z_m_stp : Nat → Int32) (z_m_que : Nat → Int32) (z_m_qd : Int32) (z_m_qx : Nat → Int32) (z_m_qy : Nat → Int32) (z_m_met : Nat → Int32) (z_m_per : Nat → Int32) (z_m_row : Nat → Int64) (z_m_det : Int64) (z_m_h : Int64) (o : Int32 × (Nat → Int32) × (Nat → Int32) × Int32 × (Nat → Int32) × (Nat → Int32) × (Nat → Int32) × (Nat → Int32) × Int64), pX6_digest_L67 n l1 z_m_now z_m_stp z_m_que z_m_qd z_m_qx z_m_qy z_m_met z_m_per z_m_h = some o → KW X Y A 3 0 0 (kfl [gM Y ma z_m_now z_m_sav z_m_sc z_m_err z_m_shf o.2.1 o.2.2.1 o.2.2.2.1 o.2.2.2.2.1 o.2.2.2.2.2.1 o.2.2.2.2.2.2.1 o.2.2.2.2.2.2.2.1 z_m_row z_m_det o.2.2.2.2.2.2.2.2]) [(0, .ref (ma 0)), (1, .int o.1)] 148 [] → KW X Y A 3 0 0 (kfl [gM Y ma z_m_now z_m_sav z_m_sc z_m_err z_m_shf z_m_stp z_m_que z_m_qd z_m_qx z_m_qy z_m_met z_m_per z_m_row z_m_det z_m_h]) [(0, .ref (ma 0)), (1, .int l1)] 67 [] := by
    intro n
    induction n with
    | zero => intro l1 z_m_now z_m_sav z_m_sc z_m_err z_m_shf z_m_stp z_m_que z_m_qd z_m_qx z_m_qy z_m_met z_m_per z_m_row z_m_det z_m_h o h; cases h
    | succ n ih =>
      intro l1 z_m_now z_m_sav z_m_sc z_m_err z_m_shf z_m_stp z_m_que z_m_qd z_m_qx z_m_qy z_m_met z_m_per z_m_row z_m_det z_m_h o h hK
      rw [pX6_digest_L67] at h
      refine kw_iload_n hX 67 dX6_digest_67 rfl 1 rfl ?_
      refine kw_aload_n hX 68 dX6_digest_68 rfl 0 rfl ?_
      refine kw_get hX 69 (C := RX6) (T := TX6) (N := 15) hin6 0 f3 (fun _ h => h) 0 rfl rfl (by decide) rfl dX6_digest_69 ?_
      refine kw_iconst hX 72 dX6_digest_72 kci_0 ?_
      obtain ⟨g14, h⟩ := kgd_some h
      refine kw_iald hX 73 1 rfl g14 dX6_digest_73 ?_
      refine kw_icmp_ge hX 74 148 dX6_digest_74 (by decide) (fun c15 => ?_) (fun c15 => ?_)
      · have h := kif_t c15 h
        obtain rfl := Option.some.inj h
        refine kw_lv (lv' := [(0, .ref (ma 0)), (1, .int l1)]) [0, 1] rfl ?_
        exact hK
      · have h := kif_f c15 h
        refine kw_aload_n hX 77 dX6_digest_77 rfl 0 rfl ?_
        refine kw_aload_n hX 78 dX6_digest_78 rfl 0 rfl ?_
        refine kw_iload_n hX 79 dX6_digest_79 rfl 1 rfl ?_
        obtain ⟨v16, hc17, h⟩ := kb_some h
        refine kw_callV_I hX 80 (As := [.int l1]) (rest := [.ref (ma 0)]) (kX6_degreeOf (kx_l X) Y ma z_m_now z_m_sav z_m_sc z_m_err z_m_shf z_m_stp z_m_que z_m_qd z_m_qx z_m_qy z_m_met z_m_per z_m_row z_m_det z_m_h l1 hc17) gX6_digest_X6_degreeOf rfl 1 rfl hdV_X6_degreeOf ⟨rfl, rfl⟩ ⟨by decide, by decide⟩ ⟨Nat.zero_le _, Nat.zero_le _⟩ rfl (Nat.le_of_ble_eq_true rfl) [0] (by decide) rfl (kfc rfl kfn0) (gs1 := [gM Y ma z_m_now z_m_sav z_m_sc z_m_err z_m_shf z_m_stp z_m_que z_m_qd z_m_qx z_m_qy z_m_met z_m_per z_m_row z_m_det z_m_h]) rfl 0 6 rfl rfl rfl dX6_digest_80 ?_
        refine kw_i2l hX 83 dX6_digest_83 ?_
        obtain ⟨v18, hc19, h⟩ := kb_some h
        refine kw_callV_V hX 84 (As := [.long ((v16 : Int32).toInt64)]) (rest := []) (kX6_mix (kx_l X) Y ma z_m_now z_m_sav z_m_sc z_m_err z_m_shf z_m_stp z_m_que z_m_qd z_m_qx z_m_qy z_m_met z_m_per z_m_row z_m_det z_m_h ((v16 : Int32).toInt64) hc19) gX6_digest_X6_mix rfl 1 rfl hdV_X6_mix ⟨rfl, rfl⟩ ⟨by decide, by decide⟩ ⟨Nat.zero_le _, Nat.zero_le _⟩ rfl (Nat.le_of_ble_eq_true rfl) [0] (by decide) rfl (kfc gM_f kfn0) (gs1 := [gM Y ma z_m_now z_m_sav z_m_sc z_m_err z_m_shf z_m_stp z_m_que z_m_qd z_m_qx z_m_qy z_m_met z_m_per z_m_row z_m_det v18]) rfl 0 6 rfl rfl rfl dX6_digest_84 ?_
        refine kw_aload_n hX 87 dX6_digest_87 rfl 0 rfl ?_
        refine kw_iload_n hX 88 dX6_digest_88 rfl 1 rfl ?_
        refine kw_iconst hX 89 dX6_digest_89 kci_0 ?_
        refine kw_iconst hX 90 dX6_digest_90 kci_0 ?_
        obtain ⟨v20, hc21, h⟩ := kb_some h
        refine kw_callS_I hX 91 (As := [.int l1, .int 0, .int 0]) (rest := [.ref (ma 0)]) (kX6_node (kx_l X) Y l1 0 0 hc21) gX6_digest_X6_node rfl 3 rfl hdS_X6_node ⟨rfl, rfl⟩ ⟨by decide, by decide⟩ ⟨Nat.zero_le _, Nat.zero_le _⟩ rfl (Nat.le_of_ble_eq_true rfl) [] (by decide) rfl kfn0 (gs1 := [gM Y ma z_m_now z_m_sav z_m_sc z_m_err z_m_shf z_m_stp z_m_que z_m_qd z_m_qx z_m_qy z_m_met z_m_per z_m_row z_m_det v18]) rfl dX6_digest_91 ?_
        refine kw_iconst hX 94 dX6_digest_94 kci_m1 ?_
        refine kw_iconst hX 95 dX6_digest_95 kci_4 ?_
        obtain ⟨v22, hc23, h⟩ := kb_some h
        refine kw_callV_V hX 96 (As := [.int v20, .int (-1), .int 4]) (rest := []) (kX6_search (kx_l X) Y ma z_m_now z_m_sav z_m_sc z_m_err z_m_shf z_m_stp z_m_que z_m_qd z_m_qx z_m_qy z_m_met z_m_per z_m_row z_m_det v18 v20 (-1) 4 hc23) gX6_digest_X6_search rfl 3 rfl hdV_X6_search ⟨rfl, rfl⟩ ⟨by decide, by decide⟩ ⟨Nat.zero_le _, Nat.zero_le _⟩ rfl (Nat.le_of_ble_eq_true rfl) [0] (by decide) rfl (kfc gM_f kfn0) (gs1 := [gM Y ma z_m_now z_m_sav z_m_sc z_m_err z_m_shf v22.1 v22.2.1 v22.2.2 z_m_qx z_m_qy z_m_met z_m_per z_m_row z_m_det v18]) rfl 0 6 rfl rfl rfl dX6_digest_96 ?_
        refine kw_iconst hX 99 dX6_digest_99 kci_1 ?_
        refine kw_istore_n (lv' := [(2, .int 1), (0, .ref (ma 0)), (1, .int l1)]) hX 100 dX6_digest_100 rfl (by decide) rfl ?_
        obtain ⟨v29, hl30, h⟩ := kb_some h
        refine kw_lv (lv' := [(0, .ref (ma 0)), (1, .int l1), (2, .int 1)]) [1, 2, 0] rfl ?_
        refine L101 KF l1 1 z_m_now z_m_sav z_m_sc z_m_err z_m_shf v22.1 v22.2.1 v22.2.2 z_m_qx z_m_qy z_m_met z_m_per z_m_row z_m_det v18 v29 hl30 ?_
        refine kw_aload_n hX 122 dX6_digest_122 rfl 0 rfl ?_
        refine kw_aload_n hX 123 dX6_digest_123 rfl 0 rfl ?_
        refine kw_iload_n hX 124 dX6_digest_124 rfl 1 rfl ?_
        obtain ⟨v31, hc32, h⟩ := kb_some h
        refine kw_callV_I hX 125 (As := [.int l1]) (rest := [.ref (ma 0)]) (kX6_rankOf (kx_l X) Y ma z_m_now z_m_sav z_m_sc z_m_err z_m_shf v22.1 v22.2.1 v22.2.2 z_m_qx z_m_qy z_m_met z_m_per z_m_row z_m_det v29.2 l1 hc32) gX6_digest_X6_rankOf rfl 1 rfl hdV_X6_rankOf ⟨rfl, rfl⟩ ⟨by decide, by decide⟩ ⟨Nat.zero_le _, Nat.zero_le _⟩ rfl (Nat.le_of_ble_eq_true rfl) [0] (by decide) rfl (kfc gM_f kfn0) (gs1 := [gM Y ma z_m_now z_m_sav z_m_sc z_m_err z_m_shf v22.1 v22.2.1 v22.2.2 v31.2.1 v31.2.2.1 v31.2.2.2.1 v31.2.2.2.2 z_m_row z_m_det v29.2]) rfl 0 6 rfl rfl rfl dX6_digest_125 ?_
        refine kw_i2l hX 128 dX6_digest_128 ?_
        obtain ⟨v33, hc34, h⟩ := kb_some h
        refine kw_callV_V hX 129 (As := [.long ((v31.1 : Int32).toInt64)]) (rest := []) (kX6_mix (kx_l X) Y ma z_m_now z_m_sav z_m_sc z_m_err z_m_shf v22.1 v22.2.1 v22.2.2 v31.2.1 v31.2.2.1 v31.2.2.2.1 v31.2.2.2.2 z_m_row z_m_det v29.2 ((v31.1 : Int32).toInt64) hc34) gX6_digest_X6_mix rfl 1 rfl hdV_X6_mix ⟨rfl, rfl⟩ ⟨by decide, by decide⟩ ⟨Nat.zero_le _, Nat.zero_le _⟩ rfl (Nat.le_of_ble_eq_true rfl) [0] (by decide) rfl (kfc gM_f kfn0) (gs1 := [gM Y ma z_m_now z_m_sav z_m_sc z_m_err z_m_shf v22.1 v22.2.1 v22.2.2 v31.2.1 v31.2.2.1 v31.2.2.2.1 v31.2.2.2.2 z_m_row z_m_det v33]) rfl 0 6 rfl rfl rfl dX6_digest_129 ?_
        refine kw_aload_n hX 132 dX6_digest_132 rfl 0 rfl ?_
        refine kw_aload_n hX 133 dX6_digest_133 rfl 0 rfl ?_
        refine kw_iload_n hX 134 dX6_digest_134 rfl 1 rfl ?_
        obtain ⟨v35, hc36, h⟩ := kb_some h
        refine kw_callV_I hX 135 (As := [.int l1]) (rest := [.ref (ma 0)]) (kX6_indexOf (kx_l X) Y ma z_m_now z_m_sav z_m_sc z_m_err z_m_shf v22.1 v22.2.1 v22.2.2 v31.2.1 v31.2.2.1 v31.2.2.2.1 v31.2.2.2.2 z_m_row z_m_det v33 l1 hc36) gX6_digest_X6_indexOf rfl 1 rfl hdV_X6_indexOf ⟨rfl, rfl⟩ ⟨by decide, by decide⟩ ⟨Nat.zero_le _, Nat.zero_le _⟩ rfl (Nat.le_of_ble_eq_true rfl) [0] (by decide) rfl (kfc gM_f kfn0) (gs1 := [gM Y ma z_m_now z_m_sav z_m_sc z_m_err z_m_shf v22.1 v22.2.1 v22.2.2 v35.2.1 v35.2.2.1 v35.2.2.2.1 v35.2.2.2.2 z_m_row z_m_det v33]) rfl 0 6 rfl rfl rfl dX6_digest_135 ?_
        refine kw_i2l hX 138 dX6_digest_138 ?_
        obtain ⟨v37, hc38, h⟩ := kb_some h
        refine kw_callV_V hX 139 (As := [.long ((v35.1 : Int32).toInt64)]) (rest := []) (kX6_mix (kx_l X) Y ma z_m_now z_m_sav z_m_sc z_m_err z_m_shf v22.1 v22.2.1 v22.2.2 v35.2.1 v35.2.2.1 v35.2.2.2.1 v35.2.2.2.2 z_m_row z_m_det v33 ((v35.1 : Int32).toInt64) hc38) gX6_digest_X6_mix rfl 1 rfl hdV_X6_mix ⟨rfl, rfl⟩ ⟨by decide, by decide⟩ ⟨Nat.zero_le _, Nat.zero_le _⟩ rfl (Nat.le_of_ble_eq_true rfl) [0] (by decide) rfl (kfc gM_f kfn0) (gs1 := [gM Y ma z_m_now z_m_sav z_m_sc z_m_err z_m_shf v22.1 v22.2.1 v22.2.2 v35.2.1 v35.2.2.1 v35.2.2.2.1 v35.2.2.2.2 z_m_row z_m_det v37]) rfl 0 6 rfl rfl rfl dX6_digest_139 ?_
        refine kw_iinc (v := (l1 + 1)) (lv' := [(1, .int (l1 + 1)), (0, .ref (ma 0)), (2, .int v29.1)]) hX 142 dX6_digest_142 1 rfl (kinc_1 _) (by decide) rfl ?_
        refine kw_goto hX 145 67 dX6_digest_145 (by decide) ?_
        refine kw_lv (lv' := [(0, .ref (ma 0)), (1, .int (l1 + 1))]) [1, 0] rfl ?_
        exact ih (l1 + 1) z_m_now z_m_sav z_m_sc z_m_err z_m_shf v22.1 v22.2.1 v22.2.2 v35.2.1 v35.2.2.1 v35.2.2.2.1 v35.2.2.2.2 z_m_row z_m_det v37 o h hK
  unfold pX6_digest at h
  refine kw_lv (lv' := [(0, .ref (ma 0))]) [0] rfl ?_
  refine kw_aload_n hX 0 dX6_digest_0 rfl 0 rfl ?_
  refine kw_ldc2 hX 1 dX6_digest_1 f0 ?_
  refine kw_put hX 4 (C := RX6) (T := TX6) (N := 15) (ws' := (kfl [gM Y ma m_now m_sav m_sc m_err m_shf m_stp m_que m_qd m_qx m_qy m_met m_per m_row m_det 2699])) hin6 tyX6 tyX6_ok nmX6 14 f1 (fun _ h => h) 0 rfl rfl (by decide) rfl (ty := .long) (tyX6_ok 14 (by decide)) rfl rfl (Nat.le_of_ble_eq_true rfl) rfl dX6_digest_4 ?_
  refine kw_iconst hX 7 dX6_digest_7 kci_0 ?_
  refine kw_istore_n (lv' := [(1, .int 0), (0, .ref (ma 0))]) hX 8 dX6_digest_8 rfl (by decide) rfl ?_
  obtain ⟨v5, hl6, h⟩ := kb_some h
  refine kw_lv (lv' := [(0, .ref (ma 0)), (1, .int 0)]) [1, 0] rfl ?_
  refine L9 KF 0 m_now m_sav m_sc m_err m_shf m_stp m_que m_qd m_qx m_qy m_met m_per m_row m_det 2699 v5 hl6 ?_
  refine kw_iconst hX 32 dX6_digest_32 kci_0 ?_
  refine kw_istore_n (lv' := [(1, .int 0), (0, .ref (ma 0))]) hX 33 dX6_digest_33 rfl (by decide) rfl ?_
  obtain ⟨v12, hl13, h⟩ := kb_some h
  refine kw_lv (lv' := [(0, .ref (ma 0)), (1, .int 0)]) [1, 0] rfl ?_
  refine L34 KF 0 m_now m_sav m_sc m_err m_shf m_stp m_que m_qd m_qx m_qy m_met m_per m_row m_det v5.2 v12 hl13 ?_
  refine kw_iconst hX 65 dX6_digest_65 kci_0 ?_
  refine kw_istore_n (lv' := [(1, .int 0), (0, .ref (ma 0))]) hX 66 dX6_digest_66 rfl (by decide) rfl ?_
  obtain ⟨v39, hl40, h⟩ := kb_some h
  refine kw_lv (lv' := [(0, .ref (ma 0)), (1, .int 0)]) [1, 0] rfl ?_
  refine L67 KF 0 m_now m_sav m_sc m_err m_shf m_stp m_que m_qd m_qx m_qy m_met m_per m_row m_det v12.2 v39 hl40 ?_
  refine kw_aload_n hX 148 dX6_digest_148 rfl 0 rfl ?_
  obtain ⟨v41, hc42, h⟩ := kb_some h
  refine kw_callV_I hX 149 (As := []) (rest := []) (kX6_connected (kx_l X) Y ma m_now m_sav m_sc m_err m_shf v39.2.1 v39.2.2.1 v39.2.2.2.1 v39.2.2.2.2.1 v39.2.2.2.2.2.1 v39.2.2.2.2.2.2.1 v39.2.2.2.2.2.2.2.1 m_row m_det v39.2.2.2.2.2.2.2.2 hc42) gX6_digest_X6_connected rfl 0 rfl hdV_X6_connected ⟨rfl, rfl⟩ ⟨by decide, by decide⟩ ⟨Nat.zero_le _, Nat.zero_le _⟩ rfl (Nat.le_of_ble_eq_true rfl) [0] (by decide) rfl (kfc gM_f kfn0) (gs1 := [gM Y ma m_now m_sav m_sc m_err m_shf v39.2.1 v39.2.2.1 v39.2.2.2.1 v41.2.1 v41.2.2.1 v41.2.2.2 v39.2.2.2.2.2.2.2.1 m_row m_det v39.2.2.2.2.2.2.2.2]) rfl 0 6 rfl rfl rfl dX6_digest_149 ?_
  refine kw_istore_n (lv' := [(1, .int v41.1), (0, .ref (ma 0))]) hX 152 dX6_digest_152 rfl (by decide) rfl ?_
  refine kw_aload_n hX 153 dX6_digest_153 rfl 1 rfl ?_
  refine kw_iload_n hX 154 dX6_digest_154 rfl 0 rfl ?_
  obtain ⟨v44, hj56, h⟩ := kb_some h
  have J45 : KW X Y A 3 0 0 (kfl [gM Y ma m_now m_sav m_sc m_err m_shf v39.2.1 v39.2.2.1 v39.2.2.2.1 v41.2.1 v41.2.2.1 v41.2.2.2 v39.2.2.2.2.2.2.2.1 m_row m_det v39.2.2.2.2.2.2.2.2]) [(0, .ref (ma 0)), (1, .int v41.1)] 163 [.long v44, .ref (ma 0)] := by
    obtain ⟨v46, hc47, h⟩ := kb_some h
    refine kw_callV_V hX 163 (As := [.long v44]) (rest := []) (kX6_mix (kx_l X) Y ma m_now m_sav m_sc m_err m_shf v39.2.1 v39.2.2.1 v39.2.2.2.1 v41.2.1 v41.2.2.1 v41.2.2.2 v39.2.2.2.2.2.2.2.1 m_row m_det v39.2.2.2.2.2.2.2.2 v44 hc47) gX6_digest_X6_mix rfl 1 rfl hdV_X6_mix ⟨rfl, rfl⟩ ⟨by decide, by decide⟩ ⟨Nat.zero_le _, Nat.zero_le _⟩ rfl (Nat.le_of_ble_eq_true rfl) [0] (by decide) rfl (kfc gM_f kfn0) (gs1 := [gM Y ma m_now m_sav m_sc m_err m_shf v39.2.1 v39.2.2.1 v39.2.2.2.1 v41.2.1 v41.2.2.1 v41.2.2.2 v39.2.2.2.2.2.2.2.1 m_row m_det v46]) rfl 0 6 rfl rfl rfl dX6_digest_163 ?_
    refine kw_iload_n hX 166 dX6_digest_166 rfl 1 rfl ?_
    obtain ⟨v51, hj55, h⟩ := kb_some h
    have J52 : KW X Y A 3 0 0 (kfl [gM Y ma m_now m_sav m_sc m_err m_shf v39.2.1 v39.2.2.1 v39.2.2.2.1 v41.2.1 v41.2.2.1 v41.2.2.2 v39.2.2.2.2.2.2.2.1 v51.1 v51.2.1 v51.2.2]) [(0, .ref (ma 0))] 174 [] := by
      refine kw_aload_n hX 174 dX6_digest_174 rfl 0 rfl ?_
      refine kw_aload_n hX 175 dX6_digest_175 rfl 0 rfl ?_
      refine kw_get hX 176 (C := RX6) (T := TX6) (N := 15) hin6 2 f4 (fun _ h => h) 0 rfl rfl (by decide) rfl dX6_digest_176 ?_
      refine kw_i2l hX 179 dX6_digest_179 ?_
      obtain ⟨v53, hc54, h⟩ := kb_some h
      refine kw_callV_V hX 180 (As := [.long ((m_sc : Int32).toInt64)]) (rest := []) (kX6_mix (kx_l X) Y ma m_now m_sav m_sc m_err m_shf v39.2.1 v39.2.2.1 v39.2.2.2.1 v41.2.1 v41.2.2.1 v41.2.2.2 v39.2.2.2.2.2.2.2.1 v51.1 v51.2.1 v51.2.2 ((m_sc : Int32).toInt64) hc54) gX6_digest_X6_mix rfl 1 rfl hdV_X6_mix ⟨rfl, rfl⟩ ⟨by decide, by decide⟩ ⟨Nat.zero_le _, Nat.zero_le _⟩ rfl (Nat.le_of_ble_eq_true rfl) [0] (by decide) rfl (kfc gM_f kfn0) (gs1 := [gM Y ma m_now m_sav m_sc m_err m_shf v39.2.1 v39.2.2.1 v39.2.2.2.1 v41.2.1 v41.2.2.1 v41.2.2.2 v39.2.2.2.2.2.2.2.1 v51.1 v51.2.1 v53]) rfl 0 6 rfl rfl rfl dX6_digest_180 ?_
      refine kw_aload_n hX 183 dX6_digest_183 rfl 0 rfl ?_
      refine kw_get hX 184 (C := RX6) (T := TX6) (N := 15) hin6 14 f1 (fun _ h => h) 0 rfl rfl (by decide) rfl dX6_digest_184 ?_
      obtain rfl := Option.some.inj h
      exact hret _ _ dX6_digest_187
    have h := hj55
    refine kw_if_eq hX 167 174 dX6_digest_167 (by decide) (fun c48 => ?_) (fun c48 => ?_)
    · have h := kif_t c48 h
      obtain rfl := Option.some.inj h
      refine kw_lv (lv' := [(0, .ref (ma 0))]) [0] rfl ?_
      exact J52
    · have h := kif_f c48 h
      refine kw_aload_n hX 170 dX6_digest_170 rfl 0 rfl ?_
      obtain ⟨v49, hc50, h⟩ := kb_some h
      refine kw_callV_V hX 171 (As := []) (rest := []) (kX6_mixPositions (kx_l X) Y ma m_now m_sav m_sc m_err m_shf v39.2.1 v39.2.2.1 v39.2.2.2.1 v41.2.1 v41.2.2.1 v41.2.2.2 v39.2.2.2.2.2.2.2.1 m_row m_det v46 hc50) gX6_digest_X6_mixPositions rfl 0 rfl hdV_X6_mixPositions ⟨rfl, rfl⟩ ⟨by decide, by decide⟩ ⟨Nat.zero_le _, Nat.zero_le _⟩ rfl (Nat.le_of_ble_eq_true rfl) [0] (by decide) rfl (kfc gM_f kfn0) (gs1 := [gM Y ma m_now m_sav m_sc m_err m_shf v39.2.1 v39.2.2.1 v39.2.2.2.1 v41.2.1 v41.2.2.1 v41.2.2.2 v39.2.2.2.2.2.2.2.1 v49.1 v49.2.1 v49.2.2]) rfl 0 6 rfl rfl rfl dX6_digest_171 ?_
      obtain rfl := Option.some.inj h
      refine kw_lv (lv' := [(0, .ref (ma 0))]) [0] rfl ?_
      exact J52
  have h := hj56
  refine kw_if_eq hX 155 162 dX6_digest_155 (by decide) (fun c43 => ?_) (fun c43 => ?_)
  · have h := kif_t c43 h
    refine kw_lconst hX 162 dX6_digest_162 kcl_0 ?_
    obtain rfl := Option.some.inj h
    refine kw_lv (lv' := [(0, .ref (ma 0)), (1, .int v41.1)]) [1, 0] rfl ?_
    exact J45
  · have h := kif_f c43 h
    refine kw_lconst hX 158 dX6_digest_158 kcl_1 ?_
    refine kw_goto hX 159 163 dX6_digest_159 (by decide) ?_
    obtain rfl := Option.some.inj h
    refine kw_lv (lv' := [(0, .ref (ma 0)), (1, .int v41.1)]) [1, 0] rfl ?_
    exact J45
