def pX5_saveGraph_L17 : Nat → Nat → Int32 → (Nat → Nat) → (Nat → Int32) → (Nat → Int32) → Option (Int32 × (Nat → Nat))
  | 0, _, _, _, _, _ => none
  | n + 1, k1, l2, z_v_pi, z_v_vc, z_v_ec => (if (5 : Int32) ≤ l2 then some (l2, z_v_pi) else kgd (kin l2 5) (kgd (kin (l2 - 1) 5) (kgd (decide ((z_v_pi (l2 : Int32).toNatClampNeg) < 5)) (pX5_saveGraph_L17 n k1 (l2 + 1) (va_up z_v_pi ((l2 - 1) : Int32).toNatClampNeg (z_v_pi (l2 : Int32).toNatClampNeg)) z_v_vc z_v_ec))))
def pX5_saveGraph  (t_scn : Int32) (g_vc : Int32) (g_ec : Int32) (g_F : Nat → Int32) (g_T : Nat → Int32) (g_X : Nat → Int32) (g_Z : Nat → Int32) (v_pi : Nat → Nat) (v_vc : Nat → Int32) (v_ec : Nat → Int32) (v_F : Nat → Nat → Int32) (v_T : Nat → Nat → Int32) (v_X : Nat → Nat → Int32) (v_Z : Nat → Nat → Int32) : Option (Int32 × (Nat → Nat) × (Nat → Int32) × (Nat → Int32) × (Nat → Nat → Int32) × (Nat → Nat → Int32) × (Nat → Nat → Int32) × (Nat → Nat → Int32)) := kb ((if t_scn = (5 : Int32) then kgd (kin 0 5) (kb (pX5_saveGraph_L17 KF (v_pi (0 : Int32).toNatClampNeg) 1 v_pi v_vc v_ec) (fun v7 => kgd (kin 4 5) (kgd (decide ((v_pi (0 : Int32).toNatClampNeg) < 5)) (some ((t_scn - 1), (va_up v7.2 (4 : Int32).toNatClampNeg (v_pi (0 : Int32).toNatClampNeg))))))) else some (t_scn, v_pi)) : Option (Int32 × (Nat → Nat))) (fun v11 => kgd (kin v11.1 5) (kgd (decide ((v11.2 (v11.1 : Int32).toNatClampNeg) < 5)) (kb (pX2_copyFrom (v_vc (v11.2 (v11.1 : Int32).toNatClampNeg)) (v_ec (v11.2 (v11.1 : Int32).toNatClampNeg)) (v_F (v11.2 (v11.1 : Int32).toNatClampNeg)) (v_T (v11.2 (v11.1 : Int32).toNatClampNeg)) (v_X (v11.2 (v11.1 : Int32).toNatClampNeg)) (v_Z (v11.2 (v11.1 : Int32).toNatClampNeg)) g_vc g_ec g_F g_T g_X g_Z) (fun v15 => some ((v11.1 + 1), v11.2, (va_up v_vc (v11.2 (v11.1 : Int32).toNatClampNeg) v15.1), (va_up v_ec (v11.2 (v11.1 : Int32).toNatClampNeg) v15.2.1), (va_up v_F (v11.2 (v11.1 : Int32).toNatClampNeg) v15.2.2.1), (va_up v_T (v11.2 (v11.1 : Int32).toNatClampNeg) v15.2.2.2.1), (va_up v_X (v11.2 (v11.1 : Int32).toNatClampNeg) v15.2.2.2.2.1), (va_up v_Z (v11.2 (v11.1 : Int32).toNatClampNeg) v15.2.2.2.2.2))))))
def rmX5_saveGraph : Room := { frames := 3, cells := 0, slots := 0, locals := 71 }
theorem hdV_X5_saveGraph : yX5_saveGraph.cls = RX5 ∧ yX5_saveGraph.cls ≠ "java/lang/invoke/MethodHandle" ∧ yX5_saveGraph.cls ≠ "java/lang/invoke/VarHandle" ∧ (parseMethodDescriptor yX5_saveGraph.desc).map (fun d => d.parameters.length) = some 0 := ⟨rfl, by decide +kernel, by decide +kernel, by decide +kernel⟩
set_option maxHeartbeats 4000000 in
set_option maxRecDepth 100000 in
theorem kX5_saveGraph (l : Launch) (Y : KY) (xa : Nat) (ra : Nat) (ga : Nat → Nat) (da : Nat → Nat) (va : Nat) (ea : Nat → Nat) (sa : Nat → Nat) (ca : Nat → Nat) (pa : Nat → Nat) (vg : Nat → Nat) (t_scn : Int32) (g_vc : Int32) (g_ec : Int32) (g_F : Nat → Int32) (g_T : Nat → Int32) (g_X : Nat → Int32) (g_Z : Nat → Int32) (v_pi : Nat → Nat) (v_vc : Nat → Int32) (v_ec : Nat → Int32) (v_F : Nat → Nat → Int32) (v_T : Nat → Nat → Int32) (v_X : Nat → Nat → Int32) (v_Z : Nat → Nat → Int32)  {o : Int32 × (Nat → Nat) × (Nat → Int32) × (Nat → Int32) × (Nat → Nat → Int32) × (Nat → Nat → Int32) × (Nat → Nat → Int32) × (Nat → Nat → Int32)} (h : pX5_saveGraph t_scn g_vc g_ec g_F g_T g_X g_Z v_pi v_vc v_ec v_F v_T v_X v_Z = some o) : CtV l yX5_saveGraph wsX5_saveGraph rmX5_saveGraph Y [.ref xa] (kfl [gT xa ra ga da va ea sa ca pa t_scn, gG Y ga g_vc g_ec g_F g_T g_X g_Z, gA Y va vg v_pi, gG Y (fun j => vg (0 + j)) (v_vc 0) (v_ec 0) (v_F 0) (v_T 0) (v_X 0) (v_Z 0), gG Y (fun j => vg (5 + j)) (v_vc 1) (v_ec 1) (v_F 1) (v_T 1) (v_X 1) (v_Z 1), gG Y (fun j => vg (10 + j)) (v_vc 2) (v_ec 2) (v_F 2) (v_T 2) (v_X 2) (v_Z 2), gG Y (fun j => vg (15 + j)) (v_vc 3) (v_ec 3) (v_F 3) (v_T 3) (v_X 3) (v_Z 3), gG Y (fun j => vg (20 + j)) (v_vc 4) (v_ec 4) (v_F 4) (v_T 4) (v_X 4) (v_Z 4)]) (kfl [gT xa ra ga da va ea sa ca pa o.1, gG Y ga g_vc g_ec g_F g_T g_X g_Z, gA Y va vg o.2.1, gG Y (fun j => vg (0 + j)) (o.2.2.1 0) (o.2.2.2.1 0) (o.2.2.2.2.1 0) (o.2.2.2.2.2.1 0) (o.2.2.2.2.2.2.1 0) (o.2.2.2.2.2.2.2 0), gG Y (fun j => vg (5 + j)) (o.2.2.1 1) (o.2.2.2.1 1) (o.2.2.2.2.1 1) (o.2.2.2.2.2.1 1) (o.2.2.2.2.2.2.1 1) (o.2.2.2.2.2.2.2 1), gG Y (fun j => vg (10 + j)) (o.2.2.1 2) (o.2.2.2.1 2) (o.2.2.2.2.1 2) (o.2.2.2.2.2.1 2) (o.2.2.2.2.2.2.1 2) (o.2.2.2.2.2.2.2 2), gG Y (fun j => vg (15 + j)) (o.2.2.1 3) (o.2.2.2.1 3) (o.2.2.2.2.1 3) (o.2.2.2.2.2.1 3) (o.2.2.2.2.2.2.1 3) (o.2.2.2.2.2.2.2 3), gG Y (fun j => vg (20 + j)) (o.2.2.1 4) (o.2.2.2.1 4) (o.2.2.2.2.1 4) (o.2.2.2.2.2.1 4) (o.2.2.2.2.2.2.1 4) (o.2.2.2.2.2.2.2 4)]) := by
  refine ctV_intro (cc := cX5_saveGraph) (maxL := 3) (own := RX5) (by decide +kernel) rfl rfl (Nat.le_of_ble_eq_true rfl) rfl ?_
  intro X A hX _ hret
  have hin5 : ∀ w ∈ u_ws RX5 TX5 9, w ∈ wsX5_saveGraph := by decide +kernel
  have f0 := hX.w (Cond.fieldLink RX5 27 "PeriodicNet" "savedCount" "I") (by decide +kernel)
  have f1 := hX.w (Cond.fieldLink RX5 23 "PeriodicNet" "saved" "[LPeriodicNet$Graph;") (by decide +kernel)
  have f2 := hX.w (Cond.fieldLink RX5 16 "PeriodicNet" "graph" "LPeriodicNet$Graph;") (by decide +kernel)
  have L17 : ∀ (n : Nat) (k1 : Nat) (l2 : Int32) (z_t_scn : Int32) (z_g_vc : Int32) (z_g_ec : Int32) (z_g_F : Nat → Int32) (z_g_T : Nat → Int32) (z_g_X : Nat → Int32) (z_g_Z : Nat → Int32) (z_v_pi : Nat → Nat) (z_v_vc : Nat → Int32) (z_v_ec : Nat → Int32) (z_v_F : Nat → Nat → Int32) (z_v_T : Nat → Nat → Int32) (z_v_X : Nat → Nat → Int32) (z_v_Z : Nat → Nat → Int32) (o : Int32 × (Nat → Nat)), pX5_saveGraph_L17 n k1 l2 z_v_pi z_v_vc z_v_ec = some o → KW X Y A 3 0 0 (kfl [gT xa ra ga da va ea sa ca pa z_t_scn, gG Y ga z_g_vc z_g_ec z_g_F z_g_T z_g_X z_g_Z, gA Y va vg o.2, gG Y (fun j => vg (0 + j)) (z_v_vc 0) (z_v_ec 0) (z_v_F 0) (z_v_T 0) (z_v_X 0) (z_v_Z 0), gG Y (fun j => vg (5 + j)) (z_v_vc 1) (z_v_ec 1) (z_v_F 1) (z_v_T 1) (z_v_X 1) (z_v_Z 1), gG Y (fun j => vg (10 + j)) (z_v_vc 2) (z_v_ec 2) (z_v_F 2) (z_v_T 2) (z_v_X 2) (z_v_Z 2), gG Y (fun j => vg (15 + j)) (z_v_vc 3) (z_v_ec 3) (z_v_F 3) (z_v_T 3) (z_v_X 3) (z_v_Z 3), gG Y (fun j => vg (20 + j)) (z_v_vc 4) (z_v_ec 4) (z_v_F 4) (z_v_T 4) (z_v_X 4) (z_v_Z 4)]) [(0, .ref xa), (1, .ref (vg (5 * k1))), (2, .int o.1)] 42 [] → KW X Y A 3 0 0 (kfl [gT xa ra ga da va ea sa ca pa z_t_scn, gG Y ga z_g_vc z_g_ec z_g_F z_g_T z_g_X z_g_Z, gA Y va vg z_v_pi, gG Y (fun j => vg (0 + j)) (z_v_vc 0) (z_v_ec 0) (z_v_F 0) (z_v_T 0) (z_v_X 0) (z_v_Z 0), gG Y (fun j => vg (5 + j)) (z_v_vc 1) (z_v_ec 1) (z_v_F 1) (z_v_T 1) (z_v_X 1) (z_v_Z 1), gG Y (fun j => vg (10 + j)) (z_v_vc 2) (z_v_ec 2) (z_v_F 2) (z_v_T 2) (z_v_X 2) (z_v_Z 2), gG Y (fun j => vg (15 + j)) (z_v_vc 3) (z_v_ec 3) (z_v_F 3) (z_v_T 3) (z_v_X 3) (z_v_Z 3), gG Y (fun j => vg (20 + j)) (z_v_vc 4) (z_v_ec 4) (z_v_F 4) (z_v_T 4) (z_v_X 4) (z_v_Z 4)]) [(0, .ref xa), (1, .ref (vg (5 * k1))), (2, .int l2)] 17 [] := by
    intro n
    induction n with
    | zero => intro k1 l2 z_t_scn z_g_vc z_g_ec z_g_F z_g_T z_g_X z_g_Z z_v_pi z_v_vc z_v_ec z_v_F z_v_T z_v_X z_v_Z o h; cases h
    | succ n ih =>
      intro k1 l2 z_t_scn z_g_vc z_g_ec z_g_F z_g_T z_g_X z_g_Z z_v_pi z_v_vc z_v_ec z_v_F z_v_T z_v_X z_v_Z o h hK
      rw [pX5_saveGraph_L17] at h
      refine kw_iload_n hX 17 dX5_saveGraph_17 rfl 2 rfl ?_
      refine kw_iconst hX 18 dX5_saveGraph_18 kci_5 ?_
      refine kw_icmp_ge hX 19 42 dX5_saveGraph_19 (by decide) (fun c3 => ?_) (fun c3 => ?_)
      · have h := kif_t c3 h
        obtain rfl := Option.some.inj h
        refine kw_lv (lv' := [(0, .ref xa), (1, .ref (vg (5 * k1))), (2, .int l2)]) [0, 1, 2] rfl ?_
        exact hK
      · have h := kif_f c3 h
        refine kw_aload_n hX 22 dX5_saveGraph_22 rfl 0 rfl ?_
        refine kw_get hX 23 (C := RX5) (T := TX5) (N := 9) hin5 3 f1 (fun _ h => h) 0 rfl rfl (by decide) rfl dX5_saveGraph_23 ?_
        refine kw_iload_n hX 26 dX5_saveGraph_26 rfl 2 rfl ?_
        refine kw_iconst hX 27 dX5_saveGraph_27 kci_1 ?_
        refine kw_isub hX 28 dX5_saveGraph_28 ?_
        refine kw_aload_n hX 29 dX5_saveGraph_29 rfl 0 rfl ?_
        refine kw_get hX 30 (C := RX5) (T := TX5) (N := 9) hin5 3 f1 (fun _ h => h) 0 rfl rfl (by decide) rfl dX5_saveGraph_30 ?_
        refine kw_iload_n hX 33 dX5_saveGraph_33 rfl 2 rfl ?_
        obtain ⟨g4, h⟩ := kgd_some h
        refine kw_aald3 hX 34 6 rfl g4 rfl dX5_saveGraph_34 ?_
        obtain ⟨g5, h⟩ := kgd_some h
        obtain ⟨g6, h⟩ := kgd_some h
        refine kw_aast3 hX 35 (ws' := (kfl [gT xa ra ga da va ea sa ca pa z_t_scn, gG Y ga z_g_vc z_g_ec z_g_F z_g_T z_g_X z_g_Z, gA Y va vg (va_up z_v_pi ((l2 - 1) : Int32).toNatClampNeg (z_v_pi (l2 : Int32).toNatClampNeg)), gG Y (fun j => vg (0 + j)) (z_v_vc 0) (z_v_ec 0) (z_v_F 0) (z_v_T 0) (z_v_X 0) (z_v_Z 0), gG Y (fun j => vg (5 + j)) (z_v_vc 1) (z_v_ec 1) (z_v_F 1) (z_v_T 1) (z_v_X 1) (z_v_Z 1), gG Y (fun j => vg (10 + j)) (z_v_vc 2) (z_v_ec 2) (z_v_F 2) (z_v_T 2) (z_v_X 2) (z_v_Z 2), gG Y (fun j => vg (15 + j)) (z_v_vc 3) (z_v_ec 3) (z_v_F 3) (z_v_T 3) (z_v_X 3) (z_v_Z 3), gG Y (fun j => vg (20 + j)) (z_v_vc 4) (z_v_ec 4) (z_v_F 4) (z_v_T 4) (z_v_X 4) (z_v_Z 4)])) 6 (6 + 1 + 5 * (z_v_pi (l2 : Int32).toNatClampNeg)) rfl (vs := [.int (z_v_vc (z_v_pi (l2 : Int32).toNatClampNeg)), .int (z_v_ec (z_v_pi (l2 : Int32).toNatClampNeg)), .ref (vg (5 * (z_v_pi (l2 : Int32).toNatClampNeg) + 1)), .ref (vg (5 * (z_v_pi (l2 : Int32).toNatClampNeg) + 2)), .ref (vg (5 * (z_v_pi (l2 : Int32).toNatClampNeg) + 3)), .ref (vg (5 * (z_v_pi (l2 : Int32).toNatClampNeg) + 4))]) (by rcases kj5 (of_decide_eq_true g6) with e | e | e | e | e <;> rw [e] <;> rfl) g5 (by rw [gV_up]; rfl) dX5_saveGraph_35 ?_
        refine kw_iinc (v := (l2 + 1)) (lv' := [(2, .int (l2 + 1)), (0, .ref xa), (1, .ref (vg (5 * k1)))]) hX 36 dX5_saveGraph_36 2 rfl (kinc_1 _) (by decide) rfl ?_
        refine kw_goto hX 39 17 dX5_saveGraph_39 (by decide) ?_
        refine kw_lv (lv' := [(0, .ref xa), (1, .ref (vg (5 * k1))), (2, .int (l2 + 1))]) [1, 2, 0] rfl ?_
        exact ih k1 (l2 + 1) z_t_scn z_g_vc z_g_ec z_g_F z_g_T z_g_X z_g_Z (va_up z_v_pi ((l2 - 1) : Int32).toNatClampNeg (z_v_pi (l2 : Int32).toNatClampNeg)) z_v_vc z_v_ec z_v_F z_v_T z_v_X z_v_Z o h hK
  unfold pX5_saveGraph at h
  refine kw_lv (lv' := [(0, .ref xa)]) [0] rfl ?_
  refine kw_aload_n hX 0 dX5_saveGraph_0 rfl 0 rfl ?_
  refine kw_get hX 1 (C := RX5) (T := TX5) (N := 9) hin5 4 f0 (fun _ h => h) 0 rfl rfl (by decide) rfl dX5_saveGraph_1 ?_
  refine kw_iconst hX 4 dX5_saveGraph_4 kci_5 ?_
  obtain ⟨v11, hj18, h⟩ := kb_some h
  have J12 : KW X Y A 3 0 0 (kfl [gT xa ra ga da va ea sa ca pa v11.1, gG Y ga g_vc g_ec g_F g_T g_X g_Z, gA Y va vg v11.2, gG Y (fun j => vg (0 + j)) (v_vc 0) (v_ec 0) (v_F 0) (v_T 0) (v_X 0) (v_Z 0), gG Y (fun j => vg (5 + j)) (v_vc 1) (v_ec 1) (v_F 1) (v_T 1) (v_X 1) (v_Z 1), gG Y (fun j => vg (10 + j)) (v_vc 2) (v_ec 2) (v_F 2) (v_T 2) (v_X 2) (v_Z 2), gG Y (fun j => vg (15 + j)) (v_vc 3) (v_ec 3) (v_F 3) (v_T 3) (v_X 3) (v_Z 3), gG Y (fun j => vg (20 + j)) (v_vc 4) (v_ec 4) (v_F 4) (v_T 4) (v_X 4) (v_Z 4)]) [(0, .ref xa)] 59 [] := by
    refine kw_aload_n hX 59 dX5_saveGraph_59 rfl 0 rfl ?_
    refine kw_get hX 60 (C := RX5) (T := TX5) (N := 9) hin5 3 f1 (fun _ h => h) 0 rfl rfl (by decide) rfl dX5_saveGraph_60 ?_
    refine kw_aload_n hX 63 dX5_saveGraph_63 rfl 0 rfl ?_
    refine kw_get hX 64 (C := RX5) (T := TX5) (N := 9) hin5 4 f0 (fun _ h => h) 0 rfl rfl (by decide) rfl dX5_saveGraph_64 ?_
    obtain ⟨g13, h⟩ := kgd_some h
    refine kw_aald3 hX 67 6 rfl g13 rfl dX5_saveGraph_67 ?_
    refine kw_aload_n hX 68 dX5_saveGraph_68 rfl 0 rfl ?_
    refine kw_get hX 69 (C := RX5) (T := TX5) (N := 9) hin5 1 f2 (fun _ h => h) 0 rfl rfl (by decide) rfl dX5_saveGraph_69 ?_
    obtain ⟨g14, h⟩ := kgd_some h
    obtain ⟨v15, hc16, h⟩ := kb_some h
    have J17 : KW X Y A 3 0 0 (kfl [gT xa ra ga da va ea sa ca pa v11.1, gG Y ga g_vc g_ec g_F g_T g_X g_Z, gA Y va vg v11.2, gG Y (fun j => vg (0 + j)) ((va_up v_vc (v11.2 (v11.1 : Int32).toNatClampNeg) v15.1) 0) ((va_up v_ec (v11.2 (v11.1 : Int32).toNatClampNeg) v15.2.1) 0) ((va_up v_F (v11.2 (v11.1 : Int32).toNatClampNeg) v15.2.2.1) 0) ((va_up v_T (v11.2 (v11.1 : Int32).toNatClampNeg) v15.2.2.2.1) 0) ((va_up v_X (v11.2 (v11.1 : Int32).toNatClampNeg) v15.2.2.2.2.1) 0) ((va_up v_Z (v11.2 (v11.1 : Int32).toNatClampNeg) v15.2.2.2.2.2) 0), gG Y (fun j => vg (5 + j)) ((va_up v_vc (v11.2 (v11.1 : Int32).toNatClampNeg) v15.1) 1) ((va_up v_ec (v11.2 (v11.1 : Int32).toNatClampNeg) v15.2.1) 1) ((va_up v_F (v11.2 (v11.1 : Int32).toNatClampNeg) v15.2.2.1) 1) ((va_up v_T (v11.2 (v11.1 : Int32).toNatClampNeg) v15.2.2.2.1) 1) ((va_up v_X (v11.2 (v11.1 : Int32).toNatClampNeg) v15.2.2.2.2.1) 1) ((va_up v_Z (v11.2 (v11.1 : Int32).toNatClampNeg) v15.2.2.2.2.2) 1), gG Y (fun j => vg (10 + j)) ((va_up v_vc (v11.2 (v11.1 : Int32).toNatClampNeg) v15.1) 2) ((va_up v_ec (v11.2 (v11.1 : Int32).toNatClampNeg) v15.2.1) 2) ((va_up v_F (v11.2 (v11.1 : Int32).toNatClampNeg) v15.2.2.1) 2) ((va_up v_T (v11.2 (v11.1 : Int32).toNatClampNeg) v15.2.2.2.1) 2) ((va_up v_X (v11.2 (v11.1 : Int32).toNatClampNeg) v15.2.2.2.2.1) 2) ((va_up v_Z (v11.2 (v11.1 : Int32).toNatClampNeg) v15.2.2.2.2.2) 2), gG Y (fun j => vg (15 + j)) ((va_up v_vc (v11.2 (v11.1 : Int32).toNatClampNeg) v15.1) 3) ((va_up v_ec (v11.2 (v11.1 : Int32).toNatClampNeg) v15.2.1) 3) ((va_up v_F (v11.2 (v11.1 : Int32).toNatClampNeg) v15.2.2.1) 3) ((va_up v_T (v11.2 (v11.1 : Int32).toNatClampNeg) v15.2.2.2.1) 3) ((va_up v_X (v11.2 (v11.1 : Int32).toNatClampNeg) v15.2.2.2.2.1) 3) ((va_up v_Z (v11.2 (v11.1 : Int32).toNatClampNeg) v15.2.2.2.2.2) 3), gG Y (fun j => vg (20 + j)) ((va_up v_vc (v11.2 (v11.1 : Int32).toNatClampNeg) v15.1) 4) ((va_up v_ec (v11.2 (v11.1 : Int32).toNatClampNeg) v15.2.1) 4) ((va_up v_F (v11.2 (v11.1 : Int32).toNatClampNeg) v15.2.2.1) 4) ((va_up v_T (v11.2 (v11.1 : Int32).toNatClampNeg) v15.2.2.2.1) 4) ((va_up v_X (v11.2 (v11.1 : Int32).toNatClampNeg) v15.2.2.2.2.1) 4) ((va_up v_Z (v11.2 (v11.1 : Int32).toNatClampNeg) v15.2.2.2.2.2) 4)]) [(0, .ref xa)] 75 [] := by
      refine kw_aload_n hX 75 dX5_saveGraph_75 rfl 0 rfl ?_
      refine kw_dup hX 76 dX5_saveGraph_76 rfl ?_
      refine kw_get hX 77 (C := RX5) (T := TX5) (N := 9) hin5 4 f0 (fun _ h => h) 0 rfl rfl (by decide) rfl dX5_saveGraph_77 ?_
      refine kw_iconst hX 80 dX5_saveGraph_80 kci_1 ?_
      refine kw_iadd hX 81 dX5_saveGraph_81 ?_
      refine kw_put hX 82 (C := RX5) (T := TX5) (N := 9) (ws' := (kfl [gT xa ra ga da va ea sa ca pa (v11.1 + 1), gG Y ga g_vc g_ec g_F g_T g_X g_Z, gA Y va vg v11.2, gG Y (fun j => vg (0 + j)) ((va_up v_vc (v11.2 (v11.1 : Int32).toNatClampNeg) v15.1) 0) ((va_up v_ec (v11.2 (v11.1 : Int32).toNatClampNeg) v15.2.1) 0) ((va_up v_F (v11.2 (v11.1 : Int32).toNatClampNeg) v15.2.2.1) 0) ((va_up v_T (v11.2 (v11.1 : Int32).toNatClampNeg) v15.2.2.2.1) 0) ((va_up v_X (v11.2 (v11.1 : Int32).toNatClampNeg) v15.2.2.2.2.1) 0) ((va_up v_Z (v11.2 (v11.1 : Int32).toNatClampNeg) v15.2.2.2.2.2) 0), gG Y (fun j => vg (5 + j)) ((va_up v_vc (v11.2 (v11.1 : Int32).toNatClampNeg) v15.1) 1) ((va_up v_ec (v11.2 (v11.1 : Int32).toNatClampNeg) v15.2.1) 1) ((va_up v_F (v11.2 (v11.1 : Int32).toNatClampNeg) v15.2.2.1) 1) ((va_up v_T (v11.2 (v11.1 : Int32).toNatClampNeg) v15.2.2.2.1) 1) ((va_up v_X (v11.2 (v11.1 : Int32).toNatClampNeg) v15.2.2.2.2.1) 1) ((va_up v_Z (v11.2 (v11.1 : Int32).toNatClampNeg) v15.2.2.2.2.2) 1), gG Y (fun j => vg (10 + j)) ((va_up v_vc (v11.2 (v11.1 : Int32).toNatClampNeg) v15.1) 2) ((va_up v_ec (v11.2 (v11.1 : Int32).toNatClampNeg) v15.2.1) 2) ((va_up v_F (v11.2 (v11.1 : Int32).toNatClampNeg) v15.2.2.1) 2) ((va_up v_T (v11.2 (v11.1 : Int32).toNatClampNeg) v15.2.2.2.1) 2) ((va_up v_X (v11.2 (v11.1 : Int32).toNatClampNeg) v15.2.2.2.2.1) 2) ((va_up v_Z (v11.2 (v11.1 : Int32).toNatClampNeg) v15.2.2.2.2.2) 2), gG Y (fun j => vg (15 + j)) ((va_up v_vc (v11.2 (v11.1 : Int32).toNatClampNeg) v15.1) 3) ((va_up v_ec (v11.2 (v11.1 : Int32).toNatClampNeg) v15.2.1) 3) ((va_up v_F (v11.2 (v11.1 : Int32).toNatClampNeg) v15.2.2.1) 3) ((va_up v_T (v11.2 (v11.1 : Int32).toNatClampNeg) v15.2.2.2.1) 3) ((va_up v_X (v11.2 (v11.1 : Int32).toNatClampNeg) v15.2.2.2.2.1) 3) ((va_up v_Z (v11.2 (v11.1 : Int32).toNatClampNeg) v15.2.2.2.2.2) 3), gG Y (fun j => vg (20 + j)) ((va_up v_vc (v11.2 (v11.1 : Int32).toNatClampNeg) v15.1) 4) ((va_up v_ec (v11.2 (v11.1 : Int32).toNatClampNeg) v15.2.1) 4) ((va_up v_F (v11.2 (v11.1 : Int32).toNatClampNeg) v15.2.2.1) 4) ((va_up v_T (v11.2 (v11.1 : Int32).toNatClampNeg) v15.2.2.2.1) 4) ((va_up v_X (v11.2 (v11.1 : Int32).toNatClampNeg) v15.2.2.2.2.1) 4) ((va_up v_Z (v11.2 (v11.1 : Int32).toNatClampNeg) v15.2.2.2.2.2) 4)])) hin5 tyX5 tyX5_ok nmX5 4 f0 (fun _ h => h) 0 rfl rfl (by decide) rfl (ty := .int) (tyX5_ok 4 (by decide)) rfl rfl (Nat.le_of_ble_eq_true rfl) rfl dX5_saveGraph_82 ?_
      obtain rfl := Option.some.inj h
      exact hret _ _ dX5_saveGraph_85
    rcases kj5 (of_decide_eq_true g14) with e | e | e | e | e
    · try rw [e] at hc16
      try rw [e] at J17
      rw [e]
      exact kw_callV_V hX 72 (As := [.ref (ga 0)]) (rest := []) (kX2_copyFrom (kx_l X) Y (fun j => vg (0 + j)) ga (v_vc 0) (v_ec 0) (v_F 0) (v_T 0) (v_X 0) (v_Z 0) g_vc g_ec g_F g_T g_X g_Z hc16) gX5_saveGraph_X2_copyFrom rfl 1 rfl hdV_X2_copyFrom ⟨rfl, rfl⟩ ⟨by decide, by decide⟩ ⟨Nat.zero_le _, Nat.zero_le _⟩ rfl (Nat.le_of_ble_eq_true rfl) [3, 1] (by decide) rfl (kfc gG_f (kfc rfl kfn0)) (gs1 := [gT xa ra ga da va ea sa ca pa v11.1, gG Y ga g_vc g_ec g_F g_T g_X g_Z, gA Y va vg v11.2, gG Y (fun j => vg (0 + j)) ((va_up v_vc 0 v15.1) 0) ((va_up v_ec 0 v15.2.1) 0) ((va_up v_F 0 v15.2.2.1) 0) ((va_up v_T 0 v15.2.2.2.1) 0) ((va_up v_X 0 v15.2.2.2.2.1) 0) ((va_up v_Z 0 v15.2.2.2.2.2) 0), gG Y (fun j => vg (5 + j)) ((va_up v_vc 0 v15.1) 1) ((va_up v_ec 0 v15.2.1) 1) ((va_up v_F 0 v15.2.2.1) 1) ((va_up v_T 0 v15.2.2.2.1) 1) ((va_up v_X 0 v15.2.2.2.2.1) 1) ((va_up v_Z 0 v15.2.2.2.2.2) 1), gG Y (fun j => vg (10 + j)) ((va_up v_vc 0 v15.1) 2) ((va_up v_ec 0 v15.2.1) 2) ((va_up v_F 0 v15.2.2.1) 2) ((va_up v_T 0 v15.2.2.2.1) 2) ((va_up v_X 0 v15.2.2.2.2.1) 2) ((va_up v_Z 0 v15.2.2.2.2.2) 2), gG Y (fun j => vg (15 + j)) ((va_up v_vc 0 v15.1) 3) ((va_up v_ec 0 v15.2.1) 3) ((va_up v_F 0 v15.2.2.1) 3) ((va_up v_T 0 v15.2.2.2.1) 3) ((va_up v_X 0 v15.2.2.2.2.1) 3) ((va_up v_Z 0 v15.2.2.2.2.2) 3), gG Y (fun j => vg (20 + j)) ((va_up v_vc 0 v15.1) 4) ((va_up v_ec 0 v15.2.1) 4) ((va_up v_F 0 v15.2.2.1) 4) ((va_up v_T 0 v15.2.2.2.1) 4) ((va_up v_X 0 v15.2.2.2.2.1) 4) ((va_up v_Z 0 v15.2.2.2.2.2) 4)]) rfl 7 2 rfl rfl rfl dX5_saveGraph_72 J17
    · try rw [e] at hc16
      try rw [e] at J17
      rw [e]
      exact kw_callV_V hX 72 (As := [.ref (ga 0)]) (rest := []) (kX2_copyFrom (kx_l X) Y (fun j => vg (5 + j)) ga (v_vc 1) (v_ec 1) (v_F 1) (v_T 1) (v_X 1) (v_Z 1) g_vc g_ec g_F g_T g_X g_Z hc16) gX5_saveGraph_X2_copyFrom rfl 1 rfl hdV_X2_copyFrom ⟨rfl, rfl⟩ ⟨by decide, by decide⟩ ⟨Nat.zero_le _, Nat.zero_le _⟩ rfl (Nat.le_of_ble_eq_true rfl) [4, 1] (by decide) rfl (kfc gG_f (kfc rfl kfn0)) (gs1 := [gT xa ra ga da va ea sa ca pa v11.1, gG Y ga g_vc g_ec g_F g_T g_X g_Z, gA Y va vg v11.2, gG Y (fun j => vg (0 + j)) ((va_up v_vc 1 v15.1) 0) ((va_up v_ec 1 v15.2.1) 0) ((va_up v_F 1 v15.2.2.1) 0) ((va_up v_T 1 v15.2.2.2.1) 0) ((va_up v_X 1 v15.2.2.2.2.1) 0) ((va_up v_Z 1 v15.2.2.2.2.2) 0), gG Y (fun j => vg (5 + j)) ((va_up v_vc 1 v15.1) 1) ((va_up v_ec 1 v15.2.1) 1) ((va_up v_F 1 v15.2.2.1) 1) ((va_up v_T 1 v15.2.2.2.1) 1) ((va_up v_X 1 v15.2.2.2.2.1) 1) ((va_up v_Z 1 v15.2.2.2.2.2) 1), gG Y (fun j => vg (10 + j)) ((va_up v_vc 1 v15.1) 2) ((va_up v_ec 1 v15.2.1) 2) ((va_up v_F 1 v15.2.2.1) 2) ((va_up v_T 1 v15.2.2.2.1) 2) ((va_up v_X 1 v15.2.2.2.2.1) 2) ((va_up v_Z 1 v15.2.2.2.2.2) 2), gG Y (fun j => vg (15 + j)) ((va_up v_vc 1 v15.1) 3) ((va_up v_ec 1 v15.2.1) 3) ((va_up v_F 1 v15.2.2.1) 3) ((va_up v_T 1 v15.2.2.2.1) 3) ((va_up v_X 1 v15.2.2.2.2.1) 3) ((va_up v_Z 1 v15.2.2.2.2.2) 3), gG Y (fun j => vg (20 + j)) ((va_up v_vc 1 v15.1) 4) ((va_up v_ec 1 v15.2.1) 4) ((va_up v_F 1 v15.2.2.1) 4) ((va_up v_T 1 v15.2.2.2.1) 4) ((va_up v_X 1 v15.2.2.2.2.1) 4) ((va_up v_Z 1 v15.2.2.2.2.2) 4)]) rfl 12 2 rfl rfl rfl dX5_saveGraph_72 J17
    · try rw [e] at hc16
      try rw [e] at J17
      rw [e]
      exact kw_callV_V hX 72 (As := [.ref (ga 0)]) (rest := []) (kX2_copyFrom (kx_l X) Y (fun j => vg (10 + j)) ga (v_vc 2) (v_ec 2) (v_F 2) (v_T 2) (v_X 2) (v_Z 2) g_vc g_ec g_F g_T g_X g_Z hc16) gX5_saveGraph_X2_copyFrom rfl 1 rfl hdV_X2_copyFrom ⟨rfl, rfl⟩ ⟨by decide, by decide⟩ ⟨Nat.zero_le _, Nat.zero_le _⟩ rfl (Nat.le_of_ble_eq_true rfl) [5, 1] (by decide) rfl (kfc gG_f (kfc rfl kfn0)) (gs1 := [gT xa ra ga da va ea sa ca pa v11.1, gG Y ga g_vc g_ec g_F g_T g_X g_Z, gA Y va vg v11.2, gG Y (fun j => vg (0 + j)) ((va_up v_vc 2 v15.1) 0) ((va_up v_ec 2 v15.2.1) 0) ((va_up v_F 2 v15.2.2.1) 0) ((va_up v_T 2 v15.2.2.2.1) 0) ((va_up v_X 2 v15.2.2.2.2.1) 0) ((va_up v_Z 2 v15.2.2.2.2.2) 0), gG Y (fun j => vg (5 + j)) ((va_up v_vc 2 v15.1) 1) ((va_up v_ec 2 v15.2.1) 1) ((va_up v_F 2 v15.2.2.1) 1) ((va_up v_T 2 v15.2.2.2.1) 1) ((va_up v_X 2 v15.2.2.2.2.1) 1) ((va_up v_Z 2 v15.2.2.2.2.2) 1), gG Y (fun j => vg (10 + j)) ((va_up v_vc 2 v15.1) 2) ((va_up v_ec 2 v15.2.1) 2) ((va_up v_F 2 v15.2.2.1) 2) ((va_up v_T 2 v15.2.2.2.1) 2) ((va_up v_X 2 v15.2.2.2.2.1) 2) ((va_up v_Z 2 v15.2.2.2.2.2) 2), gG Y (fun j => vg (15 + j)) ((va_up v_vc 2 v15.1) 3) ((va_up v_ec 2 v15.2.1) 3) ((va_up v_F 2 v15.2.2.1) 3) ((va_up v_T 2 v15.2.2.2.1) 3) ((va_up v_X 2 v15.2.2.2.2.1) 3) ((va_up v_Z 2 v15.2.2.2.2.2) 3), gG Y (fun j => vg (20 + j)) ((va_up v_vc 2 v15.1) 4) ((va_up v_ec 2 v15.2.1) 4) ((va_up v_F 2 v15.2.2.1) 4) ((va_up v_T 2 v15.2.2.2.1) 4) ((va_up v_X 2 v15.2.2.2.2.1) 4) ((va_up v_Z 2 v15.2.2.2.2.2) 4)]) rfl 17 2 rfl rfl rfl dX5_saveGraph_72 J17
    · try rw [e] at hc16
      try rw [e] at J17
      rw [e]
      exact kw_callV_V hX 72 (As := [.ref (ga 0)]) (rest := []) (kX2_copyFrom (kx_l X) Y (fun j => vg (15 + j)) ga (v_vc 3) (v_ec 3) (v_F 3) (v_T 3) (v_X 3) (v_Z 3) g_vc g_ec g_F g_T g_X g_Z hc16) gX5_saveGraph_X2_copyFrom rfl 1 rfl hdV_X2_copyFrom ⟨rfl, rfl⟩ ⟨by decide, by decide⟩ ⟨Nat.zero_le _, Nat.zero_le _⟩ rfl (Nat.le_of_ble_eq_true rfl) [6, 1] (by decide) rfl (kfc gG_f (kfc rfl kfn0)) (gs1 := [gT xa ra ga da va ea sa ca pa v11.1, gG Y ga g_vc g_ec g_F g_T g_X g_Z, gA Y va vg v11.2, gG Y (fun j => vg (0 + j)) ((va_up v_vc 3 v15.1) 0) ((va_up v_ec 3 v15.2.1) 0) ((va_up v_F 3 v15.2.2.1) 0) ((va_up v_T 3 v15.2.2.2.1) 0) ((va_up v_X 3 v15.2.2.2.2.1) 0) ((va_up v_Z 3 v15.2.2.2.2.2) 0), gG Y (fun j => vg (5 + j)) ((va_up v_vc 3 v15.1) 1) ((va_up v_ec 3 v15.2.1) 1) ((va_up v_F 3 v15.2.2.1) 1) ((va_up v_T 3 v15.2.2.2.1) 1) ((va_up v_X 3 v15.2.2.2.2.1) 1) ((va_up v_Z 3 v15.2.2.2.2.2) 1), gG Y (fun j => vg (10 + j)) ((va_up v_vc 3 v15.1) 2) ((va_up v_ec 3 v15.2.1) 2) ((va_up v_F 3 v15.2.2.1) 2) ((va_up v_T 3 v15.2.2.2.1) 2) ((va_up v_X 3 v15.2.2.2.2.1) 2) ((va_up v_Z 3 v15.2.2.2.2.2) 2), gG Y (fun j => vg (15 + j)) ((va_up v_vc 3 v15.1) 3) ((va_up v_ec 3 v15.2.1) 3) ((va_up v_F 3 v15.2.2.1) 3) ((va_up v_T 3 v15.2.2.2.1) 3) ((va_up v_X 3 v15.2.2.2.2.1) 3) ((va_up v_Z 3 v15.2.2.2.2.2) 3), gG Y (fun j => vg (20 + j)) ((va_up v_vc 3 v15.1) 4) ((va_up v_ec 3 v15.2.1) 4) ((va_up v_F 3 v15.2.2.1) 4) ((va_up v_T 3 v15.2.2.2.1) 4) ((va_up v_X 3 v15.2.2.2.2.1) 4) ((va_up v_Z 3 v15.2.2.2.2.2) 4)]) rfl 22 2 rfl rfl rfl dX5_saveGraph_72 J17
    · try rw [e] at hc16
      try rw [e] at J17
      rw [e]
      exact kw_callV_V hX 72 (As := [.ref (ga 0)]) (rest := []) (kX2_copyFrom (kx_l X) Y (fun j => vg (20 + j)) ga (v_vc 4) (v_ec 4) (v_F 4) (v_T 4) (v_X 4) (v_Z 4) g_vc g_ec g_F g_T g_X g_Z hc16) gX5_saveGraph_X2_copyFrom rfl 1 rfl hdV_X2_copyFrom ⟨rfl, rfl⟩ ⟨by decide, by decide⟩ ⟨Nat.zero_le _, Nat.zero_le _⟩ rfl (Nat.le_of_ble_eq_true rfl) [7, 1] (by decide) rfl (kfc gG_f (kfc rfl kfn0)) (gs1 := [gT xa ra ga da va ea sa ca pa v11.1, gG Y ga g_vc g_ec g_F g_T g_X g_Z, gA Y va vg v11.2, gG Y (fun j => vg (0 + j)) ((va_up v_vc 4 v15.1) 0) ((va_up v_ec 4 v15.2.1) 0) ((va_up v_F 4 v15.2.2.1) 0) ((va_up v_T 4 v15.2.2.2.1) 0) ((va_up v_X 4 v15.2.2.2.2.1) 0) ((va_up v_Z 4 v15.2.2.2.2.2) 0), gG Y (fun j => vg (5 + j)) ((va_up v_vc 4 v15.1) 1) ((va_up v_ec 4 v15.2.1) 1) ((va_up v_F 4 v15.2.2.1) 1) ((va_up v_T 4 v15.2.2.2.1) 1) ((va_up v_X 4 v15.2.2.2.2.1) 1) ((va_up v_Z 4 v15.2.2.2.2.2) 1), gG Y (fun j => vg (10 + j)) ((va_up v_vc 4 v15.1) 2) ((va_up v_ec 4 v15.2.1) 2) ((va_up v_F 4 v15.2.2.1) 2) ((va_up v_T 4 v15.2.2.2.1) 2) ((va_up v_X 4 v15.2.2.2.2.1) 2) ((va_up v_Z 4 v15.2.2.2.2.2) 2), gG Y (fun j => vg (15 + j)) ((va_up v_vc 4 v15.1) 3) ((va_up v_ec 4 v15.2.1) 3) ((va_up v_F 4 v15.2.2.1) 3) ((va_up v_T 4 v15.2.2.2.1) 3) ((va_up v_X 4 v15.2.2.2.2.1) 3) ((va_up v_Z 4 v15.2.2.2.2.2) 3), gG Y (fun j => vg (20 + j)) ((va_up v_vc 4 v15.1) 4) ((va_up v_ec 4 v15.2.1) 4) ((va_up v_F 4 v15.2.2.1) 4) ((va_up v_T 4 v15.2.2.2.1) 4) ((va_up v_X 4 v15.2.2.2.2.1) 4) ((va_up v_Z 4 v15.2.2.2.2.2) 4)]) rfl 27 2 rfl rfl rfl dX5_saveGraph_72 J17
  have h := hj18
  refine kw_icmp_ne hX 5 59 dX5_saveGraph_5 (by decide) (fun c1 => ?_) (fun c1 => ?_)
  · have h := kif_f c1 h
    obtain rfl := Option.some.inj h
    refine kw_lv (lv' := [(0, .ref xa)]) [0] rfl ?_
    exact J12
  · have h := kif_t c1 h
    refine kw_aload_n hX 8 dX5_saveGraph_8 rfl 0 rfl ?_
    refine kw_get hX 9 (C := RX5) (T := TX5) (N := 9) hin5 3 f1 (fun _ h => h) 0 rfl rfl (by decide) rfl dX5_saveGraph_9 ?_
    refine kw_iconst hX 12 dX5_saveGraph_12 kci_0 ?_
    obtain ⟨g2, h⟩ := kgd_some h
    refine kw_aald3 hX 13 6 rfl g2 rfl dX5_saveGraph_13 ?_
    refine kw_astore_n (lv' := [(1, .ref (vg (5 * (v_pi (0 : Int32).toNatClampNeg)))), (0, .ref xa)]) hX 14 dX5_saveGraph_14 rfl (by decide) rfl ?_
    refine kw_iconst hX 15 dX5_saveGraph_15 kci_1 ?_
    refine kw_istore_n (lv' := [(2, .int 1), (1, .ref (vg (5 * (v_pi (0 : Int32).toNatClampNeg)))), (0, .ref xa)]) hX 16 dX5_saveGraph_16 rfl (by decide) rfl ?_
    obtain ⟨v7, hl8, h⟩ := kb_some h
    refine kw_lv (lv' := [(0, .ref xa), (1, .ref (vg (5 * (v_pi (0 : Int32).toNatClampNeg)))), (2, .int 1)]) [2, 1, 0] rfl ?_
    refine L17 KF (v_pi (0 : Int32).toNatClampNeg) 1 t_scn g_vc g_ec g_F g_T g_X g_Z v_pi v_vc v_ec v_F v_T v_X v_Z v7 hl8 ?_
    refine kw_aload_n hX 42 dX5_saveGraph_42 rfl 0 rfl ?_
    refine kw_get hX 43 (C := RX5) (T := TX5) (N := 9) hin5 3 f1 (fun _ h => h) 0 rfl rfl (by decide) rfl dX5_saveGraph_43 ?_
    refine kw_iconst hX 46 dX5_saveGraph_46 kci_4 ?_
    refine kw_aload_n hX 47 dX5_saveGraph_47 rfl 1 rfl ?_
    obtain ⟨g9, h⟩ := kgd_some h
    obtain ⟨g10, h⟩ := kgd_some h
    refine kw_aast3 hX 48 (ws' := (kfl [gT xa ra ga da va ea sa ca pa t_scn, gG Y ga g_vc g_ec g_F g_T g_X g_Z, gA Y va vg (va_up v7.2 (4 : Int32).toNatClampNeg (v_pi (0 : Int32).toNatClampNeg)), gG Y (fun j => vg (0 + j)) (v_vc 0) (v_ec 0) (v_F 0) (v_T 0) (v_X 0) (v_Z 0), gG Y (fun j => vg (5 + j)) (v_vc 1) (v_ec 1) (v_F 1) (v_T 1) (v_X 1) (v_Z 1), gG Y (fun j => vg (10 + j)) (v_vc 2) (v_ec 2) (v_F 2) (v_T 2) (v_X 2) (v_Z 2), gG Y (fun j => vg (15 + j)) (v_vc 3) (v_ec 3) (v_F 3) (v_T 3) (v_X 3) (v_Z 3), gG Y (fun j => vg (20 + j)) (v_vc 4) (v_ec 4) (v_F 4) (v_T 4) (v_X 4) (v_Z 4)])) 6 (6 + 1 + 5 * (v_pi (0 : Int32).toNatClampNeg)) rfl (vs := [.int (v_vc (v_pi (0 : Int32).toNatClampNeg)), .int (v_ec (v_pi (0 : Int32).toNatClampNeg)), .ref (vg (5 * (v_pi (0 : Int32).toNatClampNeg) + 1)), .ref (vg (5 * (v_pi (0 : Int32).toNatClampNeg) + 2)), .ref (vg (5 * (v_pi (0 : Int32).toNatClampNeg) + 3)), .ref (vg (5 * (v_pi (0 : Int32).toNatClampNeg) + 4))]) (by rcases kj5 (of_decide_eq_true g10) with e | e | e | e | e <;> rw [e] <;> rfl) g9 (by rw [gV_up]; rfl) dX5_saveGraph_48 ?_
    refine kw_aload_n hX 49 dX5_saveGraph_49 rfl 0 rfl ?_
    refine kw_dup hX 50 dX5_saveGraph_50 rfl ?_
    refine kw_get hX 51 (C := RX5) (T := TX5) (N := 9) hin5 4 f0 (fun _ h => h) 0 rfl rfl (by decide) rfl dX5_saveGraph_51 ?_
    refine kw_iconst hX 54 dX5_saveGraph_54 kci_1 ?_
    refine kw_isub hX 55 dX5_saveGraph_55 ?_
    refine kw_put hX 56 (C := RX5) (T := TX5) (N := 9) (ws' := (kfl [gT xa ra ga da va ea sa ca pa (t_scn - 1), gG Y ga g_vc g_ec g_F g_T g_X g_Z, gA Y va vg (va_up v7.2 (4 : Int32).toNatClampNeg (v_pi (0 : Int32).toNatClampNeg)), gG Y (fun j => vg (0 + j)) (v_vc 0) (v_ec 0) (v_F 0) (v_T 0) (v_X 0) (v_Z 0), gG Y (fun j => vg (5 + j)) (v_vc 1) (v_ec 1) (v_F 1) (v_T 1) (v_X 1) (v_Z 1), gG Y (fun j => vg (10 + j)) (v_vc 2) (v_ec 2) (v_F 2) (v_T 2) (v_X 2) (v_Z 2), gG Y (fun j => vg (15 + j)) (v_vc 3) (v_ec 3) (v_F 3) (v_T 3) (v_X 3) (v_Z 3), gG Y (fun j => vg (20 + j)) (v_vc 4) (v_ec 4) (v_F 4) (v_T 4) (v_X 4) (v_Z 4)])) hin5 tyX5 tyX5_ok nmX5 4 f0 (fun _ h => h) 0 rfl rfl (by decide) rfl (ty := .int) (tyX5_ok 4 (by decide)) rfl rfl (Nat.le_of_ble_eq_true rfl) rfl dX5_saveGraph_56 ?_
    obtain rfl := Option.some.inj h
    refine kw_lv (lv' := [(0, .ref xa)]) [0] rfl ?_
    exact J12
def pX5_commitDraft  (e_cn : Nat → Int32) (e_M : Nat → Nat → Int32) (t_scn : Int32) (g_vc : Int32) (g_ec : Int32) (g_F : Nat → Int32) (g_T : Nat → Int32) (g_X : Nat → Int32) (g_Z : Nat → Int32) (d_vc : Int32) (d_ec : Int32) (d_F : Nat → Int32) (d_T : Nat → Int32) (d_X : Nat → Int32) (d_Z : Nat → Int32) (v_pi : Nat → Nat) (v_vc : Nat → Int32) (v_ec : Nat → Int32) (v_F : Nat → Nat → Int32) (v_T : Nat → Nat → Int32) (v_X : Nat → Nat → Int32) (v_Z : Nat → Nat → Int32) : Option ((Nat → Int32) × (Nat → Nat → Int32) × Int32 × Int32 × Int32 × (Nat → Int32) × (Nat → Int32) × (Nat → Int32) × (Nat → Int32) × (Nat → Nat) × (Nat → Int32) × (Nat → Int32) × (Nat → Nat → Int32) × (Nat → Nat → Int32) × (Nat → Nat → Int32) × (Nat → Nat → Int32)) := kb (pX5_saveGraph t_scn g_vc g_ec g_F g_T g_X g_Z v_pi v_vc v_ec v_F v_T v_X v_Z) (fun v1 => kb (pX2_copyFrom g_vc g_ec g_F g_T g_X g_Z d_vc d_ec d_F d_T d_X d_Z) (fun v3 => kb (pX1_listAll e_cn e_M v3.2.1 v3.2.2.1 v3.2.2.2.1 v3.2.2.2.2.1 v3.2.2.2.2.2) (fun v5 => some (v5.1, v5.2, v1.1, v3.1, v3.2.1, v3.2.2.1, v3.2.2.2.1, v3.2.2.2.2.1, v3.2.2.2.2.2, v1.2.1, v1.2.2.1, v1.2.2.2.1, v1.2.2.2.2.1, v1.2.2.2.2.2.1, v1.2.2.2.2.2.2.1, v1.2.2.2.2.2.2.2))))
def rmX5_commitDraft : Room := { frames := 4, cells := 0, slots := 0, locals := 93 }
theorem hdV_X5_commitDraft : yX5_commitDraft.cls = RX5 ∧ yX5_commitDraft.cls ≠ "java/lang/invoke/MethodHandle" ∧ yX5_commitDraft.cls ≠ "java/lang/invoke/VarHandle" ∧ (parseMethodDescriptor yX5_commitDraft.desc).map (fun d => d.parameters.length) = some 0 := ⟨rfl, by decide +kernel, by decide +kernel, by decide +kernel⟩
set_option maxHeartbeats 4000000 in
set_option maxRecDepth 100000 in
theorem kX5_commitDraft (l : Launch) (Y : KY) (xa : Nat) (ra : Nat) (ga : Nat → Nat) (da : Nat → Nat) (va : Nat) (ea : Nat → Nat) (sa : Nat → Nat) (ca : Nat → Nat) (pa : Nat → Nat) (er : Nat → Nat) (vg : Nat → Nat) (e_cn : Nat → Int32) (e_M : Nat → Nat → Int32) (t_scn : Int32) (g_vc : Int32) (g_ec : Int32) (g_F : Nat → Int32) (g_T : Nat → Int32) (g_X : Nat → Int32) (g_Z : Nat → Int32) (d_vc : Int32) (d_ec : Int32) (d_F : Nat → Int32) (d_T : Nat → Int32) (d_X : Nat → Int32) (d_Z : Nat → Int32) (v_pi : Nat → Nat) (v_vc : Nat → Int32) (v_ec : Nat → Int32) (v_F : Nat → Nat → Int32) (v_T : Nat → Nat → Int32) (v_X : Nat → Nat → Int32) (v_Z : Nat → Nat → Int32)  {o : (Nat → Int32) × (Nat → Nat → Int32) × Int32 × Int32 × Int32 × (Nat → Int32) × (Nat → Int32) × (Nat → Int32) × (Nat → Int32) × (Nat → Nat) × (Nat → Int32) × (Nat → Int32) × (Nat → Nat → Int32) × (Nat → Nat → Int32) × (Nat → Nat → Int32) × (Nat → Nat → Int32)} (h : pX5_commitDraft e_cn e_M t_scn g_vc g_ec g_F g_T g_X g_Z d_vc d_ec d_F d_T d_X d_Z v_pi v_vc v_ec v_F v_T v_X v_Z = some o) : CtV l yX5_commitDraft wsX5_commitDraft rmX5_commitDraft Y [.ref xa] (kfl [gE Y ea er e_cn e_M, gT xa ra ga da va ea sa ca pa t_scn, gG Y ga g_vc g_ec g_F g_T g_X g_Z, gG Y da d_vc d_ec d_F d_T d_X d_Z, gA Y va vg v_pi, gG Y (fun j => vg (0 + j)) (v_vc 0) (v_ec 0) (v_F 0) (v_T 0) (v_X 0) (v_Z 0), gG Y (fun j => vg (5 + j)) (v_vc 1) (v_ec 1) (v_F 1) (v_T 1) (v_X 1) (v_Z 1), gG Y (fun j => vg (10 + j)) (v_vc 2) (v_ec 2) (v_F 2) (v_T 2) (v_X 2) (v_Z 2), gG Y (fun j => vg (15 + j)) (v_vc 3) (v_ec 3) (v_F 3) (v_T 3) (v_X 3) (v_Z 3), gG Y (fun j => vg (20 + j)) (v_vc 4) (v_ec 4) (v_F 4) (v_T 4) (v_X 4) (v_Z 4)]) (kfl [gE Y ea er o.1 o.2.1, gT xa ra ga da va ea sa ca pa o.2.2.1, gG Y ga o.2.2.2.1 o.2.2.2.2.1 o.2.2.2.2.2.1 o.2.2.2.2.2.2.1 o.2.2.2.2.2.2.2.1 o.2.2.2.2.2.2.2.2.1, gG Y da d_vc d_ec d_F d_T d_X d_Z, gA Y va vg o.2.2.2.2.2.2.2.2.2.1, gG Y (fun j => vg (0 + j)) (o.2.2.2.2.2.2.2.2.2.2.1 0) (o.2.2.2.2.2.2.2.2.2.2.2.1 0) (o.2.2.2.2.2.2.2.2.2.2.2.2.1 0) (o.2.2.2.2.2.2.2.2.2.2.2.2.2.1 0) (o.2.2.2.2.2.2.2.2.2.2.2.2.2.2.1 0) (o.2.2.2.2.2.2.2.2.2.2.2.2.2.2.2 0), gG Y (fun j => vg (5 + j)) (o.2.2.2.2.2.2.2.2.2.2.1 1) (o.2.2.2.2.2.2.2.2.2.2.2.1 1) (o.2.2.2.2.2.2.2.2.2.2.2.2.1 1) (o.2.2.2.2.2.2.2.2.2.2.2.2.2.1 1) (o.2.2.2.2.2.2.2.2.2.2.2.2.2.2.1 1) (o.2.2.2.2.2.2.2.2.2.2.2.2.2.2.2 1), gG Y (fun j => vg (10 + j)) (o.2.2.2.2.2.2.2.2.2.2.1 2) (o.2.2.2.2.2.2.2.2.2.2.2.1 2) (o.2.2.2.2.2.2.2.2.2.2.2.2.1 2) (o.2.2.2.2.2.2.2.2.2.2.2.2.2.1 2) (o.2.2.2.2.2.2.2.2.2.2.2.2.2.2.1 2) (o.2.2.2.2.2.2.2.2.2.2.2.2.2.2.2 2), gG Y (fun j => vg (15 + j)) (o.2.2.2.2.2.2.2.2.2.2.1 3) (o.2.2.2.2.2.2.2.2.2.2.2.1 3) (o.2.2.2.2.2.2.2.2.2.2.2.2.1 3) (o.2.2.2.2.2.2.2.2.2.2.2.2.2.1 3) (o.2.2.2.2.2.2.2.2.2.2.2.2.2.2.1 3) (o.2.2.2.2.2.2.2.2.2.2.2.2.2.2.2 3), gG Y (fun j => vg (20 + j)) (o.2.2.2.2.2.2.2.2.2.2.1 4) (o.2.2.2.2.2.2.2.2.2.2.2.1 4) (o.2.2.2.2.2.2.2.2.2.2.2.2.1 4) (o.2.2.2.2.2.2.2.2.2.2.2.2.2.1 4) (o.2.2.2.2.2.2.2.2.2.2.2.2.2.2.1 4) (o.2.2.2.2.2.2.2.2.2.2.2.2.2.2.2 4)]) := by
  refine ctV_intro (cc := cX5_commitDraft) (maxL := 1) (own := RX5) (by decide +kernel) rfl rfl (Nat.le_of_ble_eq_true rfl) rfl ?_
  intro X A hX _ hret
  have hin5 : ∀ w ∈ u_ws RX5 TX5 9, w ∈ wsX5_commitDraft := by decide +kernel
  have f0 := hX.w (Cond.fieldLink RX5 16 "PeriodicNet" "graph" "LPeriodicNet$Graph;") (by decide +kernel)
  have f1 := hX.w (Cond.fieldLink RX5 20 "PeriodicNet" "draft" "LPeriodicNet$Graph;") (by decide +kernel)
  have f2 := hX.w (Cond.fieldLink RX5 34 "PeriodicNet" "ends" "LPeriodicNet$Ends;") (by decide +kernel)
  unfold pX5_commitDraft at h
  refine kw_lv (lv' := [(0, .ref xa)]) [0] rfl ?_
  refine kw_aload_n hX 0 dX5_commitDraft_0 rfl 0 rfl ?_
  obtain ⟨v1, hc2, h⟩ := kb_some h
  refine kw_callV_V hX 1 (As := []) (rest := []) (kX5_saveGraph (kx_l X) Y xa ra ga da va ea sa ca pa vg t_scn g_vc g_ec g_F g_T g_X g_Z v_pi v_vc v_ec v_F v_T v_X v_Z hc2) gX5_commitDraft_X5_saveGraph rfl 0 rfl hdV_X5_saveGraph ⟨rfl, rfl⟩ ⟨by decide, by decide⟩ ⟨Nat.zero_le _, Nat.zero_le _⟩ rfl (Nat.le_of_ble_eq_true rfl) [1, 2, 4, 5, 6, 7, 8, 9] (by decide) rfl (kfc gT_f (kfc rfl (kfc gA_f (kfc gG_f (kfc gG_f (kfc gG_f (kfc gG_f (kfc gG_f kfn0)))))))) (gs1 := [gE Y ea er e_cn e_M, gT xa ra ga da va ea sa ca pa v1.1, gG Y ga g_vc g_ec g_F g_T g_X g_Z, gG Y da d_vc d_ec d_F d_T d_X d_Z, gA Y va vg v1.2.1, gG Y (fun j => vg (0 + j)) (v1.2.2.1 0) (v1.2.2.2.1 0) (v1.2.2.2.2.1 0) (v1.2.2.2.2.2.1 0) (v1.2.2.2.2.2.2.1 0) (v1.2.2.2.2.2.2.2 0), gG Y (fun j => vg (5 + j)) (v1.2.2.1 1) (v1.2.2.2.1 1) (v1.2.2.2.2.1 1) (v1.2.2.2.2.2.1 1) (v1.2.2.2.2.2.2.1 1) (v1.2.2.2.2.2.2.2 1), gG Y (fun j => vg (10 + j)) (v1.2.2.1 2) (v1.2.2.2.1 2) (v1.2.2.2.2.1 2) (v1.2.2.2.2.2.1 2) (v1.2.2.2.2.2.2.1 2) (v1.2.2.2.2.2.2.2 2), gG Y (fun j => vg (15 + j)) (v1.2.2.1 3) (v1.2.2.2.1 3) (v1.2.2.2.2.1 3) (v1.2.2.2.2.2.1 3) (v1.2.2.2.2.2.2.1 3) (v1.2.2.2.2.2.2.2 3), gG Y (fun j => vg (20 + j)) (v1.2.2.1 4) (v1.2.2.2.1 4) (v1.2.2.2.2.1 4) (v1.2.2.2.2.2.1 4) (v1.2.2.2.2.2.2.1 4) (v1.2.2.2.2.2.2.2 4)]) rfl 23 5 rfl rfl rfl dX5_commitDraft_1 ?_
  refine kw_aload_n hX 4 dX5_commitDraft_4 rfl 0 rfl ?_
  refine kw_get hX 5 (C := RX5) (T := TX5) (N := 9) hin5 1 f0 (fun _ h => h) 23 rfl rfl (by decide) rfl dX5_commitDraft_5 ?_
  refine kw_aload_n hX 8 dX5_commitDraft_8 rfl 0 rfl ?_
  refine kw_get hX 9 (C := RX5) (T := TX5) (N := 9) hin5 2 f1 (fun _ h => h) 23 rfl rfl (by decide) rfl dX5_commitDraft_9 ?_
  obtain ⟨v3, hc4, h⟩ := kb_some h
  refine kw_callV_V hX 12 (As := [.ref (da 0)]) (rest := []) (kX2_copyFrom (kx_l X) Y ga da g_vc g_ec g_F g_T g_X g_Z d_vc d_ec d_F d_T d_X d_Z hc4) gX5_commitDraft_X2_copyFrom rfl 1 rfl hdV_X2_copyFrom ⟨rfl, rfl⟩ ⟨by decide, by decide⟩ ⟨Nat.zero_le _, Nat.zero_le _⟩ rfl (Nat.le_of_ble_eq_true rfl) [2, 3] (by decide) rfl (kfc gG_f (kfc rfl kfn0)) (gs1 := [gE Y ea er e_cn e_M, gT xa ra ga da va ea sa ca pa v1.1, gG Y ga v3.1 v3.2.1 v3.2.2.1 v3.2.2.2.1 v3.2.2.2.2.1 v3.2.2.2.2.2, gG Y da d_vc d_ec d_F d_T d_X d_Z, gA Y va vg v1.2.1, gG Y (fun j => vg (0 + j)) (v1.2.2.1 0) (v1.2.2.2.1 0) (v1.2.2.2.2.1 0) (v1.2.2.2.2.2.1 0) (v1.2.2.2.2.2.2.1 0) (v1.2.2.2.2.2.2.2 0), gG Y (fun j => vg (5 + j)) (v1.2.2.1 1) (v1.2.2.2.1 1) (v1.2.2.2.2.1 1) (v1.2.2.2.2.2.1 1) (v1.2.2.2.2.2.2.1 1) (v1.2.2.2.2.2.2.2 1), gG Y (fun j => vg (10 + j)) (v1.2.2.1 2) (v1.2.2.2.1 2) (v1.2.2.2.2.1 2) (v1.2.2.2.2.2.1 2) (v1.2.2.2.2.2.2.1 2) (v1.2.2.2.2.2.2.2 2), gG Y (fun j => vg (15 + j)) (v1.2.2.1 3) (v1.2.2.2.1 3) (v1.2.2.2.2.1 3) (v1.2.2.2.2.2.1 3) (v1.2.2.2.2.2.2.1 3) (v1.2.2.2.2.2.2.2 3), gG Y (fun j => vg (20 + j)) (v1.2.2.1 4) (v1.2.2.2.1 4) (v1.2.2.2.2.1 4) (v1.2.2.2.2.2.1 4) (v1.2.2.2.2.2.2.1 4) (v1.2.2.2.2.2.2.2 4)]) rfl 24 2 rfl rfl rfl dX5_commitDraft_12 ?_
  refine kw_aload_n hX 15 dX5_commitDraft_15 rfl 0 rfl ?_
  refine kw_get hX 16 (C := RX5) (T := TX5) (N := 9) hin5 5 f2 (fun _ h => h) 23 rfl rfl (by decide) rfl dX5_commitDraft_16 ?_
  refine kw_aload_n hX 19 dX5_commitDraft_19 rfl 0 rfl ?_
  refine kw_get hX 20 (C := RX5) (T := TX5) (N := 9) hin5 1 f0 (fun _ h => h) 23 rfl rfl (by decide) rfl dX5_commitDraft_20 ?_
  obtain ⟨v5, hc6, h⟩ := kb_some h
  refine kw_callV_V hX 23 (As := [.ref (ga 0)]) (rest := []) (kX1_listAll (kx_l X) Y ea er ga e_cn e_M v3.1 v3.2.1 v3.2.2.1 v3.2.2.2.1 v3.2.2.2.2.1 v3.2.2.2.2.2 hc6) gX5_commitDraft_X1_listAll rfl 1 rfl hdV_X1_listAll ⟨rfl, rfl⟩ ⟨by decide, by decide⟩ ⟨Nat.zero_le _, Nat.zero_le _⟩ rfl (Nat.le_of_ble_eq_true rfl) [0, 2] (by decide) rfl (kfc gE_f (kfc rfl kfn0)) (gs1 := [gE Y ea er v5.1 v5.2, gT xa ra ga da va ea sa ca pa v1.1, gG Y ga v3.1 v3.2.1 v3.2.2.1 v3.2.2.2.1 v3.2.2.2.2.1 v3.2.2.2.2.2, gG Y da d_vc d_ec d_F d_T d_X d_Z, gA Y va vg v1.2.1, gG Y (fun j => vg (0 + j)) (v1.2.2.1 0) (v1.2.2.2.1 0) (v1.2.2.2.2.1 0) (v1.2.2.2.2.2.1 0) (v1.2.2.2.2.2.2.1 0) (v1.2.2.2.2.2.2.2 0), gG Y (fun j => vg (5 + j)) (v1.2.2.1 1) (v1.2.2.2.1 1) (v1.2.2.2.2.1 1) (v1.2.2.2.2.2.1 1) (v1.2.2.2.2.2.2.1 1) (v1.2.2.2.2.2.2.2 1), gG Y (fun j => vg (10 + j)) (v1.2.2.1 2) (v1.2.2.2.1 2) (v1.2.2.2.2.1 2) (v1.2.2.2.2.2.1 2) (v1.2.2.2.2.2.2.1 2) (v1.2.2.2.2.2.2.2 2), gG Y (fun j => vg (15 + j)) (v1.2.2.1 3) (v1.2.2.2.1 3) (v1.2.2.2.2.1 3) (v1.2.2.2.2.2.1 3) (v1.2.2.2.2.2.2.1 3) (v1.2.2.2.2.2.2.2 3), gG Y (fun j => vg (20 + j)) (v1.2.2.1 4) (v1.2.2.2.1 4) (v1.2.2.2.2.1 4) (v1.2.2.2.2.2.1 4) (v1.2.2.2.2.2.2.1 4) (v1.2.2.2.2.2.2.2 4)]) rfl 0 1 rfl rfl rfl dX5_commitDraft_23 ?_
  obtain rfl := Option.some.inj h
  exact hret _ _ dX5_commitDraft_26
def pX5_fail (a1 : Int32) (r_er : Nat → Int32) : Option (Int32 × (Nat → Int32)) := kb ((if ((-2) - a1) < 0 then some r_er else (if (6 : Int32) ≤ ((-2) - a1) then some r_er else kgd (kin ((-2) - a1) 6) (kgd (kin ((-2) - a1) 6) (some (upd r_er (((-2) - a1) : Int32).toNatClampNeg ((r_er (((-2) - a1) : Int32).toNatClampNeg) + 1)))))) : Option ((Nat → Int32))) (fun v5 => some (a1, v5))
def rmX5_fail : Room := { frames := 0, cells := 0, slots := 0, locals := 0 }
theorem hdV_X5_fail : yX5_fail.cls = RX5 ∧ yX5_fail.cls ≠ "java/lang/invoke/MethodHandle" ∧ yX5_fail.cls ≠ "java/lang/invoke/VarHandle" ∧ (parseMethodDescriptor yX5_fail.desc).map (fun d => d.parameters.length) = some 1 := ⟨rfl, by decide +kernel, by decide +kernel, by decide +kernel⟩
set_option maxHeartbeats 4000000 in
set_option maxRecDepth 100000 in
theorem kX5_fail (l : Launch) (Y : KY) (xa : Nat) (ra : Nat) (ga : Nat → Nat) (da : Nat → Nat) (va : Nat) (ea : Nat → Nat) (sa : Nat → Nat) (ca : Nat → Nat) (pa : Nat → Nat) (t_scn : Int32) (r_er : Nat → Int32) (a1 : Int32) {o : Int32 × (Nat → Int32)} (h : pX5_fail a1 r_er = some o) : CtI l yX5_fail wsX5_fail rmX5_fail Y [.ref xa, .int a1] (kfl [gT xa ra ga da va ea sa ca pa t_scn, gR Y ra r_er]) o.1 (kfl [gT xa ra ga da va ea sa ca pa t_scn, gR Y ra o.2]) := by
  refine ctI_intro (cc := cX5_fail) (maxL := 3) (own := RX5) (by decide +kernel) rfl rfl (Nat.le_of_ble_eq_true rfl) rfl ?_
  intro X A hX _ hret
  have hin5 : ∀ w ∈ u_ws RX5 TX5 9, w ∈ wsX5_fail := by decide +kernel
  have f0 := hX.w (Cond.fieldLink RX5 9 "PeriodicNet" "errors" "[I") (by decide +kernel)
  unfold pX5_fail at h
  refine kw_lv (lv' := [(0, .ref xa), (1, .int a1)]) [0, 1] rfl ?_
  refine kw_bipush hX 0 dX5_fail_0 kcb_m2 ?_
  refine kw_iload_n hX 2 dX5_fail_2 rfl 1 rfl ?_
  refine kw_isub hX 3 dX5_fail_3 ?_
  refine kw_istore_n (lv' := [(2, .int ((-2) - a1)), (0, .ref xa), (1, .int a1)]) hX 4 dX5_fail_4 rfl (by decide) rfl ?_
  refine kw_iload_n hX 5 dX5_fail_5 rfl 0 rfl ?_
  obtain ⟨v5, hj7, h⟩ := kb_some h
  have J6 : KW X Y A 3 0 0 (kfl [gT xa ra ga da va ea sa ca pa t_scn, gR Y ra v5]) [(1, .int a1)] 25 [] := by
    refine kw_iload_n hX 25 dX5_fail_25 rfl 0 rfl ?_
    obtain rfl := Option.some.inj h
    exact hret _ _ dX5_fail_26 rfl
  have h := hj7
  refine kw_if_lt hX 6 25 dX5_fail_6 (by decide) (fun c1 => ?_) (fun c1 => ?_)
  · have h := kif_t c1 h
    obtain rfl := Option.some.inj h
    refine kw_lv (lv' := [(1, .int a1)]) [2] rfl ?_
    exact J6
  · have h := kif_f c1 h
    refine kw_iload_n hX 9 dX5_fail_9 rfl 0 rfl ?_
    refine kw_bipush hX 10 dX5_fail_10 kcb_6 ?_
    refine kw_icmp_ge hX 12 25 dX5_fail_12 (by decide) (fun c2 => ?_) (fun c2 => ?_)
    · have h := kif_t c2 h
      obtain rfl := Option.some.inj h
      refine kw_lv (lv' := [(1, .int a1)]) [2] rfl ?_
      exact J6
    · have h := kif_f c2 h
      refine kw_aload_n hX 15 dX5_fail_15 rfl 1 rfl ?_
      refine kw_get hX 16 (C := RX5) (T := TX5) (N := 9) hin5 0 f0 (fun _ h => h) 0 rfl rfl (by decide) rfl dX5_fail_16 ?_
      refine kw_iload_n hX 19 dX5_fail_19 rfl 0 rfl ?_
      refine kw_dup2 hX 20 dX5_fail_20 rfl rfl ?_
      obtain ⟨g3, h⟩ := kgd_some h
      refine kw_iald hX 21 1 rfl g3 dX5_fail_21 ?_
      refine kw_iconst hX 22 dX5_fail_22 kci_1 ?_
      refine kw_iadd hX 23 dX5_fail_23 ?_
      obtain ⟨g4, h⟩ := kgd_some h
      refine kw_iast hX 24 (ws' := (kfl [gT xa ra ga da va ea sa ca pa t_scn, gR Y ra (upd r_er (((-2) - a1) : Int32).toNatClampNeg ((r_er (((-2) - a1) : Int32).toNatClampNeg) + 1))])) 1 rfl g4 rfl dX5_fail_24 ?_
      obtain rfl := Option.some.inj h
      refine kw_lv (lv' := [(1, .int a1)]) [2] rfl ?_
      exact J6
def pX5_reset (a1 : Int32) (e_cn : Nat → Int32) (e_M : Nat → Nat → Int32) (t_scn : Int32) (r_er : Nat → Int32) (g_vc : Int32) (g_ec : Int32) (g_F : Nat → Int32) (g_T : Nat → Int32) (g_X : Nat → Int32) (g_Z : Nat → Int32) (d_vc : Int32) (d_ec : Int32) (d_F : Nat → Int32) (d_T : Nat → Int32) (d_X : Nat → Int32) (d_Z : Nat → Int32) (v_pi : Nat → Nat) (v_vc : Nat → Int32) (v_ec : Nat → Int32) (v_F : Nat → Nat → Int32) (v_T : Nat → Nat → Int32) (v_X : Nat → Nat → Int32) (v_Z : Nat → Nat → Int32) : Option (Int32 × (Nat → Int32) × (Nat → Nat → Int32) × Int32 × (Nat → Int32) × Int32 × Int32 × (Nat → Int32) × (Nat → Int32) × (Nat → Int32) × (Nat → Int32) × Int32 × Int32 × (Nat → Nat) × (Nat → Int32) × (Nat → Int32) × (Nat → Nat → Int32) × (Nat → Nat → Int32) × (Nat → Nat → Int32) × (Nat → Nat → Int32)) := (if a1 < (1 : Int32) then kb (pX5_fail (-2) r_er) (fun v2 => some (v2.1, e_cn, e_M, t_scn, v2.2, g_vc, g_ec, g_F, g_T, g_X, g_Z, d_vc, d_ec, v_pi, v_vc, v_ec, v_F, v_T, v_X, v_Z)) else (if a1 ≤ (6 : Int32) then kb (pX2_clear a1 d_vc d_ec) (fun v5 => kb (pX5_commitDraft e_cn e_M t_scn g_vc g_ec g_F g_T g_X g_Z v5.1 v5.2 d_F d_T d_X d_Z v_pi v_vc v_ec v_F v_T v_X v_Z) (fun v7 => some (g_vc, v7.1, v7.2.1, v7.2.2.1, r_er, v7.2.2.2.1, v7.2.2.2.2.1, v7.2.2.2.2.2.1, v7.2.2.2.2.2.2.1, v7.2.2.2.2.2.2.2.1, v7.2.2.2.2.2.2.2.2.1, v5.1, v5.2, v7.2.2.2.2.2.2.2.2.2.1, v7.2.2.2.2.2.2.2.2.2.2.1, v7.2.2.2.2.2.2.2.2.2.2.2.1, v7.2.2.2.2.2.2.2.2.2.2.2.2.1, v7.2.2.2.2.2.2.2.2.2.2.2.2.2.1, v7.2.2.2.2.2.2.2.2.2.2.2.2.2.2.1, v7.2.2.2.2.2.2.2.2.2.2.2.2.2.2.2))) else kb (pX5_fail (-2) r_er) (fun v9 => some (v9.1, e_cn, e_M, t_scn, v9.2, g_vc, g_ec, g_F, g_T, g_X, g_Z, d_vc, d_ec, v_pi, v_vc, v_ec, v_F, v_T, v_X, v_Z))))
def rmX5_reset : Room := { frames := 5, cells := 0, slots := 0, locals := 113 }
theorem hdV_X5_reset : yX5_reset.cls = RX5 ∧ yX5_reset.cls ≠ "java/lang/invoke/MethodHandle" ∧ yX5_reset.cls ≠ "java/lang/invoke/VarHandle" ∧ (parseMethodDescriptor yX5_reset.desc).map (fun d => d.parameters.length) = some 1 := ⟨rfl, by decide +kernel, by decide +kernel, by decide +kernel⟩
set_option maxHeartbeats 4000000 in
set_option maxRecDepth 100000 in
theorem kX5_reset (l : Launch) (Y : KY) (xa : Nat) (ra : Nat) (ga : Nat → Nat) (da : Nat → Nat) (va : Nat) (ea : Nat → Nat) (sa : Nat → Nat) (ca : Nat → Nat) (pa : Nat → Nat) (er : Nat → Nat) (vg : Nat → Nat) (e_cn : Nat → Int32) (e_M : Nat → Nat → Int32) (t_scn : Int32) (r_er : Nat → Int32) (g_vc : Int32) (g_ec : Int32) (g_F : Nat → Int32) (g_T : Nat → Int32) (g_X : Nat → Int32) (g_Z : Nat → Int32) (d_vc : Int32) (d_ec : Int32) (d_F : Nat → Int32) (d_T : Nat → Int32) (d_X : Nat → Int32) (d_Z : Nat → Int32) (v_pi : Nat → Nat) (v_vc : Nat → Int32) (v_ec : Nat → Int32) (v_F : Nat → Nat → Int32) (v_T : Nat → Nat → Int32) (v_X : Nat → Nat → Int32) (v_Z : Nat → Nat → Int32) (a1 : Int32) {o : Int32 × (Nat → Int32) × (Nat → Nat → Int32) × Int32 × (Nat → Int32) × Int32 × Int32 × (Nat → Int32) × (Nat → Int32) × (Nat → Int32) × (Nat → Int32) × Int32 × Int32 × (Nat → Nat) × (Nat → Int32) × (Nat → Int32) × (Nat → Nat → Int32) × (Nat → Nat → Int32) × (Nat → Nat → Int32) × (Nat → Nat → Int32)} (h : pX5_reset a1 e_cn e_M t_scn r_er g_vc g_ec g_F g_T g_X g_Z d_vc d_ec d_F d_T d_X d_Z v_pi v_vc v_ec v_F v_T v_X v_Z = some o) : CtI l yX5_reset wsX5_reset rmX5_reset Y [.ref xa, .int a1] (kfl [gE Y ea er e_cn e_M, gT xa ra ga da va ea sa ca pa t_scn, gR Y ra r_er, gG Y ga g_vc g_ec g_F g_T g_X g_Z, gG Y da d_vc d_ec d_F d_T d_X d_Z, gA Y va vg v_pi, gG Y (fun j => vg (0 + j)) (v_vc 0) (v_ec 0) (v_F 0) (v_T 0) (v_X 0) (v_Z 0), gG Y (fun j => vg (5 + j)) (v_vc 1) (v_ec 1) (v_F 1) (v_T 1) (v_X 1) (v_Z 1), gG Y (fun j => vg (10 + j)) (v_vc 2) (v_ec 2) (v_F 2) (v_T 2) (v_X 2) (v_Z 2), gG Y (fun j => vg (15 + j)) (v_vc 3) (v_ec 3) (v_F 3) (v_T 3) (v_X 3) (v_Z 3), gG Y (fun j => vg (20 + j)) (v_vc 4) (v_ec 4) (v_F 4) (v_T 4) (v_X 4) (v_Z 4)]) o.1 (kfl [gE Y ea er o.2.1 o.2.2.1, gT xa ra ga da va ea sa ca pa o.2.2.2.1, gR Y ra o.2.2.2.2.1, gG Y ga o.2.2.2.2.2.1 o.2.2.2.2.2.2.1 o.2.2.2.2.2.2.2.1 o.2.2.2.2.2.2.2.2.1 o.2.2.2.2.2.2.2.2.2.1 o.2.2.2.2.2.2.2.2.2.2.1, gG Y da o.2.2.2.2.2.2.2.2.2.2.2.1 o.2.2.2.2.2.2.2.2.2.2.2.2.1 d_F d_T d_X d_Z, gA Y va vg o.2.2.2.2.2.2.2.2.2.2.2.2.2.1, gG Y (fun j => vg (0 + j)) (o.2.2.2.2.2.2.2.2.2.2.2.2.2.2.1 0) (o.2.2.2.2.2.2.2.2.2.2.2.2.2.2.2.1 0) (o.2.2.2.2.2.2.2.2.2.2.2.2.2.2.2.2.1 0) (o.2.2.2.2.2.2.2.2.2.2.2.2.2.2.2.2.2.1 0) (o.2.2.2.2.2.2.2.2.2.2.2.2.2.2.2.2.2.2.1 0) (o.2.2.2.2.2.2.2.2.2.2.2.2.2.2.2.2.2.2.2 0), gG Y (fun j => vg (5 + j)) (o.2.2.2.2.2.2.2.2.2.2.2.2.2.2.1 1) (o.2.2.2.2.2.2.2.2.2.2.2.2.2.2.2.1 1) (o.2.2.2.2.2.2.2.2.2.2.2.2.2.2.2.2.1 1) (o.2.2.2.2.2.2.2.2.2.2.2.2.2.2.2.2.2.1 1) (o.2.2.2.2.2.2.2.2.2.2.2.2.2.2.2.2.2.2.1 1) (o.2.2.2.2.2.2.2.2.2.2.2.2.2.2.2.2.2.2.2 1), gG Y (fun j => vg (10 + j)) (o.2.2.2.2.2.2.2.2.2.2.2.2.2.2.1 2) (o.2.2.2.2.2.2.2.2.2.2.2.2.2.2.2.1 2) (o.2.2.2.2.2.2.2.2.2.2.2.2.2.2.2.2.1 2) (o.2.2.2.2.2.2.2.2.2.2.2.2.2.2.2.2.2.1 2) (o.2.2.2.2.2.2.2.2.2.2.2.2.2.2.2.2.2.2.1 2) (o.2.2.2.2.2.2.2.2.2.2.2.2.2.2.2.2.2.2.2 2), gG Y (fun j => vg (15 + j)) (o.2.2.2.2.2.2.2.2.2.2.2.2.2.2.1 3) (o.2.2.2.2.2.2.2.2.2.2.2.2.2.2.2.1 3) (o.2.2.2.2.2.2.2.2.2.2.2.2.2.2.2.2.1 3) (o.2.2.2.2.2.2.2.2.2.2.2.2.2.2.2.2.2.1 3) (o.2.2.2.2.2.2.2.2.2.2.2.2.2.2.2.2.2.2.1 3) (o.2.2.2.2.2.2.2.2.2.2.2.2.2.2.2.2.2.2.2 3), gG Y (fun j => vg (20 + j)) (o.2.2.2.2.2.2.2.2.2.2.2.2.2.2.1 4) (o.2.2.2.2.2.2.2.2.2.2.2.2.2.2.2.1 4) (o.2.2.2.2.2.2.2.2.2.2.2.2.2.2.2.2.1 4) (o.2.2.2.2.2.2.2.2.2.2.2.2.2.2.2.2.2.1 4) (o.2.2.2.2.2.2.2.2.2.2.2.2.2.2.2.2.2.2.1 4) (o.2.2.2.2.2.2.2.2.2.2.2.2.2.2.2.2.2.2.2 4)]) := by
  refine ctI_intro (cc := cX5_reset) (maxL := 3) (own := RX5) (by decide +kernel) rfl rfl (Nat.le_of_ble_eq_true rfl) rfl ?_
  intro X A hX _ hret
  have hin2 : ∀ w ∈ u_ws RX2 TX2 6, w ∈ wsX5_reset := by decide +kernel
  have hin5 : ∀ w ∈ u_ws RX5 TX5 9, w ∈ wsX5_reset := by decide +kernel
  have f0 := hX.w (Cond.fieldLink RX5 16 "PeriodicNet" "graph" "LPeriodicNet$Graph;") (by decide +kernel)
  have f1 := hX.w (Cond.fieldLink RX5 63 "PeriodicNet$Graph" "vertexCount" "I") (by decide +kernel)
  have f2 := hX.w (Cond.fieldLink RX5 20 "PeriodicNet" "draft" "LPeriodicNet$Graph;") (by decide +kernel)
  unfold pX5_reset at h
  refine kw_lv (lv' := [(0, .ref xa), (1, .int a1)]) [0, 1] rfl ?_
  refine kw_iload_n hX 0 dX5_reset_0 rfl 1 rfl ?_
  refine kw_iconst hX 1 dX5_reset_1 kci_1 ?_
  refine kw_icmp_lt hX 2 11 dX5_reset_2 (by decide) (fun c1 => ?_) (fun c1 => ?_)
  · have h := kif_t c1 h
    refine kw_aload_n hX 11 dX5_reset_11 rfl 0 rfl ?_
    refine kw_bipush hX 12 dX5_reset_12 kcb_m2 ?_
    obtain ⟨v2, hc3, h⟩ := kb_some h
    refine kw_callV_I hX 14 (As := [.int (-2)]) (rest := []) (kX5_fail (kx_l X) Y xa ra ga da va ea sa ca pa t_scn r_er (-2) hc3) gX5_reset_X5_fail rfl 1 rfl hdV_X5_fail ⟨rfl, rfl⟩ ⟨by decide, by decide⟩ ⟨Nat.zero_le _, Nat.zero_le _⟩ rfl (Nat.le_of_ble_eq_true rfl) [1, 2] (by decide) rfl (kfc rfl (kfc gR_f kfn0)) (gs1 := [gE Y ea er e_cn e_M, gT xa ra ga da va ea sa ca pa t_scn, gR Y ra v2.2, gG Y ga g_vc g_ec g_F g_T g_X g_Z, gG Y da d_vc d_ec d_F d_T d_X d_Z, gA Y va vg v_pi, gG Y (fun j => vg (0 + j)) (v_vc 0) (v_ec 0) (v_F 0) (v_T 0) (v_X 0) (v_Z 0), gG Y (fun j => vg (5 + j)) (v_vc 1) (v_ec 1) (v_F 1) (v_T 1) (v_X 1) (v_Z 1), gG Y (fun j => vg (10 + j)) (v_vc 2) (v_ec 2) (v_F 2) (v_T 2) (v_X 2) (v_Z 2), gG Y (fun j => vg (15 + j)) (v_vc 3) (v_ec 3) (v_F 3) (v_T 3) (v_X 3) (v_Z 3), gG Y (fun j => vg (20 + j)) (v_vc 4) (v_ec 4) (v_F 4) (v_T 4) (v_X 4) (v_Z 4)]) rfl 23 5 rfl rfl rfl dX5_reset_14 ?_
    obtain rfl := Option.some.inj h
    exact hret _ _ dX5_reset_17 rfl
  · have h := kif_f c1 h
    refine kw_iload_n hX 5 dX5_reset_5 rfl 1 rfl ?_
    refine kw_bipush hX 6 dX5_reset_6 kcb_6 ?_
    refine kw_icmp_le hX 8 18 dX5_reset_8 (by decide) (fun c4 => ?_) (fun c4 => ?_)
    · have h := kif_t c4 h
      refine kw_aload_n hX 18 dX5_reset_18 rfl 0 rfl ?_
      refine kw_get hX 19 (C := RX5) (T := TX5) (N := 9) hin5 1 f0 (fun _ h => h) 23 rfl rfl (by decide) rfl dX5_reset_19 ?_
      refine kw_get hX 22 (C := RX2) (T := TX2) (N := 6) hin2 0 f1 (fun _ h => h) 25 rfl rfl (by decide) rfl dX5_reset_22 ?_
      refine kw_istore_n (lv' := [(2, .int g_vc), (0, .ref xa), (1, .int a1)]) hX 25 dX5_reset_25 rfl (by decide) rfl ?_
      refine kw_aload_n hX 26 dX5_reset_26 rfl 1 rfl ?_
      refine kw_get hX 27 (C := RX5) (T := TX5) (N := 9) hin5 2 f2 (fun _ h => h) 23 rfl rfl (by decide) rfl dX5_reset_27 ?_
      refine kw_iload_n hX 30 dX5_reset_30 rfl 2 rfl ?_
      obtain ⟨v5, hc6, h⟩ := kb_some h
      refine kw_callV_V hX 31 (As := [.int a1]) (rest := []) (kX2_clear (kx_l X) Y da d_vc d_ec d_F d_T d_X d_Z a1 hc6) gX5_reset_X2_clear rfl 1 rfl hdV_X2_clear ⟨rfl, rfl⟩ ⟨by decide, by decide⟩ ⟨Nat.zero_le _, Nat.zero_le _⟩ rfl (Nat.le_of_ble_eq_true rfl) [4] (by decide) rfl (kfc gG_f kfn0) (gs1 := [gE Y ea er e_cn e_M, gT xa ra ga da va ea sa ca pa t_scn, gR Y ra r_er, gG Y ga g_vc g_ec g_F g_T g_X g_Z, gG Y da v5.1 v5.2 d_F d_T d_X d_Z, gA Y va vg v_pi, gG Y (fun j => vg (0 + j)) (v_vc 0) (v_ec 0) (v_F 0) (v_T 0) (v_X 0) (v_Z 0), gG Y (fun j => vg (5 + j)) (v_vc 1) (v_ec 1) (v_F 1) (v_T 1) (v_X 1) (v_Z 1), gG Y (fun j => vg (10 + j)) (v_vc 2) (v_ec 2) (v_F 2) (v_T 2) (v_X 2) (v_Z 2), gG Y (fun j => vg (15 + j)) (v_vc 3) (v_ec 3) (v_F 3) (v_T 3) (v_X 3) (v_Z 3), gG Y (fun j => vg (20 + j)) (v_vc 4) (v_ec 4) (v_F 4) (v_T 4) (v_X 4) (v_Z 4)]) rfl 30 2 rfl rfl rfl dX5_reset_31 ?_
      refine kw_aload_n hX 34 dX5_reset_34 rfl 1 rfl ?_
      obtain ⟨v7, hc8, h⟩ := kb_some h
      refine kw_callV_V hX 35 (As := []) (rest := []) (kX5_commitDraft (kx_l X) Y xa ra ga da va ea sa ca pa er vg e_cn e_M t_scn g_vc g_ec g_F g_T g_X g_Z v5.1 v5.2 d_F d_T d_X d_Z v_pi v_vc v_ec v_F v_T v_X v_Z hc8) gX5_reset_X5_commitDraft rfl 0 rfl hdV_X5_commitDraft ⟨rfl, rfl⟩ ⟨by decide, by decide⟩ ⟨Nat.zero_le _, Nat.zero_le _⟩ rfl (Nat.le_of_ble_eq_true rfl) [0, 1, 3, 4, 5, 6, 7, 8, 9, 10] (by decide) rfl (kfc gE_f (kfc gT_f (kfc gG_f (kfc rfl (kfc gA_f (kfc gG_f (kfc gG_f (kfc gG_f (kfc gG_f (kfc gG_f kfn0)))))))))) (gs1 := [gE Y ea er v7.1 v7.2.1, gT xa ra ga da va ea sa ca pa v7.2.2.1, gR Y ra r_er, gG Y ga v7.2.2.2.1 v7.2.2.2.2.1 v7.2.2.2.2.2.1 v7.2.2.2.2.2.2.1 v7.2.2.2.2.2.2.2.1 v7.2.2.2.2.2.2.2.2.1, gG Y da v5.1 v5.2 d_F d_T d_X d_Z, gA Y va vg v7.2.2.2.2.2.2.2.2.2.1, gG Y (fun j => vg (0 + j)) (v7.2.2.2.2.2.2.2.2.2.2.1 0) (v7.2.2.2.2.2.2.2.2.2.2.2.1 0) (v7.2.2.2.2.2.2.2.2.2.2.2.2.1 0) (v7.2.2.2.2.2.2.2.2.2.2.2.2.2.1 0) (v7.2.2.2.2.2.2.2.2.2.2.2.2.2.2.1 0) (v7.2.2.2.2.2.2.2.2.2.2.2.2.2.2.2 0), gG Y (fun j => vg (5 + j)) (v7.2.2.2.2.2.2.2.2.2.2.1 1) (v7.2.2.2.2.2.2.2.2.2.2.2.1 1) (v7.2.2.2.2.2.2.2.2.2.2.2.2.1 1) (v7.2.2.2.2.2.2.2.2.2.2.2.2.2.1 1) (v7.2.2.2.2.2.2.2.2.2.2.2.2.2.2.1 1) (v7.2.2.2.2.2.2.2.2.2.2.2.2.2.2.2 1), gG Y (fun j => vg (10 + j)) (v7.2.2.2.2.2.2.2.2.2.2.1 2) (v7.2.2.2.2.2.2.2.2.2.2.2.1 2) (v7.2.2.2.2.2.2.2.2.2.2.2.2.1 2) (v7.2.2.2.2.2.2.2.2.2.2.2.2.2.1 2) (v7.2.2.2.2.2.2.2.2.2.2.2.2.2.2.1 2) (v7.2.2.2.2.2.2.2.2.2.2.2.2.2.2.2 2), gG Y (fun j => vg (15 + j)) (v7.2.2.2.2.2.2.2.2.2.2.1 3) (v7.2.2.2.2.2.2.2.2.2.2.2.1 3) (v7.2.2.2.2.2.2.2.2.2.2.2.2.1 3) (v7.2.2.2.2.2.2.2.2.2.2.2.2.2.1 3) (v7.2.2.2.2.2.2.2.2.2.2.2.2.2.2.1 3) (v7.2.2.2.2.2.2.2.2.2.2.2.2.2.2.2 3), gG Y (fun j => vg (20 + j)) (v7.2.2.2.2.2.2.2.2.2.2.1 4) (v7.2.2.2.2.2.2.2.2.2.2.2.1 4) (v7.2.2.2.2.2.2.2.2.2.2.2.2.1 4) (v7.2.2.2.2.2.2.2.2.2.2.2.2.2.1 4) (v7.2.2.2.2.2.2.2.2.2.2.2.2.2.2.1 4) (v7.2.2.2.2.2.2.2.2.2.2.2.2.2.2.2 4)]) rfl 23 5 rfl rfl rfl dX5_reset_35 ?_
      refine kw_iload_n hX 38 dX5_reset_38 rfl 0 rfl ?_
      obtain rfl := Option.some.inj h
      exact hret _ _ dX5_reset_39 rfl
    · have h := kif_f c4 h
      refine kw_aload_n hX 11 dX5_reset_11 rfl 0 rfl ?_
      refine kw_bipush hX 12 dX5_reset_12 kcb_m2 ?_
      obtain ⟨v9, hc10, h⟩ := kb_some h
      refine kw_callV_I hX 14 (As := [.int (-2)]) (rest := []) (kX5_fail (kx_l X) Y xa ra ga da va ea sa ca pa t_scn r_er (-2) hc10) gX5_reset_X5_fail rfl 1 rfl hdV_X5_fail ⟨rfl, rfl⟩ ⟨by decide, by decide⟩ ⟨Nat.zero_le _, Nat.zero_le _⟩ rfl (Nat.le_of_ble_eq_true rfl) [1, 2] (by decide) rfl (kfc rfl (kfc gR_f kfn0)) (gs1 := [gE Y ea er e_cn e_M, gT xa ra ga da va ea sa ca pa t_scn, gR Y ra v9.2, gG Y ga g_vc g_ec g_F g_T g_X g_Z, gG Y da d_vc d_ec d_F d_T d_X d_Z, gA Y va vg v_pi, gG Y (fun j => vg (0 + j)) (v_vc 0) (v_ec 0) (v_F 0) (v_T 0) (v_X 0) (v_Z 0), gG Y (fun j => vg (5 + j)) (v_vc 1) (v_ec 1) (v_F 1) (v_T 1) (v_X 1) (v_Z 1), gG Y (fun j => vg (10 + j)) (v_vc 2) (v_ec 2) (v_F 2) (v_T 2) (v_X 2) (v_Z 2), gG Y (fun j => vg (15 + j)) (v_vc 3) (v_ec 3) (v_F 3) (v_T 3) (v_X 3) (v_Z 3), gG Y (fun j => vg (20 + j)) (v_vc 4) (v_ec 4) (v_F 4) (v_T 4) (v_X 4) (v_Z 4)]) rfl 23 5 rfl rfl rfl dX5_reset_14 ?_
      obtain rfl := Option.some.inj h
      exact hret _ _ dX5_reset_17 rfl
def pX5_isVertex (a1 : Int32) (g_vc : Int32) : Option (Int32) := (if a1 < 0 then some 0 else (if g_vc ≤ a1 then some 0 else some 1))
def rmX5_isVertex : Room := { frames := 0, cells := 0, slots := 0, locals := 0 }
theorem hdV_X5_isVertex : yX5_isVertex.cls = RX5 ∧ yX5_isVertex.cls ≠ "java/lang/invoke/MethodHandle" ∧ yX5_isVertex.cls ≠ "java/lang/invoke/VarHandle" ∧ (parseMethodDescriptor yX5_isVertex.desc).map (fun d => d.parameters.length) = some 1 := ⟨rfl, by decide +kernel, by decide +kernel, by decide +kernel⟩
set_option maxHeartbeats 4000000 in
set_option maxRecDepth 100000 in
theorem kX5_isVertex (l : Launch) (Y : KY) (xa : Nat) (ra : Nat) (ga : Nat → Nat) (da : Nat → Nat) (va : Nat) (ea : Nat → Nat) (sa : Nat → Nat) (ca : Nat → Nat) (pa : Nat → Nat) (t_scn : Int32) (g_vc : Int32) (g_ec : Int32) (g_F : Nat → Int32) (g_T : Nat → Int32) (g_X : Nat → Int32) (g_Z : Nat → Int32) (a1 : Int32) {o : Int32} (h : pX5_isVertex a1 g_vc = some o) : CtI l yX5_isVertex wsX5_isVertex rmX5_isVertex Y [.ref xa, .int a1] (kfl [gT xa ra ga da va ea sa ca pa t_scn, gG Y ga g_vc g_ec g_F g_T g_X g_Z]) o (kfl [gT xa ra ga da va ea sa ca pa t_scn, gG Y ga g_vc g_ec g_F g_T g_X g_Z]) := by
  refine ctI_intro (cc := cX5_isVertex) (maxL := 2) (own := RX5) (by decide +kernel) rfl rfl (Nat.le_of_ble_eq_true rfl) rfl ?_
  intro X A hX _ hret
  have hin2 : ∀ w ∈ u_ws RX2 TX2 6, w ∈ wsX5_isVertex := by decide +kernel
  have hin5 : ∀ w ∈ u_ws RX5 TX5 9, w ∈ wsX5_isVertex := by decide +kernel
  have f0 := hX.w (Cond.fieldLink RX5 16 "PeriodicNet" "graph" "LPeriodicNet$Graph;") (by decide +kernel)
  have f1 := hX.w (Cond.fieldLink RX5 63 "PeriodicNet$Graph" "vertexCount" "I") (by decide +kernel)
  unfold pX5_isVertex at h
  refine kw_lv (lv' := [(0, .ref xa), (1, .int a1)]) [0, 1] rfl ?_
  refine kw_iload_n hX 0 dX5_isVertex_0 rfl 1 rfl ?_
  refine kw_if_lt hX 1 19 dX5_isVertex_1 (by decide) (fun c1 => ?_) (fun c1 => ?_)
  · have h := kif_t c1 h
    refine kw_iconst hX 19 dX5_isVertex_19 kci_0 ?_
    obtain rfl := Option.some.inj h
    exact hret _ _ dX5_isVertex_20 rfl
  · have h := kif_f c1 h
    refine kw_iload_n hX 4 dX5_isVertex_4 rfl 1 rfl ?_
    refine kw_aload_n hX 5 dX5_isVertex_5 rfl 0 rfl ?_
    refine kw_get hX 6 (C := RX5) (T := TX5) (N := 9) hin5 1 f0 (fun _ h => h) 0 rfl rfl (by decide) rfl dX5_isVertex_6 ?_
    refine kw_get hX 9 (C := RX2) (T := TX2) (N := 6) hin2 0 f1 (fun _ h => h) 1 rfl rfl (by decide) rfl dX5_isVertex_9 ?_
    refine kw_icmp_ge hX 12 19 dX5_isVertex_12 (by decide) (fun c2 => ?_) (fun c2 => ?_)
    · have h := kif_t c2 h
      refine kw_iconst hX 19 dX5_isVertex_19 kci_0 ?_
      obtain rfl := Option.some.inj h
      exact hret _ _ dX5_isVertex_20 rfl
    · have h := kif_f c2 h
      refine kw_iconst hX 15 dX5_isVertex_15 kci_1 ?_
      refine kw_goto hX 16 20 dX5_isVertex_16 (by decide) ?_
      obtain rfl := Option.some.inj h
      exact hret _ _ dX5_isVertex_20 rfl
def pX5_addEdge_J59 (l1 : Int32) (l2 : Int32) (l3 : Int32) (l4 : Int32) (z_e_cn : Nat → Int32) (z_e_M : Nat → Nat → Int32) (z_t_scn : Int32) (z_r_er : Nat → Int32) (z_g_vc : Int32) (z_g_ec : Int32) (z_g_F : Nat → Int32) (z_g_T : Nat → Int32) (z_g_X : Nat → Int32) (z_g_Z : Nat → Int32) (z_d_vc : Int32) (z_d_ec : Int32) (z_d_F : Nat → Int32) (z_d_T : Nat → Int32) (z_d_X : Nat → Int32) (z_d_Z : Nat → Int32) (z_v_pi : Nat → Nat) (z_v_vc : Nat → Int32) (z_v_ec : Nat → Int32) (z_v_F : Nat → Nat → Int32) (z_v_T : Nat → Nat → Int32) (z_v_X : Nat → Nat → Int32) (z_v_Z : Nat → Nat → Int32) : Option (Int32 × (Nat → Int32) × (Nat → Nat → Int32) × Int32 × (Nat → Int32) × Int32 × Int32 × (Nat → Int32) × (Nat → Int32) × (Nat → Int32) × (Nat → Int32) × Int32 × Int32 × (Nat → Int32) × (Nat → Int32) × (Nat → Int32) × (Nat → Int32) × (Nat → Nat) × (Nat → Int32) × (Nat → Int32) × (Nat → Nat → Int32) × (Nat → Nat → Int32) × (Nat → Nat → Int32) × (Nat → Nat → Int32)) := kb (pX2_edgeBetween l1 l2 l3 l4 z_g_ec z_g_F z_g_T z_g_X z_g_Z) (fun v20 => (if v20 = ((-1) : Int32) then (if z_g_ec < (12 : Int32) then kb (pX2_copyFrom z_d_vc z_d_ec z_d_F z_d_T z_d_X z_d_Z z_g_vc z_g_ec z_g_F z_g_T z_g_X z_g_Z) (fun v24 => kb (pX2_append l1 l2 l3 l4 v24.2.1 v24.2.2.1 v24.2.2.2.1 v24.2.2.2.2.1 v24.2.2.2.2.2) (fun v26 => kb (pX5_commitDraft z_e_cn z_e_M z_t_scn z_g_vc z_g_ec z_g_F z_g_T z_g_X z_g_Z v24.1 v26.1 v26.2.1 v26.2.2.1 v26.2.2.2.1 v26.2.2.2.2 z_v_pi z_v_vc z_v_ec z_v_F z_v_T z_v_X z_v_Z) (fun v28 => some ((v28.2.2.2.2.1 - 1), v28.1, v28.2.1, v28.2.2.1, z_r_er, v28.2.2.2.1, v28.2.2.2.2.1, v28.2.2.2.2.2.1, v28.2.2.2.2.2.2.1, v28.2.2.2.2.2.2.2.1, v28.2.2.2.2.2.2.2.2.1, v24.1, v26.1, v26.2.1, v26.2.2.1, v26.2.2.2.1, v26.2.2.2.2, v28.2.2.2.2.2.2.2.2.2.1, v28.2.2.2.2.2.2.2.2.2.2.1, v28.2.2.2.2.2.2.2.2.2.2.2.1, v28.2.2.2.2.2.2.2.2.2.2.2.2.1, v28.2.2.2.2.2.2.2.2.2.2.2.2.2.1, v28.2.2.2.2.2.2.2.2.2.2.2.2.2.2.1, v28.2.2.2.2.2.2.2.2.2.2.2.2.2.2.2)))) else kb (pX5_fail (-4) z_r_er) (fun v30 => some (v30.1, z_e_cn, z_e_M, z_t_scn, v30.2, z_g_vc, z_g_ec, z_g_F, z_g_T, z_g_X, z_g_Z, z_d_vc, z_d_ec, z_d_F, z_d_T, z_d_X, z_d_Z, z_v_pi, z_v_vc, z_v_ec, z_v_F, z_v_T, z_v_X, z_v_Z))) else kb (pX5_fail (-3) z_r_er) (fun v32 => some (v32.1, z_e_cn, z_e_M, z_t_scn, v32.2, z_g_vc, z_g_ec, z_g_F, z_g_T, z_g_X, z_g_Z, z_d_vc, z_d_ec, z_d_F, z_d_T, z_d_X, z_d_Z, z_v_pi, z_v_vc, z_v_ec, z_v_F, z_v_T, z_v_X, z_v_Z))))
def pX5_addEdge (a1 : Int32) (a2 : Int32) (a3 : Int32) (a4 : Int32) (e_cn : Nat → Int32) (e_M : Nat → Nat → Int32) (t_scn : Int32) (r_er : Nat → Int32) (g_vc : Int32) (g_ec : Int32) (g_F : Nat → Int32) (g_T : Nat → Int32) (g_X : Nat → Int32) (g_Z : Nat → Int32) (d_vc : Int32) (d_ec : Int32) (d_F : Nat → Int32) (d_T : Nat → Int32) (d_X : Nat → Int32) (d_Z : Nat → Int32) (v_pi : Nat → Nat) (v_vc : Nat → Int32) (v_ec : Nat → Int32) (v_F : Nat → Nat → Int32) (v_T : Nat → Nat → Int32) (v_X : Nat → Nat → Int32) (v_Z : Nat → Nat → Int32) : Option (Int32 × (Nat → Int32) × (Nat → Nat → Int32) × Int32 × (Nat → Int32) × Int32 × Int32 × (Nat → Int32) × (Nat → Int32) × (Nat → Int32) × (Nat → Int32) × Int32 × Int32 × (Nat → Int32) × (Nat → Int32) × (Nat → Int32) × (Nat → Int32) × (Nat → Nat) × (Nat → Int32) × (Nat → Int32) × (Nat → Nat → Int32) × (Nat → Nat → Int32) × (Nat → Nat → Int32) × (Nat → Nat → Int32)) := kb (pX5_isVertex a1 g_vc) (fun v1 => (if v1 = 0 then kb (pX5_fail (-2) r_er) (fun v4 => some (v4.1, e_cn, e_M, t_scn, v4.2, g_vc, g_ec, g_F, g_T, g_X, g_Z, d_vc, d_ec, d_F, d_T, d_X, d_Z, v_pi, v_vc, v_ec, v_F, v_T, v_X, v_Z)) else kb (pX5_isVertex a2 g_vc) (fun v6 => (if v6 = 0 then kb (pX5_fail (-2) r_er) (fun v9 => some (v9.1, e_cn, e_M, t_scn, v9.2, g_vc, g_ec, g_F, g_T, g_X, g_Z, d_vc, d_ec, d_F, d_T, d_X, d_Z, v_pi, v_vc, v_ec, v_F, v_T, v_X, v_Z)) else kb (pX5_isShift a3) (fun v11 => (if v11 = 0 then kb (pX5_fail (-2) r_er) (fun v14 => some (v14.1, e_cn, e_M, t_scn, v14.2, g_vc, g_ec, g_F, g_T, g_X, g_Z, d_vc, d_ec, d_F, d_T, d_X, d_Z, v_pi, v_vc, v_ec, v_F, v_T, v_X, v_Z)) else kb (pX5_isShift a4) (fun v16 => (if v16 = 0 then kb (pX5_fail (-2) r_er) (fun v38 => some (v38.1, e_cn, e_M, t_scn, v38.2, g_vc, g_ec, g_F, g_T, g_X, g_Z, d_vc, d_ec, d_F, d_T, d_X, d_Z, v_pi, v_vc, v_ec, v_F, v_T, v_X, v_Z)) else (if a1 = a2 then (if a3 = 0 then (if a4 = 0 then kb (pX5_fail (-2) r_er) (fun v36 => some (v36.1, e_cn, e_M, t_scn, v36.2, g_vc, g_ec, g_F, g_T, g_X, g_Z, d_vc, d_ec, d_F, d_T, d_X, d_Z, v_pi, v_vc, v_ec, v_F, v_T, v_X, v_Z)) else pX5_addEdge_J59 a1 a2 a3 a4 e_cn e_M t_scn r_er g_vc g_ec g_F g_T g_X g_Z d_vc d_ec d_F d_T d_X d_Z v_pi v_vc v_ec v_F v_T v_X v_Z) else pX5_addEdge_J59 a1 a2 a3 a4 e_cn e_M t_scn r_er g_vc g_ec g_F g_T g_X g_Z d_vc d_ec d_F d_T d_X d_Z v_pi v_vc v_ec v_F v_T v_X v_Z) else pX5_addEdge_J59 a1 a2 a3 a4 e_cn e_M t_scn r_er g_vc g_ec g_F g_T g_X g_Z d_vc d_ec d_F d_T d_X d_Z v_pi v_vc v_ec v_F v_T v_X v_Z)))))))))
def rmX5_addEdge : Room := { frames := 5, cells := 0, slots := 0, locals := 113 }
theorem hdV_X5_addEdge : yX5_addEdge.cls = RX5 ∧ yX5_addEdge.cls ≠ "java/lang/invoke/MethodHandle" ∧ yX5_addEdge.cls ≠ "java/lang/invoke/VarHandle" ∧ (parseMethodDescriptor yX5_addEdge.desc).map (fun d => d.parameters.length) = some 4 := ⟨rfl, by decide +kernel, by decide +kernel, by decide +kernel⟩
set_option maxHeartbeats 4000000 in
set_option maxRecDepth 100000 in
theorem kX5_addEdge (l : Launch) (Y : KY) (xa : Nat) (ra : Nat) (ga : Nat → Nat) (da : Nat → Nat) (va : Nat) (ea : Nat → Nat) (sa : Nat → Nat) (ca : Nat → Nat) (pa : Nat → Nat) (er : Nat → Nat) (vg : Nat → Nat) (e_cn : Nat → Int32) (e_M : Nat → Nat → Int32) (t_scn : Int32) (r_er : Nat → Int32) (g_vc : Int32) (g_ec : Int32) (g_F : Nat → Int32) (g_T : Nat → Int32) (g_X : Nat → Int32) (g_Z : Nat → Int32) (d_vc : Int32) (d_ec : Int32) (d_F : Nat → Int32) (d_T : Nat → Int32) (d_X : Nat → Int32) (d_Z : Nat → Int32) (v_pi : Nat → Nat) (v_vc : Nat → Int32) (v_ec : Nat → Int32) (v_F : Nat → Nat → Int32) (v_T : Nat → Nat → Int32) (v_X : Nat → Nat → Int32) (v_Z : Nat → Nat → Int32) (a1 : Int32) (a2 : Int32) (a3 : Int32) (a4 : Int32) {o : Int32 × (Nat → Int32) × (Nat → Nat → Int32) × Int32 × (Nat → Int32) × Int32 × Int32 × (Nat → Int32) × (Nat → Int32) × (Nat → Int32) × (Nat → Int32) × Int32 × Int32 × (Nat → Int32) × (Nat → Int32) × (Nat → Int32) × (Nat → Int32) × (Nat → Nat) × (Nat → Int32) × (Nat → Int32) × (Nat → Nat → Int32) × (Nat → Nat → Int32) × (Nat → Nat → Int32) × (Nat → Nat → Int32)} (h : pX5_addEdge a1 a2 a3 a4 e_cn e_M t_scn r_er g_vc g_ec g_F g_T g_X g_Z d_vc d_ec d_F d_T d_X d_Z v_pi v_vc v_ec v_F v_T v_X v_Z = some o) : CtI l yX5_addEdge wsX5_addEdge rmX5_addEdge Y [.ref xa, .int a1, .int a2, .int a3, .int a4] (kfl [gE Y ea er e_cn e_M, gT xa ra ga da va ea sa ca pa t_scn, gR Y ra r_er, gG Y ga g_vc g_ec g_F g_T g_X g_Z, gG Y da d_vc d_ec d_F d_T d_X d_Z, gA Y va vg v_pi, gG Y (fun j => vg (0 + j)) (v_vc 0) (v_ec 0) (v_F 0) (v_T 0) (v_X 0) (v_Z 0), gG Y (fun j => vg (5 + j)) (v_vc 1) (v_ec 1) (v_F 1) (v_T 1) (v_X 1) (v_Z 1), gG Y (fun j => vg (10 + j)) (v_vc 2) (v_ec 2) (v_F 2) (v_T 2) (v_X 2) (v_Z 2), gG Y (fun j => vg (15 + j)) (v_vc 3) (v_ec 3) (v_F 3) (v_T 3) (v_X 3) (v_Z 3), gG Y (fun j => vg (20 + j)) (v_vc 4) (v_ec 4) (v_F 4) (v_T 4) (v_X 4) (v_Z 4)]) o.1 (kfl [gE Y ea er o.2.1 o.2.2.1, gT xa ra ga da va ea sa ca pa o.2.2.2.1, gR Y ra o.2.2.2.2.1, gG Y ga o.2.2.2.2.2.1 o.2.2.2.2.2.2.1 o.2.2.2.2.2.2.2.1 o.2.2.2.2.2.2.2.2.1 o.2.2.2.2.2.2.2.2.2.1 o.2.2.2.2.2.2.2.2.2.2.1, gG Y da o.2.2.2.2.2.2.2.2.2.2.2.1 o.2.2.2.2.2.2.2.2.2.2.2.2.1 o.2.2.2.2.2.2.2.2.2.2.2.2.2.1 o.2.2.2.2.2.2.2.2.2.2.2.2.2.2.1 o.2.2.2.2.2.2.2.2.2.2.2.2.2.2.2.1 o.2.2.2.2.2.2.2.2.2.2.2.2.2.2.2.2.1, gA Y va vg o.2.2.2.2.2.2.2.2.2.2.2.2.2.2.2.2.2.1, gG Y (fun j => vg (0 + j)) (o.2.2.2.2.2.2.2.2.2.2.2.2.2.2.2.2.2.2.1 0) (o.2.2.2.2.2.2.2.2.2.2.2.2.2.2.2.2.2.2.2.1 0) (o.2.2.2.2.2.2.2.2.2.2.2.2.2.2.2.2.2.2.2.2.1 0) (o.2.2.2.2.2.2.2.2.2.2.2.2.2.2.2.2.2.2.2.2.2.1 0) (o.2.2.2.2.2.2.2.2.2.2.2.2.2.2.2.2.2.2.2.2.2.2.1 0) (o.2.2.2.2.2.2.2.2.2.2.2.2.2.2.2.2.2.2.2.2.2.2.2 0), gG Y (fun j => vg (5 + j)) (o.2.2.2.2.2.2.2.2.2.2.2.2.2.2.2.2.2.2.1 1) (o.2.2.2.2.2.2.2.2.2.2.2.2.2.2.2.2.2.2.2.1 1) (o.2.2.2.2.2.2.2.2.2.2.2.2.2.2.2.2.2.2.2.2.1 1) (o.2.2.2.2.2.2.2.2.2.2.2.2.2.2.2.2.2.2.2.2.2.1 1) (o.2.2.2.2.2.2.2.2.2.2.2.2.2.2.2.2.2.2.2.2.2.2.1 1) (o.2.2.2.2.2.2.2.2.2.2.2.2.2.2.2.2.2.2.2.2.2.2.2 1), gG Y (fun j => vg (10 + j)) (o.2.2.2.2.2.2.2.2.2.2.2.2.2.2.2.2.2.2.1 2) (o.2.2.2.2.2.2.2.2.2.2.2.2.2.2.2.2.2.2.2.1 2) (o.2.2.2.2.2.2.2.2.2.2.2.2.2.2.2.2.2.2.2.2.1 2) (o.2.2.2.2.2.2.2.2.2.2.2.2.2.2.2.2.2.2.2.2.2.1 2) (o.2.2.2.2.2.2.2.2.2.2.2.2.2.2.2.2.2.2.2.2.2.2.1 2) (o.2.2.2.2.2.2.2.2.2.2.2.2.2.2.2.2.2.2.2.2.2.2.2 2), gG Y (fun j => vg (15 + j)) (o.2.2.2.2.2.2.2.2.2.2.2.2.2.2.2.2.2.2.1 3) (o.2.2.2.2.2.2.2.2.2.2.2.2.2.2.2.2.2.2.2.1 3) (o.2.2.2.2.2.2.2.2.2.2.2.2.2.2.2.2.2.2.2.2.1 3) (o.2.2.2.2.2.2.2.2.2.2.2.2.2.2.2.2.2.2.2.2.2.1 3) (o.2.2.2.2.2.2.2.2.2.2.2.2.2.2.2.2.2.2.2.2.2.2.1 3) (o.2.2.2.2.2.2.2.2.2.2.2.2.2.2.2.2.2.2.2.2.2.2.2 3), gG Y (fun j => vg (20 + j)) (o.2.2.2.2.2.2.2.2.2.2.2.2.2.2.2.2.2.2.1 4) (o.2.2.2.2.2.2.2.2.2.2.2.2.2.2.2.2.2.2.2.1 4) (o.2.2.2.2.2.2.2.2.2.2.2.2.2.2.2.2.2.2.2.2.1 4) (o.2.2.2.2.2.2.2.2.2.2.2.2.2.2.2.2.2.2.2.2.2.1 4) (o.2.2.2.2.2.2.2.2.2.2.2.2.2.2.2.2.2.2.2.2.2.2.1 4) (o.2.2.2.2.2.2.2.2.2.2.2.2.2.2.2.2.2.2.2.2.2.2.2 4)]) := by
  refine ctI_intro (cc := cX5_addEdge) (maxL := 5) (own := RX5) (by decide +kernel) rfl rfl (Nat.le_of_ble_eq_true rfl) rfl ?_
  intro X A hX _ hret
  have hin2 : ∀ w ∈ u_ws RX2 TX2 6, w ∈ wsX5_addEdge := by decide +kernel
  have hin5 : ∀ w ∈ u_ws RX5 TX5 9, w ∈ wsX5_addEdge := by decide +kernel
  have f0 := hX.w (Cond.fieldLink RX5 16 "PeriodicNet" "graph" "LPeriodicNet$Graph;") (by decide +kernel)
  have f1 := hX.w (Cond.fieldLink RX5 84 "PeriodicNet$Graph" "edgeCount" "I") (by decide +kernel)
  have f2 := hX.w (Cond.fieldLink RX5 20 "PeriodicNet" "draft" "LPeriodicNet$Graph;") (by decide +kernel)
  have J59 : ∀ (l1 : Int32) (l2 : Int32) (l3 : Int32) (l4 : Int32) (z_e_cn : Nat → Int32) (z_e_M : Nat → Nat → Int32) (z_t_scn : Int32) (z_r_er : Nat → Int32) (z_g_vc : Int32) (z_g_ec : Int32) (z_g_F : Nat → Int32) (z_g_T : Nat → Int32) (z_g_X : Nat → Int32) (z_g_Z : Nat → Int32) (z_d_vc : Int32) (z_d_ec : Int32) (z_d_F : Nat → Int32) (z_d_T : Nat → Int32) (z_d_X : Nat → Int32) (z_d_Z : Nat → Int32) (z_v_pi : Nat → Nat) (z_v_vc : Nat → Int32) (z_v_ec : Nat → Int32) (z_v_F : Nat → Nat → Int32) (z_v_T : Nat → Nat → Int32) (z_v_X : Nat → Nat → Int32) (z_v_Z : Nat → Nat → Int32), pX5_addEdge_J59 l1 l2 l3 l4 z_e_cn z_e_M z_t_scn z_r_er z_g_vc z_g_ec z_g_F z_g_T z_g_X z_g_Z z_d_vc z_d_ec z_d_F z_d_T z_d_X z_d_Z z_v_pi z_v_vc z_v_ec z_v_F z_v_T z_v_X z_v_Z = some o → KW X Y A 5 0 0 (kfl [gE Y ea er z_e_cn z_e_M, gT xa ra ga da va ea sa ca pa z_t_scn, gR Y ra z_r_er, gG Y ga z_g_vc z_g_ec z_g_F z_g_T z_g_X z_g_Z, gG Y da z_d_vc z_d_ec z_d_F z_d_T z_d_X z_d_Z, gA Y va vg z_v_pi, gG Y (fun j => vg (0 + j)) (z_v_vc 0) (z_v_ec 0) (z_v_F 0) (z_v_T 0) (z_v_X 0) (z_v_Z 0), gG Y (fun j => vg (5 + j)) (z_v_vc 1) (z_v_ec 1) (z_v_F 1) (z_v_T 1) (z_v_X 1) (z_v_Z 1), gG Y (fun j => vg (10 + j)) (z_v_vc 2) (z_v_ec 2) (z_v_F 2) (z_v_T 2) (z_v_X 2) (z_v_Z 2), gG Y (fun j => vg (15 + j)) (z_v_vc 3) (z_v_ec 3) (z_v_F 3) (z_v_T 3) (z_v_X 3) (z_v_Z 3), gG Y (fun j => vg (20 + j)) (z_v_vc 4) (z_v_ec 4) (z_v_F 4) (z_v_T 4) (z_v_X 4) (z_v_Z 4)]) [(0, .ref xa), (1, .int l1), (2, .int l2), (3, .int l3), (4, .int l4)] 59 [] := by
    intro l1 l2 l3 l4 z_e_cn z_e_M z_t_scn z_r_er z_g_vc z_g_ec z_g_F z_g_T z_g_X z_g_Z z_d_vc z_d_ec z_d_F z_d_T z_d_X z_d_Z z_v_pi z_v_vc z_v_ec z_v_F z_v_T z_v_X z_v_Z h
    unfold pX5_addEdge_J59 at h
    refine kw_aload_n hX 59 dX5_addEdge_59 rfl 0 rfl ?_
    refine kw_get hX 60 (C := RX5) (T := TX5) (N := 9) hin5 1 f0 (fun _ h => h) 23 rfl rfl (by decide) rfl dX5_addEdge_60 ?_
    refine kw_iload_n hX 63 dX5_addEdge_63 rfl 1 rfl ?_
    refine kw_iload_n hX 64 dX5_addEdge_64 rfl 2 rfl ?_
    refine kw_iload_n hX 65 dX5_addEdge_65 rfl 3 rfl ?_
    refine kw_iload hX 66 dX5_addEdge_66 4 rfl ?_
    obtain ⟨v20, hc21, h⟩ := kb_some h
    refine kw_callV_I hX 68 (As := [.int l1, .int l2, .int l3, .int l4]) (rest := []) (kX2_edgeBetween (kx_l X) Y ga z_g_vc z_g_ec z_g_F z_g_T z_g_X z_g_Z l1 l2 l3 l4 hc21) gX5_addEdge_X2_edgeBetween rfl 4 rfl hdV_X2_edgeBetween ⟨rfl, rfl⟩ ⟨by decide, by decide⟩ ⟨Nat.zero_le _, Nat.zero_le _⟩ rfl (Nat.le_of_ble_eq_true rfl) [3] (by decide) rfl (kfc rfl kfn0) (gs1 := [gE Y ea er z_e_cn z_e_M, gT xa ra ga da va ea sa ca pa z_t_scn, gR Y ra z_r_er, gG Y ga z_g_vc z_g_ec z_g_F z_g_T z_g_X z_g_Z, gG Y da z_d_vc z_d_ec z_d_F z_d_T z_d_X z_d_Z, gA Y va vg z_v_pi, gG Y (fun j => vg (0 + j)) (z_v_vc 0) (z_v_ec 0) (z_v_F 0) (z_v_T 0) (z_v_X 0) (z_v_Z 0), gG Y (fun j => vg (5 + j)) (z_v_vc 1) (z_v_ec 1) (z_v_F 1) (z_v_T 1) (z_v_X 1) (z_v_Z 1), gG Y (fun j => vg (10 + j)) (z_v_vc 2) (z_v_ec 2) (z_v_F 2) (z_v_T 2) (z_v_X 2) (z_v_Z 2), gG Y (fun j => vg (15 + j)) (z_v_vc 3) (z_v_ec 3) (z_v_F 3) (z_v_T 3) (z_v_X 3) (z_v_Z 3), gG Y (fun j => vg (20 + j)) (z_v_vc 4) (z_v_ec 4) (z_v_F 4) (z_v_T 4) (z_v_X 4) (z_v_Z 4)]) rfl 25 2 rfl rfl rfl dX5_addEdge_68 ?_
    refine kw_iconst hX 71 dX5_addEdge_71 kci_m1 ?_
    refine kw_icmp_eq hX 72 82 dX5_addEdge_72 (by decide) (fun c22 => ?_) (fun c22 => ?_)
    · have h := kif_t c22 h
      refine kw_aload_n hX 82 dX5_addEdge_82 rfl 0 rfl ?_
      refine kw_get hX 83 (C := RX5) (T := TX5) (N := 9) hin5 1 f0 (fun _ h => h) 23 rfl rfl (by decide) rfl dX5_addEdge_83 ?_
      refine kw_get hX 86 (C := RX2) (T := TX2) (N := 6) hin2 1 f1 (fun _ h => h) 25 rfl rfl (by decide) rfl dX5_addEdge_86 ?_
      refine kw_bipush hX 89 dX5_addEdge_89 kcb_12 ?_
      refine kw_icmp_lt hX 91 101 dX5_addEdge_91 (by decide) (fun c23 => ?_) (fun c23 => ?_)
      · have h := kif_t c23 h
        refine kw_aload_n hX 101 dX5_addEdge_101 rfl 0 rfl ?_
        refine kw_get hX 102 (C := RX5) (T := TX5) (N := 9) hin5 2 f2 (fun _ h => h) 23 rfl rfl (by decide) rfl dX5_addEdge_102 ?_
        refine kw_aload_n hX 105 dX5_addEdge_105 rfl 0 rfl ?_
        refine kw_get hX 106 (C := RX5) (T := TX5) (N := 9) hin5 1 f0 (fun _ h => h) 23 rfl rfl (by decide) rfl dX5_addEdge_106 ?_
        obtain ⟨v24, hc25, h⟩ := kb_some h
        refine kw_callV_V hX 109 (As := [.ref (ga 0)]) (rest := []) (kX2_copyFrom (kx_l X) Y da ga z_d_vc z_d_ec z_d_F z_d_T z_d_X z_d_Z z_g_vc z_g_ec z_g_F z_g_T z_g_X z_g_Z hc25) gX5_addEdge_X2_copyFrom rfl 1 rfl hdV_X2_copyFrom ⟨rfl, rfl⟩ ⟨by decide, by decide⟩ ⟨Nat.zero_le _, Nat.zero_le _⟩ rfl (Nat.le_of_ble_eq_true rfl) [4, 3] (by decide) rfl (kfc gG_f (kfc rfl kfn0)) (gs1 := [gE Y ea er z_e_cn z_e_M, gT xa ra ga da va ea sa ca pa z_t_scn, gR Y ra z_r_er, gG Y ga z_g_vc z_g_ec z_g_F z_g_T z_g_X z_g_Z, gG Y da v24.1 v24.2.1 v24.2.2.1 v24.2.2.2.1 v24.2.2.2.2.1 v24.2.2.2.2.2, gA Y va vg z_v_pi, gG Y (fun j => vg (0 + j)) (z_v_vc 0) (z_v_ec 0) (z_v_F 0) (z_v_T 0) (z_v_X 0) (z_v_Z 0), gG Y (fun j => vg (5 + j)) (z_v_vc 1) (z_v_ec 1) (z_v_F 1) (z_v_T 1) (z_v_X 1) (z_v_Z 1), gG Y (fun j => vg (10 + j)) (z_v_vc 2) (z_v_ec 2) (z_v_F 2) (z_v_T 2) (z_v_X 2) (z_v_Z 2), gG Y (fun j => vg (15 + j)) (z_v_vc 3) (z_v_ec 3) (z_v_F 3) (z_v_T 3) (z_v_X 3) (z_v_Z 3), gG Y (fun j => vg (20 + j)) (z_v_vc 4) (z_v_ec 4) (z_v_F 4) (z_v_T 4) (z_v_X 4) (z_v_Z 4)]) rfl 30 2 rfl rfl rfl dX5_addEdge_109 ?_
        refine kw_aload_n hX 112 dX5_addEdge_112 rfl 0 rfl ?_
        refine kw_get hX 113 (C := RX5) (T := TX5) (N := 9) hin5 2 f2 (fun _ h => h) 23 rfl rfl (by decide) rfl dX5_addEdge_113 ?_
        refine kw_iload_n hX 116 dX5_addEdge_116 rfl 1 rfl ?_
        refine kw_iload_n hX 117 dX5_addEdge_117 rfl 2 rfl ?_
        refine kw_iload_n hX 118 dX5_addEdge_118 rfl 3 rfl ?_
        refine kw_iload hX 119 dX5_addEdge_119 4 rfl ?_
        obtain ⟨v26, hc27, h⟩ := kb_some h
        refine kw_callV_V hX 121 (As := [.int l1, .int l2, .int l3, .int l4]) (rest := []) (kX2_append (kx_l X) Y da v24.1 v24.2.1 v24.2.2.1 v24.2.2.2.1 v24.2.2.2.2.1 v24.2.2.2.2.2 l1 l2 l3 l4 hc27) gX5_addEdge_X2_append rfl 4 rfl hdV_X2_append ⟨rfl, rfl⟩ ⟨by decide, by decide⟩ ⟨Nat.zero_le _, Nat.zero_le _⟩ rfl (Nat.le_of_ble_eq_true rfl) [4] (by decide) rfl (kfc gG_f kfn0) (gs1 := [gE Y ea er z_e_cn z_e_M, gT xa ra ga da va ea sa ca pa z_t_scn, gR Y ra z_r_er, gG Y ga z_g_vc z_g_ec z_g_F z_g_T z_g_X z_g_Z, gG Y da v24.1 v26.1 v26.2.1 v26.2.2.1 v26.2.2.2.1 v26.2.2.2.2, gA Y va vg z_v_pi, gG Y (fun j => vg (0 + j)) (z_v_vc 0) (z_v_ec 0) (z_v_F 0) (z_v_T 0) (z_v_X 0) (z_v_Z 0), gG Y (fun j => vg (5 + j)) (z_v_vc 1) (z_v_ec 1) (z_v_F 1) (z_v_T 1) (z_v_X 1) (z_v_Z 1), gG Y (fun j => vg (10 + j)) (z_v_vc 2) (z_v_ec 2) (z_v_F 2) (z_v_T 2) (z_v_X 2) (z_v_Z 2), gG Y (fun j => vg (15 + j)) (z_v_vc 3) (z_v_ec 3) (z_v_F 3) (z_v_T 3) (z_v_X 3) (z_v_Z 3), gG Y (fun j => vg (20 + j)) (z_v_vc 4) (z_v_ec 4) (z_v_F 4) (z_v_T 4) (z_v_X 4) (z_v_Z 4)]) rfl 30 2 rfl rfl rfl dX5_addEdge_121 ?_
        refine kw_aload_n hX 124 dX5_addEdge_124 rfl 0 rfl ?_
        obtain ⟨v28, hc29, h⟩ := kb_some h
        refine kw_callV_V hX 125 (As := []) (rest := []) (kX5_commitDraft (kx_l X) Y xa ra ga da va ea sa ca pa er vg z_e_cn z_e_M z_t_scn z_g_vc z_g_ec z_g_F z_g_T z_g_X z_g_Z v24.1 v26.1 v26.2.1 v26.2.2.1 v26.2.2.2.1 v26.2.2.2.2 z_v_pi z_v_vc z_v_ec z_v_F z_v_T z_v_X z_v_Z hc29) gX5_addEdge_X5_commitDraft rfl 0 rfl hdV_X5_commitDraft ⟨rfl, rfl⟩ ⟨by decide, by decide⟩ ⟨Nat.zero_le _, Nat.zero_le _⟩ rfl (Nat.le_of_ble_eq_true rfl) [0, 1, 3, 4, 5, 6, 7, 8, 9, 10] (by decide) rfl (kfc gE_f (kfc gT_f (kfc gG_f (kfc rfl (kfc gA_f (kfc gG_f (kfc gG_f (kfc gG_f (kfc gG_f (kfc gG_f kfn0)))))))))) (gs1 := [gE Y ea er v28.1 v28.2.1, gT xa ra ga da va ea sa ca pa v28.2.2.1, gR Y ra z_r_er, gG Y ga v28.2.2.2.1 v28.2.2.2.2.1 v28.2.2.2.2.2.1 v28.2.2.2.2.2.2.1 v28.2.2.2.2.2.2.2.1 v28.2.2.2.2.2.2.2.2.1, gG Y da v24.1 v26.1 v26.2.1 v26.2.2.1 v26.2.2.2.1 v26.2.2.2.2, gA Y va vg v28.2.2.2.2.2.2.2.2.2.1, gG Y (fun j => vg (0 + j)) (v28.2.2.2.2.2.2.2.2.2.2.1 0) (v28.2.2.2.2.2.2.2.2.2.2.2.1 0) (v28.2.2.2.2.2.2.2.2.2.2.2.2.1 0) (v28.2.2.2.2.2.2.2.2.2.2.2.2.2.1 0) (v28.2.2.2.2.2.2.2.2.2.2.2.2.2.2.1 0) (v28.2.2.2.2.2.2.2.2.2.2.2.2.2.2.2 0), gG Y (fun j => vg (5 + j)) (v28.2.2.2.2.2.2.2.2.2.2.1 1) (v28.2.2.2.2.2.2.2.2.2.2.2.1 1) (v28.2.2.2.2.2.2.2.2.2.2.2.2.1 1) (v28.2.2.2.2.2.2.2.2.2.2.2.2.2.1 1) (v28.2.2.2.2.2.2.2.2.2.2.2.2.2.2.1 1) (v28.2.2.2.2.2.2.2.2.2.2.2.2.2.2.2 1), gG Y (fun j => vg (10 + j)) (v28.2.2.2.2.2.2.2.2.2.2.1 2) (v28.2.2.2.2.2.2.2.2.2.2.2.1 2) (v28.2.2.2.2.2.2.2.2.2.2.2.2.1 2) (v28.2.2.2.2.2.2.2.2.2.2.2.2.2.1 2) (v28.2.2.2.2.2.2.2.2.2.2.2.2.2.2.1 2) (v28.2.2.2.2.2.2.2.2.2.2.2.2.2.2.2 2), gG Y (fun j => vg (15 + j)) (v28.2.2.2.2.2.2.2.2.2.2.1 3) (v28.2.2.2.2.2.2.2.2.2.2.2.1 3) (v28.2.2.2.2.2.2.2.2.2.2.2.2.1 3) (v28.2.2.2.2.2.2.2.2.2.2.2.2.2.1 3) (v28.2.2.2.2.2.2.2.2.2.2.2.2.2.2.1 3) (v28.2.2.2.2.2.2.2.2.2.2.2.2.2.2.2 3), gG Y (fun j => vg (20 + j)) (v28.2.2.2.2.2.2.2.2.2.2.1 4) (v28.2.2.2.2.2.2.2.2.2.2.2.1 4) (v28.2.2.2.2.2.2.2.2.2.2.2.2.1 4) (v28.2.2.2.2.2.2.2.2.2.2.2.2.2.1 4) (v28.2.2.2.2.2.2.2.2.2.2.2.2.2.2.1 4) (v28.2.2.2.2.2.2.2.2.2.2.2.2.2.2.2 4)]) rfl 23 5 rfl rfl rfl dX5_addEdge_125 ?_
        refine kw_aload_n hX 128 dX5_addEdge_128 rfl 0 rfl ?_
        refine kw_get hX 129 (C := RX5) (T := TX5) (N := 9) hin5 1 f0 (fun _ h => h) 23 rfl rfl (by decide) rfl dX5_addEdge_129 ?_
        refine kw_get hX 132 (C := RX2) (T := TX2) (N := 6) hin2 1 f1 (fun _ h => h) 25 rfl rfl (by decide) rfl dX5_addEdge_132 ?_
        refine kw_iconst hX 135 dX5_addEdge_135 kci_1 ?_
        refine kw_isub hX 136 dX5_addEdge_136 ?_
        obtain rfl := Option.some.inj h
        exact hret _ _ dX5_addEdge_137 rfl
      · have h := kif_f c23 h
        refine kw_aload_n hX 94 dX5_addEdge_94 rfl 0 rfl ?_
        refine kw_bipush hX 95 dX5_addEdge_95 kcb_m4 ?_
        obtain ⟨v30, hc31, h⟩ := kb_some h
        refine kw_callV_I hX 97 (As := [.int (-4)]) (rest := []) (kX5_fail (kx_l X) Y xa ra ga da va ea sa ca pa z_t_scn z_r_er (-4) hc31) gX5_addEdge_X5_fail rfl 1 rfl hdV_X5_fail ⟨rfl, rfl⟩ ⟨by decide, by decide⟩ ⟨Nat.zero_le _, Nat.zero_le _⟩ rfl (Nat.le_of_ble_eq_true rfl) [1, 2] (by decide) rfl (kfc rfl (kfc gR_f kfn0)) (gs1 := [gE Y ea er z_e_cn z_e_M, gT xa ra ga da va ea sa ca pa z_t_scn, gR Y ra v30.2, gG Y ga z_g_vc z_g_ec z_g_F z_g_T z_g_X z_g_Z, gG Y da z_d_vc z_d_ec z_d_F z_d_T z_d_X z_d_Z, gA Y va vg z_v_pi, gG Y (fun j => vg (0 + j)) (z_v_vc 0) (z_v_ec 0) (z_v_F 0) (z_v_T 0) (z_v_X 0) (z_v_Z 0), gG Y (fun j => vg (5 + j)) (z_v_vc 1) (z_v_ec 1) (z_v_F 1) (z_v_T 1) (z_v_X 1) (z_v_Z 1), gG Y (fun j => vg (10 + j)) (z_v_vc 2) (z_v_ec 2) (z_v_F 2) (z_v_T 2) (z_v_X 2) (z_v_Z 2), gG Y (fun j => vg (15 + j)) (z_v_vc 3) (z_v_ec 3) (z_v_F 3) (z_v_T 3) (z_v_X 3) (z_v_Z 3), gG Y (fun j => vg (20 + j)) (z_v_vc 4) (z_v_ec 4) (z_v_F 4) (z_v_T 4) (z_v_X 4) (z_v_Z 4)]) rfl 23 5 rfl rfl rfl dX5_addEdge_97 ?_
        obtain rfl := Option.some.inj h
        exact hret _ _ dX5_addEdge_100 rfl
    · have h := kif_f c22 h
      refine kw_aload_n hX 75 dX5_addEdge_75 rfl 0 rfl ?_
      refine kw_bipush hX 76 dX5_addEdge_76 kcb_m3 ?_
      obtain ⟨v32, hc33, h⟩ := kb_some h
      refine kw_callV_I hX 78 (As := [.int (-3)]) (rest := []) (kX5_fail (kx_l X) Y xa ra ga da va ea sa ca pa z_t_scn z_r_er (-3) hc33) gX5_addEdge_X5_fail rfl 1 rfl hdV_X5_fail ⟨rfl, rfl⟩ ⟨by decide, by decide⟩ ⟨Nat.zero_le _, Nat.zero_le _⟩ rfl (Nat.le_of_ble_eq_true rfl) [1, 2] (by decide) rfl (kfc rfl (kfc gR_f kfn0)) (gs1 := [gE Y ea er z_e_cn z_e_M, gT xa ra ga da va ea sa ca pa z_t_scn, gR Y ra v32.2, gG Y ga z_g_vc z_g_ec z_g_F z_g_T z_g_X z_g_Z, gG Y da z_d_vc z_d_ec z_d_F z_d_T z_d_X z_d_Z, gA Y va vg z_v_pi, gG Y (fun j => vg (0 + j)) (z_v_vc 0) (z_v_ec 0) (z_v_F 0) (z_v_T 0) (z_v_X 0) (z_v_Z 0), gG Y (fun j => vg (5 + j)) (z_v_vc 1) (z_v_ec 1) (z_v_F 1) (z_v_T 1) (z_v_X 1) (z_v_Z 1), gG Y (fun j => vg (10 + j)) (z_v_vc 2) (z_v_ec 2) (z_v_F 2) (z_v_T 2) (z_v_X 2) (z_v_Z 2), gG Y (fun j => vg (15 + j)) (z_v_vc 3) (z_v_ec 3) (z_v_F 3) (z_v_T 3) (z_v_X 3) (z_v_Z 3), gG Y (fun j => vg (20 + j)) (z_v_vc 4) (z_v_ec 4) (z_v_F 4) (z_v_T 4) (z_v_X 4) (z_v_Z 4)]) rfl 23 5 rfl rfl rfl dX5_addEdge_78 ?_
      obtain rfl := Option.some.inj h
      exact hret _ _ dX5_addEdge_81 rfl
  unfold pX5_addEdge at h
  refine kw_lv (lv' := [(0, .ref xa), (1, .int a1), (2, .int a2), (3, .int a3), (4, .int a4)]) [0, 1, 2, 3, 4] rfl ?_
  refine kw_aload_n hX 0 dX5_addEdge_0 rfl 0 rfl ?_
  refine kw_iload_n hX 1 dX5_addEdge_1 rfl 1 rfl ?_
  obtain ⟨v1, hc2, h⟩ := kb_some h
  refine kw_callV_I hX 2 (As := [.int a1]) (rest := []) (kX5_isVertex (kx_l X) Y xa ra ga da va ea sa ca pa t_scn g_vc g_ec g_F g_T g_X g_Z a1 hc2) gX5_addEdge_X5_isVertex rfl 1 rfl hdV_X5_isVertex ⟨rfl, rfl⟩ ⟨by decide, by decide⟩ ⟨Nat.zero_le _, Nat.zero_le _⟩ rfl (Nat.le_of_ble_eq_true rfl) [1, 3] (by decide) rfl (kfc rfl (kfc rfl kfn0)) (gs1 := [gE Y ea er e_cn e_M, gT xa ra ga da va ea sa ca pa t_scn, gR Y ra r_er, gG Y ga g_vc g_ec g_F g_T g_X g_Z, gG Y da d_vc d_ec d_F d_T d_X d_Z, gA Y va vg v_pi, gG Y (fun j => vg (0 + j)) (v_vc 0) (v_ec 0) (v_F 0) (v_T 0) (v_X 0) (v_Z 0), gG Y (fun j => vg (5 + j)) (v_vc 1) (v_ec 1) (v_F 1) (v_T 1) (v_X 1) (v_Z 1), gG Y (fun j => vg (10 + j)) (v_vc 2) (v_ec 2) (v_F 2) (v_T 2) (v_X 2) (v_Z 2), gG Y (fun j => vg (15 + j)) (v_vc 3) (v_ec 3) (v_F 3) (v_T 3) (v_X 3) (v_Z 3), gG Y (fun j => vg (20 + j)) (v_vc 4) (v_ec 4) (v_F 4) (v_T 4) (v_X 4) (v_Z 4)]) rfl 23 5 rfl rfl rfl dX5_addEdge_2 ?_
  refine kw_if_eq hX 5 31 dX5_addEdge_5 (by decide) (fun c3 => ?_) (fun c3 => ?_)
  · have h := kif_t c3 h
    refine kw_aload_n hX 31 dX5_addEdge_31 rfl 0 rfl ?_
    refine kw_bipush hX 32 dX5_addEdge_32 kcb_m2 ?_
    obtain ⟨v4, hc5, h⟩ := kb_some h
    refine kw_callV_I hX 34 (As := [.int (-2)]) (rest := []) (kX5_fail (kx_l X) Y xa ra ga da va ea sa ca pa t_scn r_er (-2) hc5) gX5_addEdge_X5_fail rfl 1 rfl hdV_X5_fail ⟨rfl, rfl⟩ ⟨by decide, by decide⟩ ⟨Nat.zero_le _, Nat.zero_le _⟩ rfl (Nat.le_of_ble_eq_true rfl) [1, 2] (by decide) rfl (kfc rfl (kfc gR_f kfn0)) (gs1 := [gE Y ea er e_cn e_M, gT xa ra ga da va ea sa ca pa t_scn, gR Y ra v4.2, gG Y ga g_vc g_ec g_F g_T g_X g_Z, gG Y da d_vc d_ec d_F d_T d_X d_Z, gA Y va vg v_pi, gG Y (fun j => vg (0 + j)) (v_vc 0) (v_ec 0) (v_F 0) (v_T 0) (v_X 0) (v_Z 0), gG Y (fun j => vg (5 + j)) (v_vc 1) (v_ec 1) (v_F 1) (v_T 1) (v_X 1) (v_Z 1), gG Y (fun j => vg (10 + j)) (v_vc 2) (v_ec 2) (v_F 2) (v_T 2) (v_X 2) (v_Z 2), gG Y (fun j => vg (15 + j)) (v_vc 3) (v_ec 3) (v_F 3) (v_T 3) (v_X 3) (v_Z 3), gG Y (fun j => vg (20 + j)) (v_vc 4) (v_ec 4) (v_F 4) (v_T 4) (v_X 4) (v_Z 4)]) rfl 23 5 rfl rfl rfl dX5_addEdge_34 ?_
    obtain rfl := Option.some.inj h
    exact hret _ _ dX5_addEdge_37 rfl
  · have h := kif_f c3 h
    refine kw_aload_n hX 8 dX5_addEdge_8 rfl 0 rfl ?_
    refine kw_iload_n hX 9 dX5_addEdge_9 rfl 2 rfl ?_
    obtain ⟨v6, hc7, h⟩ := kb_some h
    refine kw_callV_I hX 10 (As := [.int a2]) (rest := []) (kX5_isVertex (kx_l X) Y xa ra ga da va ea sa ca pa t_scn g_vc g_ec g_F g_T g_X g_Z a2 hc7) gX5_addEdge_X5_isVertex rfl 1 rfl hdV_X5_isVertex ⟨rfl, rfl⟩ ⟨by decide, by decide⟩ ⟨Nat.zero_le _, Nat.zero_le _⟩ rfl (Nat.le_of_ble_eq_true rfl) [1, 3] (by decide) rfl (kfc rfl (kfc rfl kfn0)) (gs1 := [gE Y ea er e_cn e_M, gT xa ra ga da va ea sa ca pa t_scn, gR Y ra r_er, gG Y ga g_vc g_ec g_F g_T g_X g_Z, gG Y da d_vc d_ec d_F d_T d_X d_Z, gA Y va vg v_pi, gG Y (fun j => vg (0 + j)) (v_vc 0) (v_ec 0) (v_F 0) (v_T 0) (v_X 0) (v_Z 0), gG Y (fun j => vg (5 + j)) (v_vc 1) (v_ec 1) (v_F 1) (v_T 1) (v_X 1) (v_Z 1), gG Y (fun j => vg (10 + j)) (v_vc 2) (v_ec 2) (v_F 2) (v_T 2) (v_X 2) (v_Z 2), gG Y (fun j => vg (15 + j)) (v_vc 3) (v_ec 3) (v_F 3) (v_T 3) (v_X 3) (v_Z 3), gG Y (fun j => vg (20 + j)) (v_vc 4) (v_ec 4) (v_F 4) (v_T 4) (v_X 4) (v_Z 4)]) rfl 23 5 rfl rfl rfl dX5_addEdge_10 ?_
    refine kw_if_eq hX 13 31 dX5_addEdge_13 (by decide) (fun c8 => ?_) (fun c8 => ?_)
    · have h := kif_t c8 h
      refine kw_aload_n hX 31 dX5_addEdge_31 rfl 0 rfl ?_
      refine kw_bipush hX 32 dX5_addEdge_32 kcb_m2 ?_
      obtain ⟨v9, hc10, h⟩ := kb_some h
      refine kw_callV_I hX 34 (As := [.int (-2)]) (rest := []) (kX5_fail (kx_l X) Y xa ra ga da va ea sa ca pa t_scn r_er (-2) hc10) gX5_addEdge_X5_fail rfl 1 rfl hdV_X5_fail ⟨rfl, rfl⟩ ⟨by decide, by decide⟩ ⟨Nat.zero_le _, Nat.zero_le _⟩ rfl (Nat.le_of_ble_eq_true rfl) [1, 2] (by decide) rfl (kfc rfl (kfc gR_f kfn0)) (gs1 := [gE Y ea er e_cn e_M, gT xa ra ga da va ea sa ca pa t_scn, gR Y ra v9.2, gG Y ga g_vc g_ec g_F g_T g_X g_Z, gG Y da d_vc d_ec d_F d_T d_X d_Z, gA Y va vg v_pi, gG Y (fun j => vg (0 + j)) (v_vc 0) (v_ec 0) (v_F 0) (v_T 0) (v_X 0) (v_Z 0), gG Y (fun j => vg (5 + j)) (v_vc 1) (v_ec 1) (v_F 1) (v_T 1) (v_X 1) (v_Z 1), gG Y (fun j => vg (10 + j)) (v_vc 2) (v_ec 2) (v_F 2) (v_T 2) (v_X 2) (v_Z 2), gG Y (fun j => vg (15 + j)) (v_vc 3) (v_ec 3) (v_F 3) (v_T 3) (v_X 3) (v_Z 3), gG Y (fun j => vg (20 + j)) (v_vc 4) (v_ec 4) (v_F 4) (v_T 4) (v_X 4) (v_Z 4)]) rfl 23 5 rfl rfl rfl dX5_addEdge_34 ?_
      obtain rfl := Option.some.inj h
      exact hret _ _ dX5_addEdge_37 rfl
    · have h := kif_f c8 h
      refine kw_iload_n hX 16 dX5_addEdge_16 rfl 3 rfl ?_
      obtain ⟨v11, hc12, h⟩ := kb_some h
      refine kw_callS_I hX 17 (As := [.int a3]) (rest := []) (kX5_isShift (kx_l X) Y a3 hc12) gX5_addEdge_X5_isShift rfl 1 rfl hdS_X5_isShift ⟨rfl, rfl⟩ ⟨by decide, by decide⟩ ⟨Nat.zero_le _, Nat.zero_le _⟩ rfl (Nat.le_of_ble_eq_true rfl) [] (by decide) rfl kfn0 (gs1 := [gE Y ea er e_cn e_M, gT xa ra ga da va ea sa ca pa t_scn, gR Y ra r_er, gG Y ga g_vc g_ec g_F g_T g_X g_Z, gG Y da d_vc d_ec d_F d_T d_X d_Z, gA Y va vg v_pi, gG Y (fun j => vg (0 + j)) (v_vc 0) (v_ec 0) (v_F 0) (v_T 0) (v_X 0) (v_Z 0), gG Y (fun j => vg (5 + j)) (v_vc 1) (v_ec 1) (v_F 1) (v_T 1) (v_X 1) (v_Z 1), gG Y (fun j => vg (10 + j)) (v_vc 2) (v_ec 2) (v_F 2) (v_T 2) (v_X 2) (v_Z 2), gG Y (fun j => vg (15 + j)) (v_vc 3) (v_ec 3) (v_F 3) (v_T 3) (v_X 3) (v_Z 3), gG Y (fun j => vg (20 + j)) (v_vc 4) (v_ec 4) (v_F 4) (v_T 4) (v_X 4) (v_Z 4)]) rfl dX5_addEdge_17 ?_
      refine kw_if_eq hX 20 31 dX5_addEdge_20 (by decide) (fun c13 => ?_) (fun c13 => ?_)
      · have h := kif_t c13 h
        refine kw_aload_n hX 31 dX5_addEdge_31 rfl 0 rfl ?_
        refine kw_bipush hX 32 dX5_addEdge_32 kcb_m2 ?_
        obtain ⟨v14, hc15, h⟩ := kb_some h
        refine kw_callV_I hX 34 (As := [.int (-2)]) (rest := []) (kX5_fail (kx_l X) Y xa ra ga da va ea sa ca pa t_scn r_er (-2) hc15) gX5_addEdge_X5_fail rfl 1 rfl hdV_X5_fail ⟨rfl, rfl⟩ ⟨by decide, by decide⟩ ⟨Nat.zero_le _, Nat.zero_le _⟩ rfl (Nat.le_of_ble_eq_true rfl) [1, 2] (by decide) rfl (kfc rfl (kfc gR_f kfn0)) (gs1 := [gE Y ea er e_cn e_M, gT xa ra ga da va ea sa ca pa t_scn, gR Y ra v14.2, gG Y ga g_vc g_ec g_F g_T g_X g_Z, gG Y da d_vc d_ec d_F d_T d_X d_Z, gA Y va vg v_pi, gG Y (fun j => vg (0 + j)) (v_vc 0) (v_ec 0) (v_F 0) (v_T 0) (v_X 0) (v_Z 0), gG Y (fun j => vg (5 + j)) (v_vc 1) (v_ec 1) (v_F 1) (v_T 1) (v_X 1) (v_Z 1), gG Y (fun j => vg (10 + j)) (v_vc 2) (v_ec 2) (v_F 2) (v_T 2) (v_X 2) (v_Z 2), gG Y (fun j => vg (15 + j)) (v_vc 3) (v_ec 3) (v_F 3) (v_T 3) (v_X 3) (v_Z 3), gG Y (fun j => vg (20 + j)) (v_vc 4) (v_ec 4) (v_F 4) (v_T 4) (v_X 4) (v_Z 4)]) rfl 23 5 rfl rfl rfl dX5_addEdge_34 ?_
        obtain rfl := Option.some.inj h
        exact hret _ _ dX5_addEdge_37 rfl
      · have h := kif_f c13 h
        refine kw_iload hX 23 dX5_addEdge_23 4 rfl ?_
        obtain ⟨v16, hc17, h⟩ := kb_some h
        refine kw_callS_I hX 25 (As := [.int a4]) (rest := []) (kX5_isShift (kx_l X) Y a4 hc17) gX5_addEdge_X5_isShift rfl 1 rfl hdS_X5_isShift ⟨rfl, rfl⟩ ⟨by decide, by decide⟩ ⟨Nat.zero_le _, Nat.zero_le _⟩ rfl (Nat.le_of_ble_eq_true rfl) [] (by decide) rfl kfn0 (gs1 := [gE Y ea er e_cn e_M, gT xa ra ga da va ea sa ca pa t_scn, gR Y ra r_er, gG Y ga g_vc g_ec g_F g_T g_X g_Z, gG Y da d_vc d_ec d_F d_T d_X d_Z, gA Y va vg v_pi, gG Y (fun j => vg (0 + j)) (v_vc 0) (v_ec 0) (v_F 0) (v_T 0) (v_X 0) (v_Z 0), gG Y (fun j => vg (5 + j)) (v_vc 1) (v_ec 1) (v_F 1) (v_T 1) (v_X 1) (v_Z 1), gG Y (fun j => vg (10 + j)) (v_vc 2) (v_ec 2) (v_F 2) (v_T 2) (v_X 2) (v_Z 2), gG Y (fun j => vg (15 + j)) (v_vc 3) (v_ec 3) (v_F 3) (v_T 3) (v_X 3) (v_Z 3), gG Y (fun j => vg (20 + j)) (v_vc 4) (v_ec 4) (v_F 4) (v_T 4) (v_X 4) (v_Z 4)]) rfl dX5_addEdge_25 ?_
        refine kw_if_ne hX 28 38 dX5_addEdge_28 (by decide) (fun c18 => ?_) (fun c18 => ?_)
        · have h := kif_f c18 h
          refine kw_iload_n hX 38 dX5_addEdge_38 rfl 1 rfl ?_
          refine kw_iload_n hX 39 dX5_addEdge_39 rfl 2 rfl ?_
          refine kw_icmp_ne hX 40 59 dX5_addEdge_40 (by decide) (fun c19 => ?_) (fun c19 => ?_)
          · have h := kif_f c19 h
            refine kw_lv (lv' := [(0, .ref xa), (1, .int a1), (2, .int a2), (3, .int a3), (4, .int a4)]) [0, 1, 2, 3, 4] rfl ?_
            exact J59 a1 a2 a3 a4 e_cn e_M t_scn r_er g_vc g_ec g_F g_T g_X g_Z d_vc d_ec d_F d_T d_X d_Z v_pi v_vc v_ec v_F v_T v_X v_Z h
          · have h := kif_t c19 h
            refine kw_iload_n hX 43 dX5_addEdge_43 rfl 3 rfl ?_
            refine kw_if_ne hX 44 59 dX5_addEdge_44 (by decide) (fun c34 => ?_) (fun c34 => ?_)
            · have h := kif_f c34 h
              refine kw_lv (lv' := [(0, .ref xa), (1, .int a1), (2, .int a2), (3, .int a3), (4, .int a4)]) [0, 1, 2, 3, 4] rfl ?_
              exact J59 a1 a2 a3 a4 e_cn e_M t_scn r_er g_vc g_ec g_F g_T g_X g_Z d_vc d_ec d_F d_T d_X d_Z v_pi v_vc v_ec v_F v_T v_X v_Z h
            · have h := kif_t c34 h
              refine kw_iload hX 47 dX5_addEdge_47 4 rfl ?_
              refine kw_if_ne hX 49 59 dX5_addEdge_49 (by decide) (fun c35 => ?_) (fun c35 => ?_)
              · have h := kif_f c35 h
                refine kw_lv (lv' := [(0, .ref xa), (1, .int a1), (2, .int a2), (3, .int a3), (4, .int a4)]) [0, 1, 2, 3, 4] rfl ?_
                exact J59 a1 a2 a3 a4 e_cn e_M t_scn r_er g_vc g_ec g_F g_T g_X g_Z d_vc d_ec d_F d_T d_X d_Z v_pi v_vc v_ec v_F v_T v_X v_Z h
              · have h := kif_t c35 h
                refine kw_aload_n hX 52 dX5_addEdge_52 rfl 0 rfl ?_
                refine kw_bipush hX 53 dX5_addEdge_53 kcb_m2 ?_
                obtain ⟨v36, hc37, h⟩ := kb_some h
                refine kw_callV_I hX 55 (As := [.int (-2)]) (rest := []) (kX5_fail (kx_l X) Y xa ra ga da va ea sa ca pa t_scn r_er (-2) hc37) gX5_addEdge_X5_fail rfl 1 rfl hdV_X5_fail ⟨rfl, rfl⟩ ⟨by decide, by decide⟩ ⟨Nat.zero_le _, Nat.zero_le _⟩ rfl (Nat.le_of_ble_eq_true rfl) [1, 2] (by decide) rfl (kfc rfl (kfc gR_f kfn0)) (gs1 := [gE Y ea er e_cn e_M, gT xa ra ga da va ea sa ca pa t_scn, gR Y ra v36.2, gG Y ga g_vc g_ec g_F g_T g_X g_Z, gG Y da d_vc d_ec d_F d_T d_X d_Z, gA Y va vg v_pi, gG Y (fun j => vg (0 + j)) (v_vc 0) (v_ec 0) (v_F 0) (v_T 0) (v_X 0) (v_Z 0), gG Y (fun j => vg (5 + j)) (v_vc 1) (v_ec 1) (v_F 1) (v_T 1) (v_X 1) (v_Z 1), gG Y (fun j => vg (10 + j)) (v_vc 2) (v_ec 2) (v_F 2) (v_T 2) (v_X 2) (v_Z 2), gG Y (fun j => vg (15 + j)) (v_vc 3) (v_ec 3) (v_F 3) (v_T 3) (v_X 3) (v_Z 3), gG Y (fun j => vg (20 + j)) (v_vc 4) (v_ec 4) (v_F 4) (v_T 4) (v_X 4) (v_Z 4)]) rfl 23 5 rfl rfl rfl dX5_addEdge_55 ?_
                obtain rfl := Option.some.inj h
                exact hret _ _ dX5_addEdge_58 rfl
        · have h := kif_t c18 h
          refine kw_aload_n hX 31 dX5_addEdge_31 rfl 0 rfl ?_
          refine kw_bipush hX 32 dX5_addEdge_32 kcb_m2 ?_
          obtain ⟨v38, hc39, h⟩ := kb_some h
          refine kw_callV_I hX 34 (As := [.int (-2)]) (rest := []) (kX5_fail (kx_l X) Y xa ra ga da va ea sa ca pa t_scn r_er (-2) hc39) gX5_addEdge_X5_fail rfl 1 rfl hdV_X5_fail ⟨rfl, rfl⟩ ⟨by decide, by decide⟩ ⟨Nat.zero_le _, Nat.zero_le _⟩ rfl (Nat.le_of_ble_eq_true rfl) [1, 2] (by decide) rfl (kfc rfl (kfc gR_f kfn0)) (gs1 := [gE Y ea er e_cn e_M, gT xa ra ga da va ea sa ca pa t_scn, gR Y ra v38.2, gG Y ga g_vc g_ec g_F g_T g_X g_Z, gG Y da d_vc d_ec d_F d_T d_X d_Z, gA Y va vg v_pi, gG Y (fun j => vg (0 + j)) (v_vc 0) (v_ec 0) (v_F 0) (v_T 0) (v_X 0) (v_Z 0), gG Y (fun j => vg (5 + j)) (v_vc 1) (v_ec 1) (v_F 1) (v_T 1) (v_X 1) (v_Z 1), gG Y (fun j => vg (10 + j)) (v_vc 2) (v_ec 2) (v_F 2) (v_T 2) (v_X 2) (v_Z 2), gG Y (fun j => vg (15 + j)) (v_vc 3) (v_ec 3) (v_F 3) (v_T 3) (v_X 3) (v_Z 3), gG Y (fun j => vg (20 + j)) (v_vc 4) (v_ec 4) (v_F 4) (v_T 4) (v_X 4) (v_Z 4)]) rfl 23 5 rfl rfl rfl dX5_addEdge_34 ?_
          obtain rfl := Option.some.inj h
          exact hret _ _ dX5_addEdge_37 rfl
def pX5_removeEdge (a1 : Int32) (e_cn : Nat → Int32) (e_M : Nat → Nat → Int32) (t_scn : Int32) (r_er : Nat → Int32) (g_vc : Int32) (g_ec : Int32) (g_F : Nat → Int32) (g_T : Nat → Int32) (g_X : Nat → Int32) (g_Z : Nat → Int32) (d_vc : Int32) (d_ec : Int32) (d_F : Nat → Int32) (d_T : Nat → Int32) (d_X : Nat → Int32) (d_Z : Nat → Int32) (v_pi : Nat → Nat) (v_vc : Nat → Int32) (v_ec : Nat → Int32) (v_F : Nat → Nat → Int32) (v_T : Nat → Nat → Int32) (v_X : Nat → Nat → Int32) (v_Z : Nat → Nat → Int32) : Option (Int32 × (Nat → Int32) × (Nat → Nat → Int32) × Int32 × (Nat → Int32) × Int32 × Int32 × (Nat → Int32) × (Nat → Int32) × (Nat → Int32) × (Nat → Int32) × Int32 × Int32 × (Nat → Int32) × (Nat → Int32) × (Nat → Int32) × (Nat → Int32) × (Nat → Nat) × (Nat → Int32) × (Nat → Int32) × (Nat → Nat → Int32) × (Nat → Nat → Int32) × (Nat → Nat → Int32) × (Nat → Nat → Int32)) := (if a1 < 0 then kb (pX5_fail (-2) r_er) (fun v2 => some (v2.1, e_cn, e_M, t_scn, v2.2, g_vc, g_ec, g_F, g_T, g_X, g_Z, d_vc, d_ec, d_F, d_T, d_X, d_Z, v_pi, v_vc, v_ec, v_F, v_T, v_X, v_Z)) else (if a1 < g_ec then kb (pX2_copyFrom d_vc d_ec d_F d_T d_X d_Z g_vc g_ec g_F g_T g_X g_Z) (fun v5 => kb (pX2_dropEdge a1 v5.2.1 v5.2.2.1 v5.2.2.2.1 v5.2.2.2.2.1 v5.2.2.2.2.2) (fun v7 => kb (pX5_commitDraft e_cn e_M t_scn g_vc g_ec g_F g_T g_X g_Z v5.1 v7.1 v7.2.1 v7.2.2.1 v7.2.2.2.1 v7.2.2.2.2 v_pi v_vc v_ec v_F v_T v_X v_Z) (fun v9 => some (v9.2.2.2.2.1, v9.1, v9.2.1, v9.2.2.1, r_er, v9.2.2.2.1, v9.2.2.2.2.1, v9.2.2.2.2.2.1, v9.2.2.2.2.2.2.1, v9.2.2.2.2.2.2.2.1, v9.2.2.2.2.2.2.2.2.1, v5.1, v7.1, v7.2.1, v7.2.2.1, v7.2.2.2.1, v7.2.2.2.2, v9.2.2.2.2.2.2.2.2.2.1, v9.2.2.2.2.2.2.2.2.2.2.1, v9.2.2.2.2.2.2.2.2.2.2.2.1, v9.2.2.2.2.2.2.2.2.2.2.2.2.1, v9.2.2.2.2.2.2.2.2.2.2.2.2.2.1, v9.2.2.2.2.2.2.2.2.2.2.2.2.2.2.1, v9.2.2.2.2.2.2.2.2.2.2.2.2.2.2.2)))) else kb (pX5_fail (-2) r_er) (fun v11 => some (v11.1, e_cn, e_M, t_scn, v11.2, g_vc, g_ec, g_F, g_T, g_X, g_Z, d_vc, d_ec, d_F, d_T, d_X, d_Z, v_pi, v_vc, v_ec, v_F, v_T, v_X, v_Z))))
def rmX5_removeEdge : Room := { frames := 5, cells := 0, slots := 0, locals := 113 }
theorem hdV_X5_removeEdge : yX5_removeEdge.cls = RX5 ∧ yX5_removeEdge.cls ≠ "java/lang/invoke/MethodHandle" ∧ yX5_removeEdge.cls ≠ "java/lang/invoke/VarHandle" ∧ (parseMethodDescriptor yX5_removeEdge.desc).map (fun d => d.parameters.length) = some 1 := ⟨rfl, by decide +kernel, by decide +kernel, by decide +kernel⟩
set_option maxHeartbeats 4000000 in
set_option maxRecDepth 100000 in
theorem kX5_removeEdge (l : Launch) (Y : KY) (xa : Nat) (ra : Nat) (ga : Nat → Nat) (da : Nat → Nat) (va : Nat) (ea : Nat → Nat) (sa : Nat → Nat) (ca : Nat → Nat) (pa : Nat → Nat) (er : Nat → Nat) (vg : Nat → Nat) (e_cn : Nat → Int32) (e_M : Nat → Nat → Int32) (t_scn : Int32) (r_er : Nat → Int32) (g_vc : Int32) (g_ec : Int32) (g_F : Nat → Int32) (g_T : Nat → Int32) (g_X : Nat → Int32) (g_Z : Nat → Int32) (d_vc : Int32) (d_ec : Int32) (d_F : Nat → Int32) (d_T : Nat → Int32) (d_X : Nat → Int32) (d_Z : Nat → Int32) (v_pi : Nat → Nat) (v_vc : Nat → Int32) (v_ec : Nat → Int32) (v_F : Nat → Nat → Int32) (v_T : Nat → Nat → Int32) (v_X : Nat → Nat → Int32) (v_Z : Nat → Nat → Int32) (a1 : Int32) {o : Int32 × (Nat → Int32) × (Nat → Nat → Int32) × Int32 × (Nat → Int32) × Int32 × Int32 × (Nat → Int32) × (Nat → Int32) × (Nat → Int32) × (Nat → Int32) × Int32 × Int32 × (Nat → Int32) × (Nat → Int32) × (Nat → Int32) × (Nat → Int32) × (Nat → Nat) × (Nat → Int32) × (Nat → Int32) × (Nat → Nat → Int32) × (Nat → Nat → Int32) × (Nat → Nat → Int32) × (Nat → Nat → Int32)} (h : pX5_removeEdge a1 e_cn e_M t_scn r_er g_vc g_ec g_F g_T g_X g_Z d_vc d_ec d_F d_T d_X d_Z v_pi v_vc v_ec v_F v_T v_X v_Z = some o) : CtI l yX5_removeEdge wsX5_removeEdge rmX5_removeEdge Y [.ref xa, .int a1] (kfl [gE Y ea er e_cn e_M, gT xa ra ga da va ea sa ca pa t_scn, gR Y ra r_er, gG Y ga g_vc g_ec g_F g_T g_X g_Z, gG Y da d_vc d_ec d_F d_T d_X d_Z, gA Y va vg v_pi, gG Y (fun j => vg (0 + j)) (v_vc 0) (v_ec 0) (v_F 0) (v_T 0) (v_X 0) (v_Z 0), gG Y (fun j => vg (5 + j)) (v_vc 1) (v_ec 1) (v_F 1) (v_T 1) (v_X 1) (v_Z 1), gG Y (fun j => vg (10 + j)) (v_vc 2) (v_ec 2) (v_F 2) (v_T 2) (v_X 2) (v_Z 2), gG Y (fun j => vg (15 + j)) (v_vc 3) (v_ec 3) (v_F 3) (v_T 3) (v_X 3) (v_Z 3), gG Y (fun j => vg (20 + j)) (v_vc 4) (v_ec 4) (v_F 4) (v_T 4) (v_X 4) (v_Z 4)]) o.1 (kfl [gE Y ea er o.2.1 o.2.2.1, gT xa ra ga da va ea sa ca pa o.2.2.2.1, gR Y ra o.2.2.2.2.1, gG Y ga o.2.2.2.2.2.1 o.2.2.2.2.2.2.1 o.2.2.2.2.2.2.2.1 o.2.2.2.2.2.2.2.2.1 o.2.2.2.2.2.2.2.2.2.1 o.2.2.2.2.2.2.2.2.2.2.1, gG Y da o.2.2.2.2.2.2.2.2.2.2.2.1 o.2.2.2.2.2.2.2.2.2.2.2.2.1 o.2.2.2.2.2.2.2.2.2.2.2.2.2.1 o.2.2.2.2.2.2.2.2.2.2.2.2.2.2.1 o.2.2.2.2.2.2.2.2.2.2.2.2.2.2.2.1 o.2.2.2.2.2.2.2.2.2.2.2.2.2.2.2.2.1, gA Y va vg o.2.2.2.2.2.2.2.2.2.2.2.2.2.2.2.2.2.1, gG Y (fun j => vg (0 + j)) (o.2.2.2.2.2.2.2.2.2.2.2.2.2.2.2.2.2.2.1 0) (o.2.2.2.2.2.2.2.2.2.2.2.2.2.2.2.2.2.2.2.1 0) (o.2.2.2.2.2.2.2.2.2.2.2.2.2.2.2.2.2.2.2.2.1 0) (o.2.2.2.2.2.2.2.2.2.2.2.2.2.2.2.2.2.2.2.2.2.1 0) (o.2.2.2.2.2.2.2.2.2.2.2.2.2.2.2.2.2.2.2.2.2.2.1 0) (o.2.2.2.2.2.2.2.2.2.2.2.2.2.2.2.2.2.2.2.2.2.2.2 0), gG Y (fun j => vg (5 + j)) (o.2.2.2.2.2.2.2.2.2.2.2.2.2.2.2.2.2.2.1 1) (o.2.2.2.2.2.2.2.2.2.2.2.2.2.2.2.2.2.2.2.1 1) (o.2.2.2.2.2.2.2.2.2.2.2.2.2.2.2.2.2.2.2.2.1 1) (o.2.2.2.2.2.2.2.2.2.2.2.2.2.2.2.2.2.2.2.2.2.1 1) (o.2.2.2.2.2.2.2.2.2.2.2.2.2.2.2.2.2.2.2.2.2.2.1 1) (o.2.2.2.2.2.2.2.2.2.2.2.2.2.2.2.2.2.2.2.2.2.2.2 1), gG Y (fun j => vg (10 + j)) (o.2.2.2.2.2.2.2.2.2.2.2.2.2.2.2.2.2.2.1 2) (o.2.2.2.2.2.2.2.2.2.2.2.2.2.2.2.2.2.2.2.1 2) (o.2.2.2.2.2.2.2.2.2.2.2.2.2.2.2.2.2.2.2.2.1 2) (o.2.2.2.2.2.2.2.2.2.2.2.2.2.2.2.2.2.2.2.2.2.1 2) (o.2.2.2.2.2.2.2.2.2.2.2.2.2.2.2.2.2.2.2.2.2.2.1 2) (o.2.2.2.2.2.2.2.2.2.2.2.2.2.2.2.2.2.2.2.2.2.2.2 2), gG Y (fun j => vg (15 + j)) (o.2.2.2.2.2.2.2.2.2.2.2.2.2.2.2.2.2.2.1 3) (o.2.2.2.2.2.2.2.2.2.2.2.2.2.2.2.2.2.2.2.1 3) (o.2.2.2.2.2.2.2.2.2.2.2.2.2.2.2.2.2.2.2.2.1 3) (o.2.2.2.2.2.2.2.2.2.2.2.2.2.2.2.2.2.2.2.2.2.1 3) (o.2.2.2.2.2.2.2.2.2.2.2.2.2.2.2.2.2.2.2.2.2.2.1 3) (o.2.2.2.2.2.2.2.2.2.2.2.2.2.2.2.2.2.2.2.2.2.2.2 3), gG Y (fun j => vg (20 + j)) (o.2.2.2.2.2.2.2.2.2.2.2.2.2.2.2.2.2.2.1 4) (o.2.2.2.2.2.2.2.2.2.2.2.2.2.2.2.2.2.2.2.1 4) (o.2.2.2.2.2.2.2.2.2.2.2.2.2.2.2.2.2.2.2.2.1 4) (o.2.2.2.2.2.2.2.2.2.2.2.2.2.2.2.2.2.2.2.2.2.1 4) (o.2.2.2.2.2.2.2.2.2.2.2.2.2.2.2.2.2.2.2.2.2.2.1 4) (o.2.2.2.2.2.2.2.2.2.2.2.2.2.2.2.2.2.2.2.2.2.2.2 4)]) := by
  refine ctI_intro (cc := cX5_removeEdge) (maxL := 2) (own := RX5) (by decide +kernel) rfl rfl (Nat.le_of_ble_eq_true rfl) rfl ?_
  intro X A hX _ hret
  have hin2 : ∀ w ∈ u_ws RX2 TX2 6, w ∈ wsX5_removeEdge := by decide +kernel
  have hin5 : ∀ w ∈ u_ws RX5 TX5 9, w ∈ wsX5_removeEdge := by decide +kernel
  have f0 := hX.w (Cond.fieldLink RX5 16 "PeriodicNet" "graph" "LPeriodicNet$Graph;") (by decide +kernel)
  have f1 := hX.w (Cond.fieldLink RX5 84 "PeriodicNet$Graph" "edgeCount" "I") (by decide +kernel)
  have f2 := hX.w (Cond.fieldLink RX5 20 "PeriodicNet" "draft" "LPeriodicNet$Graph;") (by decide +kernel)
  unfold pX5_removeEdge at h
  refine kw_lv (lv' := [(0, .ref xa), (1, .int a1)]) [0, 1] rfl ?_
  refine kw_iload_n hX 0 dX5_removeEdge_0 rfl 1 rfl ?_
  refine kw_if_lt hX 1 15 dX5_removeEdge_1 (by decide) (fun c1 => ?_) (fun c1 => ?_)
  · have h := kif_t c1 h
    refine kw_aload_n hX 15 dX5_removeEdge_15 rfl 0 rfl ?_
    refine kw_bipush hX 16 dX5_removeEdge_16 kcb_m2 ?_
    obtain ⟨v2, hc3, h⟩ := kb_some h
    refine kw_callV_I hX 18 (As := [.int (-2)]) (rest := []) (kX5_fail (kx_l X) Y xa ra ga da va ea sa ca pa t_scn r_er (-2) hc3) gX5_removeEdge_X5_fail rfl 1 rfl hdV_X5_fail ⟨rfl, rfl⟩ ⟨by decide, by decide⟩ ⟨Nat.zero_le _, Nat.zero_le _⟩ rfl (Nat.le_of_ble_eq_true rfl) [1, 2] (by decide) rfl (kfc rfl (kfc gR_f kfn0)) (gs1 := [gE Y ea er e_cn e_M, gT xa ra ga da va ea sa ca pa t_scn, gR Y ra v2.2, gG Y ga g_vc g_ec g_F g_T g_X g_Z, gG Y da d_vc d_ec d_F d_T d_X d_Z, gA Y va vg v_pi, gG Y (fun j => vg (0 + j)) (v_vc 0) (v_ec 0) (v_F 0) (v_T 0) (v_X 0) (v_Z 0), gG Y (fun j => vg (5 + j)) (v_vc 1) (v_ec 1) (v_F 1) (v_T 1) (v_X 1) (v_Z 1), gG Y (fun j => vg (10 + j)) (v_vc 2) (v_ec 2) (v_F 2) (v_T 2) (v_X 2) (v_Z 2), gG Y (fun j => vg (15 + j)) (v_vc 3) (v_ec 3) (v_F 3) (v_T 3) (v_X 3) (v_Z 3), gG Y (fun j => vg (20 + j)) (v_vc 4) (v_ec 4) (v_F 4) (v_T 4) (v_X 4) (v_Z 4)]) rfl 23 5 rfl rfl rfl dX5_removeEdge_18 ?_
    obtain rfl := Option.some.inj h
    exact hret _ _ dX5_removeEdge_21 rfl
  · have h := kif_f c1 h
    refine kw_iload_n hX 4 dX5_removeEdge_4 rfl 1 rfl ?_
    refine kw_aload_n hX 5 dX5_removeEdge_5 rfl 0 rfl ?_
    refine kw_get hX 6 (C := RX5) (T := TX5) (N := 9) hin5 1 f0 (fun _ h => h) 23 rfl rfl (by decide) rfl dX5_removeEdge_6 ?_
    refine kw_get hX 9 (C := RX2) (T := TX2) (N := 6) hin2 1 f1 (fun _ h => h) 25 rfl rfl (by decide) rfl dX5_removeEdge_9 ?_
    refine kw_icmp_lt hX 12 22 dX5_removeEdge_12 (by decide) (fun c4 => ?_) (fun c4 => ?_)
    · have h := kif_t c4 h
      refine kw_aload_n hX 22 dX5_removeEdge_22 rfl 0 rfl ?_
      refine kw_get hX 23 (C := RX5) (T := TX5) (N := 9) hin5 2 f2 (fun _ h => h) 23 rfl rfl (by decide) rfl dX5_removeEdge_23 ?_
      refine kw_aload_n hX 26 dX5_removeEdge_26 rfl 0 rfl ?_
      refine kw_get hX 27 (C := RX5) (T := TX5) (N := 9) hin5 1 f0 (fun _ h => h) 23 rfl rfl (by decide) rfl dX5_removeEdge_27 ?_
      obtain ⟨v5, hc6, h⟩ := kb_some h
      refine kw_callV_V hX 30 (As := [.ref (ga 0)]) (rest := []) (kX2_copyFrom (kx_l X) Y da ga d_vc d_ec d_F d_T d_X d_Z g_vc g_ec g_F g_T g_X g_Z hc6) gX5_removeEdge_X2_copyFrom rfl 1 rfl hdV_X2_copyFrom ⟨rfl, rfl⟩ ⟨by decide, by decide⟩ ⟨Nat.zero_le _, Nat.zero_le _⟩ rfl (Nat.le_of_ble_eq_true rfl) [4, 3] (by decide) rfl (kfc gG_f (kfc rfl kfn0)) (gs1 := [gE Y ea er e_cn e_M, gT xa ra ga da va ea sa ca pa t_scn, gR Y ra r_er, gG Y ga g_vc g_ec g_F g_T g_X g_Z, gG Y da v5.1 v5.2.1 v5.2.2.1 v5.2.2.2.1 v5.2.2.2.2.1 v5.2.2.2.2.2, gA Y va vg v_pi, gG Y (fun j => vg (0 + j)) (v_vc 0) (v_ec 0) (v_F 0) (v_T 0) (v_X 0) (v_Z 0), gG Y (fun j => vg (5 + j)) (v_vc 1) (v_ec 1) (v_F 1) (v_T 1) (v_X 1) (v_Z 1), gG Y (fun j => vg (10 + j)) (v_vc 2) (v_ec 2) (v_F 2) (v_T 2) (v_X 2) (v_Z 2), gG Y (fun j => vg (15 + j)) (v_vc 3) (v_ec 3) (v_F 3) (v_T 3) (v_X 3) (v_Z 3), gG Y (fun j => vg (20 + j)) (v_vc 4) (v_ec 4) (v_F 4) (v_T 4) (v_X 4) (v_Z 4)]) rfl 30 2 rfl rfl rfl dX5_removeEdge_30 ?_
      refine kw_aload_n hX 33 dX5_removeEdge_33 rfl 0 rfl ?_
      refine kw_get hX 34 (C := RX5) (T := TX5) (N := 9) hin5 2 f2 (fun _ h => h) 23 rfl rfl (by decide) rfl dX5_removeEdge_34 ?_
      refine kw_iload_n hX 37 dX5_removeEdge_37 rfl 1 rfl ?_
      obtain ⟨v7, hc8, h⟩ := kb_some h
      refine kw_callV_V hX 38 (As := [.int a1]) (rest := []) (kX2_dropEdge (kx_l X) Y da v5.1 v5.2.1 v5.2.2.1 v5.2.2.2.1 v5.2.2.2.2.1 v5.2.2.2.2.2 a1 hc8) gX5_removeEdge_X2_dropEdge rfl 1 rfl hdV_X2_dropEdge ⟨rfl, rfl⟩ ⟨by decide, by decide⟩ ⟨Nat.zero_le _, Nat.zero_le _⟩ rfl (Nat.le_of_ble_eq_true rfl) [4] (by decide) rfl (kfc gG_f kfn0) (gs1 := [gE Y ea er e_cn e_M, gT xa ra ga da va ea sa ca pa t_scn, gR Y ra r_er, gG Y ga g_vc g_ec g_F g_T g_X g_Z, gG Y da v5.1 v7.1 v7.2.1 v7.2.2.1 v7.2.2.2.1 v7.2.2.2.2, gA Y va vg v_pi, gG Y (fun j => vg (0 + j)) (v_vc 0) (v_ec 0) (v_F 0) (v_T 0) (v_X 0) (v_Z 0), gG Y (fun j => vg (5 + j)) (v_vc 1) (v_ec 1) (v_F 1) (v_T 1) (v_X 1) (v_Z 1), gG Y (fun j => vg (10 + j)) (v_vc 2) (v_ec 2) (v_F 2) (v_T 2) (v_X 2) (v_Z 2), gG Y (fun j => vg (15 + j)) (v_vc 3) (v_ec 3) (v_F 3) (v_T 3) (v_X 3) (v_Z 3), gG Y (fun j => vg (20 + j)) (v_vc 4) (v_ec 4) (v_F 4) (v_T 4) (v_X 4) (v_Z 4)]) rfl 30 2 rfl rfl rfl dX5_removeEdge_38 ?_
      refine kw_aload_n hX 41 dX5_removeEdge_41 rfl 0 rfl ?_
      obtain ⟨v9, hc10, h⟩ := kb_some h
      refine kw_callV_V hX 42 (As := []) (rest := []) (kX5_commitDraft (kx_l X) Y xa ra ga da va ea sa ca pa er vg e_cn e_M t_scn g_vc g_ec g_F g_T g_X g_Z v5.1 v7.1 v7.2.1 v7.2.2.1 v7.2.2.2.1 v7.2.2.2.2 v_pi v_vc v_ec v_F v_T v_X v_Z hc10) gX5_removeEdge_X5_commitDraft rfl 0 rfl hdV_X5_commitDraft ⟨rfl, rfl⟩ ⟨by decide, by decide⟩ ⟨Nat.zero_le _, Nat.zero_le _⟩ rfl (Nat.le_of_ble_eq_true rfl) [0, 1, 3, 4, 5, 6, 7, 8, 9, 10] (by decide) rfl (kfc gE_f (kfc gT_f (kfc gG_f (kfc rfl (kfc gA_f (kfc gG_f (kfc gG_f (kfc gG_f (kfc gG_f (kfc gG_f kfn0)))))))))) (gs1 := [gE Y ea er v9.1 v9.2.1, gT xa ra ga da va ea sa ca pa v9.2.2.1, gR Y ra r_er, gG Y ga v9.2.2.2.1 v9.2.2.2.2.1 v9.2.2.2.2.2.1 v9.2.2.2.2.2.2.1 v9.2.2.2.2.2.2.2.1 v9.2.2.2.2.2.2.2.2.1, gG Y da v5.1 v7.1 v7.2.1 v7.2.2.1 v7.2.2.2.1 v7.2.2.2.2, gA Y va vg v9.2.2.2.2.2.2.2.2.2.1, gG Y (fun j => vg (0 + j)) (v9.2.2.2.2.2.2.2.2.2.2.1 0) (v9.2.2.2.2.2.2.2.2.2.2.2.1 0) (v9.2.2.2.2.2.2.2.2.2.2.2.2.1 0) (v9.2.2.2.2.2.2.2.2.2.2.2.2.2.1 0) (v9.2.2.2.2.2.2.2.2.2.2.2.2.2.2.1 0) (v9.2.2.2.2.2.2.2.2.2.2.2.2.2.2.2 0), gG Y (fun j => vg (5 + j)) (v9.2.2.2.2.2.2.2.2.2.2.1 1) (v9.2.2.2.2.2.2.2.2.2.2.2.1 1) (v9.2.2.2.2.2.2.2.2.2.2.2.2.1 1) (v9.2.2.2.2.2.2.2.2.2.2.2.2.2.1 1) (v9.2.2.2.2.2.2.2.2.2.2.2.2.2.2.1 1) (v9.2.2.2.2.2.2.2.2.2.2.2.2.2.2.2 1), gG Y (fun j => vg (10 + j)) (v9.2.2.2.2.2.2.2.2.2.2.1 2) (v9.2.2.2.2.2.2.2.2.2.2.2.1 2) (v9.2.2.2.2.2.2.2.2.2.2.2.2.1 2) (v9.2.2.2.2.2.2.2.2.2.2.2.2.2.1 2) (v9.2.2.2.2.2.2.2.2.2.2.2.2.2.2.1 2) (v9.2.2.2.2.2.2.2.2.2.2.2.2.2.2.2 2), gG Y (fun j => vg (15 + j)) (v9.2.2.2.2.2.2.2.2.2.2.1 3) (v9.2.2.2.2.2.2.2.2.2.2.2.1 3) (v9.2.2.2.2.2.2.2.2.2.2.2.2.1 3) (v9.2.2.2.2.2.2.2.2.2.2.2.2.2.1 3) (v9.2.2.2.2.2.2.2.2.2.2.2.2.2.2.1 3) (v9.2.2.2.2.2.2.2.2.2.2.2.2.2.2.2 3), gG Y (fun j => vg (20 + j)) (v9.2.2.2.2.2.2.2.2.2.2.1 4) (v9.2.2.2.2.2.2.2.2.2.2.2.1 4) (v9.2.2.2.2.2.2.2.2.2.2.2.2.1 4) (v9.2.2.2.2.2.2.2.2.2.2.2.2.2.1 4) (v9.2.2.2.2.2.2.2.2.2.2.2.2.2.2.1 4) (v9.2.2.2.2.2.2.2.2.2.2.2.2.2.2.2 4)]) rfl 23 5 rfl rfl rfl dX5_removeEdge_42 ?_
      refine kw_aload_n hX 45 dX5_removeEdge_45 rfl 0 rfl ?_
      refine kw_get hX 46 (C := RX5) (T := TX5) (N := 9) hin5 1 f0 (fun _ h => h) 23 rfl rfl (by decide) rfl dX5_removeEdge_46 ?_
      refine kw_get hX 49 (C := RX2) (T := TX2) (N := 6) hin2 1 f1 (fun _ h => h) 25 rfl rfl (by decide) rfl dX5_removeEdge_49 ?_
      obtain rfl := Option.some.inj h
      exact hret _ _ dX5_removeEdge_52 rfl
    · have h := kif_f c4 h
      refine kw_aload_n hX 15 dX5_removeEdge_15 rfl 0 rfl ?_
      refine kw_bipush hX 16 dX5_removeEdge_16 kcb_m2 ?_
      obtain ⟨v11, hc12, h⟩ := kb_some h
      refine kw_callV_I hX 18 (As := [.int (-2)]) (rest := []) (kX5_fail (kx_l X) Y xa ra ga da va ea sa ca pa t_scn r_er (-2) hc12) gX5_removeEdge_X5_fail rfl 1 rfl hdV_X5_fail ⟨rfl, rfl⟩ ⟨by decide, by decide⟩ ⟨Nat.zero_le _, Nat.zero_le _⟩ rfl (Nat.le_of_ble_eq_true rfl) [1, 2] (by decide) rfl (kfc rfl (kfc gR_f kfn0)) (gs1 := [gE Y ea er e_cn e_M, gT xa ra ga da va ea sa ca pa t_scn, gR Y ra v11.2, gG Y ga g_vc g_ec g_F g_T g_X g_Z, gG Y da d_vc d_ec d_F d_T d_X d_Z, gA Y va vg v_pi, gG Y (fun j => vg (0 + j)) (v_vc 0) (v_ec 0) (v_F 0) (v_T 0) (v_X 0) (v_Z 0), gG Y (fun j => vg (5 + j)) (v_vc 1) (v_ec 1) (v_F 1) (v_T 1) (v_X 1) (v_Z 1), gG Y (fun j => vg (10 + j)) (v_vc 2) (v_ec 2) (v_F 2) (v_T 2) (v_X 2) (v_Z 2), gG Y (fun j => vg (15 + j)) (v_vc 3) (v_ec 3) (v_F 3) (v_T 3) (v_X 3) (v_Z 3), gG Y (fun j => vg (20 + j)) (v_vc 4) (v_ec 4) (v_F 4) (v_T 4) (v_X 4) (v_Z 4)]) rfl 23 5 rfl rfl rfl dX5_removeEdge_18 ?_
      obtain rfl := Option.some.inj h
      exact hret _ _ dX5_removeEdge_21 rfl
def pX5_findEdge (a1 : Int32) (a2 : Int32) (a3 : Int32) (a4 : Int32) (r_er : Nat → Int32) (g_vc : Int32) (g_ec : Int32) (g_F : Nat → Int32) (g_T : Nat → Int32) (g_X : Nat → Int32) (g_Z : Nat → Int32) : Option (Int32 × (Nat → Int32)) := kb (pX5_isVertex a1 g_vc) (fun v1 => (if v1 = 0 then kb (pX5_fail (-2) r_er) (fun v4 => some (v4.1, v4.2)) else kb (pX5_isVertex a2 g_vc) (fun v6 => (if v6 = 0 then kb (pX5_fail (-2) r_er) (fun v11 => some (v11.1, v11.2)) else kb (pX2_edgeBetween a1 a2 a3 a4 g_ec g_F g_T g_X g_Z) (fun v9 => some (v9, r_er))))))
def rmX5_findEdge : Room := { frames := 2, cells := 0, slots := 0, locals := 50 }
theorem hdV_X5_findEdge : yX5_findEdge.cls = RX5 ∧ yX5_findEdge.cls ≠ "java/lang/invoke/MethodHandle" ∧ yX5_findEdge.cls ≠ "java/lang/invoke/VarHandle" ∧ (parseMethodDescriptor yX5_findEdge.desc).map (fun d => d.parameters.length) = some 4 := ⟨rfl, by decide +kernel, by decide +kernel, by decide +kernel⟩
set_option maxHeartbeats 4000000 in
set_option maxRecDepth 100000 in
theorem kX5_findEdge (l : Launch) (Y : KY) (xa : Nat) (ra : Nat) (ga : Nat → Nat) (da : Nat → Nat) (va : Nat) (ea : Nat → Nat) (sa : Nat → Nat) (ca : Nat → Nat) (pa : Nat → Nat) (t_scn : Int32) (r_er : Nat → Int32) (g_vc : Int32) (g_ec : Int32) (g_F : Nat → Int32) (g_T : Nat → Int32) (g_X : Nat → Int32) (g_Z : Nat → Int32) (a1 : Int32) (a2 : Int32) (a3 : Int32) (a4 : Int32) {o : Int32 × (Nat → Int32)} (h : pX5_findEdge a1 a2 a3 a4 r_er g_vc g_ec g_F g_T g_X g_Z = some o) : CtI l yX5_findEdge wsX5_findEdge rmX5_findEdge Y [.ref xa, .int a1, .int a2, .int a3, .int a4] (kfl [gT xa ra ga da va ea sa ca pa t_scn, gR Y ra r_er, gG Y ga g_vc g_ec g_F g_T g_X g_Z]) o.1 (kfl [gT xa ra ga da va ea sa ca pa t_scn, gR Y ra o.2, gG Y ga g_vc g_ec g_F g_T g_X g_Z]) := by
  refine ctI_intro (cc := cX5_findEdge) (maxL := 5) (own := RX5) (by decide +kernel) rfl rfl (Nat.le_of_ble_eq_true rfl) rfl ?_
  intro X A hX _ hret
  have hin5 : ∀ w ∈ u_ws RX5 TX5 9, w ∈ wsX5_findEdge := by decide +kernel
  have f0 := hX.w (Cond.fieldLink RX5 16 "PeriodicNet" "graph" "LPeriodicNet$Graph;") (by decide +kernel)
  unfold pX5_findEdge at h
  refine kw_lv (lv' := [(0, .ref xa), (1, .int a1), (2, .int a2), (3, .int a3), (4, .int a4)]) [0, 1, 2, 3, 4] rfl ?_
  refine kw_aload_n hX 0 dX5_findEdge_0 rfl 0 rfl ?_
  refine kw_iload_n hX 1 dX5_findEdge_1 rfl 1 rfl ?_
  obtain ⟨v1, hc2, h⟩ := kb_some h
  refine kw_callV_I hX 2 (As := [.int a1]) (rest := []) (kX5_isVertex (kx_l X) Y xa ra ga da va ea sa ca pa t_scn g_vc g_ec g_F g_T g_X g_Z a1 hc2) gX5_findEdge_X5_isVertex rfl 1 rfl hdV_X5_isVertex ⟨rfl, rfl⟩ ⟨by decide, by decide⟩ ⟨Nat.zero_le _, Nat.zero_le _⟩ rfl (Nat.le_of_ble_eq_true rfl) [0, 2] (by decide) rfl (kfc rfl (kfc rfl kfn0)) (gs1 := [gT xa ra ga da va ea sa ca pa t_scn, gR Y ra r_er, gG Y ga g_vc g_ec g_F g_T g_X g_Z]) rfl 0 5 rfl rfl rfl dX5_findEdge_2 ?_
  refine kw_if_eq hX 5 16 dX5_findEdge_5 (by decide) (fun c3 => ?_) (fun c3 => ?_)
  · have h := kif_t c3 h
    refine kw_aload_n hX 16 dX5_findEdge_16 rfl 0 rfl ?_
    refine kw_bipush hX 17 dX5_findEdge_17 kcb_m2 ?_
    obtain ⟨v4, hc5, h⟩ := kb_some h
    refine kw_callV_I hX 19 (As := [.int (-2)]) (rest := []) (kX5_fail (kx_l X) Y xa ra ga da va ea sa ca pa t_scn r_er (-2) hc5) gX5_findEdge_X5_fail rfl 1 rfl hdV_X5_fail ⟨rfl, rfl⟩ ⟨by decide, by decide⟩ ⟨Nat.zero_le _, Nat.zero_le _⟩ rfl (Nat.le_of_ble_eq_true rfl) [0, 1] (by decide) rfl (kfc rfl (kfc gR_f kfn0)) (gs1 := [gT xa ra ga da va ea sa ca pa t_scn, gR Y ra v4.2, gG Y ga g_vc g_ec g_F g_T g_X g_Z]) rfl 0 5 rfl rfl rfl dX5_findEdge_19 ?_
    obtain rfl := Option.some.inj h
    exact hret _ _ dX5_findEdge_22 rfl
  · have h := kif_f c3 h
    refine kw_aload_n hX 8 dX5_findEdge_8 rfl 0 rfl ?_
    refine kw_iload_n hX 9 dX5_findEdge_9 rfl 2 rfl ?_
    obtain ⟨v6, hc7, h⟩ := kb_some h
    refine kw_callV_I hX 10 (As := [.int a2]) (rest := []) (kX5_isVertex (kx_l X) Y xa ra ga da va ea sa ca pa t_scn g_vc g_ec g_F g_T g_X g_Z a2 hc7) gX5_findEdge_X5_isVertex rfl 1 rfl hdV_X5_isVertex ⟨rfl, rfl⟩ ⟨by decide, by decide⟩ ⟨Nat.zero_le _, Nat.zero_le _⟩ rfl (Nat.le_of_ble_eq_true rfl) [0, 2] (by decide) rfl (kfc rfl (kfc rfl kfn0)) (gs1 := [gT xa ra ga da va ea sa ca pa t_scn, gR Y ra r_er, gG Y ga g_vc g_ec g_F g_T g_X g_Z]) rfl 0 5 rfl rfl rfl dX5_findEdge_10 ?_
    refine kw_if_ne hX 13 23 dX5_findEdge_13 (by decide) (fun c8 => ?_) (fun c8 => ?_)
    · have h := kif_f c8 h
      refine kw_aload_n hX 23 dX5_findEdge_23 rfl 0 rfl ?_
      refine kw_get hX 24 (C := RX5) (T := TX5) (N := 9) hin5 1 f0 (fun _ h => h) 0 rfl rfl (by decide) rfl dX5_findEdge_24 ?_
      refine kw_iload_n hX 27 dX5_findEdge_27 rfl 1 rfl ?_
      refine kw_iload_n hX 28 dX5_findEdge_28 rfl 2 rfl ?_
      refine kw_iload_n hX 29 dX5_findEdge_29 rfl 3 rfl ?_
      refine kw_iload hX 30 dX5_findEdge_30 4 rfl ?_
      obtain ⟨v9, hc10, h⟩ := kb_some h
      refine kw_callV_I hX 32 (As := [.int a1, .int a2, .int a3, .int a4]) (rest := []) (kX2_edgeBetween (kx_l X) Y ga g_vc g_ec g_F g_T g_X g_Z a1 a2 a3 a4 hc10) gX5_findEdge_X2_edgeBetween rfl 4 rfl hdV_X2_edgeBetween ⟨rfl, rfl⟩ ⟨by decide, by decide⟩ ⟨Nat.zero_le _, Nat.zero_le _⟩ rfl (Nat.le_of_ble_eq_true rfl) [2] (by decide) rfl (kfc rfl kfn0) (gs1 := [gT xa ra ga da va ea sa ca pa t_scn, gR Y ra r_er, gG Y ga g_vc g_ec g_F g_T g_X g_Z]) rfl 2 2 rfl rfl rfl dX5_findEdge_32 ?_
      obtain rfl := Option.some.inj h
      exact hret _ _ dX5_findEdge_35 rfl
    · have h := kif_t c8 h
      refine kw_aload_n hX 16 dX5_findEdge_16 rfl 0 rfl ?_
      refine kw_bipush hX 17 dX5_findEdge_17 kcb_m2 ?_
      obtain ⟨v11, hc12, h⟩ := kb_some h
      refine kw_callV_I hX 19 (As := [.int (-2)]) (rest := []) (kX5_fail (kx_l X) Y xa ra ga da va ea sa ca pa t_scn r_er (-2) hc12) gX5_findEdge_X5_fail rfl 1 rfl hdV_X5_fail ⟨rfl, rfl⟩ ⟨by decide, by decide⟩ ⟨Nat.zero_le _, Nat.zero_le _⟩ rfl (Nat.le_of_ble_eq_true rfl) [0, 1] (by decide) rfl (kfc rfl (kfc gR_f kfn0)) (gs1 := [gT xa ra ga da va ea sa ca pa t_scn, gR Y ra v11.2, gG Y ga g_vc g_ec g_F g_T g_X g_Z]) rfl 0 5 rfl rfl rfl dX5_findEdge_19 ?_
      obtain rfl := Option.some.inj h
      exact hret _ _ dX5_findEdge_22 rfl
def pX5_commitShifts  (e_cn : Nat → Int32) (e_M : Nat → Nat → Int32) (t_scn : Int32) (r_er : Nat → Int32) (g_vc : Int32) (g_ec : Int32) (g_F : Nat → Int32) (g_T : Nat → Int32) (g_X : Nat → Int32) (g_Z : Nat → Int32) (d_vc : Int32) (d_ec : Int32) (d_F : Nat → Int32) (d_T : Nat → Int32) (d_X : Nat → Int32) (d_Z : Nat → Int32) (v_pi : Nat → Nat) (v_vc : Nat → Int32) (v_ec : Nat → Int32) (v_F : Nat → Nat → Int32) (v_T : Nat → Nat → Int32) (v_X : Nat → Nat → Int32) (v_Z : Nat → Nat → Int32) : Option (Int32 × (Nat → Int32) × (Nat → Nat → Int32) × Int32 × (Nat → Int32) × Int32 × Int32 × (Nat → Int32) × (Nat → Int32) × (Nat → Int32) × (Nat → Int32) × (Nat → Nat) × (Nat → Int32) × (Nat → Int32) × (Nat → Nat → Int32) × (Nat → Nat → Int32) × (Nat → Nat → Int32) × (Nat → Nat → Int32)) := kb (pX2_hasShiftsInRange d_ec d_X d_Z) (fun v1 => (if v1 = 0 then kb (pX5_fail (-5) r_er) (fun v8 => some (v8.1, e_cn, e_M, t_scn, v8.2, g_vc, g_ec, g_F, g_T, g_X, g_Z, v_pi, v_vc, v_ec, v_F, v_T, v_X, v_Z)) else kb (pX2_shiftsUnlike d_ec d_X d_Z g_ec g_X g_Z) (fun v4 => kb (pX5_commitDraft e_cn e_M t_scn g_vc g_ec g_F g_T g_X g_Z d_vc d_ec d_F d_T d_X d_Z v_pi v_vc v_ec v_F v_T v_X v_Z) (fun v6 => some (v4, v6.1, v6.2.1, v6.2.2.1, r_er, v6.2.2.2.1, v6.2.2.2.2.1, v6.2.2.2.2.2.1, v6.2.2.2.2.2.2.1, v6.2.2.2.2.2.2.2.1, v6.2.2.2.2.2.2.2.2.1, v6.2.2.2.2.2.2.2.2.2.1, v6.2.2.2.2.2.2.2.2.2.2.1, v6.2.2.2.2.2.2.2.2.2.2.2.1, v6.2.2.2.2.2.2.2.2.2.2.2.2.1, v6.2.2.2.2.2.2.2.2.2.2.2.2.2.1, v6.2.2.2.2.2.2.2.2.2.2.2.2.2.2.1, v6.2.2.2.2.2.2.2.2.2.2.2.2.2.2.2)))))
def rmX5_commitShifts : Room := { frames := 5, cells := 0, slots := 0, locals := 113 }
theorem hdV_X5_commitShifts : yX5_commitShifts.cls = RX5 ∧ yX5_commitShifts.cls ≠ "java/lang/invoke/MethodHandle" ∧ yX5_commitShifts.cls ≠ "java/lang/invoke/VarHandle" ∧ (parseMethodDescriptor yX5_commitShifts.desc).map (fun d => d.parameters.length) = some 0 := ⟨rfl, by decide +kernel, by decide +kernel, by decide +kernel⟩
set_option maxHeartbeats 4000000 in
set_option maxRecDepth 100000 in
theorem kX5_commitShifts (l : Launch) (Y : KY) (xa : Nat) (ra : Nat) (ga : Nat → Nat) (da : Nat → Nat) (va : Nat) (ea : Nat → Nat) (sa : Nat → Nat) (ca : Nat → Nat) (pa : Nat → Nat) (er : Nat → Nat) (vg : Nat → Nat) (e_cn : Nat → Int32) (e_M : Nat → Nat → Int32) (t_scn : Int32) (r_er : Nat → Int32) (g_vc : Int32) (g_ec : Int32) (g_F : Nat → Int32) (g_T : Nat → Int32) (g_X : Nat → Int32) (g_Z : Nat → Int32) (d_vc : Int32) (d_ec : Int32) (d_F : Nat → Int32) (d_T : Nat → Int32) (d_X : Nat → Int32) (d_Z : Nat → Int32) (v_pi : Nat → Nat) (v_vc : Nat → Int32) (v_ec : Nat → Int32) (v_F : Nat → Nat → Int32) (v_T : Nat → Nat → Int32) (v_X : Nat → Nat → Int32) (v_Z : Nat → Nat → Int32)  {o : Int32 × (Nat → Int32) × (Nat → Nat → Int32) × Int32 × (Nat → Int32) × Int32 × Int32 × (Nat → Int32) × (Nat → Int32) × (Nat → Int32) × (Nat → Int32) × (Nat → Nat) × (Nat → Int32) × (Nat → Int32) × (Nat → Nat → Int32) × (Nat → Nat → Int32) × (Nat → Nat → Int32) × (Nat → Nat → Int32)} (h : pX5_commitShifts e_cn e_M t_scn r_er g_vc g_ec g_F g_T g_X g_Z d_vc d_ec d_F d_T d_X d_Z v_pi v_vc v_ec v_F v_T v_X v_Z = some o) : CtI l yX5_commitShifts wsX5_commitShifts rmX5_commitShifts Y [.ref xa] (kfl [gE Y ea er e_cn e_M, gT xa ra ga da va ea sa ca pa t_scn, gR Y ra r_er, gG Y ga g_vc g_ec g_F g_T g_X g_Z, gG Y da d_vc d_ec d_F d_T d_X d_Z, gA Y va vg v_pi, gG Y (fun j => vg (0 + j)) (v_vc 0) (v_ec 0) (v_F 0) (v_T 0) (v_X 0) (v_Z 0), gG Y (fun j => vg (5 + j)) (v_vc 1) (v_ec 1) (v_F 1) (v_T 1) (v_X 1) (v_Z 1), gG Y (fun j => vg (10 + j)) (v_vc 2) (v_ec 2) (v_F 2) (v_T 2) (v_X 2) (v_Z 2), gG Y (fun j => vg (15 + j)) (v_vc 3) (v_ec 3) (v_F 3) (v_T 3) (v_X 3) (v_Z 3), gG Y (fun j => vg (20 + j)) (v_vc 4) (v_ec 4) (v_F 4) (v_T 4) (v_X 4) (v_Z 4)]) o.1 (kfl [gE Y ea er o.2.1 o.2.2.1, gT xa ra ga da va ea sa ca pa o.2.2.2.1, gR Y ra o.2.2.2.2.1, gG Y ga o.2.2.2.2.2.1 o.2.2.2.2.2.2.1 o.2.2.2.2.2.2.2.1 o.2.2.2.2.2.2.2.2.1 o.2.2.2.2.2.2.2.2.2.1 o.2.2.2.2.2.2.2.2.2.2.1, gG Y da d_vc d_ec d_F d_T d_X d_Z, gA Y va vg o.2.2.2.2.2.2.2.2.2.2.2.1, gG Y (fun j => vg (0 + j)) (o.2.2.2.2.2.2.2.2.2.2.2.2.1 0) (o.2.2.2.2.2.2.2.2.2.2.2.2.2.1 0) (o.2.2.2.2.2.2.2.2.2.2.2.2.2.2.1 0) (o.2.2.2.2.2.2.2.2.2.2.2.2.2.2.2.1 0) (o.2.2.2.2.2.2.2.2.2.2.2.2.2.2.2.2.1 0) (o.2.2.2.2.2.2.2.2.2.2.2.2.2.2.2.2.2 0), gG Y (fun j => vg (5 + j)) (o.2.2.2.2.2.2.2.2.2.2.2.2.1 1) (o.2.2.2.2.2.2.2.2.2.2.2.2.2.1 1) (o.2.2.2.2.2.2.2.2.2.2.2.2.2.2.1 1) (o.2.2.2.2.2.2.2.2.2.2.2.2.2.2.2.1 1) (o.2.2.2.2.2.2.2.2.2.2.2.2.2.2.2.2.1 1) (o.2.2.2.2.2.2.2.2.2.2.2.2.2.2.2.2.2 1), gG Y (fun j => vg (10 + j)) (o.2.2.2.2.2.2.2.2.2.2.2.2.1 2) (o.2.2.2.2.2.2.2.2.2.2.2.2.2.1 2) (o.2.2.2.2.2.2.2.2.2.2.2.2.2.2.1 2) (o.2.2.2.2.2.2.2.2.2.2.2.2.2.2.2.1 2) (o.2.2.2.2.2.2.2.2.2.2.2.2.2.2.2.2.1 2) (o.2.2.2.2.2.2.2.2.2.2.2.2.2.2.2.2.2 2), gG Y (fun j => vg (15 + j)) (o.2.2.2.2.2.2.2.2.2.2.2.2.1 3) (o.2.2.2.2.2.2.2.2.2.2.2.2.2.1 3) (o.2.2.2.2.2.2.2.2.2.2.2.2.2.2.1 3) (o.2.2.2.2.2.2.2.2.2.2.2.2.2.2.2.1 3) (o.2.2.2.2.2.2.2.2.2.2.2.2.2.2.2.2.1 3) (o.2.2.2.2.2.2.2.2.2.2.2.2.2.2.2.2.2 3), gG Y (fun j => vg (20 + j)) (o.2.2.2.2.2.2.2.2.2.2.2.2.1 4) (o.2.2.2.2.2.2.2.2.2.2.2.2.2.1 4) (o.2.2.2.2.2.2.2.2.2.2.2.2.2.2.1 4) (o.2.2.2.2.2.2.2.2.2.2.2.2.2.2.2.1 4) (o.2.2.2.2.2.2.2.2.2.2.2.2.2.2.2.2.1 4) (o.2.2.2.2.2.2.2.2.2.2.2.2.2.2.2.2.2 4)]) := by
  refine ctI_intro (cc := cX5_commitShifts) (maxL := 2) (own := RX5) (by decide +kernel) rfl rfl (Nat.le_of_ble_eq_true rfl) rfl ?_
  intro X A hX _ hret
  have hin5 : ∀ w ∈ u_ws RX5 TX5 9, w ∈ wsX5_commitShifts := by decide +kernel
  have f0 := hX.w (Cond.fieldLink RX5 20 "PeriodicNet" "draft" "LPeriodicNet$Graph;") (by decide +kernel)
  have f1 := hX.w (Cond.fieldLink RX5 16 "PeriodicNet" "graph" "LPeriodicNet$Graph;") (by decide +kernel)
  unfold pX5_commitShifts at h
  refine kw_lv (lv' := [(0, .ref xa)]) [0] rfl ?_
  refine kw_aload_n hX 0 dX5_commitShifts_0 rfl 0 rfl ?_
  refine kw_get hX 1 (C := RX5) (T := TX5) (N := 9) hin5 2 f0 (fun _ h => h) 23 rfl rfl (by decide) rfl dX5_commitShifts_1 ?_
  obtain ⟨v1, hc2, h⟩ := kb_some h
  refine kw_callV_I hX 4 (As := []) (rest := []) (kX2_hasShiftsInRange (kx_l X) Y da d_vc d_ec d_F d_T d_X d_Z hc2) gX5_commitShifts_X2_hasShiftsInRange rfl 0 rfl hdV_X2_hasShiftsInRange ⟨rfl, rfl⟩ ⟨by decide, by decide⟩ ⟨Nat.zero_le _, Nat.zero_le _⟩ rfl (Nat.le_of_ble_eq_true rfl) [4] (by decide) rfl (kfc rfl kfn0) (gs1 := [gE Y ea er e_cn e_M, gT xa ra ga da va ea sa ca pa t_scn, gR Y ra r_er, gG Y ga g_vc g_ec g_F g_T g_X g_Z, gG Y da d_vc d_ec d_F d_T d_X d_Z, gA Y va vg v_pi, gG Y (fun j => vg (0 + j)) (v_vc 0) (v_ec 0) (v_F 0) (v_T 0) (v_X 0) (v_Z 0), gG Y (fun j => vg (5 + j)) (v_vc 1) (v_ec 1) (v_F 1) (v_T 1) (v_X 1) (v_Z 1), gG Y (fun j => vg (10 + j)) (v_vc 2) (v_ec 2) (v_F 2) (v_T 2) (v_X 2) (v_Z 2), gG Y (fun j => vg (15 + j)) (v_vc 3) (v_ec 3) (v_F 3) (v_T 3) (v_X 3) (v_Z 3), gG Y (fun j => vg (20 + j)) (v_vc 4) (v_ec 4) (v_F 4) (v_T 4) (v_X 4) (v_Z 4)]) rfl 30 2 rfl rfl rfl dX5_commitShifts_4 ?_
  refine kw_if_ne hX 7 17 dX5_commitShifts_7 (by decide) (fun c3 => ?_) (fun c3 => ?_)
  · have h := kif_f c3 h
    refine kw_aload_n hX 17 dX5_commitShifts_17 rfl 0 rfl ?_
    refine kw_get hX 18 (C := RX5) (T := TX5) (N := 9) hin5 2 f0 (fun _ h => h) 23 rfl rfl (by decide) rfl dX5_commitShifts_18 ?_
    refine kw_aload_n hX 21 dX5_commitShifts_21 rfl 0 rfl ?_
    refine kw_get hX 22 (C := RX5) (T := TX5) (N := 9) hin5 1 f1 (fun _ h => h) 23 rfl rfl (by decide) rfl dX5_commitShifts_22 ?_
    obtain ⟨v4, hc5, h⟩ := kb_some h
    refine kw_callV_I hX 25 (As := [.ref (ga 0)]) (rest := []) (kX2_shiftsUnlike (kx_l X) Y da ga d_vc d_ec d_F d_T d_X d_Z g_vc g_ec g_F g_T g_X g_Z hc5) gX5_commitShifts_X2_shiftsUnlike rfl 1 rfl hdV_X2_shiftsUnlike ⟨rfl, rfl⟩ ⟨by decide, by decide⟩ ⟨Nat.zero_le _, Nat.zero_le _⟩ rfl (Nat.le_of_ble_eq_true rfl) [4, 3] (by decide) rfl (kfc rfl (kfc rfl kfn0)) (gs1 := [gE Y ea er e_cn e_M, gT xa ra ga da va ea sa ca pa t_scn, gR Y ra r_er, gG Y ga g_vc g_ec g_F g_T g_X g_Z, gG Y da d_vc d_ec d_F d_T d_X d_Z, gA Y va vg v_pi, gG Y (fun j => vg (0 + j)) (v_vc 0) (v_ec 0) (v_F 0) (v_T 0) (v_X 0) (v_Z 0), gG Y (fun j => vg (5 + j)) (v_vc 1) (v_ec 1) (v_F 1) (v_T 1) (v_X 1) (v_Z 1), gG Y (fun j => vg (10 + j)) (v_vc 2) (v_ec 2) (v_F 2) (v_T 2) (v_X 2) (v_Z 2), gG Y (fun j => vg (15 + j)) (v_vc 3) (v_ec 3) (v_F 3) (v_T 3) (v_X 3) (v_Z 3), gG Y (fun j => vg (20 + j)) (v_vc 4) (v_ec 4) (v_F 4) (v_T 4) (v_X 4) (v_Z 4)]) rfl 30 2 rfl rfl rfl dX5_commitShifts_25 ?_
    refine kw_istore_n (lv' := [(1, .int v4), (0, .ref xa)]) hX 28 dX5_commitShifts_28 rfl (by decide) rfl ?_
    refine kw_aload_n hX 29 dX5_commitShifts_29 rfl 1 rfl ?_
    obtain ⟨v6, hc7, h⟩ := kb_some h
    refine kw_callV_V hX 30 (As := []) (rest := []) (kX5_commitDraft (kx_l X) Y xa ra ga da va ea sa ca pa er vg e_cn e_M t_scn g_vc g_ec g_F g_T g_X g_Z d_vc d_ec d_F d_T d_X d_Z v_pi v_vc v_ec v_F v_T v_X v_Z hc7) gX5_commitShifts_X5_commitDraft rfl 0 rfl hdV_X5_commitDraft ⟨rfl, rfl⟩ ⟨by decide, by decide⟩ ⟨Nat.zero_le _, Nat.zero_le _⟩ rfl (Nat.le_of_ble_eq_true rfl) [0, 1, 3, 4, 5, 6, 7, 8, 9, 10] (by decide) rfl (kfc gE_f (kfc gT_f (kfc gG_f (kfc rfl (kfc gA_f (kfc gG_f (kfc gG_f (kfc gG_f (kfc gG_f (kfc gG_f kfn0)))))))))) (gs1 := [gE Y ea er v6.1 v6.2.1, gT xa ra ga da va ea sa ca pa v6.2.2.1, gR Y ra r_er, gG Y ga v6.2.2.2.1 v6.2.2.2.2.1 v6.2.2.2.2.2.1 v6.2.2.2.2.2.2.1 v6.2.2.2.2.2.2.2.1 v6.2.2.2.2.2.2.2.2.1, gG Y da d_vc d_ec d_F d_T d_X d_Z, gA Y va vg v6.2.2.2.2.2.2.2.2.2.1, gG Y (fun j => vg (0 + j)) (v6.2.2.2.2.2.2.2.2.2.2.1 0) (v6.2.2.2.2.2.2.2.2.2.2.2.1 0) (v6.2.2.2.2.2.2.2.2.2.2.2.2.1 0) (v6.2.2.2.2.2.2.2.2.2.2.2.2.2.1 0) (v6.2.2.2.2.2.2.2.2.2.2.2.2.2.2.1 0) (v6.2.2.2.2.2.2.2.2.2.2.2.2.2.2.2 0), gG Y (fun j => vg (5 + j)) (v6.2.2.2.2.2.2.2.2.2.2.1 1) (v6.2.2.2.2.2.2.2.2.2.2.2.1 1) (v6.2.2.2.2.2.2.2.2.2.2.2.2.1 1) (v6.2.2.2.2.2.2.2.2.2.2.2.2.2.1 1) (v6.2.2.2.2.2.2.2.2.2.2.2.2.2.2.1 1) (v6.2.2.2.2.2.2.2.2.2.2.2.2.2.2.2 1), gG Y (fun j => vg (10 + j)) (v6.2.2.2.2.2.2.2.2.2.2.1 2) (v6.2.2.2.2.2.2.2.2.2.2.2.1 2) (v6.2.2.2.2.2.2.2.2.2.2.2.2.1 2) (v6.2.2.2.2.2.2.2.2.2.2.2.2.2.1 2) (v6.2.2.2.2.2.2.2.2.2.2.2.2.2.2.1 2) (v6.2.2.2.2.2.2.2.2.2.2.2.2.2.2.2 2), gG Y (fun j => vg (15 + j)) (v6.2.2.2.2.2.2.2.2.2.2.1 3) (v6.2.2.2.2.2.2.2.2.2.2.2.1 3) (v6.2.2.2.2.2.2.2.2.2.2.2.2.1 3) (v6.2.2.2.2.2.2.2.2.2.2.2.2.2.1 3) (v6.2.2.2.2.2.2.2.2.2.2.2.2.2.2.1 3) (v6.2.2.2.2.2.2.2.2.2.2.2.2.2.2.2 3), gG Y (fun j => vg (20 + j)) (v6.2.2.2.2.2.2.2.2.2.2.1 4) (v6.2.2.2.2.2.2.2.2.2.2.2.1 4) (v6.2.2.2.2.2.2.2.2.2.2.2.2.1 4) (v6.2.2.2.2.2.2.2.2.2.2.2.2.2.1 4) (v6.2.2.2.2.2.2.2.2.2.2.2.2.2.2.1 4) (v6.2.2.2.2.2.2.2.2.2.2.2.2.2.2.2 4)]) rfl 23 5 rfl rfl rfl dX5_commitShifts_30 ?_
    refine kw_iload_n hX 33 dX5_commitShifts_33 rfl 0 rfl ?_
    obtain rfl := Option.some.inj h
    exact hret _ _ dX5_commitShifts_34 rfl
  · have h := kif_t c3 h
    refine kw_aload_n hX 10 dX5_commitShifts_10 rfl 0 rfl ?_
    refine kw_bipush hX 11 dX5_commitShifts_11 kcb_m5 ?_
    obtain ⟨v8, hc9, h⟩ := kb_some h
    refine kw_callV_I hX 13 (As := [.int (-5)]) (rest := []) (kX5_fail (kx_l X) Y xa ra ga da va ea sa ca pa t_scn r_er (-5) hc9) gX5_commitShifts_X5_fail rfl 1 rfl hdV_X5_fail ⟨rfl, rfl⟩ ⟨by decide, by decide⟩ ⟨Nat.zero_le _, Nat.zero_le _⟩ rfl (Nat.le_of_ble_eq_true rfl) [1, 2] (by decide) rfl (kfc rfl (kfc gR_f kfn0)) (gs1 := [gE Y ea er e_cn e_M, gT xa ra ga da va ea sa ca pa t_scn, gR Y ra v8.2, gG Y ga g_vc g_ec g_F g_T g_X g_Z, gG Y da d_vc d_ec d_F d_T d_X d_Z, gA Y va vg v_pi, gG Y (fun j => vg (0 + j)) (v_vc 0) (v_ec 0) (v_F 0) (v_T 0) (v_X 0) (v_Z 0), gG Y (fun j => vg (5 + j)) (v_vc 1) (v_ec 1) (v_F 1) (v_T 1) (v_X 1) (v_Z 1), gG Y (fun j => vg (10 + j)) (v_vc 2) (v_ec 2) (v_F 2) (v_T 2) (v_X 2) (v_Z 2), gG Y (fun j => vg (15 + j)) (v_vc 3) (v_ec 3) (v_F 3) (v_T 3) (v_X 3) (v_Z 3), gG Y (fun j => vg (20 + j)) (v_vc 4) (v_ec 4) (v_F 4) (v_T 4) (v_X 4) (v_Z 4)]) rfl 23 5 rfl rfl rfl dX5_commitShifts_13 ?_
    obtain rfl := Option.some.inj h
    exact hret _ _ dX5_commitShifts_16 rfl
def pX5_moveVertex (a1 : Int32) (a2 : Int32) (a3 : Int32) (e_cn : Nat → Int32) (e_M : Nat → Nat → Int32) (t_scn : Int32) (r_er : Nat → Int32) (g_vc : Int32) (g_ec : Int32) (g_F : Nat → Int32) (g_T : Nat → Int32) (g_X : Nat → Int32) (g_Z : Nat → Int32) (d_vc : Int32) (d_ec : Int32) (d_F : Nat → Int32) (d_T : Nat → Int32) (d_X : Nat → Int32) (d_Z : Nat → Int32) (v_pi : Nat → Nat) (v_vc : Nat → Int32) (v_ec : Nat → Int32) (v_F : Nat → Nat → Int32) (v_T : Nat → Nat → Int32) (v_X : Nat → Nat → Int32) (v_Z : Nat → Nat → Int32) : Option (Int32 × (Nat → Int32) × (Nat → Nat → Int32) × Int32 × (Nat → Int32) × Int32 × Int32 × (Nat → Int32) × (Nat → Int32) × (Nat → Int32) × (Nat → Int32) × Int32 × Int32 × (Nat → Int32) × (Nat → Int32) × (Nat → Int32) × (Nat → Int32) × (Nat → Nat) × (Nat → Int32) × (Nat → Int32) × (Nat → Nat → Int32) × (Nat → Nat → Int32) × (Nat → Nat → Int32) × (Nat → Nat → Int32)) := kb (pX5_isVertex a1 g_vc) (fun v1 => (if v1 = 0 then kb (pX5_fail (-2) r_er) (fun v4 => some (v4.1, e_cn, e_M, t_scn, v4.2, g_vc, g_ec, g_F, g_T, g_X, g_Z, d_vc, d_ec, d_F, d_T, d_X, d_Z, v_pi, v_vc, v_ec, v_F, v_T, v_X, v_Z)) else kb (pX5_isShift a2) (fun v6 => (if v6 = 0 then kb (pX5_fail (-2) r_er) (fun v9 => some (v9.1, e_cn, e_M, t_scn, v9.2, g_vc, g_ec, g_F, g_T, g_X, g_Z, d_vc, d_ec, d_F, d_T, d_X, d_Z, v_pi, v_vc, v_ec, v_F, v_T, v_X, v_Z)) else kb (pX5_isShift a3) (fun v11 => (if v11 = 0 then kb (pX5_fail (-2) r_er) (fun v20 => some (v20.1, e_cn, e_M, t_scn, v20.2, g_vc, g_ec, g_F, g_T, g_X, g_Z, d_vc, d_ec, d_F, d_T, d_X, d_Z, v_pi, v_vc, v_ec, v_F, v_T, v_X, v_Z)) else kb (pX2_copyFrom d_vc d_ec d_F d_T d_X d_Z g_vc g_ec g_F g_T g_X g_Z) (fun v14 => kb (pX2_renameNodes a1 a2 a3 v14.2.1 v14.2.2.1 v14.2.2.2.1 v14.2.2.2.2.1 v14.2.2.2.2.2) (fun v16 => kb (pX5_commitShifts e_cn e_M t_scn r_er g_vc g_ec g_F g_T g_X g_Z v14.1 v14.2.1 v14.2.2.1 v14.2.2.2.1 v16.1 v16.2 v_pi v_vc v_ec v_F v_T v_X v_Z) (fun v18 => some (v18.1, v18.2.1, v18.2.2.1, v18.2.2.2.1, v18.2.2.2.2.1, v18.2.2.2.2.2.1, v18.2.2.2.2.2.2.1, v18.2.2.2.2.2.2.2.1, v18.2.2.2.2.2.2.2.2.1, v18.2.2.2.2.2.2.2.2.2.1, v18.2.2.2.2.2.2.2.2.2.2.1, v14.1, v14.2.1, v14.2.2.1, v14.2.2.2.1, v16.1, v16.2, v18.2.2.2.2.2.2.2.2.2.2.2.1, v18.2.2.2.2.2.2.2.2.2.2.2.2.1, v18.2.2.2.2.2.2.2.2.2.2.2.2.2.1, v18.2.2.2.2.2.2.2.2.2.2.2.2.2.2.1, v18.2.2.2.2.2.2.2.2.2.2.2.2.2.2.2.1, v18.2.2.2.2.2.2.2.2.2.2.2.2.2.2.2.2.1, v18.2.2.2.2.2.2.2.2.2.2.2.2.2.2.2.2.2))))))))))
def rmX5_moveVertex : Room := { frames := 6, cells := 0, slots := 0, locals := 134 }
theorem hdV_X5_moveVertex : yX5_moveVertex.cls = RX5 ∧ yX5_moveVertex.cls ≠ "java/lang/invoke/MethodHandle" ∧ yX5_moveVertex.cls ≠ "java/lang/invoke/VarHandle" ∧ (parseMethodDescriptor yX5_moveVertex.desc).map (fun d => d.parameters.length) = some 3 := ⟨rfl, by decide +kernel, by decide +kernel, by decide +kernel⟩
set_option maxHeartbeats 4000000 in
set_option maxRecDepth 100000 in
theorem kX5_moveVertex (l : Launch) (Y : KY) (xa : Nat) (ra : Nat) (ga : Nat → Nat) (da : Nat → Nat) (va : Nat) (ea : Nat → Nat) (sa : Nat → Nat) (ca : Nat → Nat) (pa : Nat → Nat) (er : Nat → Nat) (vg : Nat → Nat) (e_cn : Nat → Int32) (e_M : Nat → Nat → Int32) (t_scn : Int32) (r_er : Nat → Int32) (g_vc : Int32) (g_ec : Int32) (g_F : Nat → Int32) (g_T : Nat → Int32) (g_X : Nat → Int32) (g_Z : Nat → Int32) (d_vc : Int32) (d_ec : Int32) (d_F : Nat → Int32) (d_T : Nat → Int32) (d_X : Nat → Int32) (d_Z : Nat → Int32) (v_pi : Nat → Nat) (v_vc : Nat → Int32) (v_ec : Nat → Int32) (v_F : Nat → Nat → Int32) (v_T : Nat → Nat → Int32) (v_X : Nat → Nat → Int32) (v_Z : Nat → Nat → Int32) (a1 : Int32) (a2 : Int32) (a3 : Int32) {o : Int32 × (Nat → Int32) × (Nat → Nat → Int32) × Int32 × (Nat → Int32) × Int32 × Int32 × (Nat → Int32) × (Nat → Int32) × (Nat → Int32) × (Nat → Int32) × Int32 × Int32 × (Nat → Int32) × (Nat → Int32) × (Nat → Int32) × (Nat → Int32) × (Nat → Nat) × (Nat → Int32) × (Nat → Int32) × (Nat → Nat → Int32) × (Nat → Nat → Int32) × (Nat → Nat → Int32) × (Nat → Nat → Int32)} (h : pX5_moveVertex a1 a2 a3 e_cn e_M t_scn r_er g_vc g_ec g_F g_T g_X g_Z d_vc d_ec d_F d_T d_X d_Z v_pi v_vc v_ec v_F v_T v_X v_Z = some o) : CtI l yX5_moveVertex wsX5_moveVertex rmX5_moveVertex Y [.ref xa, .int a1, .int a2, .int a3] (kfl [gE Y ea er e_cn e_M, gT xa ra ga da va ea sa ca pa t_scn, gR Y ra r_er, gG Y ga g_vc g_ec g_F g_T g_X g_Z, gG Y da d_vc d_ec d_F d_T d_X d_Z, gA Y va vg v_pi, gG Y (fun j => vg (0 + j)) (v_vc 0) (v_ec 0) (v_F 0) (v_T 0) (v_X 0) (v_Z 0), gG Y (fun j => vg (5 + j)) (v_vc 1) (v_ec 1) (v_F 1) (v_T 1) (v_X 1) (v_Z 1), gG Y (fun j => vg (10 + j)) (v_vc 2) (v_ec 2) (v_F 2) (v_T 2) (v_X 2) (v_Z 2), gG Y (fun j => vg (15 + j)) (v_vc 3) (v_ec 3) (v_F 3) (v_T 3) (v_X 3) (v_Z 3), gG Y (fun j => vg (20 + j)) (v_vc 4) (v_ec 4) (v_F 4) (v_T 4) (v_X 4) (v_Z 4)]) o.1 (kfl [gE Y ea er o.2.1 o.2.2.1, gT xa ra ga da va ea sa ca pa o.2.2.2.1, gR Y ra o.2.2.2.2.1, gG Y ga o.2.2.2.2.2.1 o.2.2.2.2.2.2.1 o.2.2.2.2.2.2.2.1 o.2.2.2.2.2.2.2.2.1 o.2.2.2.2.2.2.2.2.2.1 o.2.2.2.2.2.2.2.2.2.2.1, gG Y da o.2.2.2.2.2.2.2.2.2.2.2.1 o.2.2.2.2.2.2.2.2.2.2.2.2.1 o.2.2.2.2.2.2.2.2.2.2.2.2.2.1 o.2.2.2.2.2.2.2.2.2.2.2.2.2.2.1 o.2.2.2.2.2.2.2.2.2.2.2.2.2.2.2.1 o.2.2.2.2.2.2.2.2.2.2.2.2.2.2.2.2.1, gA Y va vg o.2.2.2.2.2.2.2.2.2.2.2.2.2.2.2.2.2.1, gG Y (fun j => vg (0 + j)) (o.2.2.2.2.2.2.2.2.2.2.2.2.2.2.2.2.2.2.1 0) (o.2.2.2.2.2.2.2.2.2.2.2.2.2.2.2.2.2.2.2.1 0) (o.2.2.2.2.2.2.2.2.2.2.2.2.2.2.2.2.2.2.2.2.1 0) (o.2.2.2.2.2.2.2.2.2.2.2.2.2.2.2.2.2.2.2.2.2.1 0) (o.2.2.2.2.2.2.2.2.2.2.2.2.2.2.2.2.2.2.2.2.2.2.1 0) (o.2.2.2.2.2.2.2.2.2.2.2.2.2.2.2.2.2.2.2.2.2.2.2 0), gG Y (fun j => vg (5 + j)) (o.2.2.2.2.2.2.2.2.2.2.2.2.2.2.2.2.2.2.1 1) (o.2.2.2.2.2.2.2.2.2.2.2.2.2.2.2.2.2.2.2.1 1) (o.2.2.2.2.2.2.2.2.2.2.2.2.2.2.2.2.2.2.2.2.1 1) (o.2.2.2.2.2.2.2.2.2.2.2.2.2.2.2.2.2.2.2.2.2.1 1) (o.2.2.2.2.2.2.2.2.2.2.2.2.2.2.2.2.2.2.2.2.2.2.1 1) (o.2.2.2.2.2.2.2.2.2.2.2.2.2.2.2.2.2.2.2.2.2.2.2 1), gG Y (fun j => vg (10 + j)) (o.2.2.2.2.2.2.2.2.2.2.2.2.2.2.2.2.2.2.1 2) (o.2.2.2.2.2.2.2.2.2.2.2.2.2.2.2.2.2.2.2.1 2) (o.2.2.2.2.2.2.2.2.2.2.2.2.2.2.2.2.2.2.2.2.1 2) (o.2.2.2.2.2.2.2.2.2.2.2.2.2.2.2.2.2.2.2.2.2.1 2) (o.2.2.2.2.2.2.2.2.2.2.2.2.2.2.2.2.2.2.2.2.2.2.1 2) (o.2.2.2.2.2.2.2.2.2.2.2.2.2.2.2.2.2.2.2.2.2.2.2 2), gG Y (fun j => vg (15 + j)) (o.2.2.2.2.2.2.2.2.2.2.2.2.2.2.2.2.2.2.1 3) (o.2.2.2.2.2.2.2.2.2.2.2.2.2.2.2.2.2.2.2.1 3) (o.2.2.2.2.2.2.2.2.2.2.2.2.2.2.2.2.2.2.2.2.1 3) (o.2.2.2.2.2.2.2.2.2.2.2.2.2.2.2.2.2.2.2.2.2.1 3) (o.2.2.2.2.2.2.2.2.2.2.2.2.2.2.2.2.2.2.2.2.2.2.1 3) (o.2.2.2.2.2.2.2.2.2.2.2.2.2.2.2.2.2.2.2.2.2.2.2 3), gG Y (fun j => vg (20 + j)) (o.2.2.2.2.2.2.2.2.2.2.2.2.2.2.2.2.2.2.1 4) (o.2.2.2.2.2.2.2.2.2.2.2.2.2.2.2.2.2.2.2.1 4) (o.2.2.2.2.2.2.2.2.2.2.2.2.2.2.2.2.2.2.2.2.1 4) (o.2.2.2.2.2.2.2.2.2.2.2.2.2.2.2.2.2.2.2.2.2.1 4) (o.2.2.2.2.2.2.2.2.2.2.2.2.2.2.2.2.2.2.2.2.2.2.1 4) (o.2.2.2.2.2.2.2.2.2.2.2.2.2.2.2.2.2.2.2.2.2.2.2 4)]) := by
  refine ctI_intro (cc := cX5_moveVertex) (maxL := 4) (own := RX5) (by decide +kernel) rfl rfl (Nat.le_of_ble_eq_true rfl) rfl ?_
  intro X A hX _ hret
  have hin5 : ∀ w ∈ u_ws RX5 TX5 9, w ∈ wsX5_moveVertex := by decide +kernel
  have f0 := hX.w (Cond.fieldLink RX5 20 "PeriodicNet" "draft" "LPeriodicNet$Graph;") (by decide +kernel)
  have f1 := hX.w (Cond.fieldLink RX5 16 "PeriodicNet" "graph" "LPeriodicNet$Graph;") (by decide +kernel)
  unfold pX5_moveVertex at h
  refine kw_lv (lv' := [(0, .ref xa), (1, .int a1), (2, .int a2), (3, .int a3)]) [0, 1, 2, 3] rfl ?_
  refine kw_aload_n hX 0 dX5_moveVertex_0 rfl 0 rfl ?_
  refine kw_iload_n hX 1 dX5_moveVertex_1 rfl 1 rfl ?_
  obtain ⟨v1, hc2, h⟩ := kb_some h
  refine kw_callV_I hX 2 (As := [.int a1]) (rest := []) (kX5_isVertex (kx_l X) Y xa ra ga da va ea sa ca pa t_scn g_vc g_ec g_F g_T g_X g_Z a1 hc2) gX5_moveVertex_X5_isVertex rfl 1 rfl hdV_X5_isVertex ⟨rfl, rfl⟩ ⟨by decide, by decide⟩ ⟨Nat.zero_le _, Nat.zero_le _⟩ rfl (Nat.le_of_ble_eq_true rfl) [1, 3] (by decide) rfl (kfc rfl (kfc rfl kfn0)) (gs1 := [gE Y ea er e_cn e_M, gT xa ra ga da va ea sa ca pa t_scn, gR Y ra r_er, gG Y ga g_vc g_ec g_F g_T g_X g_Z, gG Y da d_vc d_ec d_F d_T d_X d_Z, gA Y va vg v_pi, gG Y (fun j => vg (0 + j)) (v_vc 0) (v_ec 0) (v_F 0) (v_T 0) (v_X 0) (v_Z 0), gG Y (fun j => vg (5 + j)) (v_vc 1) (v_ec 1) (v_F 1) (v_T 1) (v_X 1) (v_Z 1), gG Y (fun j => vg (10 + j)) (v_vc 2) (v_ec 2) (v_F 2) (v_T 2) (v_X 2) (v_Z 2), gG Y (fun j => vg (15 + j)) (v_vc 3) (v_ec 3) (v_F 3) (v_T 3) (v_X 3) (v_Z 3), gG Y (fun j => vg (20 + j)) (v_vc 4) (v_ec 4) (v_F 4) (v_T 4) (v_X 4) (v_Z 4)]) rfl 23 5 rfl rfl rfl dX5_moveVertex_2 ?_
  refine kw_if_eq hX 5 22 dX5_moveVertex_5 (by decide) (fun c3 => ?_) (fun c3 => ?_)
  · have h := kif_t c3 h
    refine kw_aload_n hX 22 dX5_moveVertex_22 rfl 0 rfl ?_
    refine kw_bipush hX 23 dX5_moveVertex_23 kcb_m2 ?_
    obtain ⟨v4, hc5, h⟩ := kb_some h
    refine kw_callV_I hX 25 (As := [.int (-2)]) (rest := []) (kX5_fail (kx_l X) Y xa ra ga da va ea sa ca pa t_scn r_er (-2) hc5) gX5_moveVertex_X5_fail rfl 1 rfl hdV_X5_fail ⟨rfl, rfl⟩ ⟨by decide, by decide⟩ ⟨Nat.zero_le _, Nat.zero_le _⟩ rfl (Nat.le_of_ble_eq_true rfl) [1, 2] (by decide) rfl (kfc rfl (kfc gR_f kfn0)) (gs1 := [gE Y ea er e_cn e_M, gT xa ra ga da va ea sa ca pa t_scn, gR Y ra v4.2, gG Y ga g_vc g_ec g_F g_T g_X g_Z, gG Y da d_vc d_ec d_F d_T d_X d_Z, gA Y va vg v_pi, gG Y (fun j => vg (0 + j)) (v_vc 0) (v_ec 0) (v_F 0) (v_T 0) (v_X 0) (v_Z 0), gG Y (fun j => vg (5 + j)) (v_vc 1) (v_ec 1) (v_F 1) (v_T 1) (v_X 1) (v_Z 1), gG Y (fun j => vg (10 + j)) (v_vc 2) (v_ec 2) (v_F 2) (v_T 2) (v_X 2) (v_Z 2), gG Y (fun j => vg (15 + j)) (v_vc 3) (v_ec 3) (v_F 3) (v_T 3) (v_X 3) (v_Z 3), gG Y (fun j => vg (20 + j)) (v_vc 4) (v_ec 4) (v_F 4) (v_T 4) (v_X 4) (v_Z 4)]) rfl 23 5 rfl rfl rfl dX5_moveVertex_25 ?_
    obtain rfl := Option.some.inj h
    exact hret _ _ dX5_moveVertex_28 rfl
  · have h := kif_f c3 h
    refine kw_iload_n hX 8 dX5_moveVertex_8 rfl 2 rfl ?_
    obtain ⟨v6, hc7, h⟩ := kb_some h
    refine kw_callS_I hX 9 (As := [.int a2]) (rest := []) (kX5_isShift (kx_l X) Y a2 hc7) gX5_moveVertex_X5_isShift rfl 1 rfl hdS_X5_isShift ⟨rfl, rfl⟩ ⟨by decide, by decide⟩ ⟨Nat.zero_le _, Nat.zero_le _⟩ rfl (Nat.le_of_ble_eq_true rfl) [] (by decide) rfl kfn0 (gs1 := [gE Y ea er e_cn e_M, gT xa ra ga da va ea sa ca pa t_scn, gR Y ra r_er, gG Y ga g_vc g_ec g_F g_T g_X g_Z, gG Y da d_vc d_ec d_F d_T d_X d_Z, gA Y va vg v_pi, gG Y (fun j => vg (0 + j)) (v_vc 0) (v_ec 0) (v_F 0) (v_T 0) (v_X 0) (v_Z 0), gG Y (fun j => vg (5 + j)) (v_vc 1) (v_ec 1) (v_F 1) (v_T 1) (v_X 1) (v_Z 1), gG Y (fun j => vg (10 + j)) (v_vc 2) (v_ec 2) (v_F 2) (v_T 2) (v_X 2) (v_Z 2), gG Y (fun j => vg (15 + j)) (v_vc 3) (v_ec 3) (v_F 3) (v_T 3) (v_X 3) (v_Z 3), gG Y (fun j => vg (20 + j)) (v_vc 4) (v_ec 4) (v_F 4) (v_T 4) (v_X 4) (v_Z 4)]) rfl dX5_moveVertex_9 ?_
    refine kw_if_eq hX 12 22 dX5_moveVertex_12 (by decide) (fun c8 => ?_) (fun c8 => ?_)
    · have h := kif_t c8 h
      refine kw_aload_n hX 22 dX5_moveVertex_22 rfl 0 rfl ?_
      refine kw_bipush hX 23 dX5_moveVertex_23 kcb_m2 ?_
      obtain ⟨v9, hc10, h⟩ := kb_some h
      refine kw_callV_I hX 25 (As := [.int (-2)]) (rest := []) (kX5_fail (kx_l X) Y xa ra ga da va ea sa ca pa t_scn r_er (-2) hc10) gX5_moveVertex_X5_fail rfl 1 rfl hdV_X5_fail ⟨rfl, rfl⟩ ⟨by decide, by decide⟩ ⟨Nat.zero_le _, Nat.zero_le _⟩ rfl (Nat.le_of_ble_eq_true rfl) [1, 2] (by decide) rfl (kfc rfl (kfc gR_f kfn0)) (gs1 := [gE Y ea er e_cn e_M, gT xa ra ga da va ea sa ca pa t_scn, gR Y ra v9.2, gG Y ga g_vc g_ec g_F g_T g_X g_Z, gG Y da d_vc d_ec d_F d_T d_X d_Z, gA Y va vg v_pi, gG Y (fun j => vg (0 + j)) (v_vc 0) (v_ec 0) (v_F 0) (v_T 0) (v_X 0) (v_Z 0), gG Y (fun j => vg (5 + j)) (v_vc 1) (v_ec 1) (v_F 1) (v_T 1) (v_X 1) (v_Z 1), gG Y (fun j => vg (10 + j)) (v_vc 2) (v_ec 2) (v_F 2) (v_T 2) (v_X 2) (v_Z 2), gG Y (fun j => vg (15 + j)) (v_vc 3) (v_ec 3) (v_F 3) (v_T 3) (v_X 3) (v_Z 3), gG Y (fun j => vg (20 + j)) (v_vc 4) (v_ec 4) (v_F 4) (v_T 4) (v_X 4) (v_Z 4)]) rfl 23 5 rfl rfl rfl dX5_moveVertex_25 ?_
      obtain rfl := Option.some.inj h
      exact hret _ _ dX5_moveVertex_28 rfl
    · have h := kif_f c8 h
      refine kw_iload_n hX 15 dX5_moveVertex_15 rfl 3 rfl ?_
      obtain ⟨v11, hc12, h⟩ := kb_some h
      refine kw_callS_I hX 16 (As := [.int a3]) (rest := []) (kX5_isShift (kx_l X) Y a3 hc12) gX5_moveVertex_X5_isShift rfl 1 rfl hdS_X5_isShift ⟨rfl, rfl⟩ ⟨by decide, by decide⟩ ⟨Nat.zero_le _, Nat.zero_le _⟩ rfl (Nat.le_of_ble_eq_true rfl) [] (by decide) rfl kfn0 (gs1 := [gE Y ea er e_cn e_M, gT xa ra ga da va ea sa ca pa t_scn, gR Y ra r_er, gG Y ga g_vc g_ec g_F g_T g_X g_Z, gG Y da d_vc d_ec d_F d_T d_X d_Z, gA Y va vg v_pi, gG Y (fun j => vg (0 + j)) (v_vc 0) (v_ec 0) (v_F 0) (v_T 0) (v_X 0) (v_Z 0), gG Y (fun j => vg (5 + j)) (v_vc 1) (v_ec 1) (v_F 1) (v_T 1) (v_X 1) (v_Z 1), gG Y (fun j => vg (10 + j)) (v_vc 2) (v_ec 2) (v_F 2) (v_T 2) (v_X 2) (v_Z 2), gG Y (fun j => vg (15 + j)) (v_vc 3) (v_ec 3) (v_F 3) (v_T 3) (v_X 3) (v_Z 3), gG Y (fun j => vg (20 + j)) (v_vc 4) (v_ec 4) (v_F 4) (v_T 4) (v_X 4) (v_Z 4)]) rfl dX5_moveVertex_16 ?_
      refine kw_if_ne hX 19 29 dX5_moveVertex_19 (by decide) (fun c13 => ?_) (fun c13 => ?_)
      · have h := kif_f c13 h
        refine kw_aload_n hX 29 dX5_moveVertex_29 rfl 0 rfl ?_
        refine kw_get hX 30 (C := RX5) (T := TX5) (N := 9) hin5 2 f0 (fun _ h => h) 23 rfl rfl (by decide) rfl dX5_moveVertex_30 ?_
        refine kw_aload_n hX 33 dX5_moveVertex_33 rfl 0 rfl ?_
        refine kw_get hX 34 (C := RX5) (T := TX5) (N := 9) hin5 1 f1 (fun _ h => h) 23 rfl rfl (by decide) rfl dX5_moveVertex_34 ?_
        obtain ⟨v14, hc15, h⟩ := kb_some h
        refine kw_callV_V hX 37 (As := [.ref (ga 0)]) (rest := []) (kX2_copyFrom (kx_l X) Y da ga d_vc d_ec d_F d_T d_X d_Z g_vc g_ec g_F g_T g_X g_Z hc15) gX5_moveVertex_X2_copyFrom rfl 1 rfl hdV_X2_copyFrom ⟨rfl, rfl⟩ ⟨by decide, by decide⟩ ⟨Nat.zero_le _, Nat.zero_le _⟩ rfl (Nat.le_of_ble_eq_true rfl) [4, 3] (by decide) rfl (kfc gG_f (kfc rfl kfn0)) (gs1 := [gE Y ea er e_cn e_M, gT xa ra ga da va ea sa ca pa t_scn, gR Y ra r_er, gG Y ga g_vc g_ec g_F g_T g_X g_Z, gG Y da v14.1 v14.2.1 v14.2.2.1 v14.2.2.2.1 v14.2.2.2.2.1 v14.2.2.2.2.2, gA Y va vg v_pi, gG Y (fun j => vg (0 + j)) (v_vc 0) (v_ec 0) (v_F 0) (v_T 0) (v_X 0) (v_Z 0), gG Y (fun j => vg (5 + j)) (v_vc 1) (v_ec 1) (v_F 1) (v_T 1) (v_X 1) (v_Z 1), gG Y (fun j => vg (10 + j)) (v_vc 2) (v_ec 2) (v_F 2) (v_T 2) (v_X 2) (v_Z 2), gG Y (fun j => vg (15 + j)) (v_vc 3) (v_ec 3) (v_F 3) (v_T 3) (v_X 3) (v_Z 3), gG Y (fun j => vg (20 + j)) (v_vc 4) (v_ec 4) (v_F 4) (v_T 4) (v_X 4) (v_Z 4)]) rfl 30 2 rfl rfl rfl dX5_moveVertex_37 ?_
        refine kw_aload_n hX 40 dX5_moveVertex_40 rfl 0 rfl ?_
        refine kw_get hX 41 (C := RX5) (T := TX5) (N := 9) hin5 2 f0 (fun _ h => h) 23 rfl rfl (by decide) rfl dX5_moveVertex_41 ?_
        refine kw_iload_n hX 44 dX5_moveVertex_44 rfl 1 rfl ?_
        refine kw_iload_n hX 45 dX5_moveVertex_45 rfl 2 rfl ?_
        refine kw_iload_n hX 46 dX5_moveVertex_46 rfl 3 rfl ?_
        obtain ⟨v16, hc17, h⟩ := kb_some h
        refine kw_callV_V hX 47 (As := [.int a1, .int a2, .int a3]) (rest := []) (kX2_renameNodes (kx_l X) Y da v14.1 v14.2.1 v14.2.2.1 v14.2.2.2.1 v14.2.2.2.2.1 v14.2.2.2.2.2 a1 a2 a3 hc17) gX5_moveVertex_X2_renameNodes rfl 3 rfl hdV_X2_renameNodes ⟨rfl, rfl⟩ ⟨by decide, by decide⟩ ⟨Nat.zero_le _, Nat.zero_le _⟩ rfl (Nat.le_of_ble_eq_true rfl) [4] (by decide) rfl (kfc gG_f kfn0) (gs1 := [gE Y ea er e_cn e_M, gT xa ra ga da va ea sa ca pa t_scn, gR Y ra r_er, gG Y ga g_vc g_ec g_F g_T g_X g_Z, gG Y da v14.1 v14.2.1 v14.2.2.1 v14.2.2.2.1 v16.1 v16.2, gA Y va vg v_pi, gG Y (fun j => vg (0 + j)) (v_vc 0) (v_ec 0) (v_F 0) (v_T 0) (v_X 0) (v_Z 0), gG Y (fun j => vg (5 + j)) (v_vc 1) (v_ec 1) (v_F 1) (v_T 1) (v_X 1) (v_Z 1), gG Y (fun j => vg (10 + j)) (v_vc 2) (v_ec 2) (v_F 2) (v_T 2) (v_X 2) (v_Z 2), gG Y (fun j => vg (15 + j)) (v_vc 3) (v_ec 3) (v_F 3) (v_T 3) (v_X 3) (v_Z 3), gG Y (fun j => vg (20 + j)) (v_vc 4) (v_ec 4) (v_F 4) (v_T 4) (v_X 4) (v_Z 4)]) rfl 30 2 rfl rfl rfl dX5_moveVertex_47 ?_
        refine kw_aload_n hX 50 dX5_moveVertex_50 rfl 0 rfl ?_
        obtain ⟨v18, hc19, h⟩ := kb_some h
        refine kw_callV_I hX 51 (As := []) (rest := []) (kX5_commitShifts (kx_l X) Y xa ra ga da va ea sa ca pa er vg e_cn e_M t_scn r_er g_vc g_ec g_F g_T g_X g_Z v14.1 v14.2.1 v14.2.2.1 v14.2.2.2.1 v16.1 v16.2 v_pi v_vc v_ec v_F v_T v_X v_Z hc19) gX5_moveVertex_X5_commitShifts rfl 0 rfl hdV_X5_commitShifts ⟨rfl, rfl⟩ ⟨by decide, by decide⟩ ⟨Nat.zero_le _, Nat.zero_le _⟩ rfl (Nat.le_of_ble_eq_true rfl) [0, 1, 2, 3, 4, 5, 6, 7, 8, 9, 10] (by decide) rfl (kfc gE_f (kfc gT_f (kfc gR_f (kfc gG_f (kfc rfl (kfc gA_f (kfc gG_f (kfc gG_f (kfc gG_f (kfc gG_f (kfc gG_f kfn0))))))))))) (gs1 := [gE Y ea er v18.2.1 v18.2.2.1, gT xa ra ga da va ea sa ca pa v18.2.2.2.1, gR Y ra v18.2.2.2.2.1, gG Y ga v18.2.2.2.2.2.1 v18.2.2.2.2.2.2.1 v18.2.2.2.2.2.2.2.1 v18.2.2.2.2.2.2.2.2.1 v18.2.2.2.2.2.2.2.2.2.1 v18.2.2.2.2.2.2.2.2.2.2.1, gG Y da v14.1 v14.2.1 v14.2.2.1 v14.2.2.2.1 v16.1 v16.2, gA Y va vg v18.2.2.2.2.2.2.2.2.2.2.2.1, gG Y (fun j => vg (0 + j)) (v18.2.2.2.2.2.2.2.2.2.2.2.2.1 0) (v18.2.2.2.2.2.2.2.2.2.2.2.2.2.1 0) (v18.2.2.2.2.2.2.2.2.2.2.2.2.2.2.1 0) (v18.2.2.2.2.2.2.2.2.2.2.2.2.2.2.2.1 0) (v18.2.2.2.2.2.2.2.2.2.2.2.2.2.2.2.2.1 0) (v18.2.2.2.2.2.2.2.2.2.2.2.2.2.2.2.2.2 0), gG Y (fun j => vg (5 + j)) (v18.2.2.2.2.2.2.2.2.2.2.2.2.1 1) (v18.2.2.2.2.2.2.2.2.2.2.2.2.2.1 1) (v18.2.2.2.2.2.2.2.2.2.2.2.2.2.2.1 1) (v18.2.2.2.2.2.2.2.2.2.2.2.2.2.2.2.1 1) (v18.2.2.2.2.2.2.2.2.2.2.2.2.2.2.2.2.1 1) (v18.2.2.2.2.2.2.2.2.2.2.2.2.2.2.2.2.2 1), gG Y (fun j => vg (10 + j)) (v18.2.2.2.2.2.2.2.2.2.2.2.2.1 2) (v18.2.2.2.2.2.2.2.2.2.2.2.2.2.1 2) (v18.2.2.2.2.2.2.2.2.2.2.2.2.2.2.1 2) (v18.2.2.2.2.2.2.2.2.2.2.2.2.2.2.2.1 2) (v18.2.2.2.2.2.2.2.2.2.2.2.2.2.2.2.2.1 2) (v18.2.2.2.2.2.2.2.2.2.2.2.2.2.2.2.2.2 2), gG Y (fun j => vg (15 + j)) (v18.2.2.2.2.2.2.2.2.2.2.2.2.1 3) (v18.2.2.2.2.2.2.2.2.2.2.2.2.2.1 3) (v18.2.2.2.2.2.2.2.2.2.2.2.2.2.2.1 3) (v18.2.2.2.2.2.2.2.2.2.2.2.2.2.2.2.1 3) (v18.2.2.2.2.2.2.2.2.2.2.2.2.2.2.2.2.1 3) (v18.2.2.2.2.2.2.2.2.2.2.2.2.2.2.2.2.2 3), gG Y (fun j => vg (20 + j)) (v18.2.2.2.2.2.2.2.2.2.2.2.2.1 4) (v18.2.2.2.2.2.2.2.2.2.2.2.2.2.1 4) (v18.2.2.2.2.2.2.2.2.2.2.2.2.2.2.1 4) (v18.2.2.2.2.2.2.2.2.2.2.2.2.2.2.2.1 4) (v18.2.2.2.2.2.2.2.2.2.2.2.2.2.2.2.2.1 4) (v18.2.2.2.2.2.2.2.2.2.2.2.2.2.2.2.2.2 4)]) rfl 23 5 rfl rfl rfl dX5_moveVertex_51 ?_
        obtain rfl := Option.some.inj h
        exact hret _ _ dX5_moveVertex_54 rfl
      · have h := kif_t c13 h
        refine kw_aload_n hX 22 dX5_moveVertex_22 rfl 0 rfl ?_
        refine kw_bipush hX 23 dX5_moveVertex_23 kcb_m2 ?_
        obtain ⟨v20, hc21, h⟩ := kb_some h
        refine kw_callV_I hX 25 (As := [.int (-2)]) (rest := []) (kX5_fail (kx_l X) Y xa ra ga da va ea sa ca pa t_scn r_er (-2) hc21) gX5_moveVertex_X5_fail rfl 1 rfl hdV_X5_fail ⟨rfl, rfl⟩ ⟨by decide, by decide⟩ ⟨Nat.zero_le _, Nat.zero_le _⟩ rfl (Nat.le_of_ble_eq_true rfl) [1, 2] (by decide) rfl (kfc rfl (kfc gR_f kfn0)) (gs1 := [gE Y ea er e_cn e_M, gT xa ra ga da va ea sa ca pa t_scn, gR Y ra v20.2, gG Y ga g_vc g_ec g_F g_T g_X g_Z, gG Y da d_vc d_ec d_F d_T d_X d_Z, gA Y va vg v_pi, gG Y (fun j => vg (0 + j)) (v_vc 0) (v_ec 0) (v_F 0) (v_T 0) (v_X 0) (v_Z 0), gG Y (fun j => vg (5 + j)) (v_vc 1) (v_ec 1) (v_F 1) (v_T 1) (v_X 1) (v_Z 1), gG Y (fun j => vg (10 + j)) (v_vc 2) (v_ec 2) (v_F 2) (v_T 2) (v_X 2) (v_Z 2), gG Y (fun j => vg (15 + j)) (v_vc 3) (v_ec 3) (v_F 3) (v_T 3) (v_X 3) (v_Z 3), gG Y (fun j => vg (20 + j)) (v_vc 4) (v_ec 4) (v_F 4) (v_T 4) (v_X 4) (v_Z 4)]) rfl 23 5 rfl rfl rfl dX5_moveVertex_25 ?_
        obtain rfl := Option.some.inj h
        exact hret _ _ dX5_moveVertex_28 rfl
def pX5_changeBasis (a1 : Int32) (e_cn : Nat → Int32) (e_M : Nat → Nat → Int32) (t_scn : Int32) (r_er : Nat → Int32) (g_vc : Int32) (g_ec : Int32) (g_F : Nat → Int32) (g_T : Nat → Int32) (g_X : Nat → Int32) (g_Z : Nat → Int32) (d_vc : Int32) (d_ec : Int32) (d_F : Nat → Int32) (d_T : Nat → Int32) (d_X : Nat → Int32) (d_Z : Nat → Int32) (v_pi : Nat → Nat) (v_vc : Nat → Int32) (v_ec : Nat → Int32) (v_F : Nat → Nat → Int32) (v_T : Nat → Nat → Int32) (v_X : Nat → Nat → Int32) (v_Z : Nat → Nat → Int32) : Option (Int32 × (Nat → Int32) × (Nat → Nat → Int32) × Int32 × (Nat → Int32) × Int32 × Int32 × (Nat → Int32) × (Nat → Int32) × (Nat → Int32) × (Nat → Int32) × Int32 × Int32 × (Nat → Int32) × (Nat → Int32) × (Nat → Int32) × (Nat → Int32) × (Nat → Nat) × (Nat → Int32) × (Nat → Int32) × (Nat → Nat → Int32) × (Nat → Nat → Int32) × (Nat → Nat → Int32) × (Nat → Nat → Int32)) := (if a1 < 0 then kb (pX5_fail (-2) r_er) (fun v2 => some (v2.1, e_cn, e_M, t_scn, v2.2, g_vc, g_ec, g_F, g_T, g_X, g_Z, d_vc, d_ec, d_F, d_T, d_X, d_Z, v_pi, v_vc, v_ec, v_F, v_T, v_X, v_Z)) else (if a1 ≤ (3 : Int32) then kb (pX2_copyFrom d_vc d_ec d_F d_T d_X d_Z g_vc g_ec g_F g_T g_X g_Z) (fun v5 => kb (pX2_turnShifts a1 v5.2.1 v5.2.2.2.2.1 v5.2.2.2.2.2) (fun v7 => kb (pX5_commitShifts e_cn e_M t_scn r_er g_vc g_ec g_F g_T g_X g_Z v5.1 v5.2.1 v5.2.2.1 v5.2.2.2.1 v7.1 v7.2 v_pi v_vc v_ec v_F v_T v_X v_Z) (fun v9 => some (v9.1, v9.2.1, v9.2.2.1, v9.2.2.2.1, v9.2.2.2.2.1, v9.2.2.2.2.2.1, v9.2.2.2.2.2.2.1, v9.2.2.2.2.2.2.2.1, v9.2.2.2.2.2.2.2.2.1, v9.2.2.2.2.2.2.2.2.2.1, v9.2.2.2.2.2.2.2.2.2.2.1, v5.1, v5.2.1, v5.2.2.1, v5.2.2.2.1, v7.1, v7.2, v9.2.2.2.2.2.2.2.2.2.2.2.1, v9.2.2.2.2.2.2.2.2.2.2.2.2.1, v9.2.2.2.2.2.2.2.2.2.2.2.2.2.1, v9.2.2.2.2.2.2.2.2.2.2.2.2.2.2.1, v9.2.2.2.2.2.2.2.2.2.2.2.2.2.2.2.1, v9.2.2.2.2.2.2.2.2.2.2.2.2.2.2.2.2.1, v9.2.2.2.2.2.2.2.2.2.2.2.2.2.2.2.2.2)))) else kb (pX5_fail (-2) r_er) (fun v11 => some (v11.1, e_cn, e_M, t_scn, v11.2, g_vc, g_ec, g_F, g_T, g_X, g_Z, d_vc, d_ec, d_F, d_T, d_X, d_Z, v_pi, v_vc, v_ec, v_F, v_T, v_X, v_Z))))
def rmX5_changeBasis : Room := { frames := 6, cells := 0, slots := 0, locals := 134 }
theorem hdV_X5_changeBasis : yX5_changeBasis.cls = RX5 ∧ yX5_changeBasis.cls ≠ "java/lang/invoke/MethodHandle" ∧ yX5_changeBasis.cls ≠ "java/lang/invoke/VarHandle" ∧ (parseMethodDescriptor yX5_changeBasis.desc).map (fun d => d.parameters.length) = some 1 := ⟨rfl, by decide +kernel, by decide +kernel, by decide +kernel⟩
set_option maxHeartbeats 4000000 in
set_option maxRecDepth 100000 in
theorem kX5_changeBasis (l : Launch) (Y : KY) (xa : Nat) (ra : Nat) (ga : Nat → Nat) (da : Nat → Nat) (va : Nat) (ea : Nat → Nat) (sa : Nat → Nat) (ca : Nat → Nat) (pa : Nat → Nat) (er : Nat → Nat) (vg : Nat → Nat) (e_cn : Nat → Int32) (e_M : Nat → Nat → Int32) (t_scn : Int32) (r_er : Nat → Int32) (g_vc : Int32) (g_ec : Int32) (g_F : Nat → Int32) (g_T : Nat → Int32) (g_X : Nat → Int32) (g_Z : Nat → Int32) (d_vc : Int32) (d_ec : Int32) (d_F : Nat → Int32) (d_T : Nat → Int32) (d_X : Nat → Int32) (d_Z : Nat → Int32) (v_pi : Nat → Nat) (v_vc : Nat → Int32) (v_ec : Nat → Int32) (v_F : Nat → Nat → Int32) (v_T : Nat → Nat → Int32) (v_X : Nat → Nat → Int32) (v_Z : Nat → Nat → Int32) (a1 : Int32) {o : Int32 × (Nat → Int32) × (Nat → Nat → Int32) × Int32 × (Nat → Int32) × Int32 × Int32 × (Nat → Int32) × (Nat → Int32) × (Nat → Int32) × (Nat → Int32) × Int32 × Int32 × (Nat → Int32) × (Nat → Int32) × (Nat → Int32) × (Nat → Int32) × (Nat → Nat) × (Nat → Int32) × (Nat → Int32) × (Nat → Nat → Int32) × (Nat → Nat → Int32) × (Nat → Nat → Int32) × (Nat → Nat → Int32)} (h : pX5_changeBasis a1 e_cn e_M t_scn r_er g_vc g_ec g_F g_T g_X g_Z d_vc d_ec d_F d_T d_X d_Z v_pi v_vc v_ec v_F v_T v_X v_Z = some o) : CtI l yX5_changeBasis wsX5_changeBasis rmX5_changeBasis Y [.ref xa, .int a1] (kfl [gE Y ea er e_cn e_M, gT xa ra ga da va ea sa ca pa t_scn, gR Y ra r_er, gG Y ga g_vc g_ec g_F g_T g_X g_Z, gG Y da d_vc d_ec d_F d_T d_X d_Z, gA Y va vg v_pi, gG Y (fun j => vg (0 + j)) (v_vc 0) (v_ec 0) (v_F 0) (v_T 0) (v_X 0) (v_Z 0), gG Y (fun j => vg (5 + j)) (v_vc 1) (v_ec 1) (v_F 1) (v_T 1) (v_X 1) (v_Z 1), gG Y (fun j => vg (10 + j)) (v_vc 2) (v_ec 2) (v_F 2) (v_T 2) (v_X 2) (v_Z 2), gG Y (fun j => vg (15 + j)) (v_vc 3) (v_ec 3) (v_F 3) (v_T 3) (v_X 3) (v_Z 3), gG Y (fun j => vg (20 + j)) (v_vc 4) (v_ec 4) (v_F 4) (v_T 4) (v_X 4) (v_Z 4)]) o.1 (kfl [gE Y ea er o.2.1 o.2.2.1, gT xa ra ga da va ea sa ca pa o.2.2.2.1, gR Y ra o.2.2.2.2.1, gG Y ga o.2.2.2.2.2.1 o.2.2.2.2.2.2.1 o.2.2.2.2.2.2.2.1 o.2.2.2.2.2.2.2.2.1 o.2.2.2.2.2.2.2.2.2.1 o.2.2.2.2.2.2.2.2.2.2.1, gG Y da o.2.2.2.2.2.2.2.2.2.2.2.1 o.2.2.2.2.2.2.2.2.2.2.2.2.1 o.2.2.2.2.2.2.2.2.2.2.2.2.2.1 o.2.2.2.2.2.2.2.2.2.2.2.2.2.2.1 o.2.2.2.2.2.2.2.2.2.2.2.2.2.2.2.1 o.2.2.2.2.2.2.2.2.2.2.2.2.2.2.2.2.1, gA Y va vg o.2.2.2.2.2.2.2.2.2.2.2.2.2.2.2.2.2.1, gG Y (fun j => vg (0 + j)) (o.2.2.2.2.2.2.2.2.2.2.2.2.2.2.2.2.2.2.1 0) (o.2.2.2.2.2.2.2.2.2.2.2.2.2.2.2.2.2.2.2.1 0) (o.2.2.2.2.2.2.2.2.2.2.2.2.2.2.2.2.2.2.2.2.1 0) (o.2.2.2.2.2.2.2.2.2.2.2.2.2.2.2.2.2.2.2.2.2.1 0) (o.2.2.2.2.2.2.2.2.2.2.2.2.2.2.2.2.2.2.2.2.2.2.1 0) (o.2.2.2.2.2.2.2.2.2.2.2.2.2.2.2.2.2.2.2.2.2.2.2 0), gG Y (fun j => vg (5 + j)) (o.2.2.2.2.2.2.2.2.2.2.2.2.2.2.2.2.2.2.1 1) (o.2.2.2.2.2.2.2.2.2.2.2.2.2.2.2.2.2.2.2.1 1) (o.2.2.2.2.2.2.2.2.2.2.2.2.2.2.2.2.2.2.2.2.1 1) (o.2.2.2.2.2.2.2.2.2.2.2.2.2.2.2.2.2.2.2.2.2.1 1) (o.2.2.2.2.2.2.2.2.2.2.2.2.2.2.2.2.2.2.2.2.2.2.1 1) (o.2.2.2.2.2.2.2.2.2.2.2.2.2.2.2.2.2.2.2.2.2.2.2 1), gG Y (fun j => vg (10 + j)) (o.2.2.2.2.2.2.2.2.2.2.2.2.2.2.2.2.2.2.1 2) (o.2.2.2.2.2.2.2.2.2.2.2.2.2.2.2.2.2.2.2.1 2) (o.2.2.2.2.2.2.2.2.2.2.2.2.2.2.2.2.2.2.2.2.1 2) (o.2.2.2.2.2.2.2.2.2.2.2.2.2.2.2.2.2.2.2.2.2.1 2) (o.2.2.2.2.2.2.2.2.2.2.2.2.2.2.2.2.2.2.2.2.2.2.1 2) (o.2.2.2.2.2.2.2.2.2.2.2.2.2.2.2.2.2.2.2.2.2.2.2 2), gG Y (fun j => vg (15 + j)) (o.2.2.2.2.2.2.2.2.2.2.2.2.2.2.2.2.2.2.1 3) (o.2.2.2.2.2.2.2.2.2.2.2.2.2.2.2.2.2.2.2.1 3) (o.2.2.2.2.2.2.2.2.2.2.2.2.2.2.2.2.2.2.2.2.1 3) (o.2.2.2.2.2.2.2.2.2.2.2.2.2.2.2.2.2.2.2.2.2.1 3) (o.2.2.2.2.2.2.2.2.2.2.2.2.2.2.2.2.2.2.2.2.2.2.1 3) (o.2.2.2.2.2.2.2.2.2.2.2.2.2.2.2.2.2.2.2.2.2.2.2 3), gG Y (fun j => vg (20 + j)) (o.2.2.2.2.2.2.2.2.2.2.2.2.2.2.2.2.2.2.1 4) (o.2.2.2.2.2.2.2.2.2.2.2.2.2.2.2.2.2.2.2.1 4) (o.2.2.2.2.2.2.2.2.2.2.2.2.2.2.2.2.2.2.2.2.1 4) (o.2.2.2.2.2.2.2.2.2.2.2.2.2.2.2.2.2.2.2.2.2.1 4) (o.2.2.2.2.2.2.2.2.2.2.2.2.2.2.2.2.2.2.2.2.2.2.1 4) (o.2.2.2.2.2.2.2.2.2.2.2.2.2.2.2.2.2.2.2.2.2.2.2 4)]) := by
  refine ctI_intro (cc := cX5_changeBasis) (maxL := 2) (own := RX5) (by decide +kernel) rfl rfl (Nat.le_of_ble_eq_true rfl) rfl ?_
  intro X A hX _ hret
  have hin5 : ∀ w ∈ u_ws RX5 TX5 9, w ∈ wsX5_changeBasis := by decide +kernel
  have f0 := hX.w (Cond.fieldLink RX5 20 "PeriodicNet" "draft" "LPeriodicNet$Graph;") (by decide +kernel)
  have f1 := hX.w (Cond.fieldLink RX5 16 "PeriodicNet" "graph" "LPeriodicNet$Graph;") (by decide +kernel)
  unfold pX5_changeBasis at h
  refine kw_lv (lv' := [(0, .ref xa), (1, .int a1)]) [0, 1] rfl ?_
  refine kw_iload_n hX 0 dX5_changeBasis_0 rfl 1 rfl ?_
  refine kw_if_lt hX 1 9 dX5_changeBasis_1 (by decide) (fun c1 => ?_) (fun c1 => ?_)
  · have h := kif_t c1 h
    refine kw_aload_n hX 9 dX5_changeBasis_9 rfl 0 rfl ?_
    refine kw_bipush hX 10 dX5_changeBasis_10 kcb_m2 ?_
    obtain ⟨v2, hc3, h⟩ := kb_some h
    refine kw_callV_I hX 12 (As := [.int (-2)]) (rest := []) (kX5_fail (kx_l X) Y xa ra ga da va ea sa ca pa t_scn r_er (-2) hc3) gX5_changeBasis_X5_fail rfl 1 rfl hdV_X5_fail ⟨rfl, rfl⟩ ⟨by decide, by decide⟩ ⟨Nat.zero_le _, Nat.zero_le _⟩ rfl (Nat.le_of_ble_eq_true rfl) [1, 2] (by decide) rfl (kfc rfl (kfc gR_f kfn0)) (gs1 := [gE Y ea er e_cn e_M, gT xa ra ga da va ea sa ca pa t_scn, gR Y ra v2.2, gG Y ga g_vc g_ec g_F g_T g_X g_Z, gG Y da d_vc d_ec d_F d_T d_X d_Z, gA Y va vg v_pi, gG Y (fun j => vg (0 + j)) (v_vc 0) (v_ec 0) (v_F 0) (v_T 0) (v_X 0) (v_Z 0), gG Y (fun j => vg (5 + j)) (v_vc 1) (v_ec 1) (v_F 1) (v_T 1) (v_X 1) (v_Z 1), gG Y (fun j => vg (10 + j)) (v_vc 2) (v_ec 2) (v_F 2) (v_T 2) (v_X 2) (v_Z 2), gG Y (fun j => vg (15 + j)) (v_vc 3) (v_ec 3) (v_F 3) (v_T 3) (v_X 3) (v_Z 3), gG Y (fun j => vg (20 + j)) (v_vc 4) (v_ec 4) (v_F 4) (v_T 4) (v_X 4) (v_Z 4)]) rfl 23 5 rfl rfl rfl dX5_changeBasis_12 ?_
    obtain rfl := Option.some.inj h
    exact hret _ _ dX5_changeBasis_15 rfl
  · have h := kif_f c1 h
    refine kw_iload_n hX 4 dX5_changeBasis_4 rfl 1 rfl ?_
    refine kw_iconst hX 5 dX5_changeBasis_5 kci_3 ?_
    refine kw_icmp_le hX 6 16 dX5_changeBasis_6 (by decide) (fun c4 => ?_) (fun c4 => ?_)
    · have h := kif_t c4 h
      refine kw_aload_n hX 16 dX5_changeBasis_16 rfl 0 rfl ?_
      refine kw_get hX 17 (C := RX5) (T := TX5) (N := 9) hin5 2 f0 (fun _ h => h) 23 rfl rfl (by decide) rfl dX5_changeBasis_17 ?_
      refine kw_aload_n hX 20 dX5_changeBasis_20 rfl 0 rfl ?_
      refine kw_get hX 21 (C := RX5) (T := TX5) (N := 9) hin5 1 f1 (fun _ h => h) 23 rfl rfl (by decide) rfl dX5_changeBasis_21 ?_
      obtain ⟨v5, hc6, h⟩ := kb_some h
      refine kw_callV_V hX 24 (As := [.ref (ga 0)]) (rest := []) (kX2_copyFrom (kx_l X) Y da ga d_vc d_ec d_F d_T d_X d_Z g_vc g_ec g_F g_T g_X g_Z hc6) gX5_changeBasis_X2_copyFrom rfl 1 rfl hdV_X2_copyFrom ⟨rfl, rfl⟩ ⟨by decide, by decide⟩ ⟨Nat.zero_le _, Nat.zero_le _⟩ rfl (Nat.le_of_ble_eq_true rfl) [4, 3] (by decide) rfl (kfc gG_f (kfc rfl kfn0)) (gs1 := [gE Y ea er e_cn e_M, gT xa ra ga da va ea sa ca pa t_scn, gR Y ra r_er, gG Y ga g_vc g_ec g_F g_T g_X g_Z, gG Y da v5.1 v5.2.1 v5.2.2.1 v5.2.2.2.1 v5.2.2.2.2.1 v5.2.2.2.2.2, gA Y va vg v_pi, gG Y (fun j => vg (0 + j)) (v_vc 0) (v_ec 0) (v_F 0) (v_T 0) (v_X 0) (v_Z 0), gG Y (fun j => vg (5 + j)) (v_vc 1) (v_ec 1) (v_F 1) (v_T 1) (v_X 1) (v_Z 1), gG Y (fun j => vg (10 + j)) (v_vc 2) (v_ec 2) (v_F 2) (v_T 2) (v_X 2) (v_Z 2), gG Y (fun j => vg (15 + j)) (v_vc 3) (v_ec 3) (v_F 3) (v_T 3) (v_X 3) (v_Z 3), gG Y (fun j => vg (20 + j)) (v_vc 4) (v_ec 4) (v_F 4) (v_T 4) (v_X 4) (v_Z 4)]) rfl 30 2 rfl rfl rfl dX5_changeBasis_24 ?_
      refine kw_aload_n hX 27 dX5_changeBasis_27 rfl 0 rfl ?_
      refine kw_get hX 28 (C := RX5) (T := TX5) (N := 9) hin5 2 f0 (fun _ h => h) 23 rfl rfl (by decide) rfl dX5_changeBasis_28 ?_
      refine kw_iload_n hX 31 dX5_changeBasis_31 rfl 1 rfl ?_
      obtain ⟨v7, hc8, h⟩ := kb_some h
      refine kw_callV_V hX 32 (As := [.int a1]) (rest := []) (kX2_turnShifts (kx_l X) Y da v5.1 v5.2.1 v5.2.2.1 v5.2.2.2.1 v5.2.2.2.2.1 v5.2.2.2.2.2 a1 hc8) gX5_changeBasis_X2_turnShifts rfl 1 rfl hdV_X2_turnShifts ⟨rfl, rfl⟩ ⟨by decide, by decide⟩ ⟨Nat.zero_le _, Nat.zero_le _⟩ rfl (Nat.le_of_ble_eq_true rfl) [4] (by decide) rfl (kfc gG_f kfn0) (gs1 := [gE Y ea er e_cn e_M, gT xa ra ga da va ea sa ca pa t_scn, gR Y ra r_er, gG Y ga g_vc g_ec g_F g_T g_X g_Z, gG Y da v5.1 v5.2.1 v5.2.2.1 v5.2.2.2.1 v7.1 v7.2, gA Y va vg v_pi, gG Y (fun j => vg (0 + j)) (v_vc 0) (v_ec 0) (v_F 0) (v_T 0) (v_X 0) (v_Z 0), gG Y (fun j => vg (5 + j)) (v_vc 1) (v_ec 1) (v_F 1) (v_T 1) (v_X 1) (v_Z 1), gG Y (fun j => vg (10 + j)) (v_vc 2) (v_ec 2) (v_F 2) (v_T 2) (v_X 2) (v_Z 2), gG Y (fun j => vg (15 + j)) (v_vc 3) (v_ec 3) (v_F 3) (v_T 3) (v_X 3) (v_Z 3), gG Y (fun j => vg (20 + j)) (v_vc 4) (v_ec 4) (v_F 4) (v_T 4) (v_X 4) (v_Z 4)]) rfl 30 2 rfl rfl rfl dX5_changeBasis_32 ?_
      refine kw_aload_n hX 35 dX5_changeBasis_35 rfl 0 rfl ?_
      obtain ⟨v9, hc10, h⟩ := kb_some h
      refine kw_callV_I hX 36 (As := []) (rest := []) (kX5_commitShifts (kx_l X) Y xa ra ga da va ea sa ca pa er vg e_cn e_M t_scn r_er g_vc g_ec g_F g_T g_X g_Z v5.1 v5.2.1 v5.2.2.1 v5.2.2.2.1 v7.1 v7.2 v_pi v_vc v_ec v_F v_T v_X v_Z hc10) gX5_changeBasis_X5_commitShifts rfl 0 rfl hdV_X5_commitShifts ⟨rfl, rfl⟩ ⟨by decide, by decide⟩ ⟨Nat.zero_le _, Nat.zero_le _⟩ rfl (Nat.le_of_ble_eq_true rfl) [0, 1, 2, 3, 4, 5, 6, 7, 8, 9, 10] (by decide) rfl (kfc gE_f (kfc gT_f (kfc gR_f (kfc gG_f (kfc rfl (kfc gA_f (kfc gG_f (kfc gG_f (kfc gG_f (kfc gG_f (kfc gG_f kfn0))))))))))) (gs1 := [gE Y ea er v9.2.1 v9.2.2.1, gT xa ra ga da va ea sa ca pa v9.2.2.2.1, gR Y ra v9.2.2.2.2.1, gG Y ga v9.2.2.2.2.2.1 v9.2.2.2.2.2.2.1 v9.2.2.2.2.2.2.2.1 v9.2.2.2.2.2.2.2.2.1 v9.2.2.2.2.2.2.2.2.2.1 v9.2.2.2.2.2.2.2.2.2.2.1, gG Y da v5.1 v5.2.1 v5.2.2.1 v5.2.2.2.1 v7.1 v7.2, gA Y va vg v9.2.2.2.2.2.2.2.2.2.2.2.1, gG Y (fun j => vg (0 + j)) (v9.2.2.2.2.2.2.2.2.2.2.2.2.1 0) (v9.2.2.2.2.2.2.2.2.2.2.2.2.2.1 0) (v9.2.2.2.2.2.2.2.2.2.2.2.2.2.2.1 0) (v9.2.2.2.2.2.2.2.2.2.2.2.2.2.2.2.1 0) (v9.2.2.2.2.2.2.2.2.2.2.2.2.2.2.2.2.1 0) (v9.2.2.2.2.2.2.2.2.2.2.2.2.2.2.2.2.2 0), gG Y (fun j => vg (5 + j)) (v9.2.2.2.2.2.2.2.2.2.2.2.2.1 1) (v9.2.2.2.2.2.2.2.2.2.2.2.2.2.1 1) (v9.2.2.2.2.2.2.2.2.2.2.2.2.2.2.1 1) (v9.2.2.2.2.2.2.2.2.2.2.2.2.2.2.2.1 1) (v9.2.2.2.2.2.2.2.2.2.2.2.2.2.2.2.2.1 1) (v9.2.2.2.2.2.2.2.2.2.2.2.2.2.2.2.2.2 1), gG Y (fun j => vg (10 + j)) (v9.2.2.2.2.2.2.2.2.2.2.2.2.1 2) (v9.2.2.2.2.2.2.2.2.2.2.2.2.2.1 2) (v9.2.2.2.2.2.2.2.2.2.2.2.2.2.2.1 2) (v9.2.2.2.2.2.2.2.2.2.2.2.2.2.2.2.1 2) (v9.2.2.2.2.2.2.2.2.2.2.2.2.2.2.2.2.1 2) (v9.2.2.2.2.2.2.2.2.2.2.2.2.2.2.2.2.2 2), gG Y (fun j => vg (15 + j)) (v9.2.2.2.2.2.2.2.2.2.2.2.2.1 3) (v9.2.2.2.2.2.2.2.2.2.2.2.2.2.1 3) (v9.2.2.2.2.2.2.2.2.2.2.2.2.2.2.1 3) (v9.2.2.2.2.2.2.2.2.2.2.2.2.2.2.2.1 3) (v9.2.2.2.2.2.2.2.2.2.2.2.2.2.2.2.2.1 3) (v9.2.2.2.2.2.2.2.2.2.2.2.2.2.2.2.2.2 3), gG Y (fun j => vg (20 + j)) (v9.2.2.2.2.2.2.2.2.2.2.2.2.1 4) (v9.2.2.2.2.2.2.2.2.2.2.2.2.2.1 4) (v9.2.2.2.2.2.2.2.2.2.2.2.2.2.2.1 4) (v9.2.2.2.2.2.2.2.2.2.2.2.2.2.2.2.1 4) (v9.2.2.2.2.2.2.2.2.2.2.2.2.2.2.2.2.1 4) (v9.2.2.2.2.2.2.2.2.2.2.2.2.2.2.2.2.2 4)]) rfl 23 5 rfl rfl rfl dX5_changeBasis_36 ?_
      obtain rfl := Option.some.inj h
      exact hret _ _ dX5_changeBasis_39 rfl
    · have h := kif_f c4 h
      refine kw_aload_n hX 9 dX5_changeBasis_9 rfl 0 rfl ?_
      refine kw_bipush hX 10 dX5_changeBasis_10 kcb_m2 ?_
      obtain ⟨v11, hc12, h⟩ := kb_some h
      refine kw_callV_I hX 12 (As := [.int (-2)]) (rest := []) (kX5_fail (kx_l X) Y xa ra ga da va ea sa ca pa t_scn r_er (-2) hc12) gX5_changeBasis_X5_fail rfl 1 rfl hdV_X5_fail ⟨rfl, rfl⟩ ⟨by decide, by decide⟩ ⟨Nat.zero_le _, Nat.zero_le _⟩ rfl (Nat.le_of_ble_eq_true rfl) [1, 2] (by decide) rfl (kfc rfl (kfc gR_f kfn0)) (gs1 := [gE Y ea er e_cn e_M, gT xa ra ga da va ea sa ca pa t_scn, gR Y ra v11.2, gG Y ga g_vc g_ec g_F g_T g_X g_Z, gG Y da d_vc d_ec d_F d_T d_X d_Z, gA Y va vg v_pi, gG Y (fun j => vg (0 + j)) (v_vc 0) (v_ec 0) (v_F 0) (v_T 0) (v_X 0) (v_Z 0), gG Y (fun j => vg (5 + j)) (v_vc 1) (v_ec 1) (v_F 1) (v_T 1) (v_X 1) (v_Z 1), gG Y (fun j => vg (10 + j)) (v_vc 2) (v_ec 2) (v_F 2) (v_T 2) (v_X 2) (v_Z 2), gG Y (fun j => vg (15 + j)) (v_vc 3) (v_ec 3) (v_F 3) (v_T 3) (v_X 3) (v_Z 3), gG Y (fun j => vg (20 + j)) (v_vc 4) (v_ec 4) (v_F 4) (v_T 4) (v_X 4) (v_Z 4)]) rfl 23 5 rfl rfl rfl dX5_changeBasis_12 ?_
      obtain rfl := Option.some.inj h
      exact hret _ _ dX5_changeBasis_15 rfl
def pX5_vertices  (g_vc : Int32) : Option (Int32) := some g_vc
def rmX5_vertices : Room := { frames := 0, cells := 0, slots := 0, locals := 0 }
theorem hdV_X5_vertices : yX5_vertices.cls = RX5 ∧ yX5_vertices.cls ≠ "java/lang/invoke/MethodHandle" ∧ yX5_vertices.cls ≠ "java/lang/invoke/VarHandle" ∧ (parseMethodDescriptor yX5_vertices.desc).map (fun d => d.parameters.length) = some 0 := ⟨rfl, by decide +kernel, by decide +kernel, by decide +kernel⟩
set_option maxHeartbeats 4000000 in
set_option maxRecDepth 100000 in
theorem kX5_vertices (l : Launch) (Y : KY) (xa : Nat) (ra : Nat) (ga : Nat → Nat) (da : Nat → Nat) (va : Nat) (ea : Nat → Nat) (sa : Nat → Nat) (ca : Nat → Nat) (pa : Nat → Nat) (t_scn : Int32) (g_vc : Int32) (g_ec : Int32) (g_F : Nat → Int32) (g_T : Nat → Int32) (g_X : Nat → Int32) (g_Z : Nat → Int32)  {o : Int32} (h : pX5_vertices g_vc = some o) : CtI l yX5_vertices wsX5_vertices rmX5_vertices Y [.ref xa] (kfl [gT xa ra ga da va ea sa ca pa t_scn, gG Y ga g_vc g_ec g_F g_T g_X g_Z]) o (kfl [gT xa ra ga da va ea sa ca pa t_scn, gG Y ga g_vc g_ec g_F g_T g_X g_Z]) := by
  refine ctI_intro (cc := cX5_vertices) (maxL := 1) (own := RX5) (by decide +kernel) rfl rfl (Nat.le_of_ble_eq_true rfl) rfl ?_
  intro X A hX _ hret
  have hin2 : ∀ w ∈ u_ws RX2 TX2 6, w ∈ wsX5_vertices := by decide +kernel
  have hin5 : ∀ w ∈ u_ws RX5 TX5 9, w ∈ wsX5_vertices := by decide +kernel
  have f0 := hX.w (Cond.fieldLink RX5 16 "PeriodicNet" "graph" "LPeriodicNet$Graph;") (by decide +kernel)
  have f1 := hX.w (Cond.fieldLink RX5 63 "PeriodicNet$Graph" "vertexCount" "I") (by decide +kernel)
  unfold pX5_vertices at h
  refine kw_lv (lv' := [(0, .ref xa)]) [0] rfl ?_
  refine kw_aload_n hX 0 dX5_vertices_0 rfl 0 rfl ?_
  refine kw_get hX 1 (C := RX5) (T := TX5) (N := 9) hin5 1 f0 (fun _ h => h) 0 rfl rfl (by decide) rfl dX5_vertices_1 ?_
  refine kw_get hX 4 (C := RX2) (T := TX2) (N := 6) hin2 0 f1 (fun _ h => h) 1 rfl rfl (by decide) rfl dX5_vertices_4 ?_
  obtain rfl := Option.some.inj h
  exact hret _ _ dX5_vertices_7 rfl
def pX5_edges  (g_ec : Int32) : Option (Int32) := some g_ec
def rmX5_edges : Room := { frames := 0, cells := 0, slots := 0, locals := 0 }
theorem hdV_X5_edges : yX5_edges.cls = RX5 ∧ yX5_edges.cls ≠ "java/lang/invoke/MethodHandle" ∧ yX5_edges.cls ≠ "java/lang/invoke/VarHandle" ∧ (parseMethodDescriptor yX5_edges.desc).map (fun d => d.parameters.length) = some 0 := ⟨rfl, by decide +kernel, by decide +kernel, by decide +kernel⟩
set_option maxHeartbeats 4000000 in
set_option maxRecDepth 100000 in
theorem kX5_edges (l : Launch) (Y : KY) (xa : Nat) (ra : Nat) (ga : Nat → Nat) (da : Nat → Nat) (va : Nat) (ea : Nat → Nat) (sa : Nat → Nat) (ca : Nat → Nat) (pa : Nat → Nat) (t_scn : Int32) (g_vc : Int32) (g_ec : Int32) (g_F : Nat → Int32) (g_T : Nat → Int32) (g_X : Nat → Int32) (g_Z : Nat → Int32)  {o : Int32} (h : pX5_edges g_ec = some o) : CtI l yX5_edges wsX5_edges rmX5_edges Y [.ref xa] (kfl [gT xa ra ga da va ea sa ca pa t_scn, gG Y ga g_vc g_ec g_F g_T g_X g_Z]) o (kfl [gT xa ra ga da va ea sa ca pa t_scn, gG Y ga g_vc g_ec g_F g_T g_X g_Z]) := by
  refine ctI_intro (cc := cX5_edges) (maxL := 1) (own := RX5) (by decide +kernel) rfl rfl (Nat.le_of_ble_eq_true rfl) rfl ?_
  intro X A hX _ hret
  have hin2 : ∀ w ∈ u_ws RX2 TX2 6, w ∈ wsX5_edges := by decide +kernel
  have hin5 : ∀ w ∈ u_ws RX5 TX5 9, w ∈ wsX5_edges := by decide +kernel
  have f0 := hX.w (Cond.fieldLink RX5 16 "PeriodicNet" "graph" "LPeriodicNet$Graph;") (by decide +kernel)
  have f1 := hX.w (Cond.fieldLink RX5 84 "PeriodicNet$Graph" "edgeCount" "I") (by decide +kernel)
  unfold pX5_edges at h
  refine kw_lv (lv' := [(0, .ref xa)]) [0] rfl ?_
  refine kw_aload_n hX 0 dX5_edges_0 rfl 0 rfl ?_
  refine kw_get hX 1 (C := RX5) (T := TX5) (N := 9) hin5 1 f0 (fun _ h => h) 0 rfl rfl (by decide) rfl dX5_edges_1 ?_
  refine kw_get hX 4 (C := RX2) (T := TX2) (N := 6) hin2 1 f1 (fun _ h => h) 1 rfl rfl (by decide) rfl dX5_edges_4 ?_
  obtain rfl := Option.some.inj h
  exact hret _ _ dX5_edges_7 rfl
def pX5_degree (a1 : Int32) (e_cn : Nat → Int32) (r_er : Nat → Int32) (g_vc : Int32) : Option (Int32 × (Nat → Int32)) := kb (pX5_isVertex a1 g_vc) (fun v1 => (if v1 = 0 then kb (pX5_fail (-2) r_er) (fun v5 => some (v5.1, v5.2)) else kgd (kin a1 6) (some ((e_cn (a1 : Int32).toNatClampNeg), r_er))))
def rmX5_degree : Room := { frames := 1, cells := 0, slots := 0, locals := 22 }
theorem hdV_X5_degree : yX5_degree.cls = RX5 ∧ yX5_degree.cls ≠ "java/lang/invoke/MethodHandle" ∧ yX5_degree.cls ≠ "java/lang/invoke/VarHandle" ∧ (parseMethodDescriptor yX5_degree.desc).map (fun d => d.parameters.length) = some 1 := ⟨rfl, by decide +kernel, by decide +kernel, by decide +kernel⟩
set_option maxHeartbeats 4000000 in
set_option maxRecDepth 100000 in
theorem kX5_degree (l : Launch) (Y : KY) (xa : Nat) (ra : Nat) (ga : Nat → Nat) (da : Nat → Nat) (va : Nat) (ea : Nat → Nat) (sa : Nat → Nat) (ca : Nat → Nat) (pa : Nat → Nat) (er : Nat → Nat) (e_cn : Nat → Int32) (e_M : Nat → Nat → Int32) (t_scn : Int32) (r_er : Nat → Int32) (g_vc : Int32) (g_ec : Int32) (g_F : Nat → Int32) (g_T : Nat → Int32) (g_X : Nat → Int32) (g_Z : Nat → Int32) (a1 : Int32) {o : Int32 × (Nat → Int32)} (h : pX5_degree a1 e_cn r_er g_vc = some o) : CtI l yX5_degree wsX5_degree rmX5_degree Y [.ref xa, .int a1] (kfl [gE Y ea er e_cn e_M, gT xa ra ga da va ea sa ca pa t_scn, gR Y ra r_er, gG Y ga g_vc g_ec g_F g_T g_X g_Z]) o.1 (kfl [gE Y ea er e_cn e_M, gT xa ra ga da va ea sa ca pa t_scn, gR Y ra o.2, gG Y ga g_vc g_ec g_F g_T g_X g_Z]) := by
  refine ctI_intro (cc := cX5_degree) (maxL := 2) (own := RX5) (by decide +kernel) rfl rfl (Nat.le_of_ble_eq_true rfl) rfl ?_
  intro X A hX _ hret
  have hin1 : ∀ w ∈ u_ws RX1 TX1 4, w ∈ wsX5_degree := by decide +kernel
  have hin5 : ∀ w ∈ u_ws RX5 TX5 9, w ∈ wsX5_degree := by decide +kernel
  have f0 := hX.w (Cond.fieldLink RX5 34 "PeriodicNet" "ends" "LPeriodicNet$Ends;") (by decide +kernel)
  have f1 := hX.w (Cond.fieldLink RX5 109 "PeriodicNet$Ends" "count" "[I") (by decide +kernel)
  unfold pX5_degree at h
  refine kw_lv (lv' := [(0, .ref xa), (1, .int a1)]) [0, 1] rfl ?_
  refine kw_aload_n hX 0 dX5_degree_0 rfl 0 rfl ?_
  refine kw_iload_n hX 1 dX5_degree_1 rfl 1 rfl ?_
  obtain ⟨v1, hc2, h⟩ := kb_some h
  refine kw_callV_I hX 2 (As := [.int a1]) (rest := []) (kX5_isVertex (kx_l X) Y xa ra ga da va ea sa ca pa t_scn g_vc g_ec g_F g_T g_X g_Z a1 hc2) gX5_degree_X5_isVertex rfl 1 rfl hdV_X5_isVertex ⟨rfl, rfl⟩ ⟨by decide, by decide⟩ ⟨Nat.zero_le _, Nat.zero_le _⟩ rfl (Nat.le_of_ble_eq_true rfl) [1, 3] (by decide) rfl (kfc rfl (kfc rfl kfn0)) (gs1 := [gE Y ea er e_cn e_M, gT xa ra ga da va ea sa ca pa t_scn, gR Y ra r_er, gG Y ga g_vc g_ec g_F g_T g_X g_Z]) rfl 23 5 rfl rfl rfl dX5_degree_2 ?_
  refine kw_if_ne hX 5 15 dX5_degree_5 (by decide) (fun c3 => ?_) (fun c3 => ?_)
  · have h := kif_f c3 h
    refine kw_aload_n hX 15 dX5_degree_15 rfl 0 rfl ?_
    refine kw_get hX 16 (C := RX5) (T := TX5) (N := 9) hin5 5 f0 (fun _ h => h) 23 rfl rfl (by decide) rfl dX5_degree_16 ?_
    refine kw_get hX 19 (C := RX1) (T := TX1) (N := 4) hin1 0 f1 (fun _ h => h) 0 rfl rfl (by decide) rfl dX5_degree_19 ?_
    refine kw_iload_n hX 22 dX5_degree_22 rfl 1 rfl ?_
    obtain ⟨g4, h⟩ := kgd_some h
    refine kw_iald hX 23 1 rfl g4 dX5_degree_23 ?_
    obtain rfl := Option.some.inj h
    exact hret _ _ dX5_degree_24 rfl
  · have h := kif_t c3 h
    refine kw_aload_n hX 8 dX5_degree_8 rfl 0 rfl ?_
    refine kw_bipush hX 9 dX5_degree_9 kcb_m2 ?_
    obtain ⟨v5, hc6, h⟩ := kb_some h
    refine kw_callV_I hX 11 (As := [.int (-2)]) (rest := []) (kX5_fail (kx_l X) Y xa ra ga da va ea sa ca pa t_scn r_er (-2) hc6) gX5_degree_X5_fail rfl 1 rfl hdV_X5_fail ⟨rfl, rfl⟩ ⟨by decide, by decide⟩ ⟨Nat.zero_le _, Nat.zero_le _⟩ rfl (Nat.le_of_ble_eq_true rfl) [1, 2] (by decide) rfl (kfc rfl (kfc gR_f kfn0)) (gs1 := [gE Y ea er e_cn e_M, gT xa ra ga da va ea sa ca pa t_scn, gR Y ra v5.2, gG Y ga g_vc g_ec g_F g_T g_X g_Z]) rfl 23 5 rfl rfl rfl dX5_degree_11 ?_
    obtain rfl := Option.some.inj h
    exact hret _ _ dX5_degree_14 rfl
def pX5_isEnd (a1 : Int32) (a2 : Int32) (e_cn : Nat → Int32) (g_vc : Int32) : Option (Int32) := kb (pX5_isVertex a1 g_vc) (fun v1 => (if v1 = 0 then some 0 else (if a2 < 0 then some 0 else kgd (kin a1 6) ((if (e_cn (a1 : Int32).toNatClampNeg) ≤ a2 then some 0 else some 1)))))
def rmX5_isEnd : Room := { frames := 1, cells := 0, slots := 0, locals := 21 }
theorem hdV_X5_isEnd : yX5_isEnd.cls = RX5 ∧ yX5_isEnd.cls ≠ "java/lang/invoke/MethodHandle" ∧ yX5_isEnd.cls ≠ "java/lang/invoke/VarHandle" ∧ (parseMethodDescriptor yX5_isEnd.desc).map (fun d => d.parameters.length) = some 2 := ⟨rfl, by decide +kernel, by decide +kernel, by decide +kernel⟩
set_option maxHeartbeats 4000000 in
set_option maxRecDepth 100000 in
theorem kX5_isEnd (l : Launch) (Y : KY) (xa : Nat) (ra : Nat) (ga : Nat → Nat) (da : Nat → Nat) (va : Nat) (ea : Nat → Nat) (sa : Nat → Nat) (ca : Nat → Nat) (pa : Nat → Nat) (er : Nat → Nat) (e_cn : Nat → Int32) (e_M : Nat → Nat → Int32) (t_scn : Int32) (g_vc : Int32) (g_ec : Int32) (g_F : Nat → Int32) (g_T : Nat → Int32) (g_X : Nat → Int32) (g_Z : Nat → Int32) (a1 : Int32) (a2 : Int32) {o : Int32} (h : pX5_isEnd a1 a2 e_cn g_vc = some o) : CtI l yX5_isEnd wsX5_isEnd rmX5_isEnd Y [.ref xa, .int a1, .int a2] (kfl [gE Y ea er e_cn e_M, gT xa ra ga da va ea sa ca pa t_scn, gG Y ga g_vc g_ec g_F g_T g_X g_Z]) o (kfl [gE Y ea er e_cn e_M, gT xa ra ga da va ea sa ca pa t_scn, gG Y ga g_vc g_ec g_F g_T g_X g_Z]) := by
  refine ctI_intro (cc := cX5_isEnd) (maxL := 3) (own := RX5) (by decide +kernel) rfl rfl (Nat.le_of_ble_eq_true rfl) rfl ?_
  intro X A hX _ hret
  have hin1 : ∀ w ∈ u_ws RX1 TX1 4, w ∈ wsX5_isEnd := by decide +kernel
  have hin5 : ∀ w ∈ u_ws RX5 TX5 9, w ∈ wsX5_isEnd := by decide +kernel
  have f0 := hX.w (Cond.fieldLink RX5 34 "PeriodicNet" "ends" "LPeriodicNet$Ends;") (by decide +kernel)
  have f1 := hX.w (Cond.fieldLink RX5 109 "PeriodicNet$Ends" "count" "[I") (by decide +kernel)
  unfold pX5_isEnd at h
  refine kw_lv (lv' := [(0, .ref xa), (1, .int a1), (2, .int a2)]) [0, 1, 2] rfl ?_
  refine kw_aload_n hX 0 dX5_isEnd_0 rfl 0 rfl ?_
  refine kw_iload_n hX 1 dX5_isEnd_1 rfl 1 rfl ?_
  obtain ⟨v1, hc2, h⟩ := kb_some h
  refine kw_callV_I hX 2 (As := [.int a1]) (rest := []) (kX5_isVertex (kx_l X) Y xa ra ga da va ea sa ca pa t_scn g_vc g_ec g_F g_T g_X g_Z a1 hc2) gX5_isEnd_X5_isVertex rfl 1 rfl hdV_X5_isVertex ⟨rfl, rfl⟩ ⟨by decide, by decide⟩ ⟨Nat.zero_le _, Nat.zero_le _⟩ rfl (Nat.le_of_ble_eq_true rfl) [1, 2] (by decide) rfl (kfc rfl (kfc rfl kfn0)) (gs1 := [gE Y ea er e_cn e_M, gT xa ra ga da va ea sa ca pa t_scn, gG Y ga g_vc g_ec g_F g_T g_X g_Z]) rfl 23 5 rfl rfl rfl dX5_isEnd_2 ?_
  refine kw_if_eq hX 5 29 dX5_isEnd_5 (by decide) (fun c3 => ?_) (fun c3 => ?_)
  · have h := kif_t c3 h
    refine kw_iconst hX 29 dX5_isEnd_29 kci_0 ?_
    obtain rfl := Option.some.inj h
    exact hret _ _ dX5_isEnd_30 rfl
  · have h := kif_f c3 h
    refine kw_iload_n hX 8 dX5_isEnd_8 rfl 2 rfl ?_
    refine kw_if_lt hX 9 29 dX5_isEnd_9 (by decide) (fun c4 => ?_) (fun c4 => ?_)
    · have h := kif_t c4 h
      refine kw_iconst hX 29 dX5_isEnd_29 kci_0 ?_
      obtain rfl := Option.some.inj h
      exact hret _ _ dX5_isEnd_30 rfl
    · have h := kif_f c4 h
      refine kw_iload_n hX 12 dX5_isEnd_12 rfl 2 rfl ?_
      refine kw_aload_n hX 13 dX5_isEnd_13 rfl 0 rfl ?_
      refine kw_get hX 14 (C := RX5) (T := TX5) (N := 9) hin5 5 f0 (fun _ h => h) 23 rfl rfl (by decide) rfl dX5_isEnd_14 ?_
      refine kw_get hX 17 (C := RX1) (T := TX1) (N := 4) hin1 0 f1 (fun _ h => h) 0 rfl rfl (by decide) rfl dX5_isEnd_17 ?_
      refine kw_iload_n hX 20 dX5_isEnd_20 rfl 1 rfl ?_
      obtain ⟨g5, h⟩ := kgd_some h
      refine kw_iald hX 21 1 rfl g5 dX5_isEnd_21 ?_
      refine kw_icmp_ge hX 22 29 dX5_isEnd_22 (by decide) (fun c6 => ?_) (fun c6 => ?_)
      · have h := kif_t c6 h
        refine kw_iconst hX 29 dX5_isEnd_29 kci_0 ?_
        obtain rfl := Option.some.inj h
        exact hret _ _ dX5_isEnd_30 rfl
      · have h := kif_f c6 h
        refine kw_iconst hX 25 dX5_isEnd_25 kci_1 ?_
        refine kw_goto hX 26 30 dX5_isEnd_26 (by decide) ?_
        obtain rfl := Option.some.inj h
        exact hret _ _ dX5_isEnd_30 rfl
def pX5_neighbour (a1 : Int32) (a2 : Int32) (e_cn : Nat → Int32) (e_M : Nat → Nat → Int32) (r_er : Nat → Int32) (g_vc : Int32) : Option (Int32 × (Nat → Int32)) := kb (pX5_isEnd a1 a2 e_cn g_vc) (fun v1 => (if v1 = 0 then kb (pX5_fail (-2) r_er) (fun v7 => some (v7.1, v7.2)) else kgd (kin a1 6) (kgd (decide ((0 + (a1 : Int32).toNatClampNeg) < 18)) (kgd (kin a2 24) (some ((e_M (0 + (a1 : Int32).toNatClampNeg) (a2).toNatClampNeg), r_er))))))
def rmX5_neighbour : Room := { frames := 2, cells := 0, slots := 0, locals := 43 }
theorem hdV_X5_neighbour : yX5_neighbour.cls = RX5 ∧ yX5_neighbour.cls ≠ "java/lang/invoke/MethodHandle" ∧ yX5_neighbour.cls ≠ "java/lang/invoke/VarHandle" ∧ (parseMethodDescriptor yX5_neighbour.desc).map (fun d => d.parameters.length) = some 2 := ⟨rfl, by decide +kernel, by decide +kernel, by decide +kernel⟩
set_option maxHeartbeats 4000000 in
set_option maxRecDepth 100000 in
theorem kX5_neighbour (l : Launch) (Y : KY) (xa : Nat) (ra : Nat) (ga : Nat → Nat) (da : Nat → Nat) (va : Nat) (ea : Nat → Nat) (sa : Nat → Nat) (ca : Nat → Nat) (pa : Nat → Nat) (er : Nat → Nat) (e_cn : Nat → Int32) (e_M : Nat → Nat → Int32) (t_scn : Int32) (r_er : Nat → Int32) (g_vc : Int32) (g_ec : Int32) (g_F : Nat → Int32) (g_T : Nat → Int32) (g_X : Nat → Int32) (g_Z : Nat → Int32) (a1 : Int32) (a2 : Int32) {o : Int32 × (Nat → Int32)} (h : pX5_neighbour a1 a2 e_cn e_M r_er g_vc = some o) : CtI l yX5_neighbour wsX5_neighbour rmX5_neighbour Y [.ref xa, .int a1, .int a2] (kfl [gE Y ea er e_cn e_M, gT xa ra ga da va ea sa ca pa t_scn, gR Y ra r_er, gG Y ga g_vc g_ec g_F g_T g_X g_Z]) o.1 (kfl [gE Y ea er e_cn e_M, gT xa ra ga da va ea sa ca pa t_scn, gR Y ra o.2, gG Y ga g_vc g_ec g_F g_T g_X g_Z]) := by
  refine ctI_intro (cc := cX5_neighbour) (maxL := 3) (own := RX5) (by decide +kernel) rfl rfl (Nat.le_of_ble_eq_true rfl) rfl ?_
  intro X A hX _ hret
  have hin1 : ∀ w ∈ u_ws RX1 TX1 4, w ∈ wsX5_neighbour := by decide +kernel
  have hin5 : ∀ w ∈ u_ws RX5 TX5 9, w ∈ wsX5_neighbour := by decide +kernel
  have f0 := hX.w (Cond.fieldLink RX5 34 "PeriodicNet" "ends" "LPeriodicNet$Ends;") (by decide +kernel)
  have f1 := hX.w (Cond.fieldLink RX5 116 "PeriodicNet$Ends" "target" "[[I") (by decide +kernel)
  unfold pX5_neighbour at h
  refine kw_lv (lv' := [(0, .ref xa), (1, .int a1), (2, .int a2)]) [0, 1, 2] rfl ?_
  refine kw_aload_n hX 0 dX5_neighbour_0 rfl 0 rfl ?_
  refine kw_iload_n hX 1 dX5_neighbour_1 rfl 1 rfl ?_
  refine kw_iload_n hX 2 dX5_neighbour_2 rfl 2 rfl ?_
  obtain ⟨v1, hc2, h⟩ := kb_some h
  refine kw_callV_I hX 3 (As := [.int a1, .int a2]) (rest := []) (kX5_isEnd (kx_l X) Y xa ra ga da va ea sa ca pa er e_cn e_M t_scn g_vc g_ec g_F g_T g_X g_Z a1 a2 hc2) gX5_neighbour_X5_isEnd rfl 2 rfl hdV_X5_isEnd ⟨rfl, rfl⟩ ⟨by decide, by decide⟩ ⟨Nat.zero_le _, Nat.zero_le _⟩ rfl (Nat.le_of_ble_eq_true rfl) [0, 1, 3] (by decide) rfl (kfc rfl (kfc rfl (kfc rfl kfn0))) (gs1 := [gE Y ea er e_cn e_M, gT xa ra ga da va ea sa ca pa t_scn, gR Y ra r_er, gG Y ga g_vc g_ec g_F g_T g_X g_Z]) rfl 23 5 rfl rfl rfl dX5_neighbour_3 ?_
  refine kw_if_ne hX 6 16 dX5_neighbour_6 (by decide) (fun c3 => ?_) (fun c3 => ?_)
  · have h := kif_f c3 h
    refine kw_aload_n hX 16 dX5_neighbour_16 rfl 0 rfl ?_
    refine kw_get hX 17 (C := RX5) (T := TX5) (N := 9) hin5 5 f0 (fun _ h => h) 23 rfl rfl (by decide) rfl dX5_neighbour_17 ?_
    refine kw_get hX 20 (C := RX1) (T := TX1) (N := 4) hin1 1 f1 (fun _ h => h) 0 rfl rfl (by decide) rfl dX5_neighbour_20 ?_
    refine kw_iload_n hX 23 dX5_neighbour_23 rfl 1 rfl ?_
    obtain ⟨g4, h⟩ := kgd_some h
    refine kw_aald4 hX 24 2 rfl g4 rfl dX5_neighbour_24 ?_
    refine kw_iload_n hX 25 dX5_neighbour_25 rfl 2 rfl ?_
    obtain ⟨g5, h⟩ := kgd_some h
    obtain ⟨g6, h⟩ := kgd_some h
    refine kw_iald hX 26 (5 + (0 + (a1 : Int32).toNatClampNeg)) (gE_row (of_decide_eq_true g5)) g6 dX5_neighbour_26 ?_
    obtain rfl := Option.some.inj h
    exact hret _ _ dX5_neighbour_27 rfl
  · have h := kif_t c3 h
    refine kw_aload_n hX 9 dX5_neighbour_9 rfl 0 rfl ?_
    refine kw_bipush hX 10 dX5_neighbour_10 kcb_m2 ?_
    obtain ⟨v7, hc8, h⟩ := kb_some h
    refine kw_callV_I hX 12 (As := [.int (-2)]) (rest := []) (kX5_fail (kx_l X) Y xa ra ga da va ea sa ca pa t_scn r_er (-2) hc8) gX5_neighbour_X5_fail rfl 1 rfl hdV_X5_fail ⟨rfl, rfl⟩ ⟨by decide, by decide⟩ ⟨Nat.zero_le _, Nat.zero_le _⟩ rfl (Nat.le_of_ble_eq_true rfl) [1, 2] (by decide) rfl (kfc rfl (kfc gR_f kfn0)) (gs1 := [gE Y ea er e_cn e_M, gT xa ra ga da va ea sa ca pa t_scn, gR Y ra v7.2, gG Y ga g_vc g_ec g_F g_T g_X g_Z]) rfl 23 5 rfl rfl rfl dX5_neighbour_12 ?_
    obtain rfl := Option.some.inj h
    exact hret _ _ dX5_neighbour_15 rfl
def pX5_walkAround (a1 : Int32) (a2 : Int32) (a3 : Int32) (e_cn : Nat → Int32) (e_M : Nat → Nat → Int32) (s_fi : Int32) (s_ta : Int32) (s_st : Nat → Int32) (s_qu : Nat → Int32) : Option (Int32 × Int32 × (Nat → Int32) × (Nat → Int32)) := kb (pX4_forget s_fi s_ta s_st s_qu) (fun v1 => kb (pX4_nodeAt a1 0 0) (fun v3 => kb (pX4_mark v3 0 v1.2.1 v1.2.2 s_qu) (fun v5 => kb (pX4_walk a2 a3 e_cn e_M v1.1 v5.1 v5.2.1 v5.2.2) (fun v7 => some (v1.1, v7.1, v7.2.1, v7.2.2)))))
def rmX5_walkAround : Room := { frames := 3, cells := 0, slots := 0, locals := 79 }
theorem hdV_X5_walkAround : yX5_walkAround.cls = RX5 ∧ yX5_walkAround.cls ≠ "java/lang/invoke/MethodHandle" ∧ yX5_walkAround.cls ≠ "java/lang/invoke/VarHandle" ∧ (parseMethodDescriptor yX5_walkAround.desc).map (fun d => d.parameters.length) = some 3 := ⟨rfl, by decide +kernel, by decide +kernel, by decide +kernel⟩
set_option maxHeartbeats 4000000 in
set_option maxRecDepth 100000 in
theorem kX5_walkAround (l : Launch) (Y : KY) (xa : Nat) (ra : Nat) (ga : Nat → Nat) (da : Nat → Nat) (va : Nat) (ea : Nat → Nat) (sa : Nat → Nat) (ca : Nat → Nat) (pa : Nat → Nat) (er : Nat → Nat) (e_cn : Nat → Int32) (e_M : Nat → Nat → Int32) (t_scn : Int32) (s_fi : Int32) (s_ta : Int32) (s_st : Nat → Int32) (s_qu : Nat → Int32) (a1 : Int32) (a2 : Int32) (a3 : Int32) {o : Int32 × Int32 × (Nat → Int32) × (Nat → Int32)} (h : pX5_walkAround a1 a2 a3 e_cn e_M s_fi s_ta s_st s_qu = some o) : CtV l yX5_walkAround wsX5_walkAround rmX5_walkAround Y [.ref xa, .int a1, .int a2, .int a3] (kfl [gE Y ea er e_cn e_M, gT xa ra ga da va ea sa ca pa t_scn, gS Y sa s_fi s_ta s_st s_qu]) (kfl [gE Y ea er e_cn e_M, gT xa ra ga da va ea sa ca pa t_scn, gS Y sa o.1 o.2.1 o.2.2.1 o.2.2.2]) := by
  refine ctV_intro (cc := cX5_walkAround) (maxL := 4) (own := RX5) (by decide +kernel) rfl rfl (Nat.le_of_ble_eq_true rfl) rfl ?_
  intro X A hX _ hret
  have hin5 : ∀ w ∈ u_ws RX5 TX5 9, w ∈ wsX5_walkAround := by decide +kernel
  have f0 := hX.w (Cond.fieldLink RX5 41 "PeriodicNet" "search" "LPeriodicNet$Search;") (by decide +kernel)
  have f1 := hX.w (Cond.fieldLink RX5 34 "PeriodicNet" "ends" "LPeriodicNet$Ends;") (by decide +kernel)
  unfold pX5_walkAround at h
  refine kw_lv (lv' := [(0, .ref xa), (1, .int a1), (2, .int a2), (3, .int a3)]) [0, 1, 2, 3] rfl ?_
  refine kw_aload_n hX 0 dX5_walkAround_0 rfl 0 rfl ?_
  refine kw_get hX 1 (C := RX5) (T := TX5) (N := 9) hin5 6 f0 (fun _ h => h) 23 rfl rfl (by decide) rfl dX5_walkAround_1 ?_
  obtain ⟨v1, hc2, h⟩ := kb_some h
  refine kw_callV_V hX 4 (As := []) (rest := []) (kX4_forget (kx_l X) Y sa s_fi s_ta s_st s_qu hc2) gX5_walkAround_X4_forget rfl 0 rfl hdV_X4_forget ⟨rfl, rfl⟩ ⟨by decide, by decide⟩ ⟨Nat.zero_le _, Nat.zero_le _⟩ rfl (Nat.le_of_ble_eq_true rfl) [2] (by decide) rfl (kfc gS_f kfn0) (gs1 := [gE Y ea er e_cn e_M, gT xa ra ga da va ea sa ca pa t_scn, gS Y sa v1.1 v1.2.1 v1.2.2 s_qu]) rfl 24 4 rfl rfl rfl dX5_walkAround_4 ?_
  refine kw_aload_n hX 7 dX5_walkAround_7 rfl 0 rfl ?_
  refine kw_get hX 8 (C := RX5) (T := TX5) (N := 9) hin5 6 f0 (fun _ h => h) 23 rfl rfl (by decide) rfl dX5_walkAround_8 ?_
  refine kw_aload_n hX 11 dX5_walkAround_11 rfl 0 rfl ?_
  refine kw_get hX 12 (C := RX5) (T := TX5) (N := 9) hin5 6 f0 (fun _ h => h) 23 rfl rfl (by decide) rfl dX5_walkAround_12 ?_
  refine kw_iload_n hX 15 dX5_walkAround_15 rfl 1 rfl ?_
  refine kw_iconst hX 16 dX5_walkAround_16 kci_0 ?_
  refine kw_iconst hX 17 dX5_walkAround_17 kci_0 ?_
  obtain ⟨v3, hc4, h⟩ := kb_some h
  refine kw_callV_I hX 18 (As := [.int a1, .int 0, .int 0]) (rest := [.ref (sa 0)]) (kX4_nodeAt (kx_l X) Y sa v1.1 v1.2.1 v1.2.2 s_qu a1 0 0 hc4) gX5_walkAround_X4_nodeAt rfl 3 rfl hdV_X4_nodeAt ⟨rfl, rfl⟩ ⟨by decide, by decide⟩ ⟨Nat.zero_le _, Nat.zero_le _⟩ rfl (Nat.le_of_ble_eq_true rfl) [2] (by decide) rfl (kfc rfl kfn0) (gs1 := [gE Y ea er e_cn e_M, gT xa ra ga da va ea sa ca pa t_scn, gS Y sa v1.1 v1.2.1 v1.2.2 s_qu]) rfl 24 4 rfl rfl rfl dX5_walkAround_18 ?_
  refine kw_iconst hX 21 dX5_walkAround_21 kci_0 ?_
  obtain ⟨v5, hc6, h⟩ := kb_some h
  refine kw_callV_V hX 22 (As := [.int v3, .int 0]) (rest := []) (kX4_mark (kx_l X) Y sa v1.1 v1.2.1 v1.2.2 s_qu v3 0 hc6) gX5_walkAround_X4_mark rfl 2 rfl hdV_X4_mark ⟨rfl, rfl⟩ ⟨by decide, by decide⟩ ⟨Nat.zero_le _, Nat.zero_le _⟩ rfl (Nat.le_of_ble_eq_true rfl) [2] (by decide) rfl (kfc gS_f kfn0) (gs1 := [gE Y ea er e_cn e_M, gT xa ra ga da va ea sa ca pa t_scn, gS Y sa v1.1 v5.1 v5.2.1 v5.2.2]) rfl 24 4 rfl rfl rfl dX5_walkAround_22 ?_
  refine kw_aload_n hX 25 dX5_walkAround_25 rfl 0 rfl ?_
  refine kw_get hX 26 (C := RX5) (T := TX5) (N := 9) hin5 6 f0 (fun _ h => h) 23 rfl rfl (by decide) rfl dX5_walkAround_26 ?_
  refine kw_aload_n hX 29 dX5_walkAround_29 rfl 0 rfl ?_
  refine kw_get hX 30 (C := RX5) (T := TX5) (N := 9) hin5 5 f1 (fun _ h => h) 23 rfl rfl (by decide) rfl dX5_walkAround_30 ?_
  refine kw_iload_n hX 33 dX5_walkAround_33 rfl 2 rfl ?_
  refine kw_iload_n hX 34 dX5_walkAround_34 rfl 3 rfl ?_
  obtain ⟨v7, hc8, h⟩ := kb_some h
  refine kw_callV_V hX 35 (As := [.ref (ea 0), .int a2, .int a3]) (rest := []) (kX4_walk (kx_l X) Y ea er sa e_cn e_M v1.1 v5.1 v5.2.1 v5.2.2 a2 a3 hc8) gX5_walkAround_X4_walk rfl 3 rfl hdV_X4_walk ⟨rfl, rfl⟩ ⟨by decide, by decide⟩ ⟨Nat.zero_le _, Nat.zero_le _⟩ rfl (Nat.le_of_ble_eq_true rfl) [0, 2] (by decide) rfl (kfc rfl (kfc gS_f kfn0)) (gs1 := [gE Y ea er e_cn e_M, gT xa ra ga da va ea sa ca pa t_scn, gS Y sa v1.1 v7.1 v7.2.1 v7.2.2]) rfl 24 4 rfl rfl rfl dX5_walkAround_35 ?_
  obtain rfl := Option.some.inj h
  exact hret _ _ dX5_walkAround_38
def pX5_coordination (a1 : Int32) (a2 : Int32) (e_cn : Nat → Int32) (e_M : Nat → Nat → Int32) (r_er : Nat → Int32) (g_vc : Int32) (s_fi : Int32) (s_ta : Int32) (s_st : Nat → Int32) (s_qu : Nat → Int32) : Option (Int32 × (Nat → Int32) × Int32 × Int32 × (Nat → Int32) × (Nat → Int32)) := kb (pX5_isVertex a1 g_vc) (fun v1 => (if v1 = 0 then kb (pX5_fail (-2) r_er) (fun v4 => some (v4.1, v4.2, s_fi, s_ta, s_st, s_qu)) else (if a2 < 0 then kb (pX5_fail (-2) r_er) (fun v7 => some (v7.1, v7.2, s_fi, s_ta, s_st, s_qu)) else (if a2 ≤ (8 : Int32) then kb (pX5_walkAround a1 a2 (-1) e_cn e_M s_fi s_ta s_st s_qu) (fun v10 => kb (pX4_nodesAfter a2 v10.1 v10.2.1 v10.2.2.1 v10.2.2.2) (fun v12 => some (v12, r_er, v10.1, v10.2.1, v10.2.2.1, v10.2.2.2))) else kb (pX5_fail (-2) r_er) (fun v14 => some (v14.1, v14.2, s_fi, s_ta, s_st, s_qu))))))
def rmX5_coordination : Room := { frames := 4, cells := 0, slots := 0, locals := 102 }
theorem hdV_X5_coordination : yX5_coordination.cls = RX5 ∧ yX5_coordination.cls ≠ "java/lang/invoke/MethodHandle" ∧ yX5_coordination.cls ≠ "java/lang/invoke/VarHandle" ∧ (parseMethodDescriptor yX5_coordination.desc).map (fun d => d.parameters.length) = some 2 := ⟨rfl, by decide +kernel, by decide +kernel, by decide +kernel⟩
set_option maxHeartbeats 4000000 in
set_option maxRecDepth 100000 in
theorem kX5_coordination (l : Launch) (Y : KY) (xa : Nat) (ra : Nat) (ga : Nat → Nat) (da : Nat → Nat) (va : Nat) (ea : Nat → Nat) (sa : Nat → Nat) (ca : Nat → Nat) (pa : Nat → Nat) (er : Nat → Nat) (e_cn : Nat → Int32) (e_M : Nat → Nat → Int32) (t_scn : Int32) (r_er : Nat → Int32) (g_vc : Int32) (g_ec : Int32) (g_F : Nat → Int32) (g_T : Nat → Int32) (g_X : Nat → Int32) (g_Z : Nat → Int32) (s_fi : Int32) (s_ta : Int32) (s_st : Nat → Int32) (s_qu : Nat → Int32) (a1 : Int32) (a2 : Int32) {o : Int32 × (Nat → Int32) × Int32 × Int32 × (Nat → Int32) × (Nat → Int32)} (h : pX5_coordination a1 a2 e_cn e_M r_er g_vc s_fi s_ta s_st s_qu = some o) : CtI l yX5_coordination wsX5_coordination rmX5_coordination Y [.ref xa, .int a1, .int a2] (kfl [gE Y ea er e_cn e_M, gT xa ra ga da va ea sa ca pa t_scn, gR Y ra r_er, gG Y ga g_vc g_ec g_F g_T g_X g_Z, gS Y sa s_fi s_ta s_st s_qu]) o.1 (kfl [gE Y ea er e_cn e_M, gT xa ra ga da va ea sa ca pa t_scn, gR Y ra o.2.1, gG Y ga g_vc g_ec g_F g_T g_X g_Z, gS Y sa o.2.2.1 o.2.2.2.1 o.2.2.2.2.1 o.2.2.2.2.2]) := by
  refine ctI_intro (cc := cX5_coordination) (maxL := 3) (own := RX5) (by decide +kernel) rfl rfl (Nat.le_of_ble_eq_true rfl) rfl ?_
  intro X A hX _ hret
  have hin5 : ∀ w ∈ u_ws RX5 TX5 9, w ∈ wsX5_coordination := by decide +kernel
  have f0 := hX.w (Cond.fieldLink RX5 41 "PeriodicNet" "search" "LPeriodicNet$Search;") (by decide +kernel)
  unfold pX5_coordination at h
  refine kw_lv (lv' := [(0, .ref xa), (1, .int a1), (2, .int a2)]) [0, 1, 2] rfl ?_
  refine kw_aload_n hX 0 dX5_coordination_0 rfl 0 rfl ?_
  refine kw_iload_n hX 1 dX5_coordination_1 rfl 1 rfl ?_
  obtain ⟨v1, hc2, h⟩ := kb_some h
  refine kw_callV_I hX 2 (As := [.int a1]) (rest := []) (kX5_isVertex (kx_l X) Y xa ra ga da va ea sa ca pa t_scn g_vc g_ec g_F g_T g_X g_Z a1 hc2) gX5_coordination_X5_isVertex rfl 1 rfl hdV_X5_isVertex ⟨rfl, rfl⟩ ⟨by decide, by decide⟩ ⟨Nat.zero_le _, Nat.zero_le _⟩ rfl (Nat.le_of_ble_eq_true rfl) [1, 3] (by decide) rfl (kfc rfl (kfc rfl kfn0)) (gs1 := [gE Y ea er e_cn e_M, gT xa ra ga da va ea sa ca pa t_scn, gR Y ra r_er, gG Y ga g_vc g_ec g_F g_T g_X g_Z, gS Y sa s_fi s_ta s_st s_qu]) rfl 23 5 rfl rfl rfl dX5_coordination_2 ?_
  refine kw_if_eq hX 5 18 dX5_coordination_5 (by decide) (fun c3 => ?_) (fun c3 => ?_)
  · have h := kif_t c3 h
    refine kw_aload_n hX 18 dX5_coordination_18 rfl 0 rfl ?_
    refine kw_bipush hX 19 dX5_coordination_19 kcb_m2 ?_
    obtain ⟨v4, hc5, h⟩ := kb_some h
    refine kw_callV_I hX 21 (As := [.int (-2)]) (rest := []) (kX5_fail (kx_l X) Y xa ra ga da va ea sa ca pa t_scn r_er (-2) hc5) gX5_coordination_X5_fail rfl 1 rfl hdV_X5_fail ⟨rfl, rfl⟩ ⟨by decide, by decide⟩ ⟨Nat.zero_le _, Nat.zero_le _⟩ rfl (Nat.le_of_ble_eq_true rfl) [1, 2] (by decide) rfl (kfc rfl (kfc gR_f kfn0)) (gs1 := [gE Y ea er e_cn e_M, gT xa ra ga da va ea sa ca pa t_scn, gR Y ra v4.2, gG Y ga g_vc g_ec g_F g_T g_X g_Z, gS Y sa s_fi s_ta s_st s_qu]) rfl 23 5 rfl rfl rfl dX5_coordination_21 ?_
    obtain rfl := Option.some.inj h
    exact hret _ _ dX5_coordination_24 rfl
  · have h := kif_f c3 h
    refine kw_iload_n hX 8 dX5_coordination_8 rfl 2 rfl ?_
    refine kw_if_lt hX 9 18 dX5_coordination_9 (by decide) (fun c6 => ?_) (fun c6 => ?_)
    · have h := kif_t c6 h
      refine kw_aload_n hX 18 dX5_coordination_18 rfl 0 rfl ?_
      refine kw_bipush hX 19 dX5_coordination_19 kcb_m2 ?_
      obtain ⟨v7, hc8, h⟩ := kb_some h
      refine kw_callV_I hX 21 (As := [.int (-2)]) (rest := []) (kX5_fail (kx_l X) Y xa ra ga da va ea sa ca pa t_scn r_er (-2) hc8) gX5_coordination_X5_fail rfl 1 rfl hdV_X5_fail ⟨rfl, rfl⟩ ⟨by decide, by decide⟩ ⟨Nat.zero_le _, Nat.zero_le _⟩ rfl (Nat.le_of_ble_eq_true rfl) [1, 2] (by decide) rfl (kfc rfl (kfc gR_f kfn0)) (gs1 := [gE Y ea er e_cn e_M, gT xa ra ga da va ea sa ca pa t_scn, gR Y ra v7.2, gG Y ga g_vc g_ec g_F g_T g_X g_Z, gS Y sa s_fi s_ta s_st s_qu]) rfl 23 5 rfl rfl rfl dX5_coordination_21 ?_
      obtain rfl := Option.some.inj h
      exact hret _ _ dX5_coordination_24 rfl
    · have h := kif_f c6 h
      refine kw_iload_n hX 12 dX5_coordination_12 rfl 2 rfl ?_
      refine kw_bipush hX 13 dX5_coordination_13 kcb_8 ?_
      refine kw_icmp_le hX 15 25 dX5_coordination_15 (by decide) (fun c9 => ?_) (fun c9 => ?_)
      · have h := kif_t c9 h
        refine kw_aload_n hX 25 dX5_coordination_25 rfl 0 rfl ?_
        refine kw_iload_n hX 26 dX5_coordination_26 rfl 1 rfl ?_
        refine kw_iload_n hX 27 dX5_coordination_27 rfl 2 rfl ?_
        refine kw_iconst hX 28 dX5_coordination_28 kci_m1 ?_
        obtain ⟨v10, hc11, h⟩ := kb_some h
        refine kw_callV_V hX 29 (As := [.int a1, .int a2, .int (-1)]) (rest := []) (kX5_walkAround (kx_l X) Y xa ra ga da va ea sa ca pa er e_cn e_M t_scn s_fi s_ta s_st s_qu a1 a2 (-1) hc11) gX5_coordination_X5_walkAround rfl 3 rfl hdV_X5_walkAround ⟨rfl, rfl⟩ ⟨by decide, by decide⟩ ⟨Nat.zero_le _, Nat.zero_le _⟩ rfl (Nat.le_of_ble_eq_true rfl) [0, 1, 4] (by decide) rfl (kfc rfl (kfc rfl (kfc gS_f kfn0))) (gs1 := [gE Y ea er e_cn e_M, gT xa ra ga da va ea sa ca pa t_scn, gR Y ra r_er, gG Y ga g_vc g_ec g_F g_T g_X g_Z, gS Y sa v10.1 v10.2.1 v10.2.2.1 v10.2.2.2]) rfl 23 5 rfl rfl rfl dX5_coordination_29 ?_
        refine kw_aload_n hX 32 dX5_coordination_32 rfl 0 rfl ?_
        refine kw_get hX 33 (C := RX5) (T := TX5) (N := 9) hin5 6 f0 (fun _ h => h) 23 rfl rfl (by decide) rfl dX5_coordination_33 ?_
        refine kw_iload_n hX 36 dX5_coordination_36 rfl 2 rfl ?_
        obtain ⟨v12, hc13, h⟩ := kb_some h
        refine kw_callV_I hX 37 (As := [.int a2]) (rest := []) (kX4_nodesAfter (kx_l X) Y sa v10.1 v10.2.1 v10.2.2.1 v10.2.2.2 a2 hc13) gX5_coordination_X4_nodesAfter rfl 1 rfl hdV_X4_nodesAfter ⟨rfl, rfl⟩ ⟨by decide, by decide⟩ ⟨Nat.zero_le _, Nat.zero_le _⟩ rfl (Nat.le_of_ble_eq_true rfl) [4] (by decide) rfl (kfc rfl kfn0) (gs1 := [gE Y ea er e_cn e_M, gT xa ra ga da va ea sa ca pa t_scn, gR Y ra r_er, gG Y ga g_vc g_ec g_F g_T g_X g_Z, gS Y sa v10.1 v10.2.1 v10.2.2.1 v10.2.2.2]) rfl 30 4 rfl rfl rfl dX5_coordination_37 ?_
        obtain rfl := Option.some.inj h
        exact hret _ _ dX5_coordination_40 rfl
      · have h := kif_f c9 h
        refine kw_aload_n hX 18 dX5_coordination_18 rfl 0 rfl ?_
        refine kw_bipush hX 19 dX5_coordination_19 kcb_m2 ?_
        obtain ⟨v14, hc15, h⟩ := kb_some h
        refine kw_callV_I hX 21 (As := [.int (-2)]) (rest := []) (kX5_fail (kx_l X) Y xa ra ga da va ea sa ca pa t_scn r_er (-2) hc15) gX5_coordination_X5_fail rfl 1 rfl hdV_X5_fail ⟨rfl, rfl⟩ ⟨by decide, by decide⟩ ⟨Nat.zero_le _, Nat.zero_le _⟩ rfl (Nat.le_of_ble_eq_true rfl) [1, 2] (by decide) rfl (kfc rfl (kfc gR_f kfn0)) (gs1 := [gE Y ea er e_cn e_M, gT xa ra ga da va ea sa ca pa t_scn, gR Y ra v14.2, gG Y ga g_vc g_ec g_F g_T g_X g_Z, gS Y sa s_fi s_ta s_st s_qu]) rfl 23 5 rfl rfl rfl dX5_coordination_21 ?_
        obtain rfl := Option.some.inj h
        exact hret _ _ dX5_coordination_24 rfl
def pX5_distance (a1 : Int32) (a2 : Int32) (a3 : Int32) (a4 : Int32) (e_cn : Nat → Int32) (e_M : Nat → Nat → Int32) (r_er : Nat → Int32) (g_vc : Int32) (s_fi : Int32) (s_ta : Int32) (s_st : Nat → Int32) (s_qu : Nat → Int32) : Option (Int32 × (Nat → Int32) × Int32 × Int32 × (Nat → Int32) × (Nat → Int32)) := kb (pX5_isVertex a1 g_vc) (fun v1 => (if v1 = 0 then kb (pX5_fail (-2) r_er) (fun v4 => some (v4.1, v4.2, s_fi, s_ta, s_st, s_qu)) else kb (pX5_isVertex a2 g_vc) (fun v6 => (if v6 = 0 then kb (pX5_fail (-2) r_er) (fun v9 => some (v9.1, v9.2, s_fi, s_ta, s_st, s_qu)) else kb (pX5_isCell a3) (fun v11 => (if v11 = 0 then kb (pX5_fail (-2) r_er) (fun v14 => some (v14.1, v14.2, s_fi, s_ta, s_st, s_qu)) else kb (pX5_isCell a4) (fun v16 => (if v16 = 0 then kb (pX5_fail (-2) r_er) (fun v25 => some (v25.1, v25.2, s_fi, s_ta, s_st, s_qu)) else kb (pX4_nodeAt a2 a3 a4) (fun v19 => kb (pX5_walkAround a1 8 v19 e_cn e_M s_fi s_ta s_st s_qu) (fun v21 => kb (pX4_stepsTo v19 v21.2.2.1) (fun v23 => some (v23, r_er, v21.1, v21.2.1, v21.2.2.1, v21.2.2.2))))))))))))
def rmX5_distance : Room := { frames := 4, cells := 0, slots := 0, locals := 102 }
theorem hdV_X5_distance : yX5_distance.cls = RX5 ∧ yX5_distance.cls ≠ "java/lang/invoke/MethodHandle" ∧ yX5_distance.cls ≠ "java/lang/invoke/VarHandle" ∧ (parseMethodDescriptor yX5_distance.desc).map (fun d => d.parameters.length) = some 4 := ⟨rfl, by decide +kernel, by decide +kernel, by decide +kernel⟩
set_option maxHeartbeats 4000000 in
set_option maxRecDepth 100000 in
theorem kX5_distance (l : Launch) (Y : KY) (xa : Nat) (ra : Nat) (ga : Nat → Nat) (da : Nat → Nat) (va : Nat) (ea : Nat → Nat) (sa : Nat → Nat) (ca : Nat → Nat) (pa : Nat → Nat) (er : Nat → Nat) (e_cn : Nat → Int32) (e_M : Nat → Nat → Int32) (t_scn : Int32) (r_er : Nat → Int32) (g_vc : Int32) (g_ec : Int32) (g_F : Nat → Int32) (g_T : Nat → Int32) (g_X : Nat → Int32) (g_Z : Nat → Int32) (s_fi : Int32) (s_ta : Int32) (s_st : Nat → Int32) (s_qu : Nat → Int32) (a1 : Int32) (a2 : Int32) (a3 : Int32) (a4 : Int32) {o : Int32 × (Nat → Int32) × Int32 × Int32 × (Nat → Int32) × (Nat → Int32)} (h : pX5_distance a1 a2 a3 a4 e_cn e_M r_er g_vc s_fi s_ta s_st s_qu = some o) : CtI l yX5_distance wsX5_distance rmX5_distance Y [.ref xa, .int a1, .int a2, .int a3, .int a4] (kfl [gE Y ea er e_cn e_M, gT xa ra ga da va ea sa ca pa t_scn, gR Y ra r_er, gG Y ga g_vc g_ec g_F g_T g_X g_Z, gS Y sa s_fi s_ta s_st s_qu]) o.1 (kfl [gE Y ea er e_cn e_M, gT xa ra ga da va ea sa ca pa t_scn, gR Y ra o.2.1, gG Y ga g_vc g_ec g_F g_T g_X g_Z, gS Y sa o.2.2.1 o.2.2.2.1 o.2.2.2.2.1 o.2.2.2.2.2]) := by
  refine ctI_intro (cc := cX5_distance) (maxL := 6) (own := RX5) (by decide +kernel) rfl rfl (Nat.le_of_ble_eq_true rfl) rfl ?_
  intro X A hX _ hret
  have hin5 : ∀ w ∈ u_ws RX5 TX5 9, w ∈ wsX5_distance := by decide +kernel
  have f0 := hX.w (Cond.fieldLink RX5 41 "PeriodicNet" "search" "LPeriodicNet$Search;") (by decide +kernel)
  unfold pX5_distance at h
  refine kw_lv (lv' := [(0, .ref xa), (1, .int a1), (2, .int a2), (3, .int a3), (4, .int a4)]) [0, 1, 2, 3, 4] rfl ?_
  refine kw_aload_n hX 0 dX5_distance_0 rfl 0 rfl ?_
  refine kw_iload_n hX 1 dX5_distance_1 rfl 1 rfl ?_
  obtain ⟨v1, hc2, h⟩ := kb_some h
  refine kw_callV_I hX 2 (As := [.int a1]) (rest := []) (kX5_isVertex (kx_l X) Y xa ra ga da va ea sa ca pa t_scn g_vc g_ec g_F g_T g_X g_Z a1 hc2) gX5_distance_X5_isVertex rfl 1 rfl hdV_X5_isVertex ⟨rfl, rfl⟩ ⟨by decide, by decide⟩ ⟨Nat.zero_le _, Nat.zero_le _⟩ rfl (Nat.le_of_ble_eq_true rfl) [1, 3] (by decide) rfl (kfc rfl (kfc rfl kfn0)) (gs1 := [gE Y ea er e_cn e_M, gT xa ra ga da va ea sa ca pa t_scn, gR Y ra r_er, gG Y ga g_vc g_ec g_F g_T g_X g_Z, gS Y sa s_fi s_ta s_st s_qu]) rfl 23 5 rfl rfl rfl dX5_distance_2 ?_
  refine kw_if_eq hX 5 31 dX5_distance_5 (by decide) (fun c3 => ?_) (fun c3 => ?_)
  · have h := kif_t c3 h
    refine kw_aload_n hX 31 dX5_distance_31 rfl 0 rfl ?_
    refine kw_bipush hX 32 dX5_distance_32 kcb_m2 ?_
    obtain ⟨v4, hc5, h⟩ := kb_some h
    refine kw_callV_I hX 34 (As := [.int (-2)]) (rest := []) (kX5_fail (kx_l X) Y xa ra ga da va ea sa ca pa t_scn r_er (-2) hc5) gX5_distance_X5_fail rfl 1 rfl hdV_X5_fail ⟨rfl, rfl⟩ ⟨by decide, by decide⟩ ⟨Nat.zero_le _, Nat.zero_le _⟩ rfl (Nat.le_of_ble_eq_true rfl) [1, 2] (by decide) rfl (kfc rfl (kfc gR_f kfn0)) (gs1 := [gE Y ea er e_cn e_M, gT xa ra ga da va ea sa ca pa t_scn, gR Y ra v4.2, gG Y ga g_vc g_ec g_F g_T g_X g_Z, gS Y sa s_fi s_ta s_st s_qu]) rfl 23 5 rfl rfl rfl dX5_distance_34 ?_
    obtain rfl := Option.some.inj h
    exact hret _ _ dX5_distance_37 rfl
  · have h := kif_f c3 h
    refine kw_aload_n hX 8 dX5_distance_8 rfl 0 rfl ?_
    refine kw_iload_n hX 9 dX5_distance_9 rfl 2 rfl ?_
    obtain ⟨v6, hc7, h⟩ := kb_some h
    refine kw_callV_I hX 10 (As := [.int a2]) (rest := []) (kX5_isVertex (kx_l X) Y xa ra ga da va ea sa ca pa t_scn g_vc g_ec g_F g_T g_X g_Z a2 hc7) gX5_distance_X5_isVertex rfl 1 rfl hdV_X5_isVertex ⟨rfl, rfl⟩ ⟨by decide, by decide⟩ ⟨Nat.zero_le _, Nat.zero_le _⟩ rfl (Nat.le_of_ble_eq_true rfl) [1, 3] (by decide) rfl (kfc rfl (kfc rfl kfn0)) (gs1 := [gE Y ea er e_cn e_M, gT xa ra ga da va ea sa ca pa t_scn, gR Y ra r_er, gG Y ga g_vc g_ec g_F g_T g_X g_Z, gS Y sa s_fi s_ta s_st s_qu]) rfl 23 5 rfl rfl rfl dX5_distance_10 ?_
    refine kw_if_eq hX 13 31 dX5_distance_13 (by decide) (fun c8 => ?_) (fun c8 => ?_)
    · have h := kif_t c8 h
      refine kw_aload_n hX 31 dX5_distance_31 rfl 0 rfl ?_
      refine kw_bipush hX 32 dX5_distance_32 kcb_m2 ?_
      obtain ⟨v9, hc10, h⟩ := kb_some h
      refine kw_callV_I hX 34 (As := [.int (-2)]) (rest := []) (kX5_fail (kx_l X) Y xa ra ga da va ea sa ca pa t_scn r_er (-2) hc10) gX5_distance_X5_fail rfl 1 rfl hdV_X5_fail ⟨rfl, rfl⟩ ⟨by decide, by decide⟩ ⟨Nat.zero_le _, Nat.zero_le _⟩ rfl (Nat.le_of_ble_eq_true rfl) [1, 2] (by decide) rfl (kfc rfl (kfc gR_f kfn0)) (gs1 := [gE Y ea er e_cn e_M, gT xa ra ga da va ea sa ca pa t_scn, gR Y ra v9.2, gG Y ga g_vc g_ec g_F g_T g_X g_Z, gS Y sa s_fi s_ta s_st s_qu]) rfl 23 5 rfl rfl rfl dX5_distance_34 ?_
      obtain rfl := Option.some.inj h
      exact hret _ _ dX5_distance_37 rfl
    · have h := kif_f c8 h
      refine kw_iload_n hX 16 dX5_distance_16 rfl 3 rfl ?_
      obtain ⟨v11, hc12, h⟩ := kb_some h
      refine kw_callS_I hX 17 (As := [.int a3]) (rest := []) (kX5_isCell (kx_l X) Y a3 hc12) gX5_distance_X5_isCell rfl 1 rfl hdS_X5_isCell ⟨rfl, rfl⟩ ⟨by decide, by decide⟩ ⟨Nat.zero_le _, Nat.zero_le _⟩ rfl (Nat.le_of_ble_eq_true rfl) [] (by decide) rfl kfn0 (gs1 := [gE Y ea er e_cn e_M, gT xa ra ga da va ea sa ca pa t_scn, gR Y ra r_er, gG Y ga g_vc g_ec g_F g_T g_X g_Z, gS Y sa s_fi s_ta s_st s_qu]) rfl dX5_distance_17 ?_
      refine kw_if_eq hX 20 31 dX5_distance_20 (by decide) (fun c13 => ?_) (fun c13 => ?_)
      · have h := kif_t c13 h
        refine kw_aload_n hX 31 dX5_distance_31 rfl 0 rfl ?_
        refine kw_bipush hX 32 dX5_distance_32 kcb_m2 ?_
        obtain ⟨v14, hc15, h⟩ := kb_some h
        refine kw_callV_I hX 34 (As := [.int (-2)]) (rest := []) (kX5_fail (kx_l X) Y xa ra ga da va ea sa ca pa t_scn r_er (-2) hc15) gX5_distance_X5_fail rfl 1 rfl hdV_X5_fail ⟨rfl, rfl⟩ ⟨by decide, by decide⟩ ⟨Nat.zero_le _, Nat.zero_le _⟩ rfl (Nat.le_of_ble_eq_true rfl) [1, 2] (by decide) rfl (kfc rfl (kfc gR_f kfn0)) (gs1 := [gE Y ea er e_cn e_M, gT xa ra ga da va ea sa ca pa t_scn, gR Y ra v14.2, gG Y ga g_vc g_ec g_F g_T g_X g_Z, gS Y sa s_fi s_ta s_st s_qu]) rfl 23 5 rfl rfl rfl dX5_distance_34 ?_
        obtain rfl := Option.some.inj h
        exact hret _ _ dX5_distance_37 rfl
      · have h := kif_f c13 h
        refine kw_iload hX 23 dX5_distance_23 4 rfl ?_
        obtain ⟨v16, hc17, h⟩ := kb_some h
        refine kw_callS_I hX 25 (As := [.int a4]) (rest := []) (kX5_isCell (kx_l X) Y a4 hc17) gX5_distance_X5_isCell rfl 1 rfl hdS_X5_isCell ⟨rfl, rfl⟩ ⟨by decide, by decide⟩ ⟨Nat.zero_le _, Nat.zero_le _⟩ rfl (Nat.le_of_ble_eq_true rfl) [] (by decide) rfl kfn0 (gs1 := [gE Y ea er e_cn e_M, gT xa ra ga da va ea sa ca pa t_scn, gR Y ra r_er, gG Y ga g_vc g_ec g_F g_T g_X g_Z, gS Y sa s_fi s_ta s_st s_qu]) rfl dX5_distance_25 ?_
        refine kw_if_ne hX 28 38 dX5_distance_28 (by decide) (fun c18 => ?_) (fun c18 => ?_)
        · have h := kif_f c18 h
          refine kw_aload_n hX 38 dX5_distance_38 rfl 0 rfl ?_
          refine kw_get hX 39 (C := RX5) (T := TX5) (N := 9) hin5 6 f0 (fun _ h => h) 23 rfl rfl (by decide) rfl dX5_distance_39 ?_
          refine kw_iload_n hX 42 dX5_distance_42 rfl 2 rfl ?_
          refine kw_iload_n hX 43 dX5_distance_43 rfl 3 rfl ?_
          refine kw_iload hX 44 dX5_distance_44 4 rfl ?_
          obtain ⟨v19, hc20, h⟩ := kb_some h
          refine kw_callV_I hX 46 (As := [.int a2, .int a3, .int a4]) (rest := []) (kX4_nodeAt (kx_l X) Y sa s_fi s_ta s_st s_qu a2 a3 a4 hc20) gX5_distance_X4_nodeAt rfl 3 rfl hdV_X4_nodeAt ⟨rfl, rfl⟩ ⟨by decide, by decide⟩ ⟨Nat.zero_le _, Nat.zero_le _⟩ rfl (Nat.le_of_ble_eq_true rfl) [4] (by decide) rfl (kfc rfl kfn0) (gs1 := [gE Y ea er e_cn e_M, gT xa ra ga da va ea sa ca pa t_scn, gR Y ra r_er, gG Y ga g_vc g_ec g_F g_T g_X g_Z, gS Y sa s_fi s_ta s_st s_qu]) rfl 30 4 rfl rfl rfl dX5_distance_46 ?_
          refine kw_istore (lv' := [(5, .int v19), (0, .ref xa), (1, .int a1), (2, .int a2), (3, .int a3), (4, .int a4)]) hX 49 dX5_distance_49 (by decide) rfl ?_
          refine kw_aload_n hX 51 dX5_distance_51 rfl 1 rfl ?_
          refine kw_iload_n hX 52 dX5_distance_52 rfl 2 rfl ?_
          refine kw_bipush hX 53 dX5_distance_53 kcb_8 ?_
          refine kw_iload hX 55 dX5_distance_55 0 rfl ?_
          obtain ⟨v21, hc22, h⟩ := kb_some h
          refine kw_callV_V hX 57 (As := [.int a1, .int 8, .int v19]) (rest := []) (kX5_walkAround (kx_l X) Y xa ra ga da va ea sa ca pa er e_cn e_M t_scn s_fi s_ta s_st s_qu a1 8 v19 hc22) gX5_distance_X5_walkAround rfl 3 rfl hdV_X5_walkAround ⟨rfl, rfl⟩ ⟨by decide, by decide⟩ ⟨Nat.zero_le _, Nat.zero_le _⟩ rfl (Nat.le_of_ble_eq_true rfl) [0, 1, 4] (by decide) rfl (kfc rfl (kfc rfl (kfc gS_f kfn0))) (gs1 := [gE Y ea er e_cn e_M, gT xa ra ga da va ea sa ca pa t_scn, gR Y ra r_er, gG Y ga g_vc g_ec g_F g_T g_X g_Z, gS Y sa v21.1 v21.2.1 v21.2.2.1 v21.2.2.2]) rfl 23 5 rfl rfl rfl dX5_distance_57 ?_
          refine kw_aload_n hX 60 dX5_distance_60 rfl 1 rfl ?_
          refine kw_get hX 61 (C := RX5) (T := TX5) (N := 9) hin5 6 f0 (fun _ h => h) 23 rfl rfl (by decide) rfl dX5_distance_61 ?_
          refine kw_iload hX 64 dX5_distance_64 0 rfl ?_
          obtain ⟨v23, hc24, h⟩ := kb_some h
          refine kw_callV_I hX 66 (As := [.int v19]) (rest := []) (kX4_stepsTo (kx_l X) Y sa v21.1 v21.2.1 v21.2.2.1 v21.2.2.2 v19 hc24) gX5_distance_X4_stepsTo rfl 1 rfl hdV_X4_stepsTo ⟨rfl, rfl⟩ ⟨by decide, by decide⟩ ⟨Nat.zero_le _, Nat.zero_le _⟩ rfl (Nat.le_of_ble_eq_true rfl) [4] (by decide) rfl (kfc rfl kfn0) (gs1 := [gE Y ea er e_cn e_M, gT xa ra ga da va ea sa ca pa t_scn, gR Y ra r_er, gG Y ga g_vc g_ec g_F g_T g_X g_Z, gS Y sa v21.1 v21.2.1 v21.2.2.1 v21.2.2.2]) rfl 30 4 rfl rfl rfl dX5_distance_66 ?_
          obtain rfl := Option.some.inj h
          exact hret _ _ dX5_distance_69 rfl
        · have h := kif_t c18 h
          refine kw_aload_n hX 31 dX5_distance_31 rfl 0 rfl ?_
          refine kw_bipush hX 32 dX5_distance_32 kcb_m2 ?_
          obtain ⟨v25, hc26, h⟩ := kb_some h
          refine kw_callV_I hX 34 (As := [.int (-2)]) (rest := []) (kX5_fail (kx_l X) Y xa ra ga da va ea sa ca pa t_scn r_er (-2) hc26) gX5_distance_X5_fail rfl 1 rfl hdV_X5_fail ⟨rfl, rfl⟩ ⟨by decide, by decide⟩ ⟨Nat.zero_le _, Nat.zero_le _⟩ rfl (Nat.le_of_ble_eq_true rfl) [1, 2] (by decide) rfl (kfc rfl (kfc gR_f kfn0)) (gs1 := [gE Y ea er e_cn e_M, gT xa ra ga da va ea sa ca pa t_scn, gR Y ra v25.2, gG Y ga g_vc g_ec g_F g_T g_X g_Z, gS Y sa s_fi s_ta s_st s_qu]) rfl 23 5 rfl rfl rfl dX5_distance_34 ?_
          obtain rfl := Option.some.inj h
          exact hret _ _ dX5_distance_37 rfl
def pX5_rank (a1 : Int32) (r_er : Nat → Int32) (g_vc : Int32) (g_ec : Int32) (g_F : Nat → Int32) (g_T : Nat → Int32) (g_X : Nat → Int32) (g_Z : Nat → Int32) (c_re : Nat → Int32) (c_cx : Nat → Int32) (c_cy : Nat → Int32) (c_px : Nat → Int32) (c_py : Nat → Int32) (c_pn : Int32) : Option (Int32 × (Nat → Int32) × (Nat → Int32) × (Nat → Int32) × (Nat → Int32) × (Nat → Int32) × (Nat → Int32) × Int32) := kb (pX5_isVertex a1 g_vc) (fun v1 => (if v1 = 0 then kb (pX5_fail (-2) r_er) (fun v8 => some (v8.1, v8.2, c_re, c_cx, c_cy, c_px, c_py, c_pn)) else kb (pX0_explore a1 g_vc g_ec g_F g_T g_X g_Z c_re c_cx c_cy c_px c_py c_pn) (fun v4 => kb (pX0_latticeRank v4.2.2.2.1 v4.2.2.2.2.1 v4.2.2.2.2.2) (fun v6 => some (v6, r_er, v4.1, v4.2.1, v4.2.2.1, v4.2.2.2.1, v4.2.2.2.2.1, v4.2.2.2.2.2)))))
def rmX5_rank : Room := { frames := 3, cells := 0, slots := 0, locals := 77 }
theorem hdV_X5_rank : yX5_rank.cls = RX5 ∧ yX5_rank.cls ≠ "java/lang/invoke/MethodHandle" ∧ yX5_rank.cls ≠ "java/lang/invoke/VarHandle" ∧ (parseMethodDescriptor yX5_rank.desc).map (fun d => d.parameters.length) = some 1 := ⟨rfl, by decide +kernel, by decide +kernel, by decide +kernel⟩
set_option maxHeartbeats 4000000 in
set_option maxRecDepth 100000 in
theorem kX5_rank (l : Launch) (Y : KY) (xa : Nat) (ra : Nat) (ga : Nat → Nat) (da : Nat → Nat) (va : Nat) (ea : Nat → Nat) (sa : Nat → Nat) (ca : Nat → Nat) (pa : Nat → Nat) (t_scn : Int32) (r_er : Nat → Int32) (g_vc : Int32) (g_ec : Int32) (g_F : Nat → Int32) (g_T : Nat → Int32) (g_X : Nat → Int32) (g_Z : Nat → Int32) (c_re : Nat → Int32) (c_cx : Nat → Int32) (c_cy : Nat → Int32) (c_px : Nat → Int32) (c_py : Nat → Int32) (c_pn : Int32) (a1 : Int32) {o : Int32 × (Nat → Int32) × (Nat → Int32) × (Nat → Int32) × (Nat → Int32) × (Nat → Int32) × (Nat → Int32) × Int32} (h : pX5_rank a1 r_er g_vc g_ec g_F g_T g_X g_Z c_re c_cx c_cy c_px c_py c_pn = some o) : CtI l yX5_rank wsX5_rank rmX5_rank Y [.ref xa, .int a1] (kfl [gT xa ra ga da va ea sa ca pa t_scn, gR Y ra r_er, gG Y ga g_vc g_ec g_F g_T g_X g_Z, gC Y ca c_re c_cx c_cy c_px c_py c_pn]) o.1 (kfl [gT xa ra ga da va ea sa ca pa t_scn, gR Y ra o.2.1, gG Y ga g_vc g_ec g_F g_T g_X g_Z, gC Y ca o.2.2.1 o.2.2.2.1 o.2.2.2.2.1 o.2.2.2.2.2.1 o.2.2.2.2.2.2.1 o.2.2.2.2.2.2.2]) := by
  refine ctI_intro (cc := cX5_rank) (maxL := 2) (own := RX5) (by decide +kernel) rfl rfl (Nat.le_of_ble_eq_true rfl) rfl ?_
  intro X A hX _ hret
  have hin5 : ∀ w ∈ u_ws RX5 TX5 9, w ∈ wsX5_rank := by decide +kernel
  have f0 := hX.w (Cond.fieldLink RX5 48 "PeriodicNet" "component" "LPeriodicNet$Component;") (by decide +kernel)
  have f1 := hX.w (Cond.fieldLink RX5 16 "PeriodicNet" "graph" "LPeriodicNet$Graph;") (by decide +kernel)
  unfold pX5_rank at h
  refine kw_lv (lv' := [(0, .ref xa), (1, .int a1)]) [0, 1] rfl ?_
  refine kw_aload_n hX 0 dX5_rank_0 rfl 0 rfl ?_
  refine kw_iload_n hX 1 dX5_rank_1 rfl 1 rfl ?_
  obtain ⟨v1, hc2, h⟩ := kb_some h
  refine kw_callV_I hX 2 (As := [.int a1]) (rest := []) (kX5_isVertex (kx_l X) Y xa ra ga da va ea sa ca pa t_scn g_vc g_ec g_F g_T g_X g_Z a1 hc2) gX5_rank_X5_isVertex rfl 1 rfl hdV_X5_isVertex ⟨rfl, rfl⟩ ⟨by decide, by decide⟩ ⟨Nat.zero_le _, Nat.zero_le _⟩ rfl (Nat.le_of_ble_eq_true rfl) [0, 2] (by decide) rfl (kfc rfl (kfc rfl kfn0)) (gs1 := [gT xa ra ga da va ea sa ca pa t_scn, gR Y ra r_er, gG Y ga g_vc g_ec g_F g_T g_X g_Z, gC Y ca c_re c_cx c_cy c_px c_py c_pn]) rfl 0 5 rfl rfl rfl dX5_rank_2 ?_
  refine kw_if_ne hX 5 15 dX5_rank_5 (by decide) (fun c3 => ?_) (fun c3 => ?_)
  · have h := kif_f c3 h
    refine kw_aload_n hX 15 dX5_rank_15 rfl 0 rfl ?_
    refine kw_get hX 16 (C := RX5) (T := TX5) (N := 9) hin5 7 f0 (fun _ h => h) 0 rfl rfl (by decide) rfl dX5_rank_16 ?_
    refine kw_aload_n hX 19 dX5_rank_19 rfl 0 rfl ?_
    refine kw_get hX 20 (C := RX5) (T := TX5) (N := 9) hin5 1 f1 (fun _ h => h) 0 rfl rfl (by decide) rfl dX5_rank_20 ?_
    refine kw_iload_n hX 23 dX5_rank_23 rfl 1 rfl ?_
    obtain ⟨v4, hc5, h⟩ := kb_some h
    refine kw_callV_V hX 24 (As := [.ref (ga 0), .int a1]) (rest := []) (kX0_explore (kx_l X) Y ga ca g_vc g_ec g_F g_T g_X g_Z c_re c_cx c_cy c_px c_py c_pn a1 hc5) gX5_rank_X0_explore rfl 2 rfl hdV_X0_explore ⟨rfl, rfl⟩ ⟨by decide, by decide⟩ ⟨Nat.zero_le _, Nat.zero_le _⟩ rfl (Nat.le_of_ble_eq_true rfl) [2, 3] (by decide) rfl (kfc rfl (kfc gC_f kfn0)) (gs1 := [gT xa ra ga da va ea sa ca pa t_scn, gR Y ra r_er, gG Y ga g_vc g_ec g_F g_T g_X g_Z, gC Y ca v4.1 v4.2.1 v4.2.2.1 v4.2.2.2.1 v4.2.2.2.2.1 v4.2.2.2.2.2]) rfl 7 0 rfl rfl rfl dX5_rank_24 ?_
    refine kw_aload_n hX 27 dX5_rank_27 rfl 0 rfl ?_
    refine kw_get hX 28 (C := RX5) (T := TX5) (N := 9) hin5 7 f0 (fun _ h => h) 0 rfl rfl (by decide) rfl dX5_rank_28 ?_
    obtain ⟨v6, hc7, h⟩ := kb_some h
    refine kw_callV_I hX 31 (As := []) (rest := []) (kX0_latticeRank (kx_l X) Y ca v4.1 v4.2.1 v4.2.2.1 v4.2.2.2.1 v4.2.2.2.2.1 v4.2.2.2.2.2 hc7) gX5_rank_X0_latticeRank rfl 0 rfl hdV_X0_latticeRank ⟨rfl, rfl⟩ ⟨by decide, by decide⟩ ⟨Nat.zero_le _, Nat.zero_le _⟩ rfl (Nat.le_of_ble_eq_true rfl) [3] (by decide) rfl (kfc rfl kfn0) (gs1 := [gT xa ra ga da va ea sa ca pa t_scn, gR Y ra r_er, gG Y ga g_vc g_ec g_F g_T g_X g_Z, gC Y ca v4.1 v4.2.1 v4.2.2.1 v4.2.2.2.1 v4.2.2.2.2.1 v4.2.2.2.2.2]) rfl 7 0 rfl rfl rfl dX5_rank_31 ?_
    obtain rfl := Option.some.inj h
    exact hret _ _ dX5_rank_34 rfl
  · have h := kif_t c3 h
    refine kw_aload_n hX 8 dX5_rank_8 rfl 0 rfl ?_
    refine kw_bipush hX 9 dX5_rank_9 kcb_m2 ?_
    obtain ⟨v8, hc9, h⟩ := kb_some h
    refine kw_callV_I hX 11 (As := [.int (-2)]) (rest := []) (kX5_fail (kx_l X) Y xa ra ga da va ea sa ca pa t_scn r_er (-2) hc9) gX5_rank_X5_fail rfl 1 rfl hdV_X5_fail ⟨rfl, rfl⟩ ⟨by decide, by decide⟩ ⟨Nat.zero_le _, Nat.zero_le _⟩ rfl (Nat.le_of_ble_eq_true rfl) [0, 1] (by decide) rfl (kfc rfl (kfc gR_f kfn0)) (gs1 := [gT xa ra ga da va ea sa ca pa t_scn, gR Y ra v8.2, gG Y ga g_vc g_ec g_F g_T g_X g_Z, gC Y ca c_re c_cx c_cy c_px c_py c_pn]) rfl 0 5 rfl rfl rfl dX5_rank_11 ?_
    obtain rfl := Option.some.inj h
    exact hret _ _ dX5_rank_14 rfl
def pX5_index (a1 : Int32) (r_er : Nat → Int32) (g_vc : Int32) (g_ec : Int32) (g_F : Nat → Int32) (g_T : Nat → Int32) (g_X : Nat → Int32) (g_Z : Nat → Int32) (c_re : Nat → Int32) (c_cx : Nat → Int32) (c_cy : Nat → Int32) (c_px : Nat → Int32) (c_py : Nat → Int32) (c_pn : Int32) : Option (Int32 × (Nat → Int32) × (Nat → Int32) × (Nat → Int32) × (Nat → Int32) × (Nat → Int32) × (Nat → Int32) × Int32) := kb (pX5_isVertex a1 g_vc) (fun v1 => (if v1 = 0 then kb (pX5_fail (-2) r_er) (fun v8 => some (v8.1, v8.2, c_re, c_cx, c_cy, c_px, c_py, c_pn)) else kb (pX0_explore a1 g_vc g_ec g_F g_T g_X g_Z c_re c_cx c_cy c_px c_py c_pn) (fun v4 => kb (pX0_latticeIndex v4.2.2.2.1 v4.2.2.2.2.1 v4.2.2.2.2.2) (fun v6 => some (v6, r_er, v4.1, v4.2.1, v4.2.2.1, v4.2.2.2.1, v4.2.2.2.2.1, v4.2.2.2.2.2)))))
def rmX5_index : Room := { frames := 3, cells := 0, slots := 0, locals := 78 }
theorem hdV_X5_index : yX5_index.cls = RX5 ∧ yX5_index.cls ≠ "java/lang/invoke/MethodHandle" ∧ yX5_index.cls ≠ "java/lang/invoke/VarHandle" ∧ (parseMethodDescriptor yX5_index.desc).map (fun d => d.parameters.length) = some 1 := ⟨rfl, by decide +kernel, by decide +kernel, by decide +kernel⟩
set_option maxHeartbeats 4000000 in
set_option maxRecDepth 100000 in
theorem kX5_index (l : Launch) (Y : KY) (xa : Nat) (ra : Nat) (ga : Nat → Nat) (da : Nat → Nat) (va : Nat) (ea : Nat → Nat) (sa : Nat → Nat) (ca : Nat → Nat) (pa : Nat → Nat) (t_scn : Int32) (r_er : Nat → Int32) (g_vc : Int32) (g_ec : Int32) (g_F : Nat → Int32) (g_T : Nat → Int32) (g_X : Nat → Int32) (g_Z : Nat → Int32) (c_re : Nat → Int32) (c_cx : Nat → Int32) (c_cy : Nat → Int32) (c_px : Nat → Int32) (c_py : Nat → Int32) (c_pn : Int32) (a1 : Int32) {o : Int32 × (Nat → Int32) × (Nat → Int32) × (Nat → Int32) × (Nat → Int32) × (Nat → Int32) × (Nat → Int32) × Int32} (h : pX5_index a1 r_er g_vc g_ec g_F g_T g_X g_Z c_re c_cx c_cy c_px c_py c_pn = some o) : CtI l yX5_index wsX5_index rmX5_index Y [.ref xa, .int a1] (kfl [gT xa ra ga da va ea sa ca pa t_scn, gR Y ra r_er, gG Y ga g_vc g_ec g_F g_T g_X g_Z, gC Y ca c_re c_cx c_cy c_px c_py c_pn]) o.1 (kfl [gT xa ra ga da va ea sa ca pa t_scn, gR Y ra o.2.1, gG Y ga g_vc g_ec g_F g_T g_X g_Z, gC Y ca o.2.2.1 o.2.2.2.1 o.2.2.2.2.1 o.2.2.2.2.2.1 o.2.2.2.2.2.2.1 o.2.2.2.2.2.2.2]) := by
  refine ctI_intro (cc := cX5_index) (maxL := 2) (own := RX5) (by decide +kernel) rfl rfl (Nat.le_of_ble_eq_true rfl) rfl ?_
  intro X A hX _ hret
  have hin5 : ∀ w ∈ u_ws RX5 TX5 9, w ∈ wsX5_index := by decide +kernel
  have f0 := hX.w (Cond.fieldLink RX5 48 "PeriodicNet" "component" "LPeriodicNet$Component;") (by decide +kernel)
  have f1 := hX.w (Cond.fieldLink RX5 16 "PeriodicNet" "graph" "LPeriodicNet$Graph;") (by decide +kernel)
  unfold pX5_index at h
  refine kw_lv (lv' := [(0, .ref xa), (1, .int a1)]) [0, 1] rfl ?_
  refine kw_aload_n hX 0 dX5_index_0 rfl 0 rfl ?_
  refine kw_iload_n hX 1 dX5_index_1 rfl 1 rfl ?_
  obtain ⟨v1, hc2, h⟩ := kb_some h
  refine kw_callV_I hX 2 (As := [.int a1]) (rest := []) (kX5_isVertex (kx_l X) Y xa ra ga da va ea sa ca pa t_scn g_vc g_ec g_F g_T g_X g_Z a1 hc2) gX5_index_X5_isVertex rfl 1 rfl hdV_X5_isVertex ⟨rfl, rfl⟩ ⟨by decide, by decide⟩ ⟨Nat.zero_le _, Nat.zero_le _⟩ rfl (Nat.le_of_ble_eq_true rfl) [0, 2] (by decide) rfl (kfc rfl (kfc rfl kfn0)) (gs1 := [gT xa ra ga da va ea sa ca pa t_scn, gR Y ra r_er, gG Y ga g_vc g_ec g_F g_T g_X g_Z, gC Y ca c_re c_cx c_cy c_px c_py c_pn]) rfl 0 5 rfl rfl rfl dX5_index_2 ?_
  refine kw_if_ne hX 5 15 dX5_index_5 (by decide) (fun c3 => ?_) (fun c3 => ?_)
  · have h := kif_f c3 h
    refine kw_aload_n hX 15 dX5_index_15 rfl 0 rfl ?_
    refine kw_get hX 16 (C := RX5) (T := TX5) (N := 9) hin5 7 f0 (fun _ h => h) 0 rfl rfl (by decide) rfl dX5_index_16 ?_
    refine kw_aload_n hX 19 dX5_index_19 rfl 0 rfl ?_
    refine kw_get hX 20 (C := RX5) (T := TX5) (N := 9) hin5 1 f1 (fun _ h => h) 0 rfl rfl (by decide) rfl dX5_index_20 ?_
    refine kw_iload_n hX 23 dX5_index_23 rfl 1 rfl ?_
    obtain ⟨v4, hc5, h⟩ := kb_some h
    refine kw_callV_V hX 24 (As := [.ref (ga 0), .int a1]) (rest := []) (kX0_explore (kx_l X) Y ga ca g_vc g_ec g_F g_T g_X g_Z c_re c_cx c_cy c_px c_py c_pn a1 hc5) gX5_index_X0_explore rfl 2 rfl hdV_X0_explore ⟨rfl, rfl⟩ ⟨by decide, by decide⟩ ⟨Nat.zero_le _, Nat.zero_le _⟩ rfl (Nat.le_of_ble_eq_true rfl) [2, 3] (by decide) rfl (kfc rfl (kfc gC_f kfn0)) (gs1 := [gT xa ra ga da va ea sa ca pa t_scn, gR Y ra r_er, gG Y ga g_vc g_ec g_F g_T g_X g_Z, gC Y ca v4.1 v4.2.1 v4.2.2.1 v4.2.2.2.1 v4.2.2.2.2.1 v4.2.2.2.2.2]) rfl 7 0 rfl rfl rfl dX5_index_24 ?_
    refine kw_aload_n hX 27 dX5_index_27 rfl 0 rfl ?_
    refine kw_get hX 28 (C := RX5) (T := TX5) (N := 9) hin5 7 f0 (fun _ h => h) 0 rfl rfl (by decide) rfl dX5_index_28 ?_
    obtain ⟨v6, hc7, h⟩ := kb_some h
    refine kw_callV_I hX 31 (As := []) (rest := []) (kX0_latticeIndex (kx_l X) Y ca v4.1 v4.2.1 v4.2.2.1 v4.2.2.2.1 v4.2.2.2.2.1 v4.2.2.2.2.2 hc7) gX5_index_X0_latticeIndex rfl 0 rfl hdV_X0_latticeIndex ⟨rfl, rfl⟩ ⟨by decide, by decide⟩ ⟨Nat.zero_le _, Nat.zero_le _⟩ rfl (Nat.le_of_ble_eq_true rfl) [3] (by decide) rfl (kfc rfl kfn0) (gs1 := [gT xa ra ga da va ea sa ca pa t_scn, gR Y ra r_er, gG Y ga g_vc g_ec g_F g_T g_X g_Z, gC Y ca v4.1 v4.2.1 v4.2.2.1 v4.2.2.2.1 v4.2.2.2.2.1 v4.2.2.2.2.2]) rfl 7 0 rfl rfl rfl dX5_index_31 ?_
    obtain rfl := Option.some.inj h
    exact hret _ _ dX5_index_34 rfl
  · have h := kif_t c3 h
    refine kw_aload_n hX 8 dX5_index_8 rfl 0 rfl ?_
    refine kw_bipush hX 9 dX5_index_9 kcb_m2 ?_
    obtain ⟨v8, hc9, h⟩ := kb_some h
    refine kw_callV_I hX 11 (As := [.int (-2)]) (rest := []) (kX5_fail (kx_l X) Y xa ra ga da va ea sa ca pa t_scn r_er (-2) hc9) gX5_index_X5_fail rfl 1 rfl hdV_X5_fail ⟨rfl, rfl⟩ ⟨by decide, by decide⟩ ⟨Nat.zero_le _, Nat.zero_le _⟩ rfl (Nat.le_of_ble_eq_true rfl) [0, 1] (by decide) rfl (kfc rfl (kfc gR_f kfn0)) (gs1 := [gT xa ra ga da va ea sa ca pa t_scn, gR Y ra v8.2, gG Y ga g_vc g_ec g_F g_T g_X g_Z, gC Y ca c_re c_cx c_cy c_px c_py c_pn]) rfl 0 5 rfl rfl rfl dX5_index_11 ?_
    obtain rfl := Option.some.inj h
    exact hret _ _ dX5_index_14 rfl
def pX5_isOnePiece  (g_vc : Int32) (g_ec : Int32) (g_F : Nat → Int32) (g_T : Nat → Int32) (g_X : Nat → Int32) (g_Z : Nat → Int32) (c_re : Nat → Int32) (c_cx : Nat → Int32) (c_cy : Nat → Int32) (c_px : Nat → Int32) (c_py : Nat → Int32) (c_pn : Int32) : Option (Int32 × (Nat → Int32) × (Nat → Int32) × (Nat → Int32) × (Nat → Int32) × (Nat → Int32) × Int32) := kb (pX0_explore 0 g_vc g_ec g_F g_T g_X g_Z c_re c_cx c_cy c_px c_py c_pn) (fun v1 => kb (pX0_isWhole g_vc v1.1) (fun v3 => kgd (kzb v3) (some (v3, v1.1, v1.2.1, v1.2.2.1, v1.2.2.2.1, v1.2.2.2.2.1, v1.2.2.2.2.2))))
def rmX5_isOnePiece : Room := { frames := 3, cells := 0, slots := 0, locals := 70 }
theorem hdV_X5_isOnePiece : yX5_isOnePiece.cls = RX5 ∧ yX5_isOnePiece.cls ≠ "java/lang/invoke/MethodHandle" ∧ yX5_isOnePiece.cls ≠ "java/lang/invoke/VarHandle" ∧ (parseMethodDescriptor yX5_isOnePiece.desc).map (fun d => d.parameters.length) = some 0 := ⟨rfl, by decide +kernel, by decide +kernel, by decide +kernel⟩
set_option maxHeartbeats 4000000 in
set_option maxRecDepth 100000 in
theorem kX5_isOnePiece (l : Launch) (Y : KY) (xa : Nat) (ra : Nat) (ga : Nat → Nat) (da : Nat → Nat) (va : Nat) (ea : Nat → Nat) (sa : Nat → Nat) (ca : Nat → Nat) (pa : Nat → Nat) (t_scn : Int32) (g_vc : Int32) (g_ec : Int32) (g_F : Nat → Int32) (g_T : Nat → Int32) (g_X : Nat → Int32) (g_Z : Nat → Int32) (c_re : Nat → Int32) (c_cx : Nat → Int32) (c_cy : Nat → Int32) (c_px : Nat → Int32) (c_py : Nat → Int32) (c_pn : Int32)  {o : Int32 × (Nat → Int32) × (Nat → Int32) × (Nat → Int32) × (Nat → Int32) × (Nat → Int32) × Int32} (h : pX5_isOnePiece g_vc g_ec g_F g_T g_X g_Z c_re c_cx c_cy c_px c_py c_pn = some o) : CtI l yX5_isOnePiece wsX5_isOnePiece rmX5_isOnePiece Y [.ref xa] (kfl [gT xa ra ga da va ea sa ca pa t_scn, gG Y ga g_vc g_ec g_F g_T g_X g_Z, gC Y ca c_re c_cx c_cy c_px c_py c_pn]) o.1 (kfl [gT xa ra ga da va ea sa ca pa t_scn, gG Y ga g_vc g_ec g_F g_T g_X g_Z, gC Y ca o.2.1 o.2.2.1 o.2.2.2.1 o.2.2.2.2.1 o.2.2.2.2.2.1 o.2.2.2.2.2.2]) := by
  refine ctI_intro (cc := cX5_isOnePiece) (maxL := 1) (own := RX5) (by decide +kernel) rfl rfl (Nat.le_of_ble_eq_true rfl) rfl ?_
  intro X A hX _ hret
  have hin5 : ∀ w ∈ u_ws RX5 TX5 9, w ∈ wsX5_isOnePiece := by decide +kernel
  have f0 := hX.w (Cond.fieldLink RX5 48 "PeriodicNet" "component" "LPeriodicNet$Component;") (by decide +kernel)
  have f1 := hX.w (Cond.fieldLink RX5 16 "PeriodicNet" "graph" "LPeriodicNet$Graph;") (by decide +kernel)
  unfold pX5_isOnePiece at h
  refine kw_lv (lv' := [(0, .ref xa)]) [0] rfl ?_
  refine kw_aload_n hX 0 dX5_isOnePiece_0 rfl 0 rfl ?_
  refine kw_get hX 1 (C := RX5) (T := TX5) (N := 9) hin5 7 f0 (fun _ h => h) 0 rfl rfl (by decide) rfl dX5_isOnePiece_1 ?_
  refine kw_aload_n hX 4 dX5_isOnePiece_4 rfl 0 rfl ?_
  refine kw_get hX 5 (C := RX5) (T := TX5) (N := 9) hin5 1 f1 (fun _ h => h) 0 rfl rfl (by decide) rfl dX5_isOnePiece_5 ?_
  refine kw_iconst hX 8 dX5_isOnePiece_8 kci_0 ?_
  obtain ⟨v1, hc2, h⟩ := kb_some h
  refine kw_callV_V hX 9 (As := [.ref (ga 0), .int 0]) (rest := []) (kX0_explore (kx_l X) Y ga ca g_vc g_ec g_F g_T g_X g_Z c_re c_cx c_cy c_px c_py c_pn 0 hc2) gX5_isOnePiece_X0_explore rfl 2 rfl hdV_X0_explore ⟨rfl, rfl⟩ ⟨by decide, by decide⟩ ⟨Nat.zero_le _, Nat.zero_le _⟩ rfl (Nat.le_of_ble_eq_true rfl) [1, 2] (by decide) rfl (kfc rfl (kfc gC_f kfn0)) (gs1 := [gT xa ra ga da va ea sa ca pa t_scn, gG Y ga g_vc g_ec g_F g_T g_X g_Z, gC Y ca v1.1 v1.2.1 v1.2.2.1 v1.2.2.2.1 v1.2.2.2.2.1 v1.2.2.2.2.2]) rfl 6 0 rfl rfl rfl dX5_isOnePiece_9 ?_
  refine kw_aload_n hX 12 dX5_isOnePiece_12 rfl 0 rfl ?_
  refine kw_get hX 13 (C := RX5) (T := TX5) (N := 9) hin5 7 f0 (fun _ h => h) 0 rfl rfl (by decide) rfl dX5_isOnePiece_13 ?_
  refine kw_aload_n hX 16 dX5_isOnePiece_16 rfl 0 rfl ?_
  refine kw_get hX 17 (C := RX5) (T := TX5) (N := 9) hin5 1 f1 (fun _ h => h) 0 rfl rfl (by decide) rfl dX5_isOnePiece_17 ?_
  obtain ⟨v3, hc4, h⟩ := kb_some h
  refine kw_callV_I hX 20 (As := [.ref (ga 0)]) (rest := []) (kX0_isWhole (kx_l X) Y ga ca g_vc g_ec g_F g_T g_X g_Z v1.1 v1.2.1 v1.2.2.1 v1.2.2.2.1 v1.2.2.2.2.1 v1.2.2.2.2.2 hc4) gX5_isOnePiece_X0_isWhole rfl 1 rfl hdV_X0_isWhole ⟨rfl, rfl⟩ ⟨by decide, by decide⟩ ⟨Nat.zero_le _, Nat.zero_le _⟩ rfl (Nat.le_of_ble_eq_true rfl) [1, 2] (by decide) rfl (kfc rfl (kfc rfl kfn0)) (gs1 := [gT xa ra ga da va ea sa ca pa t_scn, gG Y ga g_vc g_ec g_F g_T g_X g_Z, gC Y ca v1.1 v1.2.1 v1.2.2.1 v1.2.2.2.1 v1.2.2.2.2.1 v1.2.2.2.2.2]) rfl 6 0 rfl rfl rfl dX5_isOnePiece_20 ?_
  obtain ⟨g5, h⟩ := kgd_some h
  obtain rfl := Option.some.inj h
  exact hret _ _ dX5_isOnePiece_23 (kzb_nar g5)
def pX5_isConnected  (g_vc : Int32) (g_ec : Int32) (g_F : Nat → Int32) (g_T : Nat → Int32) (g_X : Nat → Int32) (g_Z : Nat → Int32) (c_re : Nat → Int32) (c_cx : Nat → Int32) (c_cy : Nat → Int32) (c_px : Nat → Int32) (c_py : Nat → Int32) (c_pn : Int32) : Option (Int32 × (Nat → Int32) × (Nat → Int32) × (Nat → Int32) × (Nat → Int32) × (Nat → Int32) × Int32) := kb (pX5_isOnePiece g_vc g_ec g_F g_T g_X g_Z c_re c_cx c_cy c_px c_py c_pn) (fun v1 => (if v1.1 = 0 then some (0, v1.2.1, v1.2.2.1, v1.2.2.2.1, v1.2.2.2.2.1, v1.2.2.2.2.2.1, v1.2.2.2.2.2.2) else some (1, v1.2.1, v1.2.2.1, v1.2.2.2.1, v1.2.2.2.2.1, v1.2.2.2.2.2.1, v1.2.2.2.2.2.2)))
def rmX5_isConnected : Room := { frames := 4, cells := 0, slots := 0, locals := 90 }
theorem hdV_X5_isConnected : yX5_isConnected.cls = RX5 ∧ yX5_isConnected.cls ≠ "java/lang/invoke/MethodHandle" ∧ yX5_isConnected.cls ≠ "java/lang/invoke/VarHandle" ∧ (parseMethodDescriptor yX5_isConnected.desc).map (fun d => d.parameters.length) = some 0 := ⟨rfl, by decide +kernel, by decide +kernel, by decide +kernel⟩
set_option maxHeartbeats 4000000 in
set_option maxRecDepth 100000 in
theorem kX5_isConnected (l : Launch) (Y : KY) (xa : Nat) (ra : Nat) (ga : Nat → Nat) (da : Nat → Nat) (va : Nat) (ea : Nat → Nat) (sa : Nat → Nat) (ca : Nat → Nat) (pa : Nat → Nat) (t_scn : Int32) (g_vc : Int32) (g_ec : Int32) (g_F : Nat → Int32) (g_T : Nat → Int32) (g_X : Nat → Int32) (g_Z : Nat → Int32) (c_re : Nat → Int32) (c_cx : Nat → Int32) (c_cy : Nat → Int32) (c_px : Nat → Int32) (c_py : Nat → Int32) (c_pn : Int32)  {o : Int32 × (Nat → Int32) × (Nat → Int32) × (Nat → Int32) × (Nat → Int32) × (Nat → Int32) × Int32} (h : pX5_isConnected g_vc g_ec g_F g_T g_X g_Z c_re c_cx c_cy c_px c_py c_pn = some o) : CtI l yX5_isConnected wsX5_isConnected rmX5_isConnected Y [.ref xa] (kfl [gT xa ra ga da va ea sa ca pa t_scn, gG Y ga g_vc g_ec g_F g_T g_X g_Z, gC Y ca c_re c_cx c_cy c_px c_py c_pn]) o.1 (kfl [gT xa ra ga da va ea sa ca pa t_scn, gG Y ga g_vc g_ec g_F g_T g_X g_Z, gC Y ca o.2.1 o.2.2.1 o.2.2.2.1 o.2.2.2.2.1 o.2.2.2.2.2.1 o.2.2.2.2.2.2]) := by
  refine ctI_intro (cc := cX5_isConnected) (maxL := 1) (own := RX5) (by decide +kernel) rfl rfl (Nat.le_of_ble_eq_true rfl) rfl ?_
  intro X A hX _ hret
  unfold pX5_isConnected at h
  refine kw_lv (lv' := [(0, .ref xa)]) [0] rfl ?_
  refine kw_aload_n hX 0 dX5_isConnected_0 rfl 0 rfl ?_
  obtain ⟨v1, hc2, h⟩ := kb_some h
  refine kw_callV_I hX 1 (As := []) (rest := []) (kX5_isOnePiece (kx_l X) Y xa ra ga da va ea sa ca pa t_scn g_vc g_ec g_F g_T g_X g_Z c_re c_cx c_cy c_px c_py c_pn hc2) gX5_isConnected_X5_isOnePiece rfl 0 rfl hdV_X5_isOnePiece ⟨rfl, rfl⟩ ⟨by decide, by decide⟩ ⟨Nat.zero_le _, Nat.zero_le _⟩ rfl (Nat.le_of_ble_eq_true rfl) [0, 1, 2] (by decide) rfl (kfc rfl (kfc rfl (kfc gC_f kfn0))) (gs1 := [gT xa ra ga da va ea sa ca pa t_scn, gG Y ga g_vc g_ec g_F g_T g_X g_Z, gC Y ca v1.2.1 v1.2.2.1 v1.2.2.2.1 v1.2.2.2.2.1 v1.2.2.2.2.2.1 v1.2.2.2.2.2.2]) rfl 0 5 rfl rfl rfl dX5_isConnected_1 ?_
  refine kw_if_eq hX 4 11 dX5_isConnected_4 (by decide) (fun c3 => ?_) (fun c3 => ?_)
  · have h := kif_t c3 h
    refine kw_iconst hX 11 dX5_isConnected_11 kci_0 ?_
    obtain rfl := Option.some.inj h
    exact hret _ _ dX5_isConnected_12 rfl
  · have h := kif_f c3 h
    refine kw_iconst hX 7 dX5_isConnected_7 kci_1 ?_
    refine kw_goto hX 8 12 dX5_isConnected_8 (by decide) ?_
    obtain rfl := Option.some.inj h
    exact hret _ _ dX5_isConnected_12 rfl
def pX5_ring (a1 : Int32) (a2 : Int32) (a3 : Int32) (e_cn : Nat → Int32) (e_M : Nat → Nat → Int32) (r_er : Nat → Int32) (g_vc : Int32) (s_fi : Int32) (s_ta : Int32) (s_st : Nat → Int32) (s_qu : Nat → Int32) : Option (Int32 × (Nat → Int32) × Int32 × Int32 × (Nat → Int32) × (Nat → Int32)) := kb (pX5_isEnd a1 a2 e_cn g_vc) (fun v1 => (if v1 = 0 then kb (pX5_fail (-2) r_er) (fun v4 => some (v4.1, v4.2, s_fi, s_ta, s_st, s_qu)) else kb (pX5_isEnd a1 a3 e_cn g_vc) (fun v6 => (if v6 = 0 then kb (pX5_fail (-2) r_er) (fun v9 => some (v9.1, v9.2, s_fi, s_ta, s_st, s_qu)) else (if a2 = a3 then kb (pX5_fail (-2) r_er) (fun v47 => some (v47.1, v47.2, s_fi, s_ta, s_st, s_qu)) else kgd (kin a1 6) (kgd (decide ((0 + (a1 : Int32).toNatClampNeg) < 18)) (kgd (kin a2 24) (kgd (kin a1 6) (kgd (decide ((6 + (a1 : Int32).toNatClampNeg) < 18)) (kgd (kin a2 24) (kgd (kin a1 6) (kgd (decide ((12 + (a1 : Int32).toNatClampNeg) < 18)) (kgd (kin a2 24) (kb (pX4_nodeAt (e_M (0 + (a1 : Int32).toNatClampNeg) (a2).toNatClampNeg) (e_M (6 + (a1 : Int32).toNatClampNeg) (a2).toNatClampNeg) (e_M (12 + (a1 : Int32).toNatClampNeg) (a2).toNatClampNeg)) (fun v21 => kgd (kin a1 6) (kgd (decide ((0 + (a1 : Int32).toNatClampNeg) < 18)) (kgd (kin a3 24) (kgd (kin a1 6) (kgd (decide ((6 + (a1 : Int32).toNatClampNeg) < 18)) (kgd (kin a3 24) (kgd (kin a1 6) (kgd (decide ((12 + (a1 : Int32).toNatClampNeg) < 18)) (kgd (kin a3 24) (kb (pX4_nodeAt (e_M (0 + (a1 : Int32).toNatClampNeg) (a3).toNatClampNeg) (e_M (6 + (a1 : Int32).toNatClampNeg) (a3).toNatClampNeg) (e_M (12 + (a1 : Int32).toNatClampNeg) (a3).toNatClampNeg)) (fun v32 => kb (pX4_forget s_fi s_ta s_st s_qu) (fun v34 => kb (pX4_nodeAt a1 0 0) (fun v36 => kb (pX4_close v36 v34.1 v34.2.1 v34.2.2 s_qu) (fun v38 => kb (pX4_mark v21 0 v38.2.1 v38.2.2.1 v38.2.2.2) (fun v40 => kb (pX4_walk 10 v32 e_cn e_M v38.1 v40.1 v40.2.1 v40.2.2) (fun v42 => kb (pX4_stepsTo v32 v42.2.1) (fun v44 => (if v44 = ((-1) : Int32) then some ((-1), r_er, v38.1, v42.1, v42.2.1, v42.2.2) else some ((v44 + 2), r_er, v38.1, v42.1, v42.2.1, v42.2.2)))))))))))))))))))))))))))))))))
def rmX5_ring : Room := { frames := 3, cells := 0, slots := 0, locals := 79 }
theorem hdV_X5_ring : yX5_ring.cls = RX5 ∧ yX5_ring.cls ≠ "java/lang/invoke/MethodHandle" ∧ yX5_ring.cls ≠ "java/lang/invoke/VarHandle" ∧ (parseMethodDescriptor yX5_ring.desc).map (fun d => d.parameters.length) = some 3 := ⟨rfl, by decide +kernel, by decide +kernel, by decide +kernel⟩
set_option maxHeartbeats 4000000 in
set_option maxRecDepth 100000 in
theorem kX5_ring (l : Launch) (Y : KY) (xa : Nat) (ra : Nat) (ga : Nat → Nat) (da : Nat → Nat) (va : Nat) (ea : Nat → Nat) (sa : Nat → Nat) (ca : Nat → Nat) (pa : Nat → Nat) (er : Nat → Nat) (e_cn : Nat → Int32) (e_M : Nat → Nat → Int32) (t_scn : Int32) (r_er : Nat → Int32) (g_vc : Int32) (g_ec : Int32) (g_F : Nat → Int32) (g_T : Nat → Int32) (g_X : Nat → Int32) (g_Z : Nat → Int32) (s_fi : Int32) (s_ta : Int32) (s_st : Nat → Int32) (s_qu : Nat → Int32) (a1 : Int32) (a2 : Int32) (a3 : Int32) {o : Int32 × (Nat → Int32) × Int32 × Int32 × (Nat → Int32) × (Nat → Int32)} (h : pX5_ring a1 a2 a3 e_cn e_M r_er g_vc s_fi s_ta s_st s_qu = some o) : CtI l yX5_ring wsX5_ring rmX5_ring Y [.ref xa, .int a1, .int a2, .int a3] (kfl [gE Y ea er e_cn e_M, gT xa ra ga da va ea sa ca pa t_scn, gR Y ra r_er, gG Y ga g_vc g_ec g_F g_T g_X g_Z, gS Y sa s_fi s_ta s_st s_qu]) o.1 (kfl [gE Y ea er e_cn e_M, gT xa ra ga da va ea sa ca pa t_scn, gR Y ra o.2.1, gG Y ga g_vc g_ec g_F g_T g_X g_Z, gS Y sa o.2.2.1 o.2.2.2.1 o.2.2.2.2.1 o.2.2.2.2.2]) := by
  refine ctI_intro (cc := cX5_ring) (maxL := 7) (own := RX5) (by decide +kernel) rfl rfl (Nat.le_of_ble_eq_true rfl) rfl ?_
  intro X A hX _ hret
  have hin1 : ∀ w ∈ u_ws RX1 TX1 4, w ∈ wsX5_ring := by decide +kernel
  have hin5 : ∀ w ∈ u_ws RX5 TX5 9, w ∈ wsX5_ring := by decide +kernel
  have f0 := hX.w (Cond.fieldLink RX5 41 "PeriodicNet" "search" "LPeriodicNet$Search;") (by decide +kernel)
  have f1 := hX.w (Cond.fieldLink RX5 34 "PeriodicNet" "ends" "LPeriodicNet$Ends;") (by decide +kernel)
  have f2 := hX.w (Cond.fieldLink RX5 116 "PeriodicNet$Ends" "target" "[[I") (by decide +kernel)
  have f3 := hX.w (Cond.fieldLink RX5 150 "PeriodicNet$Ends" "stepX" "[[I") (by decide +kernel)
  have f4 := hX.w (Cond.fieldLink RX5 153 "PeriodicNet$Ends" "stepY" "[[I") (by decide +kernel)
  unfold pX5_ring at h
  refine kw_lv (lv' := [(0, .ref xa), (1, .int a1), (2, .int a2), (3, .int a3)]) [0, 1, 2, 3] rfl ?_
  refine kw_aload_n hX 0 dX5_ring_0 rfl 0 rfl ?_
  refine kw_iload_n hX 1 dX5_ring_1 rfl 1 rfl ?_
  refine kw_iload_n hX 2 dX5_ring_2 rfl 2 rfl ?_
  obtain ⟨v1, hc2, h⟩ := kb_some h
  refine kw_callV_I hX 3 (As := [.int a1, .int a2]) (rest := []) (kX5_isEnd (kx_l X) Y xa ra ga da va ea sa ca pa er e_cn e_M t_scn g_vc g_ec g_F g_T g_X g_Z a1 a2 hc2) gX5_ring_X5_isEnd rfl 2 rfl hdV_X5_isEnd ⟨rfl, rfl⟩ ⟨by decide, by decide⟩ ⟨Nat.zero_le _, Nat.zero_le _⟩ rfl (Nat.le_of_ble_eq_true rfl) [0, 1, 3] (by decide) rfl (kfc rfl (kfc rfl (kfc rfl kfn0))) (gs1 := [gE Y ea er e_cn e_M, gT xa ra ga da va ea sa ca pa t_scn, gR Y ra r_er, gG Y ga g_vc g_ec g_F g_T g_X g_Z, gS Y sa s_fi s_ta s_st s_qu]) rfl 23 5 rfl rfl rfl dX5_ring_3 ?_
  refine kw_if_eq hX 6 23 dX5_ring_6 (by decide) (fun c3 => ?_) (fun c3 => ?_)
  · have h := kif_t c3 h
    refine kw_aload_n hX 23 dX5_ring_23 rfl 0 rfl ?_
    refine kw_bipush hX 24 dX5_ring_24 kcb_m2 ?_
    obtain ⟨v4, hc5, h⟩ := kb_some h
    refine kw_callV_I hX 26 (As := [.int (-2)]) (rest := []) (kX5_fail (kx_l X) Y xa ra ga da va ea sa ca pa t_scn r_er (-2) hc5) gX5_ring_X5_fail rfl 1 rfl hdV_X5_fail ⟨rfl, rfl⟩ ⟨by decide, by decide⟩ ⟨Nat.zero_le _, Nat.zero_le _⟩ rfl (Nat.le_of_ble_eq_true rfl) [1, 2] (by decide) rfl (kfc rfl (kfc gR_f kfn0)) (gs1 := [gE Y ea er e_cn e_M, gT xa ra ga da va ea sa ca pa t_scn, gR Y ra v4.2, gG Y ga g_vc g_ec g_F g_T g_X g_Z, gS Y sa s_fi s_ta s_st s_qu]) rfl 23 5 rfl rfl rfl dX5_ring_26 ?_
    obtain rfl := Option.some.inj h
    exact hret _ _ dX5_ring_29 rfl
  · have h := kif_f c3 h
    refine kw_aload_n hX 9 dX5_ring_9 rfl 0 rfl ?_
    refine kw_iload_n hX 10 dX5_ring_10 rfl 1 rfl ?_
    refine kw_iload_n hX 11 dX5_ring_11 rfl 3 rfl ?_
    obtain ⟨v6, hc7, h⟩ := kb_some h
    refine kw_callV_I hX 12 (As := [.int a1, .int a3]) (rest := []) (kX5_isEnd (kx_l X) Y xa ra ga da va ea sa ca pa er e_cn e_M t_scn g_vc g_ec g_F g_T g_X g_Z a1 a3 hc7) gX5_ring_X5_isEnd rfl 2 rfl hdV_X5_isEnd ⟨rfl, rfl⟩ ⟨by decide, by decide⟩ ⟨Nat.zero_le _, Nat.zero_le _⟩ rfl (Nat.le_of_ble_eq_true rfl) [0, 1, 3] (by decide) rfl (kfc rfl (kfc rfl (kfc rfl kfn0))) (gs1 := [gE Y ea er e_cn e_M, gT xa ra ga da va ea sa ca pa t_scn, gR Y ra r_er, gG Y ga g_vc g_ec g_F g_T g_X g_Z, gS Y sa s_fi s_ta s_st s_qu]) rfl 23 5 rfl rfl rfl dX5_ring_12 ?_
    refine kw_if_eq hX 15 23 dX5_ring_15 (by decide) (fun c8 => ?_) (fun c8 => ?_)
    · have h := kif_t c8 h
      refine kw_aload_n hX 23 dX5_ring_23 rfl 0 rfl ?_
      refine kw_bipush hX 24 dX5_ring_24 kcb_m2 ?_
      obtain ⟨v9, hc10, h⟩ := kb_some h
      refine kw_callV_I hX 26 (As := [.int (-2)]) (rest := []) (kX5_fail (kx_l X) Y xa ra ga da va ea sa ca pa t_scn r_er (-2) hc10) gX5_ring_X5_fail rfl 1 rfl hdV_X5_fail ⟨rfl, rfl⟩ ⟨by decide, by decide⟩ ⟨Nat.zero_le _, Nat.zero_le _⟩ rfl (Nat.le_of_ble_eq_true rfl) [1, 2] (by decide) rfl (kfc rfl (kfc gR_f kfn0)) (gs1 := [gE Y ea er e_cn e_M, gT xa ra ga da va ea sa ca pa t_scn, gR Y ra v9.2, gG Y ga g_vc g_ec g_F g_T g_X g_Z, gS Y sa s_fi s_ta s_st s_qu]) rfl 23 5 rfl rfl rfl dX5_ring_26 ?_
      obtain rfl := Option.some.inj h
      exact hret _ _ dX5_ring_29 rfl
    · have h := kif_f c8 h
      refine kw_iload_n hX 18 dX5_ring_18 rfl 2 rfl ?_
      refine kw_iload_n hX 19 dX5_ring_19 rfl 3 rfl ?_
      refine kw_icmp_ne hX 20 30 dX5_ring_20 (by decide) (fun c11 => ?_) (fun c11 => ?_)
      · have h := kif_f c11 h
        refine kw_aload_n hX 30 dX5_ring_30 rfl 0 rfl ?_
        refine kw_get hX 31 (C := RX5) (T := TX5) (N := 9) hin5 6 f0 (fun _ h => h) 23 rfl rfl (by decide) rfl dX5_ring_31 ?_
        refine kw_aload_n hX 34 dX5_ring_34 rfl 0 rfl ?_
        refine kw_get hX 35 (C := RX5) (T := TX5) (N := 9) hin5 5 f1 (fun _ h => h) 23 rfl rfl (by decide) rfl dX5_ring_35 ?_
        refine kw_get hX 38 (C := RX1) (T := TX1) (N := 4) hin1 1 f2 (fun _ h => h) 0 rfl rfl (by decide) rfl dX5_ring_38 ?_
        refine kw_iload_n hX 41 dX5_ring_41 rfl 1 rfl ?_
        obtain ⟨g12, h⟩ := kgd_some h
        refine kw_aald4 hX 42 2 rfl g12 rfl dX5_ring_42 ?_
        refine kw_iload_n hX 43 dX5_ring_43 rfl 2 rfl ?_
        obtain ⟨g13, h⟩ := kgd_some h
        obtain ⟨g14, h⟩ := kgd_some h
        refine kw_iald hX 44 (5 + (0 + (a1 : Int32).toNatClampNeg)) (gE_row (of_decide_eq_true g13)) g14 dX5_ring_44 ?_
        refine kw_aload_n hX 45 dX5_ring_45 rfl 0 rfl ?_
        refine kw_get hX 46 (C := RX5) (T := TX5) (N := 9) hin5 5 f1 (fun _ h => h) 23 rfl rfl (by decide) rfl dX5_ring_46 ?_
        refine kw_get hX 49 (C := RX1) (T := TX1) (N := 4) hin1 2 f3 (fun _ h => h) 0 rfl rfl (by decide) rfl dX5_ring_49 ?_
        refine kw_iload_n hX 52 dX5_ring_52 rfl 1 rfl ?_
        obtain ⟨g15, h⟩ := kgd_some h
        refine kw_aald4 hX 53 3 rfl g15 rfl dX5_ring_53 ?_
        refine kw_iload_n hX 54 dX5_ring_54 rfl 2 rfl ?_
        obtain ⟨g16, h⟩ := kgd_some h
        obtain ⟨g17, h⟩ := kgd_some h
        refine kw_iald hX 55 (5 + (6 + (a1 : Int32).toNatClampNeg)) (gE_row (of_decide_eq_true g16)) g17 dX5_ring_55 ?_
        refine kw_aload_n hX 56 dX5_ring_56 rfl 0 rfl ?_
        refine kw_get hX 57 (C := RX5) (T := TX5) (N := 9) hin5 5 f1 (fun _ h => h) 23 rfl rfl (by decide) rfl dX5_ring_57 ?_
        refine kw_get hX 60 (C := RX1) (T := TX1) (N := 4) hin1 3 f4 (fun _ h => h) 0 rfl rfl (by decide) rfl dX5_ring_60 ?_
        refine kw_iload_n hX 63 dX5_ring_63 rfl 1 rfl ?_
        obtain ⟨g18, h⟩ := kgd_some h
        refine kw_aald4 hX 64 4 rfl g18 rfl dX5_ring_64 ?_
        refine kw_iload_n hX 65 dX5_ring_65 rfl 2 rfl ?_
        obtain ⟨g19, h⟩ := kgd_some h
        obtain ⟨g20, h⟩ := kgd_some h
        refine kw_iald hX 66 (5 + (12 + (a1 : Int32).toNatClampNeg)) (gE_row (of_decide_eq_true g19)) g20 dX5_ring_66 ?_
        obtain ⟨v21, hc22, h⟩ := kb_some h
        refine kw_callV_I hX 67 (As := [.int (e_M (0 + (a1 : Int32).toNatClampNeg) (a2).toNatClampNeg), .int (e_M (6 + (a1 : Int32).toNatClampNeg) (a2).toNatClampNeg), .int (e_M (12 + (a1 : Int32).toNatClampNeg) (a2).toNatClampNeg)]) (rest := []) (kX4_nodeAt (kx_l X) Y sa s_fi s_ta s_st s_qu (e_M (0 + (a1 : Int32).toNatClampNeg) (a2).toNatClampNeg) (e_M (6 + (a1 : Int32).toNatClampNeg) (a2).toNatClampNeg) (e_M (12 + (a1 : Int32).toNatClampNeg) (a2).toNatClampNeg) hc22) gX5_ring_X4_nodeAt rfl 3 rfl hdV_X4_nodeAt ⟨rfl, rfl⟩ ⟨by decide, by decide⟩ ⟨Nat.zero_le _, Nat.zero_le _⟩ rfl (Nat.le_of_ble_eq_true rfl) [4] (by decide) rfl (kfc rfl kfn0) (gs1 := [gE Y ea er e_cn e_M, gT xa ra ga da va ea sa ca pa t_scn, gR Y ra r_er, gG Y ga g_vc g_ec g_F g_T g_X g_Z, gS Y sa s_fi s_ta s_st s_qu]) rfl 30 4 rfl rfl rfl dX5_ring_67 ?_
        refine kw_istore (lv' := [(4, .int v21), (0, .ref xa), (1, .int a1), (2, .int a2), (3, .int a3)]) hX 70 dX5_ring_70 (by decide) rfl ?_
        refine kw_aload_n hX 72 dX5_ring_72 rfl 1 rfl ?_
        refine kw_get hX 73 (C := RX5) (T := TX5) (N := 9) hin5 6 f0 (fun _ h => h) 23 rfl rfl (by decide) rfl dX5_ring_73 ?_
        refine kw_aload_n hX 76 dX5_ring_76 rfl 1 rfl ?_
        refine kw_get hX 77 (C := RX5) (T := TX5) (N := 9) hin5 5 f1 (fun _ h => h) 23 rfl rfl (by decide) rfl dX5_ring_77 ?_
        refine kw_get hX 80 (C := RX1) (T := TX1) (N := 4) hin1 1 f2 (fun _ h => h) 0 rfl rfl (by decide) rfl dX5_ring_80 ?_
        refine kw_iload_n hX 83 dX5_ring_83 rfl 2 rfl ?_
        obtain ⟨g23, h⟩ := kgd_some h
        refine kw_aald4 hX 84 2 rfl g23 rfl dX5_ring_84 ?_
        refine kw_iload_n hX 85 dX5_ring_85 rfl 4 rfl ?_
        obtain ⟨g24, h⟩ := kgd_some h
        obtain ⟨g25, h⟩ := kgd_some h
        refine kw_iald hX 86 (5 + (0 + (a1 : Int32).toNatClampNeg)) (gE_row (of_decide_eq_true g24)) g25 dX5_ring_86 ?_
        refine kw_aload_n hX 87 dX5_ring_87 rfl 1 rfl ?_
        refine kw_get hX 88 (C := RX5) (T := TX5) (N := 9) hin5 5 f1 (fun _ h => h) 23 rfl rfl (by decide) rfl dX5_ring_88 ?_
        refine kw_get hX 91 (C := RX1) (T := TX1) (N := 4) hin1 2 f3 (fun _ h => h) 0 rfl rfl (by decide) rfl dX5_ring_91 ?_
        refine kw_iload_n hX 94 dX5_ring_94 rfl 2 rfl ?_
        obtain ⟨g26, h⟩ := kgd_some h
        refine kw_aald4 hX 95 3 rfl g26 rfl dX5_ring_95 ?_
        refine kw_iload_n hX 96 dX5_ring_96 rfl 4 rfl ?_
        obtain ⟨g27, h⟩ := kgd_some h
        obtain ⟨g28, h⟩ := kgd_some h
        refine kw_iald hX 97 (5 + (6 + (a1 : Int32).toNatClampNeg)) (gE_row (of_decide_eq_true g27)) g28 dX5_ring_97 ?_
        refine kw_aload_n hX 98 dX5_ring_98 rfl 1 rfl ?_
        refine kw_get hX 99 (C := RX5) (T := TX5) (N := 9) hin5 5 f1 (fun _ h => h) 23 rfl rfl (by decide) rfl dX5_ring_99 ?_
        refine kw_get hX 102 (C := RX1) (T := TX1) (N := 4) hin1 3 f4 (fun _ h => h) 0 rfl rfl (by decide) rfl dX5_ring_102 ?_
        refine kw_iload_n hX 105 dX5_ring_105 rfl 2 rfl ?_
        obtain ⟨g29, h⟩ := kgd_some h
        refine kw_aald4 hX 106 4 rfl g29 rfl dX5_ring_106 ?_
        refine kw_iload_n hX 107 dX5_ring_107 rfl 4 rfl ?_
        obtain ⟨g30, h⟩ := kgd_some h
        obtain ⟨g31, h⟩ := kgd_some h
        refine kw_iald hX 108 (5 + (12 + (a1 : Int32).toNatClampNeg)) (gE_row (of_decide_eq_true g30)) g31 dX5_ring_108 ?_
        obtain ⟨v32, hc33, h⟩ := kb_some h
        refine kw_callV_I hX 109 (As := [.int (e_M (0 + (a1 : Int32).toNatClampNeg) (a3).toNatClampNeg), .int (e_M (6 + (a1 : Int32).toNatClampNeg) (a3).toNatClampNeg), .int (e_M (12 + (a1 : Int32).toNatClampNeg) (a3).toNatClampNeg)]) (rest := []) (kX4_nodeAt (kx_l X) Y sa s_fi s_ta s_st s_qu (e_M (0 + (a1 : Int32).toNatClampNeg) (a3).toNatClampNeg) (e_M (6 + (a1 : Int32).toNatClampNeg) (a3).toNatClampNeg) (e_M (12 + (a1 : Int32).toNatClampNeg) (a3).toNatClampNeg) hc33) gX5_ring_X4_nodeAt rfl 3 rfl hdV_X4_nodeAt ⟨rfl, rfl⟩ ⟨by decide, by decide⟩ ⟨Nat.zero_le _, Nat.zero_le _⟩ rfl (Nat.le_of_ble_eq_true rfl) [4] (by decide) rfl (kfc rfl kfn0) (gs1 := [gE Y ea er e_cn e_M, gT xa ra ga da va ea sa ca pa t_scn, gR Y ra r_er, gG Y ga g_vc g_ec g_F g_T g_X g_Z, gS Y sa s_fi s_ta s_st s_qu]) rfl 30 4 rfl rfl rfl dX5_ring_109 ?_
        refine kw_istore (lv' := [(5, .int v32), (4, .int v21), (0, .ref xa), (1, .int a1), (2, .int a2), (3, .int a3)]) hX 112 dX5_ring_112 (by decide) rfl ?_
        refine kw_aload_n hX 114 dX5_ring_114 rfl 2 rfl ?_
        refine kw_get hX 115 (C := RX5) (T := TX5) (N := 9) hin5 6 f0 (fun _ h => h) 23 rfl rfl (by decide) rfl dX5_ring_115 ?_
        obtain ⟨v34, hc35, h⟩ := kb_some h
        refine kw_callV_V hX 118 (As := []) (rest := []) (kX4_forget (kx_l X) Y sa s_fi s_ta s_st s_qu hc35) gX5_ring_X4_forget rfl 0 rfl hdV_X4_forget ⟨rfl, rfl⟩ ⟨by decide, by decide⟩ ⟨Nat.zero_le _, Nat.zero_le _⟩ rfl (Nat.le_of_ble_eq_true rfl) [4] (by decide) rfl (kfc gS_f kfn0) (gs1 := [gE Y ea er e_cn e_M, gT xa ra ga da va ea sa ca pa t_scn, gR Y ra r_er, gG Y ga g_vc g_ec g_F g_T g_X g_Z, gS Y sa v34.1 v34.2.1 v34.2.2 s_qu]) rfl 30 4 rfl rfl rfl dX5_ring_118 ?_
        refine kw_aload_n hX 121 dX5_ring_121 rfl 2 rfl ?_
        refine kw_get hX 122 (C := RX5) (T := TX5) (N := 9) hin5 6 f0 (fun _ h => h) 23 rfl rfl (by decide) rfl dX5_ring_122 ?_
        refine kw_aload_n hX 125 dX5_ring_125 rfl 2 rfl ?_
        refine kw_get hX 126 (C := RX5) (T := TX5) (N := 9) hin5 6 f0 (fun _ h => h) 23 rfl rfl (by decide) rfl dX5_ring_126 ?_
        refine kw_iload_n hX 129 dX5_ring_129 rfl 3 rfl ?_
        refine kw_iconst hX 130 dX5_ring_130 kci_0 ?_
        refine kw_iconst hX 131 dX5_ring_131 kci_0 ?_
        obtain ⟨v36, hc37, h⟩ := kb_some h
        refine kw_callV_I hX 132 (As := [.int a1, .int 0, .int 0]) (rest := [.ref (sa 0)]) (kX4_nodeAt (kx_l X) Y sa v34.1 v34.2.1 v34.2.2 s_qu a1 0 0 hc37) gX5_ring_X4_nodeAt rfl 3 rfl hdV_X4_nodeAt ⟨rfl, rfl⟩ ⟨by decide, by decide⟩ ⟨Nat.zero_le _, Nat.zero_le _⟩ rfl (Nat.le_of_ble_eq_true rfl) [4] (by decide) rfl (kfc rfl kfn0) (gs1 := [gE Y ea er e_cn e_M, gT xa ra ga da va ea sa ca pa t_scn, gR Y ra r_er, gG Y ga g_vc g_ec g_F g_T g_X g_Z, gS Y sa v34.1 v34.2.1 v34.2.2 s_qu]) rfl 30 4 rfl rfl rfl dX5_ring_132 ?_
        obtain ⟨v38, hc39, h⟩ := kb_some h
        refine kw_callV_V hX 135 (As := [.int v36]) (rest := []) (kX4_close (kx_l X) Y sa v34.1 v34.2.1 v34.2.2 s_qu v36 hc39) gX5_ring_X4_close rfl 1 rfl hdV_X4_close ⟨rfl, rfl⟩ ⟨by decide, by decide⟩ ⟨Nat.zero_le _, Nat.zero_le _⟩ rfl (Nat.le_of_ble_eq_true rfl) [4] (by decide) rfl (kfc gS_f kfn0) (gs1 := [gE Y ea er e_cn e_M, gT xa ra ga da va ea sa ca pa t_scn, gR Y ra r_er, gG Y ga g_vc g_ec g_F g_T g_X g_Z, gS Y sa v38.1 v38.2.1 v38.2.2.1 v38.2.2.2]) rfl 30 4 rfl rfl rfl dX5_ring_135 ?_
        refine kw_aload_n hX 138 dX5_ring_138 rfl 2 rfl ?_
        refine kw_get hX 139 (C := RX5) (T := TX5) (N := 9) hin5 6 f0 (fun _ h => h) 23 rfl rfl (by decide) rfl dX5_ring_139 ?_
        refine kw_iload hX 142 dX5_ring_142 1 rfl ?_
        refine kw_iconst hX 144 dX5_ring_144 kci_0 ?_
        obtain ⟨v40, hc41, h⟩ := kb_some h
        refine kw_callV_V hX 145 (As := [.int v21, .int 0]) (rest := []) (kX4_mark (kx_l X) Y sa v38.1 v38.2.1 v38.2.2.1 v38.2.2.2 v21 0 hc41) gX5_ring_X4_mark rfl 2 rfl hdV_X4_mark ⟨rfl, rfl⟩ ⟨by decide, by decide⟩ ⟨Nat.zero_le _, Nat.zero_le _⟩ rfl (Nat.le_of_ble_eq_true rfl) [4] (by decide) rfl (kfc gS_f kfn0) (gs1 := [gE Y ea er e_cn e_M, gT xa ra ga da va ea sa ca pa t_scn, gR Y ra r_er, gG Y ga g_vc g_ec g_F g_T g_X g_Z, gS Y sa v38.1 v40.1 v40.2.1 v40.2.2]) rfl 30 4 rfl rfl rfl dX5_ring_145 ?_
        refine kw_aload_n hX 148 dX5_ring_148 rfl 2 rfl ?_
        refine kw_get hX 149 (C := RX5) (T := TX5) (N := 9) hin5 6 f0 (fun _ h => h) 23 rfl rfl (by decide) rfl dX5_ring_149 ?_
        refine kw_aload_n hX 152 dX5_ring_152 rfl 2 rfl ?_
        refine kw_get hX 153 (C := RX5) (T := TX5) (N := 9) hin5 5 f1 (fun _ h => h) 23 rfl rfl (by decide) rfl dX5_ring_153 ?_
        refine kw_bipush hX 156 dX5_ring_156 kcb_10 ?_
        refine kw_iload hX 158 dX5_ring_158 0 rfl ?_
        obtain ⟨v42, hc43, h⟩ := kb_some h
        refine kw_callV_V hX 160 (As := [.ref (ea 0), .int 10, .int v32]) (rest := []) (kX4_walk (kx_l X) Y ea er sa e_cn e_M v38.1 v40.1 v40.2.1 v40.2.2 10 v32 hc43) gX5_ring_X4_walk rfl 3 rfl hdV_X4_walk ⟨rfl, rfl⟩ ⟨by decide, by decide⟩ ⟨Nat.zero_le _, Nat.zero_le _⟩ rfl (Nat.le_of_ble_eq_true rfl) [0, 4] (by decide) rfl (kfc rfl (kfc gS_f kfn0)) (gs1 := [gE Y ea er e_cn e_M, gT xa ra ga da va ea sa ca pa t_scn, gR Y ra r_er, gG Y ga g_vc g_ec g_F g_T g_X g_Z, gS Y sa v38.1 v42.1 v42.2.1 v42.2.2]) rfl 30 4 rfl rfl rfl dX5_ring_160 ?_
        refine kw_aload_n hX 163 dX5_ring_163 rfl 2 rfl ?_
        refine kw_get hX 164 (C := RX5) (T := TX5) (N := 9) hin5 6 f0 (fun _ h => h) 23 rfl rfl (by decide) rfl dX5_ring_164 ?_
        refine kw_iload hX 167 dX5_ring_167 0 rfl ?_
        obtain ⟨v44, hc45, h⟩ := kb_some h
        refine kw_callV_I hX 169 (As := [.int v32]) (rest := []) (kX4_stepsTo (kx_l X) Y sa v38.1 v42.1 v42.2.1 v42.2.2 v32 hc45) gX5_ring_X4_stepsTo rfl 1 rfl hdV_X4_stepsTo ⟨rfl, rfl⟩ ⟨by decide, by decide⟩ ⟨Nat.zero_le _, Nat.zero_le _⟩ rfl (Nat.le_of_ble_eq_true rfl) [4] (by decide) rfl (kfc rfl kfn0) (gs1 := [gE Y ea er e_cn e_M, gT xa ra ga da va ea sa ca pa t_scn, gR Y ra r_er, gG Y ga g_vc g_ec g_F g_T g_X g_Z, gS Y sa v38.1 v42.1 v42.2.1 v42.2.2]) rfl 30 4 rfl rfl rfl dX5_ring_169 ?_
        refine kw_istore (lv' := [(6, .int v44), (5, .int v32), (4, .int v21), (0, .ref xa), (1, .int a1), (2, .int a2), (3, .int a3)]) hX 172 dX5_ring_172 (by decide) rfl ?_
        refine kw_iload hX 174 dX5_ring_174 0 rfl ?_
        refine kw_iconst hX 176 dX5_ring_176 kci_m1 ?_
        refine kw_icmp_ne hX 177 184 dX5_ring_177 (by decide) (fun c46 => ?_) (fun c46 => ?_)
        · have h := kif_f c46 h
          refine kw_iload hX 184 dX5_ring_184 0 rfl ?_
          refine kw_iconst hX 186 dX5_ring_186 kci_2 ?_
          refine kw_iadd hX 187 dX5_ring_187 ?_
          obtain rfl := Option.some.inj h
          exact hret _ _ dX5_ring_188 rfl
        · have h := kif_t c46 h
          refine kw_iconst hX 180 dX5_ring_180 kci_m1 ?_
          refine kw_goto hX 181 188 dX5_ring_181 (by decide) ?_
          obtain rfl := Option.some.inj h
          exact hret _ _ dX5_ring_188 rfl
      · have h := kif_t c11 h
        refine kw_aload_n hX 23 dX5_ring_23 rfl 0 rfl ?_
        refine kw_bipush hX 24 dX5_ring_24 kcb_m2 ?_
        obtain ⟨v47, hc48, h⟩ := kb_some h
        refine kw_callV_I hX 26 (As := [.int (-2)]) (rest := []) (kX5_fail (kx_l X) Y xa ra ga da va ea sa ca pa t_scn r_er (-2) hc48) gX5_ring_X5_fail rfl 1 rfl hdV_X5_fail ⟨rfl, rfl⟩ ⟨by decide, by decide⟩ ⟨Nat.zero_le _, Nat.zero_le _⟩ rfl (Nat.le_of_ble_eq_true rfl) [1, 2] (by decide) rfl (kfc rfl (kfc gR_f kfn0)) (gs1 := [gE Y ea er e_cn e_M, gT xa ra ga da va ea sa ca pa t_scn, gR Y ra v47.2, gG Y ga g_vc g_ec g_F g_T g_X g_Z, gS Y sa s_fi s_ta s_st s_qu]) rfl 23 5 rfl rfl rfl dX5_ring_26 ?_
        obtain rfl := Option.some.inj h
        exact hret _ _ dX5_ring_29 rfl
def pX5_placementTrouble (a1 : Int32) (a2 : Int32) (g_vc : Int32) (g_ec : Int32) (g_F : Nat → Int32) (g_T : Nat → Int32) (g_X : Nat → Int32) (g_Z : Nat → Int32) (c_re : Nat → Int32) (c_cx : Nat → Int32) (c_cy : Nat → Int32) (c_px : Nat → Int32) (c_py : Nat → Int32) (c_pn : Int32) : Option (Int32 × (Nat → Int32) × (Nat → Int32) × (Nat → Int32) × (Nat → Int32) × (Nat → Int32) × Int32) := kb (pX5_isVertex a1 g_vc) (fun v1 => (if v1 = 0 then some ((-2), c_re, c_cx, c_cy, c_px, c_py, c_pn) else (if a2 < 0 then some ((-2), c_re, c_cx, c_cy, c_px, c_py, c_pn) else (if a2 ≤ (1 : Int32) then kb (pX5_isOnePiece g_vc g_ec g_F g_T g_X g_Z c_re c_cx c_cy c_px c_py c_pn) (fun v6 => (if v6.1 = 0 then some ((-6), v6.2.1, v6.2.2.1, v6.2.2.2.1, v6.2.2.2.2.1, v6.2.2.2.2.2.1, v6.2.2.2.2.2.2) else some (0, v6.2.1, v6.2.2.1, v6.2.2.2.1, v6.2.2.2.2.1, v6.2.2.2.2.2.1, v6.2.2.2.2.2.2))) else some ((-2), c_re, c_cx, c_cy, c_px, c_py, c_pn)))))
def rmX5_placementTrouble : Room := { frames := 4, cells := 0, slots := 0, locals := 90 }
theorem hdV_X5_placementTrouble : yX5_placementTrouble.cls = RX5 ∧ yX5_placementTrouble.cls ≠ "java/lang/invoke/MethodHandle" ∧ yX5_placementTrouble.cls ≠ "java/lang/invoke/VarHandle" ∧ (parseMethodDescriptor yX5_placementTrouble.desc).map (fun d => d.parameters.length) = some 2 := ⟨rfl, by decide +kernel, by decide +kernel, by decide +kernel⟩
set_option maxHeartbeats 4000000 in
set_option maxRecDepth 100000 in
theorem kX5_placementTrouble (l : Launch) (Y : KY) (xa : Nat) (ra : Nat) (ga : Nat → Nat) (da : Nat → Nat) (va : Nat) (ea : Nat → Nat) (sa : Nat → Nat) (ca : Nat → Nat) (pa : Nat → Nat) (t_scn : Int32) (g_vc : Int32) (g_ec : Int32) (g_F : Nat → Int32) (g_T : Nat → Int32) (g_X : Nat → Int32) (g_Z : Nat → Int32) (c_re : Nat → Int32) (c_cx : Nat → Int32) (c_cy : Nat → Int32) (c_px : Nat → Int32) (c_py : Nat → Int32) (c_pn : Int32) (a1 : Int32) (a2 : Int32) {o : Int32 × (Nat → Int32) × (Nat → Int32) × (Nat → Int32) × (Nat → Int32) × (Nat → Int32) × Int32} (h : pX5_placementTrouble a1 a2 g_vc g_ec g_F g_T g_X g_Z c_re c_cx c_cy c_px c_py c_pn = some o) : CtI l yX5_placementTrouble wsX5_placementTrouble rmX5_placementTrouble Y [.ref xa, .int a1, .int a2] (kfl [gT xa ra ga da va ea sa ca pa t_scn, gG Y ga g_vc g_ec g_F g_T g_X g_Z, gC Y ca c_re c_cx c_cy c_px c_py c_pn]) o.1 (kfl [gT xa ra ga da va ea sa ca pa t_scn, gG Y ga g_vc g_ec g_F g_T g_X g_Z, gC Y ca o.2.1 o.2.2.1 o.2.2.2.1 o.2.2.2.2.1 o.2.2.2.2.2.1 o.2.2.2.2.2.2]) := by
  refine ctI_intro (cc := cX5_placementTrouble) (maxL := 3) (own := RX5) (by decide +kernel) rfl rfl (Nat.le_of_ble_eq_true rfl) rfl ?_
  intro X A hX _ hret
  unfold pX5_placementTrouble at h
  refine kw_lv (lv' := [(0, .ref xa), (1, .int a1), (2, .int a2)]) [0, 1, 2] rfl ?_
  refine kw_aload_n hX 0 dX5_placementTrouble_0 rfl 0 rfl ?_
  refine kw_iload_n hX 1 dX5_placementTrouble_1 rfl 1 rfl ?_
  obtain ⟨v1, hc2, h⟩ := kb_some h
  refine kw_callV_I hX 2 (As := [.int a1]) (rest := []) (kX5_isVertex (kx_l X) Y xa ra ga da va ea sa ca pa t_scn g_vc g_ec g_F g_T g_X g_Z a1 hc2) gX5_placementTrouble_X5_isVertex rfl 1 rfl hdV_X5_isVertex ⟨rfl, rfl⟩ ⟨by decide, by decide⟩ ⟨Nat.zero_le _, Nat.zero_le _⟩ rfl (Nat.le_of_ble_eq_true rfl) [0, 1] (by decide) rfl (kfc rfl (kfc rfl kfn0)) (gs1 := [gT xa ra ga da va ea sa ca pa t_scn, gG Y ga g_vc g_ec g_F g_T g_X g_Z, gC Y ca c_re c_cx c_cy c_px c_py c_pn]) rfl 0 5 rfl rfl rfl dX5_placementTrouble_2 ?_
  refine kw_if_eq hX 5 17 dX5_placementTrouble_5 (by decide) (fun c3 => ?_) (fun c3 => ?_)
  · have h := kif_t c3 h
    refine kw_bipush hX 17 dX5_placementTrouble_17 kcb_m2 ?_
    obtain rfl := Option.some.inj h
    exact hret _ _ dX5_placementTrouble_19 rfl
  · have h := kif_f c3 h
    refine kw_iload_n hX 8 dX5_placementTrouble_8 rfl 2 rfl ?_
    refine kw_if_lt hX 9 17 dX5_placementTrouble_9 (by decide) (fun c4 => ?_) (fun c4 => ?_)
    · have h := kif_t c4 h
      refine kw_bipush hX 17 dX5_placementTrouble_17 kcb_m2 ?_
      obtain rfl := Option.some.inj h
      exact hret _ _ dX5_placementTrouble_19 rfl
    · have h := kif_f c4 h
      refine kw_iload_n hX 12 dX5_placementTrouble_12 rfl 2 rfl ?_
      refine kw_iconst hX 13 dX5_placementTrouble_13 kci_1 ?_
      refine kw_icmp_le hX 14 20 dX5_placementTrouble_14 (by decide) (fun c5 => ?_) (fun c5 => ?_)
      · have h := kif_t c5 h
        refine kw_aload_n hX 20 dX5_placementTrouble_20 rfl 0 rfl ?_
        obtain ⟨v6, hc7, h⟩ := kb_some h
        refine kw_callV_I hX 21 (As := []) (rest := []) (kX5_isOnePiece (kx_l X) Y xa ra ga da va ea sa ca pa t_scn g_vc g_ec g_F g_T g_X g_Z c_re c_cx c_cy c_px c_py c_pn hc7) gX5_placementTrouble_X5_isOnePiece rfl 0 rfl hdV_X5_isOnePiece ⟨rfl, rfl⟩ ⟨by decide, by decide⟩ ⟨Nat.zero_le _, Nat.zero_le _⟩ rfl (Nat.le_of_ble_eq_true rfl) [0, 1, 2] (by decide) rfl (kfc rfl (kfc rfl (kfc gC_f kfn0))) (gs1 := [gT xa ra ga da va ea sa ca pa t_scn, gG Y ga g_vc g_ec g_F g_T g_X g_Z, gC Y ca v6.2.1 v6.2.2.1 v6.2.2.2.1 v6.2.2.2.2.1 v6.2.2.2.2.2.1 v6.2.2.2.2.2.2]) rfl 0 5 rfl rfl rfl dX5_placementTrouble_21 ?_
        refine kw_if_eq hX 24 31 dX5_placementTrouble_24 (by decide) (fun c8 => ?_) (fun c8 => ?_)
        · have h := kif_t c8 h
          refine kw_bipush hX 31 dX5_placementTrouble_31 kcb_m6 ?_
          obtain rfl := Option.some.inj h
          exact hret _ _ dX5_placementTrouble_33 rfl
        · have h := kif_f c8 h
          refine kw_iconst hX 27 dX5_placementTrouble_27 kci_0 ?_
          refine kw_goto hX 28 33 dX5_placementTrouble_28 (by decide) ?_
          obtain rfl := Option.some.inj h
          exact hret _ _ dX5_placementTrouble_33 rfl
      · have h := kif_f c5 h
        refine kw_bipush hX 17 dX5_placementTrouble_17 kcb_m2 ?_
        obtain rfl := Option.some.inj h
        exact hret _ _ dX5_placementTrouble_19 rfl
def pX5_numerator (a1 : Int32) (a2 : Int32) (p_R : Nat → Nat → Int64) (p_un : Int32) (p_sc : Int64) (r_er : Nat → Int32) (g_vc : Int32) (g_ec : Int32) (g_F : Nat → Int32) (g_T : Nat → Int32) (g_X : Nat → Int32) (g_Z : Nat → Int32) (c_re : Nat → Int32) (c_cx : Nat → Int32) (c_cy : Nat → Int32) (c_px : Nat → Int32) (c_py : Nat → Int32) (c_pn : Int32) : Option (Int64 × (Nat → Nat → Int64) × Int32 × Int64 × (Nat → Int32) × (Nat → Int32) × (Nat → Int32) × (Nat → Int32) × (Nat → Int32) × (Nat → Int32) × Int32) := kb (pX5_placementTrouble a1 a2 g_vc g_ec g_F g_T g_X g_Z c_re c_cx c_cy c_px c_py c_pn) (fun v1 => (if v1.1 = 0 then kb (pX3_solve p_R p_un p_sc g_vc g_ec g_F g_T g_X g_Z) (fun v4 => kb (pX3_top a1 a2 v4.1 v4.2.1 v4.2.2) (fun v6 => some (v6, v4.1, v4.2.1, v4.2.2, r_er, v1.2.1, v1.2.2.1, v1.2.2.2.1, v1.2.2.2.2.1, v1.2.2.2.2.2.1, v1.2.2.2.2.2.2))) else kb (pX5_fail v1.1 r_er) (fun v8 => some ((v8.1 : Int32).toInt64, p_R, p_un, p_sc, v8.2, v1.2.1, v1.2.2.1, v1.2.2.2.1, v1.2.2.2.2.1, v1.2.2.2.2.2.1, v1.2.2.2.2.2.2))))
def rmX5_numerator : Room := { frames := 5, cells := 0, slots := 0, locals := 112 }
theorem hdV_X5_numerator : yX5_numerator.cls = RX5 ∧ yX5_numerator.cls ≠ "java/lang/invoke/MethodHandle" ∧ yX5_numerator.cls ≠ "java/lang/invoke/VarHandle" ∧ (parseMethodDescriptor yX5_numerator.desc).map (fun d => d.parameters.length) = some 2 := ⟨rfl, by decide +kernel, by decide +kernel, by decide +kernel⟩
set_option maxHeartbeats 4000000 in
set_option maxRecDepth 100000 in
theorem kX5_numerator (l : Launch) (Y : KY) (xa : Nat) (ra : Nat) (ga : Nat → Nat) (da : Nat → Nat) (va : Nat) (ea : Nat → Nat) (sa : Nat → Nat) (ca : Nat → Nat) (pa : Nat → Nat) (pr : Nat → Nat) (p_R : Nat → Nat → Int64) (p_un : Int32) (p_sc : Int64) (t_scn : Int32) (r_er : Nat → Int32) (g_vc : Int32) (g_ec : Int32) (g_F : Nat → Int32) (g_T : Nat → Int32) (g_X : Nat → Int32) (g_Z : Nat → Int32) (c_re : Nat → Int32) (c_cx : Nat → Int32) (c_cy : Nat → Int32) (c_px : Nat → Int32) (c_py : Nat → Int32) (c_pn : Int32) (a1 : Int32) (a2 : Int32) {o : Int64 × (Nat → Nat → Int64) × Int32 × Int64 × (Nat → Int32) × (Nat → Int32) × (Nat → Int32) × (Nat → Int32) × (Nat → Int32) × (Nat → Int32) × Int32} (h : pX5_numerator a1 a2 p_R p_un p_sc r_er g_vc g_ec g_F g_T g_X g_Z c_re c_cx c_cy c_px c_py c_pn = some o) : CtL l yX5_numerator wsX5_numerator rmX5_numerator Y [.ref xa, .int a1, .int a2] (kfl [gP Y pa pr p_R p_un p_sc, gT xa ra ga da va ea sa ca pa t_scn, gR Y ra r_er, gG Y ga g_vc g_ec g_F g_T g_X g_Z, gC Y ca c_re c_cx c_cy c_px c_py c_pn]) o.1 (kfl [gP Y pa pr o.2.1 o.2.2.1 o.2.2.2.1, gT xa ra ga da va ea sa ca pa t_scn, gR Y ra o.2.2.2.2.1, gG Y ga g_vc g_ec g_F g_T g_X g_Z, gC Y ca o.2.2.2.2.2.1 o.2.2.2.2.2.2.1 o.2.2.2.2.2.2.2.1 o.2.2.2.2.2.2.2.2.1 o.2.2.2.2.2.2.2.2.2.1 o.2.2.2.2.2.2.2.2.2.2]) := by
  refine ctL_intro (cc := cX5_numerator) (maxL := 4) (own := RX5) (by decide +kernel) rfl rfl (Nat.le_of_ble_eq_true rfl) rfl ?_
  intro X A hX _ hret
  have hin5 : ∀ w ∈ u_ws RX5 TX5 9, w ∈ wsX5_numerator := by decide +kernel
  have f0 := hX.w (Cond.fieldLink RX5 55 "PeriodicNet" "placement" "LPeriodicNet$Placement;") (by decide +kernel)
  have f1 := hX.w (Cond.fieldLink RX5 16 "PeriodicNet" "graph" "LPeriodicNet$Graph;") (by decide +kernel)
  unfold pX5_numerator at h
  refine kw_lv (lv' := [(0, .ref xa), (1, .int a1), (2, .int a2)]) [0, 1, 2] rfl ?_
  refine kw_aload_n hX 0 dX5_numerator_0 rfl 0 rfl ?_
  refine kw_iload_n hX 1 dX5_numerator_1 rfl 1 rfl ?_
  refine kw_iload_n hX 2 dX5_numerator_2 rfl 2 rfl ?_
  obtain ⟨v1, hc2, h⟩ := kb_some h
  refine kw_callV_I hX 3 (As := [.int a1, .int a2]) (rest := []) (kX5_placementTrouble (kx_l X) Y xa ra ga da va ea sa ca pa t_scn g_vc g_ec g_F g_T g_X g_Z c_re c_cx c_cy c_px c_py c_pn a1 a2 hc2) gX5_numerator_X5_placementTrouble rfl 2 rfl hdV_X5_placementTrouble ⟨rfl, rfl⟩ ⟨by decide, by decide⟩ ⟨Nat.zero_le _, Nat.zero_le _⟩ rfl (Nat.le_of_ble_eq_true rfl) [1, 3, 4] (by decide) rfl (kfc rfl (kfc rfl (kfc gC_f kfn0))) (gs1 := [gP Y pa pr p_R p_un p_sc, gT xa ra ga da va ea sa ca pa t_scn, gR Y ra r_er, gG Y ga g_vc g_ec g_F g_T g_X g_Z, gC Y ca v1.2.1 v1.2.2.1 v1.2.2.2.1 v1.2.2.2.2.1 v1.2.2.2.2.2.1 v1.2.2.2.2.2.2]) rfl 7 5 rfl rfl rfl dX5_numerator_3 ?_
  refine kw_istore_n (lv' := [(3, .int v1.1), (0, .ref xa), (1, .int a1), (2, .int a2)]) hX 6 dX5_numerator_6 rfl (by decide) rfl ?_
  refine kw_iload_n hX 7 dX5_numerator_7 rfl 0 rfl ?_
  refine kw_if_eq hX 8 18 dX5_numerator_8 (by decide) (fun c3 => ?_) (fun c3 => ?_)
  · have h := kif_t c3 h
    refine kw_aload_n hX 18 dX5_numerator_18 rfl 1 rfl ?_
    refine kw_get hX 19 (C := RX5) (T := TX5) (N := 9) hin5 8 f0 (fun _ h => h) 7 rfl rfl (by decide) rfl dX5_numerator_19 ?_
    refine kw_aload_n hX 22 dX5_numerator_22 rfl 1 rfl ?_
    refine kw_get hX 23 (C := RX5) (T := TX5) (N := 9) hin5 1 f1 (fun _ h => h) 7 rfl rfl (by decide) rfl dX5_numerator_23 ?_
    obtain ⟨v4, hc5, h⟩ := kb_some h
    refine kw_callV_V hX 26 (As := [.ref (ga 0)]) (rest := []) (kX3_solve (kx_l X) Y pa pr ga p_R p_un p_sc g_vc g_ec g_F g_T g_X g_Z hc5) gX5_numerator_X3_solve rfl 1 rfl hdV_X3_solve ⟨rfl, rfl⟩ ⟨by decide, by decide⟩ ⟨Nat.zero_le _, Nat.zero_le _⟩ rfl (Nat.le_of_ble_eq_true rfl) [0, 3] (by decide) rfl (kfc gP_f (kfc rfl kfn0)) (gs1 := [gP Y pa pr v4.1 v4.2.1 v4.2.2, gT xa ra ga da va ea sa ca pa t_scn, gR Y ra r_er, gG Y ga g_vc g_ec g_F g_T g_X g_Z, gC Y ca v1.2.1 v1.2.2.1 v1.2.2.2.1 v1.2.2.2.2.1 v1.2.2.2.2.2.1 v1.2.2.2.2.2.2]) rfl 0 3 rfl rfl rfl dX5_numerator_26 ?_
    refine kw_aload_n hX 29 dX5_numerator_29 rfl 1 rfl ?_
    refine kw_get hX 30 (C := RX5) (T := TX5) (N := 9) hin5 8 f0 (fun _ h => h) 7 rfl rfl (by decide) rfl dX5_numerator_30 ?_
    refine kw_iload_n hX 33 dX5_numerator_33 rfl 2 rfl ?_
    refine kw_iload_n hX 34 dX5_numerator_34 rfl 3 rfl ?_
    obtain ⟨v6, hc7, h⟩ := kb_some h
    refine kw_callV_L hX 35 (As := [.int a1, .int a2]) (rest := []) (kX3_top (kx_l X) Y pa pr v4.1 v4.2.1 v4.2.2 a1 a2 hc7) gX5_numerator_X3_top rfl 2 rfl hdV_X3_top ⟨rfl, rfl⟩ ⟨by decide, by decide⟩ ⟨Nat.zero_le _, Nat.zero_le _⟩ rfl (Nat.le_of_ble_eq_true rfl) [0] (by decide) rfl (kfc rfl kfn0) (gs1 := [gP Y pa pr v4.1 v4.2.1 v4.2.2, gT xa ra ga da va ea sa ca pa t_scn, gR Y ra r_er, gG Y ga g_vc g_ec g_F g_T g_X g_Z, gC Y ca v1.2.1 v1.2.2.1 v1.2.2.2.1 v1.2.2.2.2.1 v1.2.2.2.2.2.1 v1.2.2.2.2.2.2]) rfl 0 3 rfl rfl rfl dX5_numerator_35 ?_
    obtain rfl := Option.some.inj h
    exact hret _ _ dX5_numerator_38
  · have h := kif_f c3 h
    refine kw_aload_n hX 11 dX5_numerator_11 rfl 1 rfl ?_
    refine kw_iload_n hX 12 dX5_numerator_12 rfl 0 rfl ?_
    obtain ⟨v8, hc9, h⟩ := kb_some h
    refine kw_callV_I hX 13 (As := [.int v1.1]) (rest := []) (kX5_fail (kx_l X) Y xa ra ga da va ea sa ca pa t_scn r_er v1.1 hc9) gX5_numerator_X5_fail rfl 1 rfl hdV_X5_fail ⟨rfl, rfl⟩ ⟨by decide, by decide⟩ ⟨Nat.zero_le _, Nat.zero_le _⟩ rfl (Nat.le_of_ble_eq_true rfl) [1, 2] (by decide) rfl (kfc rfl (kfc gR_f kfn0)) (gs1 := [gP Y pa pr p_R p_un p_sc, gT xa ra ga da va ea sa ca pa t_scn, gR Y ra v8.2, gG Y ga g_vc g_ec g_F g_T g_X g_Z, gC Y ca v1.2.1 v1.2.2.1 v1.2.2.2.1 v1.2.2.2.2.1 v1.2.2.2.2.2.1 v1.2.2.2.2.2.2]) rfl 7 5 rfl rfl rfl dX5_numerator_13 ?_
    refine kw_i2l hX 16 dX5_numerator_16 ?_
    obtain rfl := Option.some.inj h
    exact hret _ _ dX5_numerator_17
def pX5_denominator (a1 : Int32) (a2 : Int32) (p_R : Nat → Nat → Int64) (p_un : Int32) (p_sc : Int64) (r_er : Nat → Int32) (g_vc : Int32) (g_ec : Int32) (g_F : Nat → Int32) (g_T : Nat → Int32) (g_X : Nat → Int32) (g_Z : Nat → Int32) (c_re : Nat → Int32) (c_cx : Nat → Int32) (c_cy : Nat → Int32) (c_px : Nat → Int32) (c_py : Nat → Int32) (c_pn : Int32) : Option (Int64 × (Nat → Nat → Int64) × Int32 × Int64 × (Nat → Int32) × (Nat → Int32) × (Nat → Int32) × (Nat → Int32) × (Nat → Int32) × (Nat → Int32) × Int32) := kb (pX5_placementTrouble a1 a2 g_vc g_ec g_F g_T g_X g_Z c_re c_cx c_cy c_px c_py c_pn) (fun v1 => (if v1.1 = 0 then kb (pX3_solve p_R p_un p_sc g_vc g_ec g_F g_T g_X g_Z) (fun v4 => kb (pX3_bottom a1 a2 v4.1 v4.2.1 v4.2.2) (fun v6 => some (v6, v4.1, v4.2.1, v4.2.2, r_er, v1.2.1, v1.2.2.1, v1.2.2.2.1, v1.2.2.2.2.1, v1.2.2.2.2.2.1, v1.2.2.2.2.2.2))) else kb (pX5_fail v1.1 r_er) (fun v8 => some ((v8.1 : Int32).toInt64, p_R, p_un, p_sc, v8.2, v1.2.1, v1.2.2.1, v1.2.2.2.1, v1.2.2.2.2.1, v1.2.2.2.2.2.1, v1.2.2.2.2.2.2))))
def rmX5_denominator : Room := { frames := 5, cells := 0, slots := 0, locals := 112 }
theorem hdV_X5_denominator : yX5_denominator.cls = RX5 ∧ yX5_denominator.cls ≠ "java/lang/invoke/MethodHandle" ∧ yX5_denominator.cls ≠ "java/lang/invoke/VarHandle" ∧ (parseMethodDescriptor yX5_denominator.desc).map (fun d => d.parameters.length) = some 2 := ⟨rfl, by decide +kernel, by decide +kernel, by decide +kernel⟩
set_option maxHeartbeats 4000000 in
set_option maxRecDepth 100000 in
theorem kX5_denominator (l : Launch) (Y : KY) (xa : Nat) (ra : Nat) (ga : Nat → Nat) (da : Nat → Nat) (va : Nat) (ea : Nat → Nat) (sa : Nat → Nat) (ca : Nat → Nat) (pa : Nat → Nat) (pr : Nat → Nat) (p_R : Nat → Nat → Int64) (p_un : Int32) (p_sc : Int64) (t_scn : Int32) (r_er : Nat → Int32) (g_vc : Int32) (g_ec : Int32) (g_F : Nat → Int32) (g_T : Nat → Int32) (g_X : Nat → Int32) (g_Z : Nat → Int32) (c_re : Nat → Int32) (c_cx : Nat → Int32) (c_cy : Nat → Int32) (c_px : Nat → Int32) (c_py : Nat → Int32) (c_pn : Int32) (a1 : Int32) (a2 : Int32) {o : Int64 × (Nat → Nat → Int64) × Int32 × Int64 × (Nat → Int32) × (Nat → Int32) × (Nat → Int32) × (Nat → Int32) × (Nat → Int32) × (Nat → Int32) × Int32} (h : pX5_denominator a1 a2 p_R p_un p_sc r_er g_vc g_ec g_F g_T g_X g_Z c_re c_cx c_cy c_px c_py c_pn = some o) : CtL l yX5_denominator wsX5_denominator rmX5_denominator Y [.ref xa, .int a1, .int a2] (kfl [gP Y pa pr p_R p_un p_sc, gT xa ra ga da va ea sa ca pa t_scn, gR Y ra r_er, gG Y ga g_vc g_ec g_F g_T g_X g_Z, gC Y ca c_re c_cx c_cy c_px c_py c_pn]) o.1 (kfl [gP Y pa pr o.2.1 o.2.2.1 o.2.2.2.1, gT xa ra ga da va ea sa ca pa t_scn, gR Y ra o.2.2.2.2.1, gG Y ga g_vc g_ec g_F g_T g_X g_Z, gC Y ca o.2.2.2.2.2.1 o.2.2.2.2.2.2.1 o.2.2.2.2.2.2.2.1 o.2.2.2.2.2.2.2.2.1 o.2.2.2.2.2.2.2.2.2.1 o.2.2.2.2.2.2.2.2.2.2]) := by
  refine ctL_intro (cc := cX5_denominator) (maxL := 4) (own := RX5) (by decide +kernel) rfl rfl (Nat.le_of_ble_eq_true rfl) rfl ?_
  intro X A hX _ hret
  have hin5 : ∀ w ∈ u_ws RX5 TX5 9, w ∈ wsX5_denominator := by decide +kernel
  have f0 := hX.w (Cond.fieldLink RX5 55 "PeriodicNet" "placement" "LPeriodicNet$Placement;") (by decide +kernel)
  have f1 := hX.w (Cond.fieldLink RX5 16 "PeriodicNet" "graph" "LPeriodicNet$Graph;") (by decide +kernel)
  unfold pX5_denominator at h
  refine kw_lv (lv' := [(0, .ref xa), (1, .int a1), (2, .int a2)]) [0, 1, 2] rfl ?_
  refine kw_aload_n hX 0 dX5_denominator_0 rfl 0 rfl ?_
  refine kw_iload_n hX 1 dX5_denominator_1 rfl 1 rfl ?_
  refine kw_iload_n hX 2 dX5_denominator_2 rfl 2 rfl ?_
  obtain ⟨v1, hc2, h⟩ := kb_some h
  refine kw_callV_I hX 3 (As := [.int a1, .int a2]) (rest := []) (kX5_placementTrouble (kx_l X) Y xa ra ga da va ea sa ca pa t_scn g_vc g_ec g_F g_T g_X g_Z c_re c_cx c_cy c_px c_py c_pn a1 a2 hc2) gX5_denominator_X5_placementTrouble rfl 2 rfl hdV_X5_placementTrouble ⟨rfl, rfl⟩ ⟨by decide, by decide⟩ ⟨Nat.zero_le _, Nat.zero_le _⟩ rfl (Nat.le_of_ble_eq_true rfl) [1, 3, 4] (by decide) rfl (kfc rfl (kfc rfl (kfc gC_f kfn0))) (gs1 := [gP Y pa pr p_R p_un p_sc, gT xa ra ga da va ea sa ca pa t_scn, gR Y ra r_er, gG Y ga g_vc g_ec g_F g_T g_X g_Z, gC Y ca v1.2.1 v1.2.2.1 v1.2.2.2.1 v1.2.2.2.2.1 v1.2.2.2.2.2.1 v1.2.2.2.2.2.2]) rfl 7 5 rfl rfl rfl dX5_denominator_3 ?_
  refine kw_istore_n (lv' := [(3, .int v1.1), (0, .ref xa), (1, .int a1), (2, .int a2)]) hX 6 dX5_denominator_6 rfl (by decide) rfl ?_
  refine kw_iload_n hX 7 dX5_denominator_7 rfl 0 rfl ?_
  refine kw_if_eq hX 8 18 dX5_denominator_8 (by decide) (fun c3 => ?_) (fun c3 => ?_)
  · have h := kif_t c3 h
    refine kw_aload_n hX 18 dX5_denominator_18 rfl 1 rfl ?_
    refine kw_get hX 19 (C := RX5) (T := TX5) (N := 9) hin5 8 f0 (fun _ h => h) 7 rfl rfl (by decide) rfl dX5_denominator_19 ?_
    refine kw_aload_n hX 22 dX5_denominator_22 rfl 1 rfl ?_
    refine kw_get hX 23 (C := RX5) (T := TX5) (N := 9) hin5 1 f1 (fun _ h => h) 7 rfl rfl (by decide) rfl dX5_denominator_23 ?_
    obtain ⟨v4, hc5, h⟩ := kb_some h
    refine kw_callV_V hX 26 (As := [.ref (ga 0)]) (rest := []) (kX3_solve (kx_l X) Y pa pr ga p_R p_un p_sc g_vc g_ec g_F g_T g_X g_Z hc5) gX5_denominator_X3_solve rfl 1 rfl hdV_X3_solve ⟨rfl, rfl⟩ ⟨by decide, by decide⟩ ⟨Nat.zero_le _, Nat.zero_le _⟩ rfl (Nat.le_of_ble_eq_true rfl) [0, 3] (by decide) rfl (kfc gP_f (kfc rfl kfn0)) (gs1 := [gP Y pa pr v4.1 v4.2.1 v4.2.2, gT xa ra ga da va ea sa ca pa t_scn, gR Y ra r_er, gG Y ga g_vc g_ec g_F g_T g_X g_Z, gC Y ca v1.2.1 v1.2.2.1 v1.2.2.2.1 v1.2.2.2.2.1 v1.2.2.2.2.2.1 v1.2.2.2.2.2.2]) rfl 0 3 rfl rfl rfl dX5_denominator_26 ?_
    refine kw_aload_n hX 29 dX5_denominator_29 rfl 1 rfl ?_
    refine kw_get hX 30 (C := RX5) (T := TX5) (N := 9) hin5 8 f0 (fun _ h => h) 7 rfl rfl (by decide) rfl dX5_denominator_30 ?_
    refine kw_iload_n hX 33 dX5_denominator_33 rfl 2 rfl ?_
    refine kw_iload_n hX 34 dX5_denominator_34 rfl 3 rfl ?_
    obtain ⟨v6, hc7, h⟩ := kb_some h
    refine kw_callV_L hX 35 (As := [.int a1, .int a2]) (rest := []) (kX3_bottom (kx_l X) Y pa pr v4.1 v4.2.1 v4.2.2 a1 a2 hc7) gX5_denominator_X3_bottom rfl 2 rfl hdV_X3_bottom ⟨rfl, rfl⟩ ⟨by decide, by decide⟩ ⟨Nat.zero_le _, Nat.zero_le _⟩ rfl (Nat.le_of_ble_eq_true rfl) [0] (by decide) rfl (kfc rfl kfn0) (gs1 := [gP Y pa pr v4.1 v4.2.1 v4.2.2, gT xa ra ga da va ea sa ca pa t_scn, gR Y ra r_er, gG Y ga g_vc g_ec g_F g_T g_X g_Z, gC Y ca v1.2.1 v1.2.2.1 v1.2.2.2.1 v1.2.2.2.2.1 v1.2.2.2.2.2.1 v1.2.2.2.2.2.2]) rfl 0 3 rfl rfl rfl dX5_denominator_35 ?_
    obtain rfl := Option.some.inj h
    exact hret _ _ dX5_denominator_38
  · have h := kif_f c3 h
    refine kw_aload_n hX 11 dX5_denominator_11 rfl 1 rfl ?_
    refine kw_iload_n hX 12 dX5_denominator_12 rfl 0 rfl ?_
    obtain ⟨v8, hc9, h⟩ := kb_some h
    refine kw_callV_I hX 13 (As := [.int v1.1]) (rest := []) (kX5_fail (kx_l X) Y xa ra ga da va ea sa ca pa t_scn r_er v1.1 hc9) gX5_denominator_X5_fail rfl 1 rfl hdV_X5_fail ⟨rfl, rfl⟩ ⟨by decide, by decide⟩ ⟨Nat.zero_le _, Nat.zero_le _⟩ rfl (Nat.le_of_ble_eq_true rfl) [1, 2] (by decide) rfl (kfc rfl (kfc gR_f kfn0)) (gs1 := [gP Y pa pr p_R p_un p_sc, gT xa ra ga da va ea sa ca pa t_scn, gR Y ra v8.2, gG Y ga g_vc g_ec g_F g_T g_X g_Z, gC Y ca v1.2.1 v1.2.2.1 v1.2.2.2.1 v1.2.2.2.2.1 v1.2.2.2.2.2.1 v1.2.2.2.2.2.2]) rfl 7 5 rfl rfl rfl dX5_denominator_13 ?_
    refine kw_i2l hX 16 dX5_denominator_16 ?_
    obtain rfl := Option.some.inj h
    exact hret _ _ dX5_denominator_17
def pX5_collide (a1 : Int32) (a2 : Int32) (p_R : Nat → Nat → Int64) (p_un : Int32) (p_sc : Int64) (r_er : Nat → Int32) (g_vc : Int32) (g_ec : Int32) (g_F : Nat → Int32) (g_T : Nat → Int32) (g_X : Nat → Int32) (g_Z : Nat → Int32) (c_re : Nat → Int32) (c_cx : Nat → Int32) (c_cy : Nat → Int32) (c_px : Nat → Int32) (c_py : Nat → Int32) (c_pn : Int32) : Option (Int32 × (Nat → Nat → Int64) × Int32 × Int64 × (Nat → Int32) × (Nat → Int32) × (Nat → Int32) × (Nat → Int32) × (Nat → Int32) × (Nat → Int32) × Int32) := kb (pX5_isVertex a1 g_vc) (fun v1 => (if v1 = 0 then kb (pX5_fail (-2) r_er) (fun v4 => some (v4.1, p_R, p_un, p_sc, v4.2, c_re, c_cx, c_cy, c_px, c_py, c_pn)) else kb (pX5_isVertex a2 g_vc) (fun v6 => (if v6 = 0 then kb (pX5_fail (-2) r_er) (fun v9 => some (v9.1, p_R, p_un, p_sc, v9.2, c_re, c_cx, c_cy, c_px, c_py, c_pn)) else (if a1 = a2 then kb (pX5_fail (-2) r_er) (fun v22 => some (v22.1, p_R, p_un, p_sc, v22.2, c_re, c_cx, c_cy, c_px, c_py, c_pn)) else kb (pX5_isOnePiece g_vc g_ec g_F g_T g_X g_Z c_re c_cx c_cy c_px c_py c_pn) (fun v12 => (if v12.1 = 0 then kb (pX5_fail (-6) r_er) (fun v20 => some (v20.1, p_R, p_un, p_sc, v20.2, v12.2.1, v12.2.2.1, v12.2.2.2.1, v12.2.2.2.2.1, v12.2.2.2.2.2.1, v12.2.2.2.2.2.2)) else kb (pX3_solve p_R p_un p_sc g_vc g_ec g_F g_T g_X g_Z) (fun v15 => kb (pX3_meet a1 a2 v15.1 v15.2.1 v15.2.2) (fun v17 => (if v17 = 0 then some (0, v15.1, v15.2.1, v15.2.2, r_er, v12.2.1, v12.2.2.1, v12.2.2.2.1, v12.2.2.2.2.1, v12.2.2.2.2.2.1, v12.2.2.2.2.2.2) else some (1, v15.1, v15.2.1, v15.2.2, r_er, v12.2.1, v12.2.2.1, v12.2.2.2.1, v12.2.2.2.2.1, v12.2.2.2.2.2.1, v12.2.2.2.2.2.2)))))))))))
def rmX5_collide : Room := { frames := 4, cells := 0, slots := 0, locals := 90 }
theorem hdV_X5_collide : yX5_collide.cls = RX5 ∧ yX5_collide.cls ≠ "java/lang/invoke/MethodHandle" ∧ yX5_collide.cls ≠ "java/lang/invoke/VarHandle" ∧ (parseMethodDescriptor yX5_collide.desc).map (fun d => d.parameters.length) = some 2 := ⟨rfl, by decide +kernel, by decide +kernel, by decide +kernel⟩
set_option maxHeartbeats 4000000 in
set_option maxRecDepth 100000 in
theorem kX5_collide (l : Launch) (Y : KY) (xa : Nat) (ra : Nat) (ga : Nat → Nat) (da : Nat → Nat) (va : Nat) (ea : Nat → Nat) (sa : Nat → Nat) (ca : Nat → Nat) (pa : Nat → Nat) (pr : Nat → Nat) (p_R : Nat → Nat → Int64) (p_un : Int32) (p_sc : Int64) (t_scn : Int32) (r_er : Nat → Int32) (g_vc : Int32) (g_ec : Int32) (g_F : Nat → Int32) (g_T : Nat → Int32) (g_X : Nat → Int32) (g_Z : Nat → Int32) (c_re : Nat → Int32) (c_cx : Nat → Int32) (c_cy : Nat → Int32) (c_px : Nat → Int32) (c_py : Nat → Int32) (c_pn : Int32) (a1 : Int32) (a2 : Int32) {o : Int32 × (Nat → Nat → Int64) × Int32 × Int64 × (Nat → Int32) × (Nat → Int32) × (Nat → Int32) × (Nat → Int32) × (Nat → Int32) × (Nat → Int32) × Int32} (h : pX5_collide a1 a2 p_R p_un p_sc r_er g_vc g_ec g_F g_T g_X g_Z c_re c_cx c_cy c_px c_py c_pn = some o) : CtI l yX5_collide wsX5_collide rmX5_collide Y [.ref xa, .int a1, .int a2] (kfl [gP Y pa pr p_R p_un p_sc, gT xa ra ga da va ea sa ca pa t_scn, gR Y ra r_er, gG Y ga g_vc g_ec g_F g_T g_X g_Z, gC Y ca c_re c_cx c_cy c_px c_py c_pn]) o.1 (kfl [gP Y pa pr o.2.1 o.2.2.1 o.2.2.2.1, gT xa ra ga da va ea sa ca pa t_scn, gR Y ra o.2.2.2.2.1, gG Y ga g_vc g_ec g_F g_T g_X g_Z, gC Y ca o.2.2.2.2.2.1 o.2.2.2.2.2.2.1 o.2.2.2.2.2.2.2.1 o.2.2.2.2.2.2.2.2.1 o.2.2.2.2.2.2.2.2.2.1 o.2.2.2.2.2.2.2.2.2.2]) := by
  refine ctI_intro (cc := cX5_collide) (maxL := 3) (own := RX5) (by decide +kernel) rfl rfl (Nat.le_of_ble_eq_true rfl) rfl ?_
  intro X A hX _ hret
  have hin5 : ∀ w ∈ u_ws RX5 TX5 9, w ∈ wsX5_collide := by decide +kernel
  have f0 := hX.w (Cond.fieldLink RX5 55 "PeriodicNet" "placement" "LPeriodicNet$Placement;") (by decide +kernel)
  have f1 := hX.w (Cond.fieldLink RX5 16 "PeriodicNet" "graph" "LPeriodicNet$Graph;") (by decide +kernel)
  unfold pX5_collide at h
  refine kw_lv (lv' := [(0, .ref xa), (1, .int a1), (2, .int a2)]) [0, 1, 2] rfl ?_
  refine kw_aload_n hX 0 dX5_collide_0 rfl 0 rfl ?_
  refine kw_iload_n hX 1 dX5_collide_1 rfl 1 rfl ?_
  obtain ⟨v1, hc2, h⟩ := kb_some h
  refine kw_callV_I hX 2 (As := [.int a1]) (rest := []) (kX5_isVertex (kx_l X) Y xa ra ga da va ea sa ca pa t_scn g_vc g_ec g_F g_T g_X g_Z a1 hc2) gX5_collide_X5_isVertex rfl 1 rfl hdV_X5_isVertex ⟨rfl, rfl⟩ ⟨by decide, by decide⟩ ⟨Nat.zero_le _, Nat.zero_le _⟩ rfl (Nat.le_of_ble_eq_true rfl) [1, 3] (by decide) rfl (kfc rfl (kfc rfl kfn0)) (gs1 := [gP Y pa pr p_R p_un p_sc, gT xa ra ga da va ea sa ca pa t_scn, gR Y ra r_er, gG Y ga g_vc g_ec g_F g_T g_X g_Z, gC Y ca c_re c_cx c_cy c_px c_py c_pn]) rfl 7 5 rfl rfl rfl dX5_collide_2 ?_
  refine kw_if_eq hX 5 21 dX5_collide_5 (by decide) (fun c3 => ?_) (fun c3 => ?_)
  · have h := kif_t c3 h
    refine kw_aload_n hX 21 dX5_collide_21 rfl 0 rfl ?_
    refine kw_bipush hX 22 dX5_collide_22 kcb_m2 ?_
    obtain ⟨v4, hc5, h⟩ := kb_some h
    refine kw_callV_I hX 24 (As := [.int (-2)]) (rest := []) (kX5_fail (kx_l X) Y xa ra ga da va ea sa ca pa t_scn r_er (-2) hc5) gX5_collide_X5_fail rfl 1 rfl hdV_X5_fail ⟨rfl, rfl⟩ ⟨by decide, by decide⟩ ⟨Nat.zero_le _, Nat.zero_le _⟩ rfl (Nat.le_of_ble_eq_true rfl) [1, 2] (by decide) rfl (kfc rfl (kfc gR_f kfn0)) (gs1 := [gP Y pa pr p_R p_un p_sc, gT xa ra ga da va ea sa ca pa t_scn, gR Y ra v4.2, gG Y ga g_vc g_ec g_F g_T g_X g_Z, gC Y ca c_re c_cx c_cy c_px c_py c_pn]) rfl 7 5 rfl rfl rfl dX5_collide_24 ?_
    obtain rfl := Option.some.inj h
    exact hret _ _ dX5_collide_27 rfl
  · have h := kif_f c3 h
    refine kw_aload_n hX 8 dX5_collide_8 rfl 0 rfl ?_
    refine kw_iload_n hX 9 dX5_collide_9 rfl 2 rfl ?_
    obtain ⟨v6, hc7, h⟩ := kb_some h
    refine kw_callV_I hX 10 (As := [.int a2]) (rest := []) (kX5_isVertex (kx_l X) Y xa ra ga da va ea sa ca pa t_scn g_vc g_ec g_F g_T g_X g_Z a2 hc7) gX5_collide_X5_isVertex rfl 1 rfl hdV_X5_isVertex ⟨rfl, rfl⟩ ⟨by decide, by decide⟩ ⟨Nat.zero_le _, Nat.zero_le _⟩ rfl (Nat.le_of_ble_eq_true rfl) [1, 3] (by decide) rfl (kfc rfl (kfc rfl kfn0)) (gs1 := [gP Y pa pr p_R p_un p_sc, gT xa ra ga da va ea sa ca pa t_scn, gR Y ra r_er, gG Y ga g_vc g_ec g_F g_T g_X g_Z, gC Y ca c_re c_cx c_cy c_px c_py c_pn]) rfl 7 5 rfl rfl rfl dX5_collide_10 ?_
    refine kw_if_eq hX 13 21 dX5_collide_13 (by decide) (fun c8 => ?_) (fun c8 => ?_)
    · have h := kif_t c8 h
      refine kw_aload_n hX 21 dX5_collide_21 rfl 0 rfl ?_
      refine kw_bipush hX 22 dX5_collide_22 kcb_m2 ?_
      obtain ⟨v9, hc10, h⟩ := kb_some h
      refine kw_callV_I hX 24 (As := [.int (-2)]) (rest := []) (kX5_fail (kx_l X) Y xa ra ga da va ea sa ca pa t_scn r_er (-2) hc10) gX5_collide_X5_fail rfl 1 rfl hdV_X5_fail ⟨rfl, rfl⟩ ⟨by decide, by decide⟩ ⟨Nat.zero_le _, Nat.zero_le _⟩ rfl (Nat.le_of_ble_eq_true rfl) [1, 2] (by decide) rfl (kfc rfl (kfc gR_f kfn0)) (gs1 := [gP Y pa pr p_R p_un p_sc, gT xa ra ga da va ea sa ca pa t_scn, gR Y ra v9.2, gG Y ga g_vc g_ec g_F g_T g_X g_Z, gC Y ca c_re c_cx c_cy c_px c_py c_pn]) rfl 7 5 rfl rfl rfl dX5_collide_24 ?_
      obtain rfl := Option.some.inj h
      exact hret _ _ dX5_collide_27 rfl
    · have h := kif_f c8 h
      refine kw_iload_n hX 16 dX5_collide_16 rfl 1 rfl ?_
      refine kw_iload_n hX 17 dX5_collide_17 rfl 2 rfl ?_
      refine kw_icmp_ne hX 18 28 dX5_collide_18 (by decide) (fun c11 => ?_) (fun c11 => ?_)
      · have h := kif_f c11 h
        refine kw_aload_n hX 28 dX5_collide_28 rfl 0 rfl ?_
        obtain ⟨v12, hc13, h⟩ := kb_some h
        refine kw_callV_I hX 29 (As := []) (rest := []) (kX5_isOnePiece (kx_l X) Y xa ra ga da va ea sa ca pa t_scn g_vc g_ec g_F g_T g_X g_Z c_re c_cx c_cy c_px c_py c_pn hc13) gX5_collide_X5_isOnePiece rfl 0 rfl hdV_X5_isOnePiece ⟨rfl, rfl⟩ ⟨by decide, by decide⟩ ⟨Nat.zero_le _, Nat.zero_le _⟩ rfl (Nat.le_of_ble_eq_true rfl) [1, 3, 4] (by decide) rfl (kfc rfl (kfc rfl (kfc gC_f kfn0))) (gs1 := [gP Y pa pr p_R p_un p_sc, gT xa ra ga da va ea sa ca pa t_scn, gR Y ra r_er, gG Y ga g_vc g_ec g_F g_T g_X g_Z, gC Y ca v12.2.1 v12.2.2.1 v12.2.2.2.1 v12.2.2.2.2.1 v12.2.2.2.2.2.1 v12.2.2.2.2.2.2]) rfl 7 5 rfl rfl rfl dX5_collide_29 ?_
        refine kw_if_ne hX 32 42 dX5_collide_32 (by decide) (fun c14 => ?_) (fun c14 => ?_)
        · have h := kif_f c14 h
          refine kw_aload_n hX 42 dX5_collide_42 rfl 0 rfl ?_
          refine kw_get hX 43 (C := RX5) (T := TX5) (N := 9) hin5 8 f0 (fun _ h => h) 7 rfl rfl (by decide) rfl dX5_collide_43 ?_
          refine kw_aload_n hX 46 dX5_collide_46 rfl 0 rfl ?_
          refine kw_get hX 47 (C := RX5) (T := TX5) (N := 9) hin5 1 f1 (fun _ h => h) 7 rfl rfl (by decide) rfl dX5_collide_47 ?_
          obtain ⟨v15, hc16, h⟩ := kb_some h
          refine kw_callV_V hX 50 (As := [.ref (ga 0)]) (rest := []) (kX3_solve (kx_l X) Y pa pr ga p_R p_un p_sc g_vc g_ec g_F g_T g_X g_Z hc16) gX5_collide_X3_solve rfl 1 rfl hdV_X3_solve ⟨rfl, rfl⟩ ⟨by decide, by decide⟩ ⟨Nat.zero_le _, Nat.zero_le _⟩ rfl (Nat.le_of_ble_eq_true rfl) [0, 3] (by decide) rfl (kfc gP_f (kfc rfl kfn0)) (gs1 := [gP Y pa pr v15.1 v15.2.1 v15.2.2, gT xa ra ga da va ea sa ca pa t_scn, gR Y ra r_er, gG Y ga g_vc g_ec g_F g_T g_X g_Z, gC Y ca v12.2.1 v12.2.2.1 v12.2.2.2.1 v12.2.2.2.2.1 v12.2.2.2.2.2.1 v12.2.2.2.2.2.2]) rfl 0 3 rfl rfl rfl dX5_collide_50 ?_
          refine kw_aload_n hX 53 dX5_collide_53 rfl 0 rfl ?_
          refine kw_get hX 54 (C := RX5) (T := TX5) (N := 9) hin5 8 f0 (fun _ h => h) 7 rfl rfl (by decide) rfl dX5_collide_54 ?_
          refine kw_iload_n hX 57 dX5_collide_57 rfl 1 rfl ?_
          refine kw_iload_n hX 58 dX5_collide_58 rfl 2 rfl ?_
          obtain ⟨v17, hc18, h⟩ := kb_some h
          refine kw_callV_I hX 59 (As := [.int a1, .int a2]) (rest := []) (kX3_meet (kx_l X) Y pa pr v15.1 v15.2.1 v15.2.2 a1 a2 hc18) gX5_collide_X3_meet rfl 2 rfl hdV_X3_meet ⟨rfl, rfl⟩ ⟨by decide, by decide⟩ ⟨Nat.zero_le _, Nat.zero_le _⟩ rfl (Nat.le_of_ble_eq_true rfl) [0] (by decide) rfl (kfc rfl kfn0) (gs1 := [gP Y pa pr v15.1 v15.2.1 v15.2.2, gT xa ra ga da va ea sa ca pa t_scn, gR Y ra r_er, gG Y ga g_vc g_ec g_F g_T g_X g_Z, gC Y ca v12.2.1 v12.2.2.1 v12.2.2.2.1 v12.2.2.2.2.1 v12.2.2.2.2.2.1 v12.2.2.2.2.2.2]) rfl 0 3 rfl rfl rfl dX5_collide_59 ?_
          refine kw_if_eq hX 62 69 dX5_collide_62 (by decide) (fun c19 => ?_) (fun c19 => ?_)
          · have h := kif_t c19 h
            refine kw_iconst hX 69 dX5_collide_69 kci_0 ?_
            obtain rfl := Option.some.inj h
            exact hret _ _ dX5_collide_70 rfl
          · have h := kif_f c19 h
            refine kw_iconst hX 65 dX5_collide_65 kci_1 ?_
            refine kw_goto hX 66 70 dX5_collide_66 (by decide) ?_
            obtain rfl := Option.some.inj h
            exact hret _ _ dX5_collide_70 rfl
        · have h := kif_t c14 h
          refine kw_aload_n hX 35 dX5_collide_35 rfl 0 rfl ?_
          refine kw_bipush hX 36 dX5_collide_36 kcb_m6 ?_
          obtain ⟨v20, hc21, h⟩ := kb_some h
          refine kw_callV_I hX 38 (As := [.int (-6)]) (rest := []) (kX5_fail (kx_l X) Y xa ra ga da va ea sa ca pa t_scn r_er (-6) hc21) gX5_collide_X5_fail rfl 1 rfl hdV_X5_fail ⟨rfl, rfl⟩ ⟨by decide, by decide⟩ ⟨Nat.zero_le _, Nat.zero_le _⟩ rfl (Nat.le_of_ble_eq_true rfl) [1, 2] (by decide) rfl (kfc rfl (kfc gR_f kfn0)) (gs1 := [gP Y pa pr p_R p_un p_sc, gT xa ra ga da va ea sa ca pa t_scn, gR Y ra v20.2, gG Y ga g_vc g_ec g_F g_T g_X g_Z, gC Y ca v12.2.1 v12.2.2.1 v12.2.2.2.1 v12.2.2.2.2.1 v12.2.2.2.2.2.1 v12.2.2.2.2.2.2]) rfl 7 5 rfl rfl rfl dX5_collide_38 ?_
          obtain rfl := Option.some.inj h
          exact hret _ _ dX5_collide_41 rfl
      · have h := kif_t c11 h
        refine kw_aload_n hX 21 dX5_collide_21 rfl 0 rfl ?_
        refine kw_bipush hX 22 dX5_collide_22 kcb_m2 ?_
        obtain ⟨v22, hc23, h⟩ := kb_some h
        refine kw_callV_I hX 24 (As := [.int (-2)]) (rest := []) (kX5_fail (kx_l X) Y xa ra ga da va ea sa ca pa t_scn r_er (-2) hc23) gX5_collide_X5_fail rfl 1 rfl hdV_X5_fail ⟨rfl, rfl⟩ ⟨by decide, by decide⟩ ⟨Nat.zero_le _, Nat.zero_le _⟩ rfl (Nat.le_of_ble_eq_true rfl) [1, 2] (by decide) rfl (kfc rfl (kfc gR_f kfn0)) (gs1 := [gP Y pa pr p_R p_un p_sc, gT xa ra ga da va ea sa ca pa t_scn, gR Y ra v22.2, gG Y ga g_vc g_ec g_F g_T g_X g_Z, gC Y ca c_re c_cx c_cy c_px c_py c_pn]) rfl 7 5 rfl rfl rfl dX5_collide_24 ?_
        obtain rfl := Option.some.inj h
        exact hret _ _ dX5_collide_27 rfl
def pX5_collisions_L44 : Nat → Int32 → Int32 → Int32 → (Nat → Nat → Int64) → Int32 → Int64 → Int32 → Option (Int32 × Int32)
  | 0, _, _, _, _, _, _, _ => none
  | n + 1, l1, l2, l3, z_p_R, z_p_un, z_p_sc, z_g_vc => (if z_g_vc ≤ l3 then some (l1, l3) else kb (pX3_meet l2 l3 z_p_R z_p_un z_p_sc) (fun v8 => kb ((if v8 = 0 then some l1 else some (l1 + 1)) : Option (Int32)) (fun v11 => pX5_collisions_L44 n v11 l2 (l3 + 1) z_p_R z_p_un z_p_sc z_g_vc)))
def pX5_collisions_L29 : Nat → Int32 → Int32 → (Nat → Nat → Int64) → Int32 → Int64 → Int32 → Option (Int32 × Int32)
  | 0, _, _, _, _, _, _ => none
  | n + 1, l1, l2, z_p_R, z_p_un, z_p_sc, z_g_vc => (if z_g_vc ≤ l2 then some (l1, l2) else kb (pX5_collisions_L44 KF l1 l2 (l2 + 1) z_p_R z_p_un z_p_sc z_g_vc) (fun v14 => pX5_collisions_L29 n v14.1 (l2 + 1) z_p_R z_p_un z_p_sc z_g_vc))
def pX5_collisions  (p_R : Nat → Nat → Int64) (p_un : Int32) (p_sc : Int64) (r_er : Nat → Int32) (g_vc : Int32) (g_ec : Int32) (g_F : Nat → Int32) (g_T : Nat → Int32) (g_X : Nat → Int32) (g_Z : Nat → Int32) (c_re : Nat → Int32) (c_cx : Nat → Int32) (c_cy : Nat → Int32) (c_px : Nat → Int32) (c_py : Nat → Int32) (c_pn : Int32) : Option (Int32 × (Nat → Nat → Int64) × Int32 × Int64 × (Nat → Int32) × (Nat → Int32) × (Nat → Int32) × (Nat → Int32) × (Nat → Int32) × (Nat → Int32) × Int32) := kb (pX5_isOnePiece g_vc g_ec g_F g_T g_X g_Z c_re c_cx c_cy c_px c_py c_pn) (fun v1 => (if v1.1 = 0 then kb (pX5_fail (-6) r_er) (fun v18 => some (v18.1, p_R, p_un, p_sc, v18.2, v1.2.1, v1.2.2.1, v1.2.2.2.1, v1.2.2.2.2.1, v1.2.2.2.2.2.1, v1.2.2.2.2.2.2)) else kb (pX3_solve p_R p_un p_sc g_vc g_ec g_F g_T g_X g_Z) (fun v4 => kb (pX5_collisions_L29 KF 0 0 v4.1 v4.2.1 v4.2.2 g_vc) (fun v16 => some (v16.1, v4.1, v4.2.1, v4.2.2, r_er, v1.2.1, v1.2.2.1, v1.2.2.2.1, v1.2.2.2.2.1, v1.2.2.2.2.2.1, v1.2.2.2.2.2.2)))))
def rmX5_collisions : Room := { frames := 4, cells := 0, slots := 0, locals := 90 }
theorem hdV_X5_collisions : yX5_collisions.cls = RX5 ∧ yX5_collisions.cls ≠ "java/lang/invoke/MethodHandle" ∧ yX5_collisions.cls ≠ "java/lang/invoke/VarHandle" ∧ (parseMethodDescriptor yX5_collisions.desc).map (fun d => d.parameters.length) = some 0 := ⟨rfl, by decide +kernel, by decide +kernel, by decide +kernel⟩
set_option maxHeartbeats 4000000 in
set_option maxRecDepth 100000 in
theorem kX5_collisions (l : Launch) (Y : KY) (xa : Nat) (ra : Nat) (ga : Nat → Nat) (da : Nat → Nat) (va : Nat) (ea : Nat → Nat) (sa : Nat → Nat) (ca : Nat → Nat) (pa : Nat → Nat) (pr : Nat → Nat) (p_R : Nat → Nat → Int64) (p_un : Int32) (p_sc : Int64) (t_scn : Int32) (r_er : Nat → Int32) (g_vc : Int32) (g_ec : Int32) (g_F : Nat → Int32) (g_T : Nat → Int32) (g_X : Nat → Int32) (g_Z : Nat → Int32) (c_re : Nat → Int32) (c_cx : Nat → Int32) (c_cy : Nat → Int32) (c_px : Nat → Int32) (c_py : Nat → Int32) (c_pn : Int32)  {o : Int32 × (Nat → Nat → Int64) × Int32 × Int64 × (Nat → Int32) × (Nat → Int32) × (Nat → Int32) × (Nat → Int32) × (Nat → Int32) × (Nat → Int32) × Int32} (h : pX5_collisions p_R p_un p_sc r_er g_vc g_ec g_F g_T g_X g_Z c_re c_cx c_cy c_px c_py c_pn = some o) : CtI l yX5_collisions wsX5_collisions rmX5_collisions Y [.ref xa] (kfl [gP Y pa pr p_R p_un p_sc, gT xa ra ga da va ea sa ca pa t_scn, gR Y ra r_er, gG Y ga g_vc g_ec g_F g_T g_X g_Z, gC Y ca c_re c_cx c_cy c_px c_py c_pn]) o.1 (kfl [gP Y pa pr o.2.1 o.2.2.1 o.2.2.2.1, gT xa ra ga da va ea sa ca pa t_scn, gR Y ra o.2.2.2.2.1, gG Y ga g_vc g_ec g_F g_T g_X g_Z, gC Y ca o.2.2.2.2.2.1 o.2.2.2.2.2.2.1 o.2.2.2.2.2.2.2.1 o.2.2.2.2.2.2.2.2.1 o.2.2.2.2.2.2.2.2.2.1 o.2.2.2.2.2.2.2.2.2.2]) := by
  refine ctI_intro (cc := cX5_collisions) (maxL := 4) (own := RX5) (by decide +kernel) rfl rfl (Nat.le_of_ble_eq_true rfl) rfl ?_
  intro X A hX _ hret
  have hin2 : ∀ w ∈ u_ws RX2 TX2 6, w ∈ wsX5_collisions := by decide +kernel
  have hin5 : ∀ w ∈ u_ws RX5 TX5 9, w ∈ wsX5_collisions := by decide +kernel
  have f0 := hX.w (Cond.fieldLink RX5 55 "PeriodicNet" "placement" "LPeriodicNet$Placement;") (by decide +kernel)
  have f1 := hX.w (Cond.fieldLink RX5 16 "PeriodicNet" "graph" "LPeriodicNet$Graph;") (by decide +kernel)
  have f2 := hX.w (Cond.fieldLink RX5 63 "PeriodicNet$Graph" "vertexCount" "I") (by decide +kernel)
  have L44 : ∀ (n : Nat) (l1 : Int32) (l2 : Int32) (l3 : Int32) (z_p_R : Nat → Nat → Int64) (z_p_un : Int32) (z_p_sc : Int64) (z_t_scn : Int32) (z_r_er : Nat → Int32) (z_g_vc : Int32) (z_g_ec : Int32) (z_g_F : Nat → Int32) (z_g_T : Nat → Int32) (z_g_X : Nat → Int32) (z_g_Z : Nat → Int32) (z_c_re : Nat → Int32) (z_c_cx : Nat → Int32) (z_c_cy : Nat → Int32) (z_c_px : Nat → Int32) (z_c_py : Nat → Int32) (z_c_pn : Int32) (o : Int32 × Int32), pX5_collisions_L44 n l1 l2 l3 z_p_R z_p_un z_p_sc z_g_vc = some o → KW X Y A 4 0 0 (kfl [gP Y pa pr z_p_R z_p_un z_p_sc, gT xa ra ga da va ea sa ca pa z_t_scn, gR Y ra z_r_er, gG Y ga z_g_vc z_g_ec z_g_F z_g_T z_g_X z_g_Z, gC Y ca z_c_re z_c_cx z_c_cy z_c_px z_c_py z_c_pn]) [(0, .ref xa), (1, .int o.1), (2, .int l2), (3, .int o.2)] 76 [] → KW X Y A 4 0 0 (kfl [gP Y pa pr z_p_R z_p_un z_p_sc, gT xa ra ga da va ea sa ca pa z_t_scn, gR Y ra z_r_er, gG Y ga z_g_vc z_g_ec z_g_F z_g_T z_g_X z_g_Z, gC Y ca z_c_re z_c_cx z_c_cy z_c_px z_c_py z_c_pn]) [(0, .ref xa), (1, .int l1), (2, .int l2), (3, .int l3)] 44 [] := by
    intro n
    induction n with
    | zero => intro l1 l2 l3 z_p_R z_p_un z_p_sc z_t_scn z_r_er z_g_vc z_g_ec z_g_F z_g_T z_g_X z_g_Z z_c_re z_c_cx z_c_cy z_c_px z_c_py z_c_pn o h; cases h
    | succ n ih =>
      intro l1 l2 l3 z_p_R z_p_un z_p_sc z_t_scn z_r_er z_g_vc z_g_ec z_g_F z_g_T z_g_X z_g_Z z_c_re z_c_cx z_c_cy z_c_px z_c_py z_c_pn o h hK
      rw [pX5_collisions_L44] at h
      refine kw_iload_n hX 44 dX5_collisions_44 rfl 3 rfl ?_
      refine kw_aload_n hX 45 dX5_collisions_45 rfl 0 rfl ?_
      refine kw_get hX 46 (C := RX5) (T := TX5) (N := 9) hin5 1 f1 (fun _ h => h) 7 rfl rfl (by decide) rfl dX5_collisions_46 ?_
      refine kw_get hX 49 (C := RX2) (T := TX2) (N := 6) hin2 0 f2 (fun _ h => h) 9 rfl rfl (by decide) rfl dX5_collisions_49 ?_
      refine kw_icmp_ge hX 52 76 dX5_collisions_52 (by decide) (fun c7 => ?_) (fun c7 => ?_)
      · have h := kif_t c7 h
        obtain rfl := Option.some.inj h
        refine kw_lv (lv' := [(0, .ref xa), (1, .int l1), (2, .int l2), (3, .int l3)]) [0, 1, 2, 3] rfl ?_
        exact hK
      · have h := kif_f c7 h
        refine kw_aload_n hX 55 dX5_collisions_55 rfl 0 rfl ?_
        refine kw_get hX 56 (C := RX5) (T := TX5) (N := 9) hin5 8 f0 (fun _ h => h) 7 rfl rfl (by decide) rfl dX5_collisions_56 ?_
        refine kw_iload_n hX 59 dX5_collisions_59 rfl 2 rfl ?_
        refine kw_iload_n hX 60 dX5_collisions_60 rfl 3 rfl ?_
        obtain ⟨v8, hc9, h⟩ := kb_some h
        refine kw_callV_I hX 61 (As := [.int l2, .int l3]) (rest := []) (kX3_meet (kx_l X) Y pa pr z_p_R z_p_un z_p_sc l2 l3 hc9) gX5_collisions_X3_meet rfl 2 rfl hdV_X3_meet ⟨rfl, rfl⟩ ⟨by decide, by decide⟩ ⟨Nat.zero_le _, Nat.zero_le _⟩ rfl (Nat.le_of_ble_eq_true rfl) [0] (by decide) rfl (kfc rfl kfn0) (gs1 := [gP Y pa pr z_p_R z_p_un z_p_sc, gT xa ra ga da va ea sa ca pa z_t_scn, gR Y ra z_r_er, gG Y ga z_g_vc z_g_ec z_g_F z_g_T z_g_X z_g_Z, gC Y ca z_c_re z_c_cx z_c_cy z_c_px z_c_py z_c_pn]) rfl 0 3 rfl rfl rfl dX5_collisions_61 ?_
        obtain ⟨v11, hj13, h⟩ := kb_some h
        have J12 : KW X Y A 4 0 0 (kfl [gP Y pa pr z_p_R z_p_un z_p_sc, gT xa ra ga da va ea sa ca pa z_t_scn, gR Y ra z_r_er, gG Y ga z_g_vc z_g_ec z_g_F z_g_T z_g_X z_g_Z, gC Y ca z_c_re z_c_cx z_c_cy z_c_px z_c_py z_c_pn]) [(0, .ref xa), (1, .int v11), (2, .int l2), (3, .int l3)] 70 [] := by
          refine kw_iinc (v := (l3 + 1)) (lv' := [(3, .int (l3 + 1)), (0, .ref xa), (1, .int v11), (2, .int l2)]) hX 70 dX5_collisions_70 3 rfl (kinc_1 _) (by decide) rfl ?_
          refine kw_goto hX 73 44 dX5_collisions_73 (by decide) ?_
          refine kw_lv (lv' := [(0, .ref xa), (1, .int v11), (2, .int l2), (3, .int (l3 + 1))]) [1, 2, 3, 0] rfl ?_
          exact ih v11 l2 (l3 + 1) z_p_R z_p_un z_p_sc z_t_scn z_r_er z_g_vc z_g_ec z_g_F z_g_T z_g_X z_g_Z z_c_re z_c_cx z_c_cy z_c_px z_c_py z_c_pn o h hK
        have h := hj13
        refine kw_if_eq hX 64 70 dX5_collisions_64 (by decide) (fun c10 => ?_) (fun c10 => ?_)
        · have h := kif_t c10 h
          obtain rfl := Option.some.inj h
          refine kw_lv (lv' := [(0, .ref xa), (1, .int l1), (2, .int l2), (3, .int l3)]) [0, 1, 2, 3] rfl ?_
          exact J12
        · have h := kif_f c10 h
          refine kw_iinc (v := (l1 + 1)) (lv' := [(1, .int (l1 + 1)), (0, .ref xa), (2, .int l2), (3, .int l3)]) hX 67 dX5_collisions_67 1 rfl (kinc_1 _) (by decide) rfl ?_
          obtain rfl := Option.some.inj h
          refine kw_lv (lv' := [(0, .ref xa), (1, .int (l1 + 1)), (2, .int l2), (3, .int l3)]) [1, 0, 2, 3] rfl ?_
          exact J12
  have L29 : ∀ (n : Nat) (l1 : Int32) (l2 : Int32) (z_p_R : Nat → Nat → Int64) (z_p_un : Int32) (z_p_sc : Int64) (z_t_scn : Int32) (z_r_er : Nat → Int32) (z_g_vc : Int32) (z_g_ec : Int32) (z_g_F : Nat → Int32) (z_g_T : Nat → Int32) (z_g_X : Nat → Int32) (z_g_Z : Nat → Int32) (z_c_re : Nat → Int32) (z_c_cx : Nat → Int32) (z_c_cy : Nat → Int32) (z_c_px : Nat → Int32) (z_c_py : Nat → Int32) (z_c_pn : Int32) (o : Int32 × Int32), pX5_collisions_L29 n l1 l2 z_p_R z_p_un z_p_sc z_g_vc = some o → KW X Y A 4 0 0 (kfl [gP Y pa pr z_p_R z_p_un z_p_sc, gT xa ra ga da va ea sa ca pa z_t_scn, gR Y ra z_r_er, gG Y ga z_g_vc z_g_ec z_g_F z_g_T z_g_X z_g_Z, gC Y ca z_c_re z_c_cx z_c_cy z_c_px z_c_py z_c_pn]) [(0, .ref xa), (1, .int o.1), (2, .int o.2)] 82 [] → KW X Y A 4 0 0 (kfl [gP Y pa pr z_p_R z_p_un z_p_sc, gT xa ra ga da va ea sa ca pa z_t_scn, gR Y ra z_r_er, gG Y ga z_g_vc z_g_ec z_g_F z_g_T z_g_X z_g_Z, gC Y ca z_c_re z_c_cx z_c_cy z_c_px z_c_py z_c_pn]) [(0, .ref xa), (1, .int l1), (2, .int l2)] 29 [] := by
    intro n
    induction n with
    | zero => intro l1 l2 z_p_R z_p_un z_p_sc z_t_scn z_r_er z_g_vc z_g_ec z_g_F z_g_T z_g_X z_g_Z z_c_re z_c_cx z_c_cy z_c_px z_c_py z_c_pn o h; cases h
    | succ n ih =>
      intro l1 l2 z_p_R z_p_un z_p_sc z_t_scn z_r_er z_g_vc z_g_ec z_g_F z_g_T z_g_X z_g_Z z_c_re z_c_cx z_c_cy z_c_px z_c_py z_c_pn o h hK
      rw [pX5_collisions_L29] at h
      refine kw_iload_n hX 29 dX5_collisions_29 rfl 2 rfl ?_
      refine kw_aload_n hX 30 dX5_collisions_30 rfl 0 rfl ?_
      refine kw_get hX 31 (C := RX5) (T := TX5) (N := 9) hin5 1 f1 (fun _ h => h) 7 rfl rfl (by decide) rfl dX5_collisions_31 ?_
      refine kw_get hX 34 (C := RX2) (T := TX2) (N := 6) hin2 0 f2 (fun _ h => h) 9 rfl rfl (by decide) rfl dX5_collisions_34 ?_
      refine kw_icmp_ge hX 37 82 dX5_collisions_37 (by decide) (fun c6 => ?_) (fun c6 => ?_)
      · have h := kif_t c6 h
        obtain rfl := Option.some.inj h
        refine kw_lv (lv' := [(0, .ref xa), (1, .int l1), (2, .int l2)]) [0, 1, 2] rfl ?_
        exact hK
      · have h := kif_f c6 h
        refine kw_iload_n hX 40 dX5_collisions_40 rfl 2 rfl ?_
        refine kw_iconst hX 41 dX5_collisions_41 kci_1 ?_
        refine kw_iadd hX 42 dX5_collisions_42 ?_
        refine kw_istore_n (lv' := [(3, .int (l2 + 1)), (0, .ref xa), (1, .int l1), (2, .int l2)]) hX 43 dX5_collisions_43 rfl (by decide) rfl ?_
        obtain ⟨v14, hl15, h⟩ := kb_some h
        refine kw_lv (lv' := [(0, .ref xa), (1, .int l1), (2, .int l2), (3, .int (l2 + 1))]) [1, 2, 3, 0] rfl ?_
        refine L44 KF l1 l2 (l2 + 1) z_p_R z_p_un z_p_sc z_t_scn z_r_er z_g_vc z_g_ec z_g_F z_g_T z_g_X z_g_Z z_c_re z_c_cx z_c_cy z_c_px z_c_py z_c_pn v14 hl15 ?_
        refine kw_iinc (v := (l2 + 1)) (lv' := [(2, .int (l2 + 1)), (0, .ref xa), (1, .int v14.1), (3, .int v14.2)]) hX 76 dX5_collisions_76 2 rfl (kinc_1 _) (by decide) rfl ?_
        refine kw_goto hX 79 29 dX5_collisions_79 (by decide) ?_
        refine kw_lv (lv' := [(0, .ref xa), (1, .int v14.1), (2, .int (l2 + 1))]) [1, 2, 0] rfl ?_
        exact ih v14.1 (l2 + 1) z_p_R z_p_un z_p_sc z_t_scn z_r_er z_g_vc z_g_ec z_g_F z_g_T z_g_X z_g_Z z_c_re z_c_cx z_c_cy z_c_px z_c_py z_c_pn o h hK
  unfold pX5_collisions at h
  refine kw_lv (lv' := [(0, .ref xa)]) [0] rfl ?_
  refine kw_aload_n hX 0 dX5_collisions_0 rfl 0 rfl ?_
  obtain ⟨v1, hc2, h⟩ := kb_some h
  refine kw_callV_I hX 1 (As := []) (rest := []) (kX5_isOnePiece (kx_l X) Y xa ra ga da va ea sa ca pa t_scn g_vc g_ec g_F g_T g_X g_Z c_re c_cx c_cy c_px c_py c_pn hc2) gX5_collisions_X5_isOnePiece rfl 0 rfl hdV_X5_isOnePiece ⟨rfl, rfl⟩ ⟨by decide, by decide⟩ ⟨Nat.zero_le _, Nat.zero_le _⟩ rfl (Nat.le_of_ble_eq_true rfl) [1, 3, 4] (by decide) rfl (kfc rfl (kfc rfl (kfc gC_f kfn0))) (gs1 := [gP Y pa pr p_R p_un p_sc, gT xa ra ga da va ea sa ca pa t_scn, gR Y ra r_er, gG Y ga g_vc g_ec g_F g_T g_X g_Z, gC Y ca v1.2.1 v1.2.2.1 v1.2.2.2.1 v1.2.2.2.2.1 v1.2.2.2.2.2.1 v1.2.2.2.2.2.2]) rfl 7 5 rfl rfl rfl dX5_collisions_1 ?_
  refine kw_if_ne hX 4 14 dX5_collisions_4 (by decide) (fun c3 => ?_) (fun c3 => ?_)
  · have h := kif_f c3 h
    refine kw_aload_n hX 14 dX5_collisions_14 rfl 0 rfl ?_
    refine kw_get hX 15 (C := RX5) (T := TX5) (N := 9) hin5 8 f0 (fun _ h => h) 7 rfl rfl (by decide) rfl dX5_collisions_15 ?_
    refine kw_aload_n hX 18 dX5_collisions_18 rfl 0 rfl ?_
    refine kw_get hX 19 (C := RX5) (T := TX5) (N := 9) hin5 1 f1 (fun _ h => h) 7 rfl rfl (by decide) rfl dX5_collisions_19 ?_
    obtain ⟨v4, hc5, h⟩ := kb_some h
    refine kw_callV_V hX 22 (As := [.ref (ga 0)]) (rest := []) (kX3_solve (kx_l X) Y pa pr ga p_R p_un p_sc g_vc g_ec g_F g_T g_X g_Z hc5) gX5_collisions_X3_solve rfl 1 rfl hdV_X3_solve ⟨rfl, rfl⟩ ⟨by decide, by decide⟩ ⟨Nat.zero_le _, Nat.zero_le _⟩ rfl (Nat.le_of_ble_eq_true rfl) [0, 3] (by decide) rfl (kfc gP_f (kfc rfl kfn0)) (gs1 := [gP Y pa pr v4.1 v4.2.1 v4.2.2, gT xa ra ga da va ea sa ca pa t_scn, gR Y ra r_er, gG Y ga g_vc g_ec g_F g_T g_X g_Z, gC Y ca v1.2.1 v1.2.2.1 v1.2.2.2.1 v1.2.2.2.2.1 v1.2.2.2.2.2.1 v1.2.2.2.2.2.2]) rfl 0 3 rfl rfl rfl dX5_collisions_22 ?_
    refine kw_iconst hX 25 dX5_collisions_25 kci_0 ?_
    refine kw_istore_n (lv' := [(1, .int 0), (0, .ref xa)]) hX 26 dX5_collisions_26 rfl (by decide) rfl ?_
    refine kw_iconst hX 27 dX5_collisions_27 kci_0 ?_
    refine kw_istore_n (lv' := [(2, .int 0), (1, .int 0), (0, .ref xa)]) hX 28 dX5_collisions_28 rfl (by decide) rfl ?_
    obtain ⟨v16, hl17, h⟩ := kb_some h
    refine kw_lv (lv' := [(0, .ref xa), (1, .int 0), (2, .int 0)]) [2, 1, 0] rfl ?_
    refine L29 KF 0 0 v4.1 v4.2.1 v4.2.2 t_scn r_er g_vc g_ec g_F g_T g_X g_Z v1.2.1 v1.2.2.1 v1.2.2.2.1 v1.2.2.2.2.1 v1.2.2.2.2.2.1 v1.2.2.2.2.2.2 v16 hl17 ?_
    refine kw_iload_n hX 82 dX5_collisions_82 rfl 1 rfl ?_
    obtain rfl := Option.some.inj h
    exact hret _ _ dX5_collisions_83 rfl
  · have h := kif_t c3 h
    refine kw_aload_n hX 7 dX5_collisions_7 rfl 0 rfl ?_
    refine kw_bipush hX 8 dX5_collisions_8 kcb_m6 ?_
    obtain ⟨v18, hc19, h⟩ := kb_some h
    refine kw_callV_I hX 10 (As := [.int (-6)]) (rest := []) (kX5_fail (kx_l X) Y xa ra ga da va ea sa ca pa t_scn r_er (-6) hc19) gX5_collisions_X5_fail rfl 1 rfl hdV_X5_fail ⟨rfl, rfl⟩ ⟨by decide, by decide⟩ ⟨Nat.zero_le _, Nat.zero_le _⟩ rfl (Nat.le_of_ble_eq_true rfl) [1, 2] (by decide) rfl (kfc rfl (kfc gR_f kfn0)) (gs1 := [gP Y pa pr p_R p_un p_sc, gT xa ra ga da va ea sa ca pa t_scn, gR Y ra v18.2, gG Y ga g_vc g_ec g_F g_T g_X g_Z, gC Y ca v1.2.1 v1.2.2.1 v1.2.2.2.1 v1.2.2.2.2.1 v1.2.2.2.2.2.1 v1.2.2.2.2.2.2]) rfl 7 5 rfl rfl rfl dX5_collisions_10 ?_
    obtain rfl := Option.some.inj h
    exact hret _ _ dX5_collisions_13 rfl
def pX5_positionBits (a1 : Int32) (a2 : Int32) (p_R : Nat → Nat → Int64) (p_un : Int32) (p_sc : Int64) (r_er : Nat → Int32) (g_vc : Int32) (g_ec : Int32) (g_F : Nat → Int32) (g_T : Nat → Int32) (g_X : Nat → Int32) (g_Z : Nat → Int32) (c_re : Nat → Int32) (c_cx : Nat → Int32) (c_cy : Nat → Int32) (c_px : Nat → Int32) (c_py : Nat → Int32) (c_pn : Int32) : Option (Int32 × (Nat → Nat → Int64) × Int32 × Int64 × (Nat → Int32) × (Nat → Int32) × (Nat → Int32) × (Nat → Int32) × (Nat → Int32) × (Nat → Int32) × Int32) := kb (pX5_placementTrouble a1 a2 g_vc g_ec g_F g_T g_X g_Z c_re c_cx c_cy c_px c_py c_pn) (fun v1 => (if v1.1 = 0 then kb (pX3_solve p_R p_un p_sc g_vc g_ec g_F g_T g_X g_Z) (fun v4 => kb (pX3_bottom a1 a2 v4.1 v4.2.1 v4.2.2) (fun v6 => (if (Op.cmpValue (FP.fcmp (FP.l2f v6) FP.fconst0) CmpOp.l) ≤ 0 then some (0, v4.1, v4.2.1, v4.2.2, r_er, v1.2.1, v1.2.2.1, v1.2.2.2.1, v1.2.2.2.2.1, v1.2.2.2.2.2.1, v1.2.2.2.2.2.2) else kb (pX3_top a1 a2 v4.1 v4.2.1 v4.2.2) (fun v9 => kgd (kfn (FP.fdiv (FP.l2f v9) (FP.l2f v6))) (kb (pX5_floatBits (FP.fdiv (FP.l2f v9) (FP.l2f v6))) (fun v12 => some (v12, v4.1, v4.2.1, v4.2.2, r_er, v1.2.1, v1.2.2.1, v1.2.2.2.1, v1.2.2.2.2.1, v1.2.2.2.2.2.1, v1.2.2.2.2.2.2))))))) else kb (pX5_fail v1.1 r_er) (fun v14 => some (v14.1, p_R, p_un, p_sc, v14.2, v1.2.1, v1.2.2.1, v1.2.2.2.1, v1.2.2.2.2.1, v1.2.2.2.2.2.1, v1.2.2.2.2.2.2))))
def rmX5_positionBits : Room := { frames := 5, cells := 0, slots := 0, locals := 112 }
theorem hdV_X5_positionBits : yX5_positionBits.cls = RX5 ∧ yX5_positionBits.cls ≠ "java/lang/invoke/MethodHandle" ∧ yX5_positionBits.cls ≠ "java/lang/invoke/VarHandle" ∧ (parseMethodDescriptor yX5_positionBits.desc).map (fun d => d.parameters.length) = some 2 := ⟨rfl, by decide +kernel, by decide +kernel, by decide +kernel⟩
set_option maxHeartbeats 4000000 in
set_option maxRecDepth 100000 in
theorem kX5_positionBits (l : Launch) (Y : KY) (xa : Nat) (ra : Nat) (ga : Nat → Nat) (da : Nat → Nat) (va : Nat) (ea : Nat → Nat) (sa : Nat → Nat) (ca : Nat → Nat) (pa : Nat → Nat) (pr : Nat → Nat) (p_R : Nat → Nat → Int64) (p_un : Int32) (p_sc : Int64) (t_scn : Int32) (r_er : Nat → Int32) (g_vc : Int32) (g_ec : Int32) (g_F : Nat → Int32) (g_T : Nat → Int32) (g_X : Nat → Int32) (g_Z : Nat → Int32) (c_re : Nat → Int32) (c_cx : Nat → Int32) (c_cy : Nat → Int32) (c_px : Nat → Int32) (c_py : Nat → Int32) (c_pn : Int32) (a1 : Int32) (a2 : Int32) {o : Int32 × (Nat → Nat → Int64) × Int32 × Int64 × (Nat → Int32) × (Nat → Int32) × (Nat → Int32) × (Nat → Int32) × (Nat → Int32) × (Nat → Int32) × Int32} (h : pX5_positionBits a1 a2 p_R p_un p_sc r_er g_vc g_ec g_F g_T g_X g_Z c_re c_cx c_cy c_px c_py c_pn = some o) : CtI l yX5_positionBits wsX5_positionBits rmX5_positionBits Y [.ref xa, .int a1, .int a2] (kfl [gP Y pa pr p_R p_un p_sc, gT xa ra ga da va ea sa ca pa t_scn, gR Y ra r_er, gG Y ga g_vc g_ec g_F g_T g_X g_Z, gC Y ca c_re c_cx c_cy c_px c_py c_pn]) o.1 (kfl [gP Y pa pr o.2.1 o.2.2.1 o.2.2.2.1, gT xa ra ga da va ea sa ca pa t_scn, gR Y ra o.2.2.2.2.1, gG Y ga g_vc g_ec g_F g_T g_X g_Z, gC Y ca o.2.2.2.2.2.1 o.2.2.2.2.2.2.1 o.2.2.2.2.2.2.2.1 o.2.2.2.2.2.2.2.2.1 o.2.2.2.2.2.2.2.2.2.1 o.2.2.2.2.2.2.2.2.2.2]) := by
  refine ctI_intro (cc := cX5_positionBits) (maxL := 5) (own := RX5) (by decide +kernel) rfl rfl (Nat.le_of_ble_eq_true rfl) rfl ?_
  intro X A hX _ hret
  have hin5 : ∀ w ∈ u_ws RX5 TX5 9, w ∈ wsX5_positionBits := by decide +kernel
  have f0 := hX.w (Cond.fieldLink RX5 55 "PeriodicNet" "placement" "LPeriodicNet$Placement;") (by decide +kernel)
  have f1 := hX.w (Cond.fieldLink RX5 16 "PeriodicNet" "graph" "LPeriodicNet$Graph;") (by decide +kernel)
  unfold pX5_positionBits at h
  refine kw_lv (lv' := [(0, .ref xa), (1, .int a1), (2, .int a2)]) [0, 1, 2] rfl ?_
  refine kw_aload_n hX 0 dX5_positionBits_0 rfl 0 rfl ?_
  refine kw_iload_n hX 1 dX5_positionBits_1 rfl 1 rfl ?_
  refine kw_iload_n hX 2 dX5_positionBits_2 rfl 2 rfl ?_
  obtain ⟨v1, hc2, h⟩ := kb_some h
  refine kw_callV_I hX 3 (As := [.int a1, .int a2]) (rest := []) (kX5_placementTrouble (kx_l X) Y xa ra ga da va ea sa ca pa t_scn g_vc g_ec g_F g_T g_X g_Z c_re c_cx c_cy c_px c_py c_pn a1 a2 hc2) gX5_positionBits_X5_placementTrouble rfl 2 rfl hdV_X5_placementTrouble ⟨rfl, rfl⟩ ⟨by decide, by decide⟩ ⟨Nat.zero_le _, Nat.zero_le _⟩ rfl (Nat.le_of_ble_eq_true rfl) [1, 3, 4] (by decide) rfl (kfc rfl (kfc rfl (kfc gC_f kfn0))) (gs1 := [gP Y pa pr p_R p_un p_sc, gT xa ra ga da va ea sa ca pa t_scn, gR Y ra r_er, gG Y ga g_vc g_ec g_F g_T g_X g_Z, gC Y ca v1.2.1 v1.2.2.1 v1.2.2.2.1 v1.2.2.2.2.1 v1.2.2.2.2.2.1 v1.2.2.2.2.2.2]) rfl 7 5 rfl rfl rfl dX5_positionBits_3 ?_
  refine kw_istore_n (lv' := [(3, .int v1.1), (0, .ref xa), (1, .int a1), (2, .int a2)]) hX 6 dX5_positionBits_6 rfl (by decide) rfl ?_
  refine kw_iload_n hX 7 dX5_positionBits_7 rfl 0 rfl ?_
  refine kw_if_eq hX 8 17 dX5_positionBits_8 (by decide) (fun c3 => ?_) (fun c3 => ?_)
  · have h := kif_t c3 h
    refine kw_aload_n hX 17 dX5_positionBits_17 rfl 1 rfl ?_
    refine kw_get hX 18 (C := RX5) (T := TX5) (N := 9) hin5 8 f0 (fun _ h => h) 7 rfl rfl (by decide) rfl dX5_positionBits_18 ?_
    refine kw_aload_n hX 21 dX5_positionBits_21 rfl 1 rfl ?_
    refine kw_get hX 22 (C := RX5) (T := TX5) (N := 9) hin5 1 f1 (fun _ h => h) 7 rfl rfl (by decide) rfl dX5_positionBits_22 ?_
    obtain ⟨v4, hc5, h⟩ := kb_some h
    refine kw_callV_V hX 25 (As := [.ref (ga 0)]) (rest := []) (kX3_solve (kx_l X) Y pa pr ga p_R p_un p_sc g_vc g_ec g_F g_T g_X g_Z hc5) gX5_positionBits_X3_solve rfl 1 rfl hdV_X3_solve ⟨rfl, rfl⟩ ⟨by decide, by decide⟩ ⟨Nat.zero_le _, Nat.zero_le _⟩ rfl (Nat.le_of_ble_eq_true rfl) [0, 3] (by decide) rfl (kfc gP_f (kfc rfl kfn0)) (gs1 := [gP Y pa pr v4.1 v4.2.1 v4.2.2, gT xa ra ga da va ea sa ca pa t_scn, gR Y ra r_er, gG Y ga g_vc g_ec g_F g_T g_X g_Z, gC Y ca v1.2.1 v1.2.2.1 v1.2.2.2.1 v1.2.2.2.2.1 v1.2.2.2.2.2.1 v1.2.2.2.2.2.2]) rfl 0 3 rfl rfl rfl dX5_positionBits_25 ?_
    refine kw_aload_n hX 28 dX5_positionBits_28 rfl 1 rfl ?_
    refine kw_get hX 29 (C := RX5) (T := TX5) (N := 9) hin5 8 f0 (fun _ h => h) 7 rfl rfl (by decide) rfl dX5_positionBits_29 ?_
    refine kw_iload_n hX 32 dX5_positionBits_32 rfl 2 rfl ?_
    refine kw_iload_n hX 33 dX5_positionBits_33 rfl 3 rfl ?_
    obtain ⟨v6, hc7, h⟩ := kb_some h
    refine kw_callV_L hX 34 (As := [.int a1, .int a2]) (rest := []) (kX3_bottom (kx_l X) Y pa pr v4.1 v4.2.1 v4.2.2 a1 a2 hc7) gX5_positionBits_X3_bottom rfl 2 rfl hdV_X3_bottom ⟨rfl, rfl⟩ ⟨by decide, by decide⟩ ⟨Nat.zero_le _, Nat.zero_le _⟩ rfl (Nat.le_of_ble_eq_true rfl) [0] (by decide) rfl (kfc rfl kfn0) (gs1 := [gP Y pa pr v4.1 v4.2.1 v4.2.2, gT xa ra ga da va ea sa ca pa t_scn, gR Y ra r_er, gG Y ga g_vc g_ec g_F g_T g_X g_Z, gC Y ca v1.2.1 v1.2.2.1 v1.2.2.2.1 v1.2.2.2.2.1 v1.2.2.2.2.2.1 v1.2.2.2.2.2.2]) rfl 0 3 rfl rfl rfl dX5_positionBits_34 ?_
    refine kw_l2f hX 37 dX5_positionBits_37 ?_
    refine kw_fstore (lv' := [(4, .float (FP.l2f v6)), (3, .int v1.1), (0, .ref xa), (1, .int a1), (2, .int a2)]) hX 38 dX5_positionBits_38 (by decide) rfl ?_
    refine kw_fload hX 40 dX5_positionBits_40 0 rfl ?_
    refine kw_fconst0 hX 42 dX5_positionBits_42 ?_
    refine kw_fcmp hX 43 dX5_positionBits_43 ?_
    refine kw_if_le hX 44 66 dX5_positionBits_44 (by decide) (fun c8 => ?_) (fun c8 => ?_)
    · have h := kif_t c8 h
      refine kw_iconst hX 66 dX5_positionBits_66 kci_0 ?_
      obtain rfl := Option.some.inj h
      exact hret _ _ dX5_positionBits_67 rfl
    · have h := kif_f c8 h
      refine kw_aload_n hX 47 dX5_positionBits_47 rfl 2 rfl ?_
      refine kw_get hX 48 (C := RX5) (T := TX5) (N := 9) hin5 8 f0 (fun _ h => h) 7 rfl rfl (by decide) rfl dX5_positionBits_48 ?_
      refine kw_iload_n hX 51 dX5_positionBits_51 rfl 3 rfl ?_
      refine kw_iload_n hX 52 dX5_positionBits_52 rfl 4 rfl ?_
      obtain ⟨v9, hc10, h⟩ := kb_some h
      refine kw_callV_L hX 53 (As := [.int a1, .int a2]) (rest := []) (kX3_top (kx_l X) Y pa pr v4.1 v4.2.1 v4.2.2 a1 a2 hc10) gX5_positionBits_X3_top rfl 2 rfl hdV_X3_top ⟨rfl, rfl⟩ ⟨by decide, by decide⟩ ⟨Nat.zero_le _, Nat.zero_le _⟩ rfl (Nat.le_of_ble_eq_true rfl) [0] (by decide) rfl (kfc rfl kfn0) (gs1 := [gP Y pa pr v4.1 v4.2.1 v4.2.2, gT xa ra ga da va ea sa ca pa t_scn, gR Y ra r_er, gG Y ga g_vc g_ec g_F g_T g_X g_Z, gC Y ca v1.2.1 v1.2.2.1 v1.2.2.2.1 v1.2.2.2.2.1 v1.2.2.2.2.2.1 v1.2.2.2.2.2.2]) rfl 0 3 rfl rfl rfl dX5_positionBits_53 ?_
      refine kw_l2f hX 56 dX5_positionBits_56 ?_
      refine kw_fload hX 57 dX5_positionBits_57 0 rfl ?_
      obtain ⟨g11, h⟩ := kgd_some h
      refine kw_fdiv hX 59 dX5_positionBits_59 g11 ?_
      obtain ⟨v12, hc13, h⟩ := kb_some h
      refine kw_callS_I hX 60 (As := [.float (FP.fdiv (FP.l2f v9) (FP.l2f v6))]) (rest := []) (kX5_floatBits (kx_l X) Y (FP.fdiv (FP.l2f v9) (FP.l2f v6)) hc13) gX5_positionBits_X5_floatBits rfl 1 rfl hdS_X5_floatBits ⟨rfl, rfl⟩ ⟨by decide, by decide⟩ ⟨Nat.zero_le _, Nat.zero_le _⟩ rfl (Nat.le_of_ble_eq_true rfl) [] (by decide) rfl kfn0 (gs1 := [gP Y pa pr v4.1 v4.2.1 v4.2.2, gT xa ra ga da va ea sa ca pa t_scn, gR Y ra r_er, gG Y ga g_vc g_ec g_F g_T g_X g_Z, gC Y ca v1.2.1 v1.2.2.1 v1.2.2.2.1 v1.2.2.2.2.1 v1.2.2.2.2.2.1 v1.2.2.2.2.2.2]) rfl dX5_positionBits_60 ?_
      refine kw_goto hX 63 67 dX5_positionBits_63 (by decide) ?_
      obtain rfl := Option.some.inj h
      exact hret _ _ dX5_positionBits_67 rfl
  · have h := kif_f c3 h
    refine kw_aload_n hX 11 dX5_positionBits_11 rfl 1 rfl ?_
    refine kw_iload_n hX 12 dX5_positionBits_12 rfl 0 rfl ?_
    obtain ⟨v14, hc15, h⟩ := kb_some h
    refine kw_callV_I hX 13 (As := [.int v1.1]) (rest := []) (kX5_fail (kx_l X) Y xa ra ga da va ea sa ca pa t_scn r_er v1.1 hc15) gX5_positionBits_X5_fail rfl 1 rfl hdV_X5_fail ⟨rfl, rfl⟩ ⟨by decide, by decide⟩ ⟨Nat.zero_le _, Nat.zero_le _⟩ rfl (Nat.le_of_ble_eq_true rfl) [1, 2] (by decide) rfl (kfc rfl (kfc gR_f kfn0)) (gs1 := [gP Y pa pr p_R p_un p_sc, gT xa ra ga da va ea sa ca pa t_scn, gR Y ra v14.2, gG Y ga g_vc g_ec g_F g_T g_X g_Z, gC Y ca v1.2.1 v1.2.2.1 v1.2.2.2.1 v1.2.2.2.2.1 v1.2.2.2.2.2.1 v1.2.2.2.2.2.2]) rfl 7 5 rfl rfl rfl dX5_positionBits_13 ?_
    obtain rfl := Option.some.inj h
    exact hret _ _ dX5_positionBits_16 rfl
def pX5_undo  (e_cn : Nat → Int32) (e_M : Nat → Nat → Int32) (t_scn : Int32) (r_er : Nat → Int32) (g_vc : Int32) (g_ec : Int32) (g_F : Nat → Int32) (g_T : Nat → Int32) (g_X : Nat → Int32) (g_Z : Nat → Int32) (v_pi : Nat → Nat) (v_vc : Nat → Int32) (v_ec : Nat → Int32) (v_F : Nat → Nat → Int32) (v_T : Nat → Nat → Int32) (v_X : Nat → Nat → Int32) (v_Z : Nat → Nat → Int32) : Option (Int32 × (Nat → Int32) × (Nat → Nat → Int32) × Int32 × (Nat → Int32) × Int32 × Int32 × (Nat → Int32) × (Nat → Int32) × (Nat → Int32) × (Nat → Int32)) := (if (1 : Int32) ≤ t_scn then kgd (kin (t_scn - 1) 5) (kgd (decide ((v_pi ((t_scn - 1) : Int32).toNatClampNeg) < 5)) (kb (pX2_copyFrom g_vc g_ec g_F g_T g_X g_Z (v_vc (v_pi ((t_scn - 1) : Int32).toNatClampNeg)) (v_ec (v_pi ((t_scn - 1) : Int32).toNatClampNeg)) (v_F (v_pi ((t_scn - 1) : Int32).toNatClampNeg)) (v_T (v_pi ((t_scn - 1) : Int32).toNatClampNeg)) (v_X (v_pi ((t_scn - 1) : Int32).toNatClampNeg)) (v_Z (v_pi ((t_scn - 1) : Int32).toNatClampNeg))) (fun v4 => kb (pX1_listAll e_cn e_M v4.2.1 v4.2.2.1 v4.2.2.2.1 v4.2.2.2.2.1 v4.2.2.2.2.2) (fun v7 => some ((t_scn - 1), v7.1, v7.2, (t_scn - 1), r_er, v4.1, v4.2.1, v4.2.2.1, v4.2.2.2.1, v4.2.2.2.2.1, v4.2.2.2.2.2))))) else kb (pX5_fail (-7) r_er) (fun v9 => some (v9.1, e_cn, e_M, t_scn, v9.2, g_vc, g_ec, g_F, g_T, g_X, g_Z)))
def rmX5_undo : Room := { frames := 3, cells := 0, slots := 0, locals := 71 }
theorem hdV_X5_undo : yX5_undo.cls = RX5 ∧ yX5_undo.cls ≠ "java/lang/invoke/MethodHandle" ∧ yX5_undo.cls ≠ "java/lang/invoke/VarHandle" ∧ (parseMethodDescriptor yX5_undo.desc).map (fun d => d.parameters.length) = some 0 := ⟨rfl, by decide +kernel, by decide +kernel, by decide +kernel⟩
set_option maxHeartbeats 4000000 in
set_option maxRecDepth 100000 in
theorem kX5_undo (l : Launch) (Y : KY) (xa : Nat) (ra : Nat) (ga : Nat → Nat) (da : Nat → Nat) (va : Nat) (ea : Nat → Nat) (sa : Nat → Nat) (ca : Nat → Nat) (pa : Nat → Nat) (er : Nat → Nat) (vg : Nat → Nat) (e_cn : Nat → Int32) (e_M : Nat → Nat → Int32) (t_scn : Int32) (r_er : Nat → Int32) (g_vc : Int32) (g_ec : Int32) (g_F : Nat → Int32) (g_T : Nat → Int32) (g_X : Nat → Int32) (g_Z : Nat → Int32) (v_pi : Nat → Nat) (v_vc : Nat → Int32) (v_ec : Nat → Int32) (v_F : Nat → Nat → Int32) (v_T : Nat → Nat → Int32) (v_X : Nat → Nat → Int32) (v_Z : Nat → Nat → Int32)  {o : Int32 × (Nat → Int32) × (Nat → Nat → Int32) × Int32 × (Nat → Int32) × Int32 × Int32 × (Nat → Int32) × (Nat → Int32) × (Nat → Int32) × (Nat → Int32)} (h : pX5_undo e_cn e_M t_scn r_er g_vc g_ec g_F g_T g_X g_Z v_pi v_vc v_ec v_F v_T v_X v_Z = some o) : CtI l yX5_undo wsX5_undo rmX5_undo Y [.ref xa] (kfl [gE Y ea er e_cn e_M, gT xa ra ga da va ea sa ca pa t_scn, gR Y ra r_er, gG Y ga g_vc g_ec g_F g_T g_X g_Z, gA Y va vg v_pi, gG Y (fun j => vg (0 + j)) (v_vc 0) (v_ec 0) (v_F 0) (v_T 0) (v_X 0) (v_Z 0), gG Y (fun j => vg (5 + j)) (v_vc 1) (v_ec 1) (v_F 1) (v_T 1) (v_X 1) (v_Z 1), gG Y (fun j => vg (10 + j)) (v_vc 2) (v_ec 2) (v_F 2) (v_T 2) (v_X 2) (v_Z 2), gG Y (fun j => vg (15 + j)) (v_vc 3) (v_ec 3) (v_F 3) (v_T 3) (v_X 3) (v_Z 3), gG Y (fun j => vg (20 + j)) (v_vc 4) (v_ec 4) (v_F 4) (v_T 4) (v_X 4) (v_Z 4)]) o.1 (kfl [gE Y ea er o.2.1 o.2.2.1, gT xa ra ga da va ea sa ca pa o.2.2.2.1, gR Y ra o.2.2.2.2.1, gG Y ga o.2.2.2.2.2.1 o.2.2.2.2.2.2.1 o.2.2.2.2.2.2.2.1 o.2.2.2.2.2.2.2.2.1 o.2.2.2.2.2.2.2.2.2.1 o.2.2.2.2.2.2.2.2.2.2, gA Y va vg v_pi, gG Y (fun j => vg (0 + j)) (v_vc 0) (v_ec 0) (v_F 0) (v_T 0) (v_X 0) (v_Z 0), gG Y (fun j => vg (5 + j)) (v_vc 1) (v_ec 1) (v_F 1) (v_T 1) (v_X 1) (v_Z 1), gG Y (fun j => vg (10 + j)) (v_vc 2) (v_ec 2) (v_F 2) (v_T 2) (v_X 2) (v_Z 2), gG Y (fun j => vg (15 + j)) (v_vc 3) (v_ec 3) (v_F 3) (v_T 3) (v_X 3) (v_Z 3), gG Y (fun j => vg (20 + j)) (v_vc 4) (v_ec 4) (v_F 4) (v_T 4) (v_X 4) (v_Z 4)]) := by
  refine ctI_intro (cc := cX5_undo) (maxL := 1) (own := RX5) (by decide +kernel) rfl rfl (Nat.le_of_ble_eq_true rfl) rfl ?_
  intro X A hX _ hret
  have hin5 : ∀ w ∈ u_ws RX5 TX5 9, w ∈ wsX5_undo := by decide +kernel
  have f0 := hX.w (Cond.fieldLink RX5 27 "PeriodicNet" "savedCount" "I") (by decide +kernel)
  have f1 := hX.w (Cond.fieldLink RX5 16 "PeriodicNet" "graph" "LPeriodicNet$Graph;") (by decide +kernel)
  have f2 := hX.w (Cond.fieldLink RX5 23 "PeriodicNet" "saved" "[LPeriodicNet$Graph;") (by decide +kernel)
  have f3 := hX.w (Cond.fieldLink RX5 34 "PeriodicNet" "ends" "LPeriodicNet$Ends;") (by decide +kernel)
  unfold pX5_undo at h
  refine kw_lv (lv' := [(0, .ref xa)]) [0] rfl ?_
  refine kw_aload_n hX 0 dX5_undo_0 rfl 0 rfl ?_
  refine kw_get hX 1 (C := RX5) (T := TX5) (N := 9) hin5 4 f0 (fun _ h => h) 23 rfl rfl (by decide) rfl dX5_undo_1 ?_
  refine kw_iconst hX 4 dX5_undo_4 kci_1 ?_
  refine kw_icmp_ge hX 5 15 dX5_undo_5 (by decide) (fun c1 => ?_) (fun c1 => ?_)
  · have h := kif_t c1 h
    refine kw_aload_n hX 15 dX5_undo_15 rfl 0 rfl ?_
    refine kw_dup hX 16 dX5_undo_16 rfl ?_
    refine kw_get hX 17 (C := RX5) (T := TX5) (N := 9) hin5 4 f0 (fun _ h => h) 23 rfl rfl (by decide) rfl dX5_undo_17 ?_
    refine kw_iconst hX 20 dX5_undo_20 kci_1 ?_
    refine kw_isub hX 21 dX5_undo_21 ?_
    refine kw_put hX 22 (C := RX5) (T := TX5) (N := 9) (ws' := (kfl [gE Y ea er e_cn e_M, gT xa ra ga da va ea sa ca pa (t_scn - 1), gR Y ra r_er, gG Y ga g_vc g_ec g_F g_T g_X g_Z, gA Y va vg v_pi, gG Y (fun j => vg (0 + j)) (v_vc 0) (v_ec 0) (v_F 0) (v_T 0) (v_X 0) (v_Z 0), gG Y (fun j => vg (5 + j)) (v_vc 1) (v_ec 1) (v_F 1) (v_T 1) (v_X 1) (v_Z 1), gG Y (fun j => vg (10 + j)) (v_vc 2) (v_ec 2) (v_F 2) (v_T 2) (v_X 2) (v_Z 2), gG Y (fun j => vg (15 + j)) (v_vc 3) (v_ec 3) (v_F 3) (v_T 3) (v_X 3) (v_Z 3), gG Y (fun j => vg (20 + j)) (v_vc 4) (v_ec 4) (v_F 4) (v_T 4) (v_X 4) (v_Z 4)])) hin5 tyX5 tyX5_ok nmX5 4 f0 (fun _ h => h) 23 rfl rfl (by decide) rfl (ty := .int) (tyX5_ok 4 (by decide)) rfl rfl (Nat.le_of_ble_eq_true rfl) rfl dX5_undo_22 ?_
    refine kw_aload_n hX 25 dX5_undo_25 rfl 0 rfl ?_
    refine kw_get hX 26 (C := RX5) (T := TX5) (N := 9) hin5 1 f1 (fun _ h => h) 23 rfl rfl (by decide) rfl dX5_undo_26 ?_
    refine kw_aload_n hX 29 dX5_undo_29 rfl 0 rfl ?_
    refine kw_get hX 30 (C := RX5) (T := TX5) (N := 9) hin5 3 f2 (fun _ h => h) 23 rfl rfl (by decide) rfl dX5_undo_30 ?_
    refine kw_aload_n hX 33 dX5_undo_33 rfl 0 rfl ?_
    refine kw_get hX 34 (C := RX5) (T := TX5) (N := 9) hin5 4 f0 (fun _ h => h) 23 rfl rfl (by decide) rfl dX5_undo_34 ?_
    obtain ⟨g2, h⟩ := kgd_some h
    refine kw_aald3 hX 37 30 rfl g2 rfl dX5_undo_37 ?_
    obtain ⟨g3, h⟩ := kgd_some h
    obtain ⟨v4, hc5, h⟩ := kb_some h
    have J6 : KW X Y A 1 0 0 (kfl [gE Y ea er e_cn e_M, gT xa ra ga da va ea sa ca pa (t_scn - 1), gR Y ra r_er, gG Y ga v4.1 v4.2.1 v4.2.2.1 v4.2.2.2.1 v4.2.2.2.2.1 v4.2.2.2.2.2, gA Y va vg v_pi, gG Y (fun j => vg (0 + j)) (v_vc 0) (v_ec 0) (v_F 0) (v_T 0) (v_X 0) (v_Z 0), gG Y (fun j => vg (5 + j)) (v_vc 1) (v_ec 1) (v_F 1) (v_T 1) (v_X 1) (v_Z 1), gG Y (fun j => vg (10 + j)) (v_vc 2) (v_ec 2) (v_F 2) (v_T 2) (v_X 2) (v_Z 2), gG Y (fun j => vg (15 + j)) (v_vc 3) (v_ec 3) (v_F 3) (v_T 3) (v_X 3) (v_Z 3), gG Y (fun j => vg (20 + j)) (v_vc 4) (v_ec 4) (v_F 4) (v_T 4) (v_X 4) (v_Z 4)]) [(0, .ref xa)] 41 [] := by
      refine kw_aload_n hX 41 dX5_undo_41 rfl 0 rfl ?_
      refine kw_get hX 42 (C := RX5) (T := TX5) (N := 9) hin5 5 f3 (fun _ h => h) 23 rfl rfl (by decide) rfl dX5_undo_42 ?_
      refine kw_aload_n hX 45 dX5_undo_45 rfl 0 rfl ?_
      refine kw_get hX 46 (C := RX5) (T := TX5) (N := 9) hin5 1 f1 (fun _ h => h) 23 rfl rfl (by decide) rfl dX5_undo_46 ?_
      obtain ⟨v7, hc8, h⟩ := kb_some h
      refine kw_callV_V hX 49 (As := [.ref (ga 0)]) (rest := []) (kX1_listAll (kx_l X) Y ea er ga e_cn e_M v4.1 v4.2.1 v4.2.2.1 v4.2.2.2.1 v4.2.2.2.2.1 v4.2.2.2.2.2 hc8) gX5_undo_X1_listAll rfl 1 rfl hdV_X1_listAll ⟨rfl, rfl⟩ ⟨by decide, by decide⟩ ⟨Nat.zero_le _, Nat.zero_le _⟩ rfl (Nat.le_of_ble_eq_true rfl) [0, 3] (by decide) rfl (kfc gE_f (kfc rfl kfn0)) (gs1 := [gE Y ea er v7.1 v7.2, gT xa ra ga da va ea sa ca pa (t_scn - 1), gR Y ra r_er, gG Y ga v4.1 v4.2.1 v4.2.2.1 v4.2.2.2.1 v4.2.2.2.2.1 v4.2.2.2.2.2, gA Y va vg v_pi, gG Y (fun j => vg (0 + j)) (v_vc 0) (v_ec 0) (v_F 0) (v_T 0) (v_X 0) (v_Z 0), gG Y (fun j => vg (5 + j)) (v_vc 1) (v_ec 1) (v_F 1) (v_T 1) (v_X 1) (v_Z 1), gG Y (fun j => vg (10 + j)) (v_vc 2) (v_ec 2) (v_F 2) (v_T 2) (v_X 2) (v_Z 2), gG Y (fun j => vg (15 + j)) (v_vc 3) (v_ec 3) (v_F 3) (v_T 3) (v_X 3) (v_Z 3), gG Y (fun j => vg (20 + j)) (v_vc 4) (v_ec 4) (v_F 4) (v_T 4) (v_X 4) (v_Z 4)]) rfl 0 1 rfl rfl rfl dX5_undo_49 ?_
      refine kw_aload_n hX 52 dX5_undo_52 rfl 0 rfl ?_
      refine kw_get hX 53 (C := RX5) (T := TX5) (N := 9) hin5 4 f0 (fun _ h => h) 23 rfl rfl (by decide) rfl dX5_undo_53 ?_
      obtain rfl := Option.some.inj h
      exact hret _ _ dX5_undo_56 rfl
    rcases kj5 (of_decide_eq_true g3) with e | e | e | e | e
    · try rw [e] at hc5
      try rw [e] at J6
      rw [e]
      exact kw_callV_V hX 38 (As := [.ref (vg (5 * 0))]) (rest := []) (kX2_copyFrom (kx_l X) Y ga (fun j => vg (0 + j)) g_vc g_ec g_F g_T g_X g_Z (v_vc 0) (v_ec 0) (v_F 0) (v_T 0) (v_X 0) (v_Z 0) hc5) gX5_undo_X2_copyFrom rfl 1 rfl hdV_X2_copyFrom ⟨rfl, rfl⟩ ⟨by decide, by decide⟩ ⟨Nat.zero_le _, Nat.zero_le _⟩ rfl (Nat.le_of_ble_eq_true rfl) [3, 5] (by decide) rfl (kfc gG_f (kfc rfl kfn0)) (gs1 := [gE Y ea er e_cn e_M, gT xa ra ga da va ea sa ca pa (t_scn - 1), gR Y ra r_er, gG Y ga v4.1 v4.2.1 v4.2.2.1 v4.2.2.2.1 v4.2.2.2.2.1 v4.2.2.2.2.2, gA Y va vg v_pi, gG Y (fun j => vg (0 + j)) (v_vc 0) (v_ec 0) (v_F 0) (v_T 0) (v_X 0) (v_Z 0), gG Y (fun j => vg (5 + j)) (v_vc 1) (v_ec 1) (v_F 1) (v_T 1) (v_X 1) (v_Z 1), gG Y (fun j => vg (10 + j)) (v_vc 2) (v_ec 2) (v_F 2) (v_T 2) (v_X 2) (v_Z 2), gG Y (fun j => vg (15 + j)) (v_vc 3) (v_ec 3) (v_F 3) (v_T 3) (v_X 3) (v_Z 3), gG Y (fun j => vg (20 + j)) (v_vc 4) (v_ec 4) (v_F 4) (v_T 4) (v_X 4) (v_Z 4)]) rfl 25 2 rfl rfl rfl dX5_undo_38 J6
    · try rw [e] at hc5
      try rw [e] at J6
      rw [e]
      exact kw_callV_V hX 38 (As := [.ref (vg (5 * 1))]) (rest := []) (kX2_copyFrom (kx_l X) Y ga (fun j => vg (5 + j)) g_vc g_ec g_F g_T g_X g_Z (v_vc 1) (v_ec 1) (v_F 1) (v_T 1) (v_X 1) (v_Z 1) hc5) gX5_undo_X2_copyFrom rfl 1 rfl hdV_X2_copyFrom ⟨rfl, rfl⟩ ⟨by decide, by decide⟩ ⟨Nat.zero_le _, Nat.zero_le _⟩ rfl (Nat.le_of_ble_eq_true rfl) [3, 6] (by decide) rfl (kfc gG_f (kfc rfl kfn0)) (gs1 := [gE Y ea er e_cn e_M, gT xa ra ga da va ea sa ca pa (t_scn - 1), gR Y ra r_er, gG Y ga v4.1 v4.2.1 v4.2.2.1 v4.2.2.2.1 v4.2.2.2.2.1 v4.2.2.2.2.2, gA Y va vg v_pi, gG Y (fun j => vg (0 + j)) (v_vc 0) (v_ec 0) (v_F 0) (v_T 0) (v_X 0) (v_Z 0), gG Y (fun j => vg (5 + j)) (v_vc 1) (v_ec 1) (v_F 1) (v_T 1) (v_X 1) (v_Z 1), gG Y (fun j => vg (10 + j)) (v_vc 2) (v_ec 2) (v_F 2) (v_T 2) (v_X 2) (v_Z 2), gG Y (fun j => vg (15 + j)) (v_vc 3) (v_ec 3) (v_F 3) (v_T 3) (v_X 3) (v_Z 3), gG Y (fun j => vg (20 + j)) (v_vc 4) (v_ec 4) (v_F 4) (v_T 4) (v_X 4) (v_Z 4)]) rfl 25 2 rfl rfl rfl dX5_undo_38 J6
    · try rw [e] at hc5
      try rw [e] at J6
      rw [e]
      exact kw_callV_V hX 38 (As := [.ref (vg (5 * 2))]) (rest := []) (kX2_copyFrom (kx_l X) Y ga (fun j => vg (10 + j)) g_vc g_ec g_F g_T g_X g_Z (v_vc 2) (v_ec 2) (v_F 2) (v_T 2) (v_X 2) (v_Z 2) hc5) gX5_undo_X2_copyFrom rfl 1 rfl hdV_X2_copyFrom ⟨rfl, rfl⟩ ⟨by decide, by decide⟩ ⟨Nat.zero_le _, Nat.zero_le _⟩ rfl (Nat.le_of_ble_eq_true rfl) [3, 7] (by decide) rfl (kfc gG_f (kfc rfl kfn0)) (gs1 := [gE Y ea er e_cn e_M, gT xa ra ga da va ea sa ca pa (t_scn - 1), gR Y ra r_er, gG Y ga v4.1 v4.2.1 v4.2.2.1 v4.2.2.2.1 v4.2.2.2.2.1 v4.2.2.2.2.2, gA Y va vg v_pi, gG Y (fun j => vg (0 + j)) (v_vc 0) (v_ec 0) (v_F 0) (v_T 0) (v_X 0) (v_Z 0), gG Y (fun j => vg (5 + j)) (v_vc 1) (v_ec 1) (v_F 1) (v_T 1) (v_X 1) (v_Z 1), gG Y (fun j => vg (10 + j)) (v_vc 2) (v_ec 2) (v_F 2) (v_T 2) (v_X 2) (v_Z 2), gG Y (fun j => vg (15 + j)) (v_vc 3) (v_ec 3) (v_F 3) (v_T 3) (v_X 3) (v_Z 3), gG Y (fun j => vg (20 + j)) (v_vc 4) (v_ec 4) (v_F 4) (v_T 4) (v_X 4) (v_Z 4)]) rfl 25 2 rfl rfl rfl dX5_undo_38 J6
    · try rw [e] at hc5
      try rw [e] at J6
      rw [e]
      exact kw_callV_V hX 38 (As := [.ref (vg (5 * 3))]) (rest := []) (kX2_copyFrom (kx_l X) Y ga (fun j => vg (15 + j)) g_vc g_ec g_F g_T g_X g_Z (v_vc 3) (v_ec 3) (v_F 3) (v_T 3) (v_X 3) (v_Z 3) hc5) gX5_undo_X2_copyFrom rfl 1 rfl hdV_X2_copyFrom ⟨rfl, rfl⟩ ⟨by decide, by decide⟩ ⟨Nat.zero_le _, Nat.zero_le _⟩ rfl (Nat.le_of_ble_eq_true rfl) [3, 8] (by decide) rfl (kfc gG_f (kfc rfl kfn0)) (gs1 := [gE Y ea er e_cn e_M, gT xa ra ga da va ea sa ca pa (t_scn - 1), gR Y ra r_er, gG Y ga v4.1 v4.2.1 v4.2.2.1 v4.2.2.2.1 v4.2.2.2.2.1 v4.2.2.2.2.2, gA Y va vg v_pi, gG Y (fun j => vg (0 + j)) (v_vc 0) (v_ec 0) (v_F 0) (v_T 0) (v_X 0) (v_Z 0), gG Y (fun j => vg (5 + j)) (v_vc 1) (v_ec 1) (v_F 1) (v_T 1) (v_X 1) (v_Z 1), gG Y (fun j => vg (10 + j)) (v_vc 2) (v_ec 2) (v_F 2) (v_T 2) (v_X 2) (v_Z 2), gG Y (fun j => vg (15 + j)) (v_vc 3) (v_ec 3) (v_F 3) (v_T 3) (v_X 3) (v_Z 3), gG Y (fun j => vg (20 + j)) (v_vc 4) (v_ec 4) (v_F 4) (v_T 4) (v_X 4) (v_Z 4)]) rfl 25 2 rfl rfl rfl dX5_undo_38 J6
    · try rw [e] at hc5
      try rw [e] at J6
      rw [e]
      exact kw_callV_V hX 38 (As := [.ref (vg (5 * 4))]) (rest := []) (kX2_copyFrom (kx_l X) Y ga (fun j => vg (20 + j)) g_vc g_ec g_F g_T g_X g_Z (v_vc 4) (v_ec 4) (v_F 4) (v_T 4) (v_X 4) (v_Z 4) hc5) gX5_undo_X2_copyFrom rfl 1 rfl hdV_X2_copyFrom ⟨rfl, rfl⟩ ⟨by decide, by decide⟩ ⟨Nat.zero_le _, Nat.zero_le _⟩ rfl (Nat.le_of_ble_eq_true rfl) [3, 9] (by decide) rfl (kfc gG_f (kfc rfl kfn0)) (gs1 := [gE Y ea er e_cn e_M, gT xa ra ga da va ea sa ca pa (t_scn - 1), gR Y ra r_er, gG Y ga v4.1 v4.2.1 v4.2.2.1 v4.2.2.2.1 v4.2.2.2.2.1 v4.2.2.2.2.2, gA Y va vg v_pi, gG Y (fun j => vg (0 + j)) (v_vc 0) (v_ec 0) (v_F 0) (v_T 0) (v_X 0) (v_Z 0), gG Y (fun j => vg (5 + j)) (v_vc 1) (v_ec 1) (v_F 1) (v_T 1) (v_X 1) (v_Z 1), gG Y (fun j => vg (10 + j)) (v_vc 2) (v_ec 2) (v_F 2) (v_T 2) (v_X 2) (v_Z 2), gG Y (fun j => vg (15 + j)) (v_vc 3) (v_ec 3) (v_F 3) (v_T 3) (v_X 3) (v_Z 3), gG Y (fun j => vg (20 + j)) (v_vc 4) (v_ec 4) (v_F 4) (v_T 4) (v_X 4) (v_Z 4)]) rfl 25 2 rfl rfl rfl dX5_undo_38 J6
  · have h := kif_f c1 h
    refine kw_aload_n hX 8 dX5_undo_8 rfl 0 rfl ?_
    refine kw_bipush hX 9 dX5_undo_9 kcb_m7 ?_
    obtain ⟨v9, hc10, h⟩ := kb_some h
    refine kw_callV_I hX 11 (As := [.int (-7)]) (rest := []) (kX5_fail (kx_l X) Y xa ra ga da va ea sa ca pa t_scn r_er (-7) hc10) gX5_undo_X5_fail rfl 1 rfl hdV_X5_fail ⟨rfl, rfl⟩ ⟨by decide, by decide⟩ ⟨Nat.zero_le _, Nat.zero_le _⟩ rfl (Nat.le_of_ble_eq_true rfl) [1, 2] (by decide) rfl (kfc rfl (kfc gR_f kfn0)) (gs1 := [gE Y ea er e_cn e_M, gT xa ra ga da va ea sa ca pa t_scn, gR Y ra v9.2, gG Y ga g_vc g_ec g_F g_T g_X g_Z, gA Y va vg v_pi, gG Y (fun j => vg (0 + j)) (v_vc 0) (v_ec 0) (v_F 0) (v_T 0) (v_X 0) (v_Z 0), gG Y (fun j => vg (5 + j)) (v_vc 1) (v_ec 1) (v_F 1) (v_T 1) (v_X 1) (v_Z 1), gG Y (fun j => vg (10 + j)) (v_vc 2) (v_ec 2) (v_F 2) (v_T 2) (v_X 2) (v_Z 2), gG Y (fun j => vg (15 + j)) (v_vc 3) (v_ec 3) (v_F 3) (v_T 3) (v_X 3) (v_Z 3), gG Y (fun j => vg (20 + j)) (v_vc 4) (v_ec 4) (v_F 4) (v_T 4) (v_X 4) (v_Z 4)]) rfl 23 5 rfl rfl rfl dX5_undo_11 ?_
    obtain rfl := Option.some.inj h
    exact hret _ _ dX5_undo_14 rfl
def pX5_errorCount (a1 : Int32) (r_er : Nat → Int32) : Option (Int32 × (Nat → Int32)) := (if ((-2) : Int32) < a1 then kb (pX5_fail (-2) r_er) (fun v2 => some (v2.1, v2.2)) else (if ((-7) : Int32) ≤ a1 then kgd (kin ((-2) - a1) 6) (some ((r_er (((-2) - a1) : Int32).toNatClampNeg), r_er)) else kb (pX5_fail (-2) r_er) (fun v6 => some (v6.1, v6.2))))
def rmX5_errorCount : Room := { frames := 1, cells := 0, slots := 0, locals := 22 }
theorem hdV_X5_errorCount : yX5_errorCount.cls = RX5 ∧ yX5_errorCount.cls ≠ "java/lang/invoke/MethodHandle" ∧ yX5_errorCount.cls ≠ "java/lang/invoke/VarHandle" ∧ (parseMethodDescriptor yX5_errorCount.desc).map (fun d => d.parameters.length) = some 1 := ⟨rfl, by decide +kernel, by decide +kernel, by decide +kernel⟩
set_option maxHeartbeats 4000000 in
set_option maxRecDepth 100000 in
theorem kX5_errorCount (l : Launch) (Y : KY) (xa : Nat) (ra : Nat) (ga : Nat → Nat) (da : Nat → Nat) (va : Nat) (ea : Nat → Nat) (sa : Nat → Nat) (ca : Nat → Nat) (pa : Nat → Nat) (t_scn : Int32) (r_er : Nat → Int32) (a1 : Int32) {o : Int32 × (Nat → Int32)} (h : pX5_errorCount a1 r_er = some o) : CtI l yX5_errorCount wsX5_errorCount rmX5_errorCount Y [.ref xa, .int a1] (kfl [gT xa ra ga da va ea sa ca pa t_scn, gR Y ra r_er]) o.1 (kfl [gT xa ra ga da va ea sa ca pa t_scn, gR Y ra o.2]) := by
  refine ctI_intro (cc := cX5_errorCount) (maxL := 2) (own := RX5) (by decide +kernel) rfl rfl (Nat.le_of_ble_eq_true rfl) rfl ?_
  intro X A hX _ hret
  have hin5 : ∀ w ∈ u_ws RX5 TX5 9, w ∈ wsX5_errorCount := by decide +kernel
  have f0 := hX.w (Cond.fieldLink RX5 9 "PeriodicNet" "errors" "[I") (by decide +kernel)
  unfold pX5_errorCount at h
  refine kw_lv (lv' := [(0, .ref xa), (1, .int a1)]) [0, 1] rfl ?_
  refine kw_iload_n hX 0 dX5_errorCount_0 rfl 1 rfl ?_
  refine kw_bipush hX 1 dX5_errorCount_1 kcb_m2 ?_
  refine kw_icmp_gt hX 3 12 dX5_errorCount_3 (by decide) (fun c1 => ?_) (fun c1 => ?_)
  · have h := kif_t c1 h
    refine kw_aload_n hX 12 dX5_errorCount_12 rfl 0 rfl ?_
    refine kw_bipush hX 13 dX5_errorCount_13 kcb_m2 ?_
    obtain ⟨v2, hc3, h⟩ := kb_some h
    refine kw_callV_I hX 15 (As := [.int (-2)]) (rest := []) (kX5_fail (kx_l X) Y xa ra ga da va ea sa ca pa t_scn r_er (-2) hc3) gX5_errorCount_X5_fail rfl 1 rfl hdV_X5_fail ⟨rfl, rfl⟩ ⟨by decide, by decide⟩ ⟨Nat.zero_le _, Nat.zero_le _⟩ rfl (Nat.le_of_ble_eq_true rfl) [0, 1] (by decide) rfl (kfc rfl (kfc gR_f kfn0)) (gs1 := [gT xa ra ga da va ea sa ca pa t_scn, gR Y ra v2.2]) rfl 0 5 rfl rfl rfl dX5_errorCount_15 ?_
    obtain rfl := Option.some.inj h
    exact hret _ _ dX5_errorCount_18 rfl
  · have h := kif_f c1 h
    refine kw_iload_n hX 6 dX5_errorCount_6 rfl 1 rfl ?_
    refine kw_bipush hX 7 dX5_errorCount_7 kcb_m7 ?_
    refine kw_icmp_ge hX 9 19 dX5_errorCount_9 (by decide) (fun c4 => ?_) (fun c4 => ?_)
    · have h := kif_t c4 h
      refine kw_aload_n hX 19 dX5_errorCount_19 rfl 0 rfl ?_
      refine kw_get hX 20 (C := RX5) (T := TX5) (N := 9) hin5 0 f0 (fun _ h => h) 0 rfl rfl (by decide) rfl dX5_errorCount_20 ?_
      refine kw_bipush hX 23 dX5_errorCount_23 kcb_m2 ?_
      refine kw_iload_n hX 25 dX5_errorCount_25 rfl 1 rfl ?_
      refine kw_isub hX 26 dX5_errorCount_26 ?_
      obtain ⟨g5, h⟩ := kgd_some h
      refine kw_iald hX 27 1 rfl g5 dX5_errorCount_27 ?_
      obtain rfl := Option.some.inj h
      exact hret _ _ dX5_errorCount_28 rfl
    · have h := kif_f c4 h
      refine kw_aload_n hX 12 dX5_errorCount_12 rfl 0 rfl ?_
      refine kw_bipush hX 13 dX5_errorCount_13 kcb_m2 ?_
      obtain ⟨v6, hc7, h⟩ := kb_some h
      refine kw_callV_I hX 15 (As := [.int (-2)]) (rest := []) (kX5_fail (kx_l X) Y xa ra ga da va ea sa ca pa t_scn r_er (-2) hc7) gX5_errorCount_X5_fail rfl 1 rfl hdV_X5_fail ⟨rfl, rfl⟩ ⟨by decide, by decide⟩ ⟨Nat.zero_le _, Nat.zero_le _⟩ rfl (Nat.le_of_ble_eq_true rfl) [0, 1] (by decide) rfl (kfc rfl (kfc gR_f kfn0)) (gs1 := [gT xa ra ga da va ea sa ca pa t_scn, gR Y ra v6.2]) rfl 0 5 rfl rfl rfl dX5_errorCount_15 ?_
      obtain rfl := Option.some.inj h
      exact hret _ _ dX5_errorCount_18 rfl
def pX5_mixGraph_L29 : Nat → Int64 → Int32 → Int32 → (Nat → Int32) → (Nat → Int32) → (Nat → Int32) → (Nat → Int32) → Option (Int64 × Int32)
  | 0, _, _, _, _, _, _, _ => none
  | n + 1, l3, l5, z_g_ec, z_g_F, z_g_T, z_g_X, z_g_Z => (if z_g_ec ≤ l5 then some (l3, l5) else kgd (kin l5 12) (kb (pX5_mix l3 (((z_g_F (l5 : Int32).toNatClampNeg) : Int32).toInt64)) (fun v7 => kgd (kin l5 12) (kb (pX5_mix v7 (((z_g_T (l5 : Int32).toNatClampNeg) : Int32).toInt64)) (fun v10 => kgd (kin l5 12) (kb (pX5_mix v10 (((z_g_X (l5 : Int32).toNatClampNeg) : Int32).toInt64)) (fun v13 => kgd (kin l5 12) (kb (pX5_mix v13 (((z_g_Z (l5 : Int32).toNatClampNeg) : Int32).toInt64)) (fun v16 => pX5_mixGraph_L29 n v16 (l5 + 1) z_g_ec z_g_F z_g_T z_g_X z_g_Z)))))))))
def pX5_mixGraph (a1 : Int64) (g_vc : Int32) (g_ec : Int32) (g_F : Nat → Int32) (g_T : Nat → Int32) (g_X : Nat → Int32) (g_Z : Nat → Int32) : Option (Int64) := kb (pX5_mix a1 ((g_vc : Int32).toInt64)) (fun v1 => kb (pX5_mix v1 ((g_ec : Int32).toInt64)) (fun v3 => kb (pX5_mixGraph_L29 KF v3 0 g_ec g_F g_T g_X g_Z) (fun v18 => some v18.1)))
def rmX5_mixGraph : Room := { frames := 1, cells := 0, slots := 0, locals := 23 }
theorem hdV_X5_mixGraph : yX5_mixGraph.cls = RX5 ∧ yX5_mixGraph.cls ≠ "java/lang/invoke/MethodHandle" ∧ yX5_mixGraph.cls ≠ "java/lang/invoke/VarHandle" ∧ (parseMethodDescriptor yX5_mixGraph.desc).map (fun d => d.parameters.length) = some 1 := ⟨rfl, by decide +kernel, by decide +kernel, by decide +kernel⟩
set_option maxHeartbeats 4000000 in
set_option maxRecDepth 100000 in
theorem kX5_mixGraph (l : Launch) (Y : KY) (xa : Nat) (ra : Nat) (ga : Nat → Nat) (da : Nat → Nat) (va : Nat) (ea : Nat → Nat) (sa : Nat → Nat) (ca : Nat → Nat) (pa : Nat → Nat) (t_scn : Int32) (g_vc : Int32) (g_ec : Int32) (g_F : Nat → Int32) (g_T : Nat → Int32) (g_X : Nat → Int32) (g_Z : Nat → Int32) (a1 : Int64) {o : Int64} (h : pX5_mixGraph a1 g_vc g_ec g_F g_T g_X g_Z = some o) : CtL l yX5_mixGraph wsX5_mixGraph rmX5_mixGraph Y [.ref xa, .long a1] (kfl [gT xa ra ga da va ea sa ca pa t_scn, gG Y ga g_vc g_ec g_F g_T g_X g_Z]) o (kfl [gT xa ra ga da va ea sa ca pa t_scn, gG Y ga g_vc g_ec g_F g_T g_X g_Z]) := by
  refine ctL_intro (cc := cX5_mixGraph) (maxL := 6) (own := RX5) (by decide +kernel) rfl rfl (Nat.le_of_ble_eq_true rfl) rfl ?_
  intro X A hX _ hret
  have hin2 : ∀ w ∈ u_ws RX2 TX2 6, w ∈ wsX5_mixGraph := by decide +kernel
  have hin5 : ∀ w ∈ u_ws RX5 TX5 9, w ∈ wsX5_mixGraph := by decide +kernel
  have f0 := hX.w (Cond.fieldLink RX5 16 "PeriodicNet" "graph" "LPeriodicNet$Graph;") (by decide +kernel)
  have f1 := hX.w (Cond.fieldLink RX5 63 "PeriodicNet$Graph" "vertexCount" "I") (by decide +kernel)
  have f2 := hX.w (Cond.fieldLink RX5 84 "PeriodicNet$Graph" "edgeCount" "I") (by decide +kernel)
  have f3 := hX.w (Cond.fieldLink RX5 227 "PeriodicNet$Graph" "from" "[I") (by decide +kernel)
  have f4 := hX.w (Cond.fieldLink RX5 230 "PeriodicNet$Graph" "to" "[I") (by decide +kernel)
  have f5 := hX.w (Cond.fieldLink RX5 233 "PeriodicNet$Graph" "shiftX" "[I") (by decide +kernel)
  have f6 := hX.w (Cond.fieldLink RX5 236 "PeriodicNet$Graph" "shiftY" "[I") (by decide +kernel)
  have L29 : ∀ (n : Nat) (l3 : Int64) (l5 : Int32) (z_t_scn : Int32) (z_g_vc : Int32) (z_g_ec : Int32) (z_g_F : Nat → Int32) (z_g_T : Nat → Int32) (z_g_X : Nat → Int32) (z_g_Z : Nat → Int32) (o : Int64 × Int32), pX5_mixGraph_L29 n l3 l5 z_g_ec z_g_F z_g_T z_g_X z_g_Z = some o → KW X Y A 6 0 0 (kfl [gT xa ra ga da va ea sa ca pa z_t_scn, gG Y ga z_g_vc z_g_ec z_g_F z_g_T z_g_X z_g_Z]) [(0, .ref xa), (3, .long o.1), (5, .int o.2)] 111 [] → KW X Y A 6 0 0 (kfl [gT xa ra ga da va ea sa ca pa z_t_scn, gG Y ga z_g_vc z_g_ec z_g_F z_g_T z_g_X z_g_Z]) [(0, .ref xa), (3, .long l3), (5, .int l5)] 29 [] := by
    intro n
    induction n with
    | zero => intro l3 l5 z_t_scn z_g_vc z_g_ec z_g_F z_g_T z_g_X z_g_Z o h; cases h
    | succ n ih =>
      intro l3 l5 z_t_scn z_g_vc z_g_ec z_g_F z_g_T z_g_X z_g_Z o h hK
      rw [pX5_mixGraph_L29] at h
      refine kw_iload hX 29 dX5_mixGraph_29 2 rfl ?_
      refine kw_aload_n hX 31 dX5_mixGraph_31 rfl 0 rfl ?_
      refine kw_get hX 32 (C := RX5) (T := TX5) (N := 9) hin5 1 f0 (fun _ h => h) 0 rfl rfl (by decide) rfl dX5_mixGraph_32 ?_
      refine kw_get hX 35 (C := RX2) (T := TX2) (N := 6) hin2 1 f2 (fun _ h => h) 1 rfl rfl (by decide) rfl dX5_mixGraph_35 ?_
      refine kw_icmp_ge hX 38 111 dX5_mixGraph_38 (by decide) (fun c5 => ?_) (fun c5 => ?_)
      · have h := kif_t c5 h
        obtain rfl := Option.some.inj h
        refine kw_lv (lv' := [(0, .ref xa), (3, .long l3), (5, .int l5)]) [0, 1, 2] rfl ?_
        exact hK
      · have h := kif_f c5 h
        refine kw_lload_n hX 41 dX5_mixGraph_41 rfl 1 rfl ?_
        refine kw_aload_n hX 42 dX5_mixGraph_42 rfl 0 rfl ?_
        refine kw_get hX 43 (C := RX5) (T := TX5) (N := 9) hin5 1 f0 (fun _ h => h) 0 rfl rfl (by decide) rfl dX5_mixGraph_43 ?_
        refine kw_get hX 46 (C := RX2) (T := TX2) (N := 6) hin2 2 f3 (fun _ h => h) 1 rfl rfl (by decide) rfl dX5_mixGraph_46 ?_
        refine kw_iload hX 49 dX5_mixGraph_49 2 rfl ?_
        obtain ⟨g6, h⟩ := kgd_some h
        refine kw_iald hX 51 2 rfl g6 dX5_mixGraph_51 ?_
        refine kw_i2l hX 52 dX5_mixGraph_52 ?_
        obtain ⟨v7, hc8, h⟩ := kb_some h
        refine kw_callS_L hX 53 (As := [.long l3, .long (((z_g_F (l5 : Int32).toNatClampNeg) : Int32).toInt64)]) (rest := []) (kX5_mix (kx_l X) Y l3 (((z_g_F (l5 : Int32).toNatClampNeg) : Int32).toInt64) hc8) gX5_mixGraph_X5_mix rfl 2 rfl hdS_X5_mix ⟨rfl, rfl⟩ ⟨by decide, by decide⟩ ⟨Nat.zero_le _, Nat.zero_le _⟩ rfl (Nat.le_of_ble_eq_true rfl) [] (by decide) rfl kfn0 (gs1 := [gT xa ra ga da va ea sa ca pa z_t_scn, gG Y ga z_g_vc z_g_ec z_g_F z_g_T z_g_X z_g_Z]) rfl dX5_mixGraph_53 ?_
        refine kw_lstore_n (lv' := [(3, .long v7), (0, .ref xa), (5, .int l5)]) hX 56 dX5_mixGraph_56 rfl (by decide) rfl ?_
        refine kw_lload_n hX 57 dX5_mixGraph_57 rfl 0 rfl ?_
        refine kw_aload_n hX 58 dX5_mixGraph_58 rfl 1 rfl ?_
        refine kw_get hX 59 (C := RX5) (T := TX5) (N := 9) hin5 1 f0 (fun _ h => h) 0 rfl rfl (by decide) rfl dX5_mixGraph_59 ?_
        refine kw_get hX 62 (C := RX2) (T := TX2) (N := 6) hin2 3 f4 (fun _ h => h) 1 rfl rfl (by decide) rfl dX5_mixGraph_62 ?_
        refine kw_iload hX 65 dX5_mixGraph_65 2 rfl ?_
        obtain ⟨g9, h⟩ := kgd_some h
        refine kw_iald hX 67 3 rfl g9 dX5_mixGraph_67 ?_
        refine kw_i2l hX 68 dX5_mixGraph_68 ?_
        obtain ⟨v10, hc11, h⟩ := kb_some h
        refine kw_callS_L hX 69 (As := [.long v7, .long (((z_g_T (l5 : Int32).toNatClampNeg) : Int32).toInt64)]) (rest := []) (kX5_mix (kx_l X) Y v7 (((z_g_T (l5 : Int32).toNatClampNeg) : Int32).toInt64) hc11) gX5_mixGraph_X5_mix rfl 2 rfl hdS_X5_mix ⟨rfl, rfl⟩ ⟨by decide, by decide⟩ ⟨Nat.zero_le _, Nat.zero_le _⟩ rfl (Nat.le_of_ble_eq_true rfl) [] (by decide) rfl kfn0 (gs1 := [gT xa ra ga da va ea sa ca pa z_t_scn, gG Y ga z_g_vc z_g_ec z_g_F z_g_T z_g_X z_g_Z]) rfl dX5_mixGraph_69 ?_
        refine kw_lstore_n (lv' := [(3, .long v10), (0, .ref xa), (5, .int l5)]) hX 72 dX5_mixGraph_72 rfl (by decide) rfl ?_
        refine kw_lload_n hX 73 dX5_mixGraph_73 rfl 0 rfl ?_
        refine kw_aload_n hX 74 dX5_mixGraph_74 rfl 1 rfl ?_
        refine kw_get hX 75 (C := RX5) (T := TX5) (N := 9) hin5 1 f0 (fun _ h => h) 0 rfl rfl (by decide) rfl dX5_mixGraph_75 ?_
        refine kw_get hX 78 (C := RX2) (T := TX2) (N := 6) hin2 4 f5 (fun _ h => h) 1 rfl rfl (by decide) rfl dX5_mixGraph_78 ?_
        refine kw_iload hX 81 dX5_mixGraph_81 2 rfl ?_
        obtain ⟨g12, h⟩ := kgd_some h
        refine kw_iald hX 83 4 rfl g12 dX5_mixGraph_83 ?_
        refine kw_i2l hX 84 dX5_mixGraph_84 ?_
        obtain ⟨v13, hc14, h⟩ := kb_some h
        refine kw_callS_L hX 85 (As := [.long v10, .long (((z_g_X (l5 : Int32).toNatClampNeg) : Int32).toInt64)]) (rest := []) (kX5_mix (kx_l X) Y v10 (((z_g_X (l5 : Int32).toNatClampNeg) : Int32).toInt64) hc14) gX5_mixGraph_X5_mix rfl 2 rfl hdS_X5_mix ⟨rfl, rfl⟩ ⟨by decide, by decide⟩ ⟨Nat.zero_le _, Nat.zero_le _⟩ rfl (Nat.le_of_ble_eq_true rfl) [] (by decide) rfl kfn0 (gs1 := [gT xa ra ga da va ea sa ca pa z_t_scn, gG Y ga z_g_vc z_g_ec z_g_F z_g_T z_g_X z_g_Z]) rfl dX5_mixGraph_85 ?_
        refine kw_lstore_n (lv' := [(3, .long v13), (0, .ref xa), (5, .int l5)]) hX 88 dX5_mixGraph_88 rfl (by decide) rfl ?_
        refine kw_lload_n hX 89 dX5_mixGraph_89 rfl 0 rfl ?_
        refine kw_aload_n hX 90 dX5_mixGraph_90 rfl 1 rfl ?_
        refine kw_get hX 91 (C := RX5) (T := TX5) (N := 9) hin5 1 f0 (fun _ h => h) 0 rfl rfl (by decide) rfl dX5_mixGraph_91 ?_
        refine kw_get hX 94 (C := RX2) (T := TX2) (N := 6) hin2 5 f6 (fun _ h => h) 1 rfl rfl (by decide) rfl dX5_mixGraph_94 ?_
        refine kw_iload hX 97 dX5_mixGraph_97 2 rfl ?_
        obtain ⟨g15, h⟩ := kgd_some h
        refine kw_iald hX 99 5 rfl g15 dX5_mixGraph_99 ?_
        refine kw_i2l hX 100 dX5_mixGraph_100 ?_
        obtain ⟨v16, hc17, h⟩ := kb_some h
        refine kw_callS_L hX 101 (As := [.long v13, .long (((z_g_Z (l5 : Int32).toNatClampNeg) : Int32).toInt64)]) (rest := []) (kX5_mix (kx_l X) Y v13 (((z_g_Z (l5 : Int32).toNatClampNeg) : Int32).toInt64) hc17) gX5_mixGraph_X5_mix rfl 2 rfl hdS_X5_mix ⟨rfl, rfl⟩ ⟨by decide, by decide⟩ ⟨Nat.zero_le _, Nat.zero_le _⟩ rfl (Nat.le_of_ble_eq_true rfl) [] (by decide) rfl kfn0 (gs1 := [gT xa ra ga da va ea sa ca pa z_t_scn, gG Y ga z_g_vc z_g_ec z_g_F z_g_T z_g_X z_g_Z]) rfl dX5_mixGraph_101 ?_
        refine kw_lstore_n (lv' := [(3, .long v16), (0, .ref xa), (5, .int l5)]) hX 104 dX5_mixGraph_104 rfl (by decide) rfl ?_
        refine kw_iinc (v := (l5 + 1)) (lv' := [(5, .int (l5 + 1)), (3, .long v16), (0, .ref xa)]) hX 105 dX5_mixGraph_105 2 rfl (kinc_1 _) (by decide) rfl ?_
        refine kw_goto hX 108 29 dX5_mixGraph_108 (by decide) ?_
        refine kw_lv (lv' := [(0, .ref xa), (3, .long v16), (5, .int (l5 + 1))]) [2, 1, 0] rfl ?_
        exact ih v16 (l5 + 1) z_t_scn z_g_vc z_g_ec z_g_F z_g_T z_g_X z_g_Z o h hK
  unfold pX5_mixGraph at h
  refine kw_lv (lv' := [(0, .ref xa), (1, .long a1)]) [0, 1] rfl ?_
  refine kw_lload_n hX 0 dX5_mixGraph_0 rfl 1 rfl ?_
  refine kw_aload_n hX 1 dX5_mixGraph_1 rfl 0 rfl ?_
  refine kw_get hX 2 (C := RX5) (T := TX5) (N := 9) hin5 1 f0 (fun _ h => h) 0 rfl rfl (by decide) rfl dX5_mixGraph_2 ?_
  refine kw_get hX 5 (C := RX2) (T := TX2) (N := 6) hin2 0 f1 (fun _ h => h) 1 rfl rfl (by decide) rfl dX5_mixGraph_5 ?_
  refine kw_i2l hX 8 dX5_mixGraph_8 ?_
  obtain ⟨v1, hc2, h⟩ := kb_some h
  refine kw_callS_L hX 9 (As := [.long a1, .long ((g_vc : Int32).toInt64)]) (rest := []) (kX5_mix (kx_l X) Y a1 ((g_vc : Int32).toInt64) hc2) gX5_mixGraph_X5_mix rfl 2 rfl hdS_X5_mix ⟨rfl, rfl⟩ ⟨by decide, by decide⟩ ⟨Nat.zero_le _, Nat.zero_le _⟩ rfl (Nat.le_of_ble_eq_true rfl) [] (by decide) rfl kfn0 (gs1 := [gT xa ra ga da va ea sa ca pa t_scn, gG Y ga g_vc g_ec g_F g_T g_X g_Z]) rfl dX5_mixGraph_9 ?_
  refine kw_lstore_n (lv' := [(3, .long v1), (0, .ref xa), (1, .long a1)]) hX 12 dX5_mixGraph_12 rfl (by decide) rfl ?_
  refine kw_lload_n hX 13 dX5_mixGraph_13 rfl 0 rfl ?_
  refine kw_aload_n hX 14 dX5_mixGraph_14 rfl 1 rfl ?_
  refine kw_get hX 15 (C := RX5) (T := TX5) (N := 9) hin5 1 f0 (fun _ h => h) 0 rfl rfl (by decide) rfl dX5_mixGraph_15 ?_
  refine kw_get hX 18 (C := RX2) (T := TX2) (N := 6) hin2 1 f2 (fun _ h => h) 1 rfl rfl (by decide) rfl dX5_mixGraph_18 ?_
  refine kw_i2l hX 21 dX5_mixGraph_21 ?_
  obtain ⟨v3, hc4, h⟩ := kb_some h
  refine kw_callS_L hX 22 (As := [.long v1, .long ((g_ec : Int32).toInt64)]) (rest := []) (kX5_mix (kx_l X) Y v1 ((g_ec : Int32).toInt64) hc4) gX5_mixGraph_X5_mix rfl 2 rfl hdS_X5_mix ⟨rfl, rfl⟩ ⟨by decide, by decide⟩ ⟨Nat.zero_le _, Nat.zero_le _⟩ rfl (Nat.le_of_ble_eq_true rfl) [] (by decide) rfl kfn0 (gs1 := [gT xa ra ga da va ea sa ca pa t_scn, gG Y ga g_vc g_ec g_F g_T g_X g_Z]) rfl dX5_mixGraph_22 ?_
  refine kw_lstore_n (lv' := [(3, .long v3), (0, .ref xa), (1, .long a1)]) hX 25 dX5_mixGraph_25 rfl (by decide) rfl ?_
  refine kw_iconst hX 26 dX5_mixGraph_26 kci_0 ?_
  refine kw_istore (lv' := [(5, .int 0), (3, .long v3), (0, .ref xa), (1, .long a1)]) hX 27 dX5_mixGraph_27 (by decide) rfl ?_
  obtain ⟨v18, hl19, h⟩ := kb_some h
  refine kw_lv (lv' := [(0, .ref xa), (3, .long v3), (5, .int 0)]) [2, 1, 0] rfl ?_
  refine L29 KF v3 0 t_scn g_vc g_ec g_F g_T g_X g_Z v18 hl19 ?_
  refine kw_lload_n hX 111 dX5_mixGraph_111 rfl 1 rfl ?_
  obtain rfl := Option.some.inj h
  exact hret _ _ dX5_mixGraph_112
def pX5_mixPositions_L31 : Nat → Int64 → Int32 → Int32 → (Nat → Nat → Int64) → Int32 → Int64 → Option (Int64 × Int32)
  | 0, _, _, _, _, _, _ => none
  | n + 1, l3, l5, l6, z_p_R, z_p_un, z_p_sc => (if (2 : Int32) ≤ l6 then some (l3, l6) else kb (pX3_top l5 l6 z_p_R z_p_un z_p_sc) (fun v5 => kb (pX5_mix l3 v5) (fun v7 => kb (pX3_bottom l5 l6 z_p_R z_p_un z_p_sc) (fun v9 => kb (pX5_mix v7 v9) (fun v11 => pX5_mixPositions_L31 n v11 l5 (l6 + 1) z_p_R z_p_un z_p_sc)))))
def pX5_mixPositions_L16 : Nat → Int64 → Int32 → (Nat → Nat → Int64) → Int32 → Int64 → Int32 → Option (Int64 × Int32)
  | 0, _, _, _, _, _, _ => none
  | n + 1, l3, l5, z_p_R, z_p_un, z_p_sc, z_g_vc => (if z_g_vc ≤ l5 then some (l3, l5) else kb (pX5_mixPositions_L31 KF l3 l5 0 z_p_R z_p_un z_p_sc) (fun v13 => pX5_mixPositions_L16 n v13.1 (l5 + 1) z_p_R z_p_un z_p_sc z_g_vc))
def pX5_mixPositions (a1 : Int64) (p_R : Nat → Nat → Int64) (p_un : Int32) (p_sc : Int64) (g_vc : Int32) (g_ec : Int32) (g_F : Nat → Int32) (g_T : Nat → Int32) (g_X : Nat → Int32) (g_Z : Nat → Int32) : Option (Int64 × (Nat → Nat → Int64) × Int32 × Int64) := kb (pX3_solve p_R p_un p_sc g_vc g_ec g_F g_T g_X g_Z) (fun v1 => kb (pX5_mixPositions_L16 KF a1 0 v1.1 v1.2.1 v1.2.2 g_vc) (fun v15 => some (v15.1, v1.1, v1.2.1, v1.2.2)))
def rmX5_mixPositions : Room := { frames := 3, cells := 0, slots := 0, locals := 78 }
theorem hdV_X5_mixPositions : yX5_mixPositions.cls = RX5 ∧ yX5_mixPositions.cls ≠ "java/lang/invoke/MethodHandle" ∧ yX5_mixPositions.cls ≠ "java/lang/invoke/VarHandle" ∧ (parseMethodDescriptor yX5_mixPositions.desc).map (fun d => d.parameters.length) = some 1 := ⟨rfl, by decide +kernel, by decide +kernel, by decide +kernel⟩
set_option maxHeartbeats 4000000 in
set_option maxRecDepth 100000 in
theorem kX5_mixPositions (l : Launch) (Y : KY) (xa : Nat) (ra : Nat) (ga : Nat → Nat) (da : Nat → Nat) (va : Nat) (ea : Nat → Nat) (sa : Nat → Nat) (ca : Nat → Nat) (pa : Nat → Nat) (pr : Nat → Nat) (p_R : Nat → Nat → Int64) (p_un : Int32) (p_sc : Int64) (t_scn : Int32) (g_vc : Int32) (g_ec : Int32) (g_F : Nat → Int32) (g_T : Nat → Int32) (g_X : Nat → Int32) (g_Z : Nat → Int32) (a1 : Int64) {o : Int64 × (Nat → Nat → Int64) × Int32 × Int64} (h : pX5_mixPositions a1 p_R p_un p_sc g_vc g_ec g_F g_T g_X g_Z = some o) : CtL l yX5_mixPositions wsX5_mixPositions rmX5_mixPositions Y [.ref xa, .long a1] (kfl [gP Y pa pr p_R p_un p_sc, gT xa ra ga da va ea sa ca pa t_scn, gG Y ga g_vc g_ec g_F g_T g_X g_Z]) o.1 (kfl [gP Y pa pr o.2.1 o.2.2.1 o.2.2.2, gT xa ra ga da va ea sa ca pa t_scn, gG Y ga g_vc g_ec g_F g_T g_X g_Z]) := by
  refine ctL_intro (cc := cX5_mixPositions) (maxL := 7) (own := RX5) (by decide +kernel) rfl rfl (Nat.le_of_ble_eq_true rfl) rfl ?_
  intro X A hX _ hret
  have hin2 : ∀ w ∈ u_ws RX2 TX2 6, w ∈ wsX5_mixPositions := by decide +kernel
  have hin5 : ∀ w ∈ u_ws RX5 TX5 9, w ∈ wsX5_mixPositions := by decide +kernel
  have f0 := hX.w (Cond.fieldLink RX5 55 "PeriodicNet" "placement" "LPeriodicNet$Placement;") (by decide +kernel)
  have f1 := hX.w (Cond.fieldLink RX5 16 "PeriodicNet" "graph" "LPeriodicNet$Graph;") (by decide +kernel)
  have f2 := hX.w (Cond.fieldLink RX5 63 "PeriodicNet$Graph" "vertexCount" "I") (by decide +kernel)
  have L31 : ∀ (n : Nat) (l3 : Int64) (l5 : Int32) (l6 : Int32) (z_p_R : Nat → Nat → Int64) (z_p_un : Int32) (z_p_sc : Int64) (z_t_scn : Int32) (z_g_vc : Int32) (z_g_ec : Int32) (z_g_F : Nat → Int32) (z_g_T : Nat → Int32) (z_g_X : Nat → Int32) (z_g_Z : Nat → Int32) (o : Int64 × Int32), pX5_mixPositions_L31 n l3 l5 l6 z_p_R z_p_un z_p_sc = some o → KW X Y A 7 0 0 (kfl [gP Y pa pr z_p_R z_p_un z_p_sc, gT xa ra ga da va ea sa ca pa z_t_scn, gG Y ga z_g_vc z_g_ec z_g_F z_g_T z_g_X z_g_Z]) [(0, .ref xa), (3, .long o.1), (5, .int l5), (6, .int o.2)] 75 [] → KW X Y A 7 0 0 (kfl [gP Y pa pr z_p_R z_p_un z_p_sc, gT xa ra ga da va ea sa ca pa z_t_scn, gG Y ga z_g_vc z_g_ec z_g_F z_g_T z_g_X z_g_Z]) [(0, .ref xa), (3, .long l3), (5, .int l5), (6, .int l6)] 31 [] := by
    intro n
    induction n with
    | zero => intro l3 l5 l6 z_p_R z_p_un z_p_sc z_t_scn z_g_vc z_g_ec z_g_F z_g_T z_g_X z_g_Z o h; cases h
    | succ n ih =>
      intro l3 l5 l6 z_p_R z_p_un z_p_sc z_t_scn z_g_vc z_g_ec z_g_F z_g_T z_g_X z_g_Z o h hK
      rw [pX5_mixPositions_L31] at h
      refine kw_iload hX 31 dX5_mixPositions_31 3 rfl ?_
      refine kw_iconst hX 33 dX5_mixPositions_33 kci_2 ?_
      refine kw_icmp_ge hX 34 75 dX5_mixPositions_34 (by decide) (fun c4 => ?_) (fun c4 => ?_)
      · have h := kif_t c4 h
        obtain rfl := Option.some.inj h
        refine kw_lv (lv' := [(0, .ref xa), (3, .long l3), (5, .int l5), (6, .int l6)]) [0, 1, 2, 3] rfl ?_
        exact hK
      · have h := kif_f c4 h
        refine kw_lload_n hX 37 dX5_mixPositions_37 rfl 1 rfl ?_
        refine kw_aload_n hX 38 dX5_mixPositions_38 rfl 0 rfl ?_
        refine kw_get hX 39 (C := RX5) (T := TX5) (N := 9) hin5 8 f0 (fun _ h => h) 7 rfl rfl (by decide) rfl dX5_mixPositions_39 ?_
        refine kw_iload hX 42 dX5_mixPositions_42 2 rfl ?_
        refine kw_iload hX 44 dX5_mixPositions_44 3 rfl ?_
        obtain ⟨v5, hc6, h⟩ := kb_some h
        refine kw_callV_L hX 46 (As := [.int l5, .int l6]) (rest := [.long l3]) (kX3_top (kx_l X) Y pa pr z_p_R z_p_un z_p_sc l5 l6 hc6) gX5_mixPositions_X3_top rfl 2 rfl hdV_X3_top ⟨rfl, rfl⟩ ⟨by decide, by decide⟩ ⟨Nat.zero_le _, Nat.zero_le _⟩ rfl (Nat.le_of_ble_eq_true rfl) [0] (by decide) rfl (kfc rfl kfn0) (gs1 := [gP Y pa pr z_p_R z_p_un z_p_sc, gT xa ra ga da va ea sa ca pa z_t_scn, gG Y ga z_g_vc z_g_ec z_g_F z_g_T z_g_X z_g_Z]) rfl 0 3 rfl rfl rfl dX5_mixPositions_46 ?_
        obtain ⟨v7, hc8, h⟩ := kb_some h
        refine kw_callS_L hX 49 (As := [.long l3, .long v5]) (rest := []) (kX5_mix (kx_l X) Y l3 v5 hc8) gX5_mixPositions_X5_mix rfl 2 rfl hdS_X5_mix ⟨rfl, rfl⟩ ⟨by decide, by decide⟩ ⟨Nat.zero_le _, Nat.zero_le _⟩ rfl (Nat.le_of_ble_eq_true rfl) [] (by decide) rfl kfn0 (gs1 := [gP Y pa pr z_p_R z_p_un z_p_sc, gT xa ra ga da va ea sa ca pa z_t_scn, gG Y ga z_g_vc z_g_ec z_g_F z_g_T z_g_X z_g_Z]) rfl dX5_mixPositions_49 ?_
        refine kw_lstore_n (lv' := [(3, .long v7), (0, .ref xa), (5, .int l5), (6, .int l6)]) hX 52 dX5_mixPositions_52 rfl (by decide) rfl ?_
        refine kw_lload_n hX 53 dX5_mixPositions_53 rfl 0 rfl ?_
        refine kw_aload_n hX 54 dX5_mixPositions_54 rfl 1 rfl ?_
        refine kw_get hX 55 (C := RX5) (T := TX5) (N := 9) hin5 8 f0 (fun _ h => h) 7 rfl rfl (by decide) rfl dX5_mixPositions_55 ?_
        refine kw_iload hX 58 dX5_mixPositions_58 2 rfl ?_
        refine kw_iload hX 60 dX5_mixPositions_60 3 rfl ?_
        obtain ⟨v9, hc10, h⟩ := kb_some h
        refine kw_callV_L hX 62 (As := [.int l5, .int l6]) (rest := [.long v7]) (kX3_bottom (kx_l X) Y pa pr z_p_R z_p_un z_p_sc l5 l6 hc10) gX5_mixPositions_X3_bottom rfl 2 rfl hdV_X3_bottom ⟨rfl, rfl⟩ ⟨by decide, by decide⟩ ⟨Nat.zero_le _, Nat.zero_le _⟩ rfl (Nat.le_of_ble_eq_true rfl) [0] (by decide) rfl (kfc rfl kfn0) (gs1 := [gP Y pa pr z_p_R z_p_un z_p_sc, gT xa ra ga da va ea sa ca pa z_t_scn, gG Y ga z_g_vc z_g_ec z_g_F z_g_T z_g_X z_g_Z]) rfl 0 3 rfl rfl rfl dX5_mixPositions_62 ?_
        obtain ⟨v11, hc12, h⟩ := kb_some h
        refine kw_callS_L hX 65 (As := [.long v7, .long v9]) (rest := []) (kX5_mix (kx_l X) Y v7 v9 hc12) gX5_mixPositions_X5_mix rfl 2 rfl hdS_X5_mix ⟨rfl, rfl⟩ ⟨by decide, by decide⟩ ⟨Nat.zero_le _, Nat.zero_le _⟩ rfl (Nat.le_of_ble_eq_true rfl) [] (by decide) rfl kfn0 (gs1 := [gP Y pa pr z_p_R z_p_un z_p_sc, gT xa ra ga da va ea sa ca pa z_t_scn, gG Y ga z_g_vc z_g_ec z_g_F z_g_T z_g_X z_g_Z]) rfl dX5_mixPositions_65 ?_
        refine kw_lstore_n (lv' := [(3, .long v11), (0, .ref xa), (5, .int l5), (6, .int l6)]) hX 68 dX5_mixPositions_68 rfl (by decide) rfl ?_
        refine kw_iinc (v := (l6 + 1)) (lv' := [(6, .int (l6 + 1)), (3, .long v11), (0, .ref xa), (5, .int l5)]) hX 69 dX5_mixPositions_69 3 rfl (kinc_1 _) (by decide) rfl ?_
        refine kw_goto hX 72 31 dX5_mixPositions_72 (by decide) ?_
        refine kw_lv (lv' := [(0, .ref xa), (3, .long v11), (5, .int l5), (6, .int (l6 + 1))]) [2, 1, 3, 0] rfl ?_
        exact ih v11 l5 (l6 + 1) z_p_R z_p_un z_p_sc z_t_scn z_g_vc z_g_ec z_g_F z_g_T z_g_X z_g_Z o h hK
  have L16 : ∀ (n : Nat) (l3 : Int64) (l5 : Int32) (z_p_R : Nat → Nat → Int64) (z_p_un : Int32) (z_p_sc : Int64) (z_t_scn : Int32) (z_g_vc : Int32) (z_g_ec : Int32) (z_g_F : Nat → Int32) (z_g_T : Nat → Int32) (z_g_X : Nat → Int32) (z_g_Z : Nat → Int32) (o : Int64 × Int32), pX5_mixPositions_L16 n l3 l5 z_p_R z_p_un z_p_sc z_g_vc = some o → KW X Y A 7 0 0 (kfl [gP Y pa pr z_p_R z_p_un z_p_sc, gT xa ra ga da va ea sa ca pa z_t_scn, gG Y ga z_g_vc z_g_ec z_g_F z_g_T z_g_X z_g_Z]) [(0, .ref xa), (3, .long o.1), (5, .int o.2)] 81 [] → KW X Y A 7 0 0 (kfl [gP Y pa pr z_p_R z_p_un z_p_sc, gT xa ra ga da va ea sa ca pa z_t_scn, gG Y ga z_g_vc z_g_ec z_g_F z_g_T z_g_X z_g_Z]) [(0, .ref xa), (3, .long l3), (5, .int l5)] 16 [] := by
    intro n
    induction n with
    | zero => intro l3 l5 z_p_R z_p_un z_p_sc z_t_scn z_g_vc z_g_ec z_g_F z_g_T z_g_X z_g_Z o h; cases h
    | succ n ih =>
      intro l3 l5 z_p_R z_p_un z_p_sc z_t_scn z_g_vc z_g_ec z_g_F z_g_T z_g_X z_g_Z o h hK
      rw [pX5_mixPositions_L16] at h
      refine kw_iload hX 16 dX5_mixPositions_16 2 rfl ?_
      refine kw_aload_n hX 18 dX5_mixPositions_18 rfl 0 rfl ?_
      refine kw_get hX 19 (C := RX5) (T := TX5) (N := 9) hin5 1 f1 (fun _ h => h) 7 rfl rfl (by decide) rfl dX5_mixPositions_19 ?_
      refine kw_get hX 22 (C := RX2) (T := TX2) (N := 6) hin2 0 f2 (fun _ h => h) 8 rfl rfl (by decide) rfl dX5_mixPositions_22 ?_
      refine kw_icmp_ge hX 25 81 dX5_mixPositions_25 (by decide) (fun c3 => ?_) (fun c3 => ?_)
      · have h := kif_t c3 h
        obtain rfl := Option.some.inj h
        refine kw_lv (lv' := [(0, .ref xa), (3, .long l3), (5, .int l5)]) [0, 1, 2] rfl ?_
        exact hK
      · have h := kif_f c3 h
        refine kw_iconst hX 28 dX5_mixPositions_28 kci_0 ?_
        refine kw_istore (lv' := [(6, .int 0), (0, .ref xa), (3, .long l3), (5, .int l5)]) hX 29 dX5_mixPositions_29 (by decide) rfl ?_
        obtain ⟨v13, hl14, h⟩ := kb_some h
        refine kw_lv (lv' := [(0, .ref xa), (3, .long l3), (5, .int l5), (6, .int 0)]) [1, 2, 3, 0] rfl ?_
        refine L31 KF l3 l5 0 z_p_R z_p_un z_p_sc z_t_scn z_g_vc z_g_ec z_g_F z_g_T z_g_X z_g_Z v13 hl14 ?_
        refine kw_iinc (v := (l5 + 1)) (lv' := [(5, .int (l5 + 1)), (0, .ref xa), (3, .long v13.1), (6, .int v13.2)]) hX 75 dX5_mixPositions_75 2 rfl (kinc_1 _) (by decide) rfl ?_
        refine kw_goto hX 78 16 dX5_mixPositions_78 (by decide) ?_
        refine kw_lv (lv' := [(0, .ref xa), (3, .long v13.1), (5, .int (l5 + 1))]) [1, 2, 0] rfl ?_
        exact ih v13.1 (l5 + 1) z_p_R z_p_un z_p_sc z_t_scn z_g_vc z_g_ec z_g_F z_g_T z_g_X z_g_Z o h hK
  unfold pX5_mixPositions at h
  refine kw_lv (lv' := [(0, .ref xa), (1, .long a1)]) [0, 1] rfl ?_
  refine kw_lload_n hX 0 dX5_mixPositions_0 rfl 1 rfl ?_
  refine kw_lstore_n (lv' := [(3, .long a1), (0, .ref xa), (1, .long a1)]) hX 1 dX5_mixPositions_1 rfl (by decide) rfl ?_
  refine kw_aload_n hX 2 dX5_mixPositions_2 rfl 1 rfl ?_
  refine kw_get hX 3 (C := RX5) (T := TX5) (N := 9) hin5 8 f0 (fun _ h => h) 7 rfl rfl (by decide) rfl dX5_mixPositions_3 ?_
  refine kw_aload_n hX 6 dX5_mixPositions_6 rfl 1 rfl ?_
  refine kw_get hX 7 (C := RX5) (T := TX5) (N := 9) hin5 1 f1 (fun _ h => h) 7 rfl rfl (by decide) rfl dX5_mixPositions_7 ?_
  obtain ⟨v1, hc2, h⟩ := kb_some h
  refine kw_callV_V hX 10 (As := [.ref (ga 0)]) (rest := []) (kX3_solve (kx_l X) Y pa pr ga p_R p_un p_sc g_vc g_ec g_F g_T g_X g_Z hc2) gX5_mixPositions_X3_solve rfl 1 rfl hdV_X3_solve ⟨rfl, rfl⟩ ⟨by decide, by decide⟩ ⟨Nat.zero_le _, Nat.zero_le _⟩ rfl (Nat.le_of_ble_eq_true rfl) [0, 2] (by decide) rfl (kfc gP_f (kfc rfl kfn0)) (gs1 := [gP Y pa pr v1.1 v1.2.1 v1.2.2, gT xa ra ga da va ea sa ca pa t_scn, gG Y ga g_vc g_ec g_F g_T g_X g_Z]) rfl 0 3 rfl rfl rfl dX5_mixPositions_10 ?_
  refine kw_iconst hX 13 dX5_mixPositions_13 kci_0 ?_
  refine kw_istore (lv' := [(5, .int 0), (3, .long a1), (0, .ref xa), (1, .long a1)]) hX 14 dX5_mixPositions_14 (by decide) rfl ?_
  obtain ⟨v15, hl16, h⟩ := kb_some h
  refine kw_lv (lv' := [(0, .ref xa), (3, .long a1), (5, .int 0)]) [2, 1, 0] rfl ?_
  refine L16 KF a1 0 v1.1 v1.2.1 v1.2.2 t_scn g_vc g_ec g_F g_T g_X g_Z v15 hl16 ?_
  refine kw_lload_n hX 81 dX5_mixPositions_81 rfl 1 rfl ?_
  obtain rfl := Option.some.inj h
  exact hret _ _ dX5_mixPositions_82
def pX5_mixSurroundings_L26 : Nat → Int32 → Int64 → Int32 → Int32 → Int32 → (Nat → Int32) → (Nat → Int32) → Option (Int64 × Int32)
  | 0, _, _, _, _, _, _, _ => none
  | n + 1, l3, l4, l6, z_s_fi, z_s_ta, z_s_st, z_s_qu => (if (4 : Int32) < l6 then some (l4, l6) else kb (pX4_nodesAfter l6 z_s_fi z_s_ta z_s_st z_s_qu) (fun v7 => kb (pX5_mix l4 ((v7 : Int32).toInt64)) (fun v9 => pX5_mixSurroundings_L26 n l3 v9 (l6 + 1) z_s_fi z_s_ta z_s_st z_s_qu)))
def pX5_mixSurroundings (a1 : Int64) (a2 : Int32) (e_cn : Nat → Int32) (e_M : Nat → Nat → Int32) (g_vc : Int32) (g_ec : Int32) (g_F : Nat → Int32) (g_T : Nat → Int32) (g_X : Nat → Int32) (g_Z : Nat → Int32) (s_fi : Int32) (s_ta : Int32) (s_st : Nat → Int32) (s_qu : Nat → Int32) (c_re : Nat → Int32) (c_cx : Nat → Int32) (c_cy : Nat → Int32) (c_px : Nat → Int32) (c_py : Nat → Int32) (c_pn : Int32) : Option (Int64 × Int32 × Int32 × (Nat → Int32) × (Nat → Int32) × (Nat → Int32) × (Nat → Int32) × (Nat → Int32) × (Nat → Int32) × (Nat → Int32) × Int32) := kgd (kin a2 6) (kb (pX5_mix a1 (((e_cn (a2 : Int32).toNatClampNeg) : Int32).toInt64)) (fun v2 => kb (pX5_walkAround a2 4 (-1) e_cn e_M s_fi s_ta s_st s_qu) (fun v4 => kb (pX5_mixSurroundings_L26 KF a2 v2 1 v4.1 v4.2.1 v4.2.2.1 v4.2.2.2) (fun v11 => kb (pX0_explore a2 g_vc g_ec g_F g_T g_X g_Z c_re c_cx c_cy c_px c_py c_pn) (fun v13 => kb (pX0_latticeRank v13.2.2.2.1 v13.2.2.2.2.1 v13.2.2.2.2.2) (fun v15 => kb (pX5_mix v11.1 ((v15 : Int32).toInt64)) (fun v17 => kb (pX0_latticeIndex v13.2.2.2.1 v13.2.2.2.2.1 v13.2.2.2.2.2) (fun v19 => kb (pX5_mix v17 ((v19 : Int32).toInt64)) (fun v21 => some (v21, v4.1, v4.2.1, v4.2.2.1, v4.2.2.2, v13.1, v13.2.1, v13.2.2.1, v13.2.2.2.1, v13.2.2.2.2.1, v13.2.2.2.2.2))))))))))
def rmX5_mixSurroundings : Room := { frames := 4, cells := 0, slots := 0, locals := 102 }
theorem hdV_X5_mixSurroundings : yX5_mixSurroundings.cls = RX5 ∧ yX5_mixSurroundings.cls ≠ "java/lang/invoke/MethodHandle" ∧ yX5_mixSurroundings.cls ≠ "java/lang/invoke/VarHandle" ∧ (parseMethodDescriptor yX5_mixSurroundings.desc).map (fun d => d.parameters.length) = some 2 := ⟨rfl, by decide +kernel, by decide +kernel, by decide +kernel⟩
set_option maxHeartbeats 4000000 in
set_option maxRecDepth 100000 in
theorem kX5_mixSurroundings (l : Launch) (Y : KY) (xa : Nat) (ra : Nat) (ga : Nat → Nat) (da : Nat → Nat) (va : Nat) (ea : Nat → Nat) (sa : Nat → Nat) (ca : Nat → Nat) (pa : Nat → Nat) (er : Nat → Nat) (e_cn : Nat → Int32) (e_M : Nat → Nat → Int32) (t_scn : Int32) (g_vc : Int32) (g_ec : Int32) (g_F : Nat → Int32) (g_T : Nat → Int32) (g_X : Nat → Int32) (g_Z : Nat → Int32) (s_fi : Int32) (s_ta : Int32) (s_st : Nat → Int32) (s_qu : Nat → Int32) (c_re : Nat → Int32) (c_cx : Nat → Int32) (c_cy : Nat → Int32) (c_px : Nat → Int32) (c_py : Nat → Int32) (c_pn : Int32) (a1 : Int64) (a2 : Int32) {o : Int64 × Int32 × Int32 × (Nat → Int32) × (Nat → Int32) × (Nat → Int32) × (Nat → Int32) × (Nat → Int32) × (Nat → Int32) × (Nat → Int32) × Int32} (h : pX5_mixSurroundings a1 a2 e_cn e_M g_vc g_ec g_F g_T g_X g_Z s_fi s_ta s_st s_qu c_re c_cx c_cy c_px c_py c_pn = some o) : CtL l yX5_mixSurroundings wsX5_mixSurroundings rmX5_mixSurroundings Y [.ref xa, .long a1, .int a2] (kfl [gE Y ea er e_cn e_M, gT xa ra ga da va ea sa ca pa t_scn, gG Y ga g_vc g_ec g_F g_T g_X g_Z, gS Y sa s_fi s_ta s_st s_qu, gC Y ca c_re c_cx c_cy c_px c_py c_pn]) o.1 (kfl [gE Y ea er e_cn e_M, gT xa ra ga da va ea sa ca pa t_scn, gG Y ga g_vc g_ec g_F g_T g_X g_Z, gS Y sa o.2.1 o.2.2.1 o.2.2.2.1 o.2.2.2.2.1, gC Y ca o.2.2.2.2.2.1 o.2.2.2.2.2.2.1 o.2.2.2.2.2.2.2.1 o.2.2.2.2.2.2.2.2.1 o.2.2.2.2.2.2.2.2.2.1 o.2.2.2.2.2.2.2.2.2.2]) := by
  refine ctL_intro (cc := cX5_mixSurroundings) (maxL := 7) (own := RX5) (by decide +kernel) rfl rfl (Nat.le_of_ble_eq_true rfl) rfl ?_
  intro X A hX _ hret
  have hin1 : ∀ w ∈ u_ws RX1 TX1 4, w ∈ wsX5_mixSurroundings := by decide +kernel
  have hin5 : ∀ w ∈ u_ws RX5 TX5 9, w ∈ wsX5_mixSurroundings := by decide +kernel
  have f0 := hX.w (Cond.fieldLink RX5 34 "PeriodicNet" "ends" "LPeriodicNet$Ends;") (by decide +kernel)
  have f1 := hX.w (Cond.fieldLink RX5 109 "PeriodicNet$Ends" "count" "[I") (by decide +kernel)
  have f2 := hX.w (Cond.fieldLink RX5 41 "PeriodicNet" "search" "LPeriodicNet$Search;") (by decide +kernel)
  have f3 := hX.w (Cond.fieldLink RX5 48 "PeriodicNet" "component" "LPeriodicNet$Component;") (by decide +kernel)
  have f4 := hX.w (Cond.fieldLink RX5 16 "PeriodicNet" "graph" "LPeriodicNet$Graph;") (by decide +kernel)
  have L26 : ∀ (n : Nat) (l3 : Int32) (l4 : Int64) (l6 : Int32) (z_e_cn : Nat → Int32) (z_e_M : Nat → Nat → Int32) (z_t_scn : Int32) (z_g_vc : Int32) (z_g_ec : Int32) (z_g_F : Nat → Int32) (z_g_T : Nat → Int32) (z_g_X : Nat → Int32) (z_g_Z : Nat → Int32) (z_s_fi : Int32) (z_s_ta : Int32) (z_s_st : Nat → Int32) (z_s_qu : Nat → Int32) (z_c_re : Nat → Int32) (z_c_cx : Nat → Int32) (z_c_cy : Nat → Int32) (z_c_px : Nat → Int32) (z_c_py : Nat → Int32) (z_c_pn : Int32) (o : Int64 × Int32), pX5_mixSurroundings_L26 n l3 l4 l6 z_s_fi z_s_ta z_s_st z_s_qu = some o → KW X Y A 7 0 0 (kfl [gE Y ea er z_e_cn z_e_M, gT xa ra ga da va ea sa ca pa z_t_scn, gG Y ga z_g_vc z_g_ec z_g_F z_g_T z_g_X z_g_Z, gS Y sa z_s_fi z_s_ta z_s_st z_s_qu, gC Y ca z_c_re z_c_cx z_c_cy z_c_px z_c_py z_c_pn]) [(0, .ref xa), (3, .int l3), (4, .long o.1), (6, .int o.2)] 55 [] → KW X Y A 7 0 0 (kfl [gE Y ea er z_e_cn z_e_M, gT xa ra ga da va ea sa ca pa z_t_scn, gG Y ga z_g_vc z_g_ec z_g_F z_g_T z_g_X z_g_Z, gS Y sa z_s_fi z_s_ta z_s_st z_s_qu, gC Y ca z_c_re z_c_cx z_c_cy z_c_px z_c_py z_c_pn]) [(0, .ref xa), (3, .int l3), (4, .long l4), (6, .int l6)] 26 [] := by
    intro n
    induction n with
    | zero => intro l3 l4 l6 z_e_cn z_e_M z_t_scn z_g_vc z_g_ec z_g_F z_g_T z_g_X z_g_Z z_s_fi z_s_ta z_s_st z_s_qu z_c_re z_c_cx z_c_cy z_c_px z_c_py z_c_pn o h; cases h
    | succ n ih =>
      intro l3 l4 l6 z_e_cn z_e_M z_t_scn z_g_vc z_g_ec z_g_F z_g_T z_g_X z_g_Z z_s_fi z_s_ta z_s_st z_s_qu z_c_re z_c_cx z_c_cy z_c_px z_c_py z_c_pn o h hK
      rw [pX5_mixSurroundings_L26] at h
      refine kw_iload hX 26 dX5_mixSurroundings_26 3 rfl ?_
      refine kw_iconst hX 28 dX5_mixSurroundings_28 kci_4 ?_
      refine kw_icmp_gt hX 29 55 dX5_mixSurroundings_29 (by decide) (fun c6 => ?_) (fun c6 => ?_)
      · have h := kif_t c6 h
        obtain rfl := Option.some.inj h
        refine kw_lv (lv' := [(0, .ref xa), (3, .int l3), (4, .long l4), (6, .int l6)]) [0, 1, 2, 3] rfl ?_
        exact hK
      · have h := kif_f c6 h
        refine kw_lload hX 32 dX5_mixSurroundings_32 2 rfl ?_
        refine kw_aload_n hX 34 dX5_mixSurroundings_34 rfl 0 rfl ?_
        refine kw_get hX 35 (C := RX5) (T := TX5) (N := 9) hin5 6 f2 (fun _ h => h) 23 rfl rfl (by decide) rfl dX5_mixSurroundings_35 ?_
        refine kw_iload hX 38 dX5_mixSurroundings_38 3 rfl ?_
        obtain ⟨v7, hc8, h⟩ := kb_some h
        refine kw_callV_I hX 40 (As := [.int l6]) (rest := [.long l4]) (kX4_nodesAfter (kx_l X) Y sa z_s_fi z_s_ta z_s_st z_s_qu l6 hc8) gX5_mixSurroundings_X4_nodesAfter rfl 1 rfl hdV_X4_nodesAfter ⟨rfl, rfl⟩ ⟨by decide, by decide⟩ ⟨Nat.zero_le _, Nat.zero_le _⟩ rfl (Nat.le_of_ble_eq_true rfl) [3] (by decide) rfl (kfc rfl kfn0) (gs1 := [gE Y ea er z_e_cn z_e_M, gT xa ra ga da va ea sa ca pa z_t_scn, gG Y ga z_g_vc z_g_ec z_g_F z_g_T z_g_X z_g_Z, gS Y sa z_s_fi z_s_ta z_s_st z_s_qu, gC Y ca z_c_re z_c_cx z_c_cy z_c_px z_c_py z_c_pn]) rfl 29 4 rfl rfl rfl dX5_mixSurroundings_40 ?_
        refine kw_i2l hX 43 dX5_mixSurroundings_43 ?_
        obtain ⟨v9, hc10, h⟩ := kb_some h
        refine kw_callS_L hX 44 (As := [.long l4, .long ((v7 : Int32).toInt64)]) (rest := []) (kX5_mix (kx_l X) Y l4 ((v7 : Int32).toInt64) hc10) gX5_mixSurroundings_X5_mix rfl 2 rfl hdS_X5_mix ⟨rfl, rfl⟩ ⟨by decide, by decide⟩ ⟨Nat.zero_le _, Nat.zero_le _⟩ rfl (Nat.le_of_ble_eq_true rfl) [] (by decide) rfl kfn0 (gs1 := [gE Y ea er z_e_cn z_e_M, gT xa ra ga da va ea sa ca pa z_t_scn, gG Y ga z_g_vc z_g_ec z_g_F z_g_T z_g_X z_g_Z, gS Y sa z_s_fi z_s_ta z_s_st z_s_qu, gC Y ca z_c_re z_c_cx z_c_cy z_c_px z_c_py z_c_pn]) rfl dX5_mixSurroundings_44 ?_
        refine kw_lstore (lv' := [(4, .long v9), (0, .ref xa), (3, .int l3), (6, .int l6)]) hX 47 dX5_mixSurroundings_47 (by decide) rfl ?_
        refine kw_iinc (v := (l6 + 1)) (lv' := [(6, .int (l6 + 1)), (4, .long v9), (0, .ref xa), (3, .int l3)]) hX 49 dX5_mixSurroundings_49 3 rfl (kinc_1 _) (by decide) rfl ?_
        refine kw_goto hX 52 26 dX5_mixSurroundings_52 (by decide) ?_
        refine kw_lv (lv' := [(0, .ref xa), (3, .int l3), (4, .long v9), (6, .int (l6 + 1))]) [2, 3, 1, 0] rfl ?_
        exact ih l3 v9 (l6 + 1) z_e_cn z_e_M z_t_scn z_g_vc z_g_ec z_g_F z_g_T z_g_X z_g_Z z_s_fi z_s_ta z_s_st z_s_qu z_c_re z_c_cx z_c_cy z_c_px z_c_py z_c_pn o h hK
  unfold pX5_mixSurroundings at h
  refine kw_lv (lv' := [(0, .ref xa), (1, .long a1), (3, .int a2)]) [0, 1, 2] rfl ?_
  refine kw_lload_n hX 0 dX5_mixSurroundings_0 rfl 1 rfl ?_
  refine kw_aload_n hX 1 dX5_mixSurroundings_1 rfl 0 rfl ?_
  refine kw_get hX 2 (C := RX5) (T := TX5) (N := 9) hin5 5 f0 (fun _ h => h) 23 rfl rfl (by decide) rfl dX5_mixSurroundings_2 ?_
  refine kw_get hX 5 (C := RX1) (T := TX1) (N := 4) hin1 0 f1 (fun _ h => h) 0 rfl rfl (by decide) rfl dX5_mixSurroundings_5 ?_
  refine kw_iload_n hX 8 dX5_mixSurroundings_8 rfl 2 rfl ?_
  obtain ⟨g1, h⟩ := kgd_some h
  refine kw_iald hX 9 1 rfl g1 dX5_mixSurroundings_9 ?_
  refine kw_i2l hX 10 dX5_mixSurroundings_10 ?_
  obtain ⟨v2, hc3, h⟩ := kb_some h
  refine kw_callS_L hX 11 (As := [.long a1, .long (((e_cn (a2 : Int32).toNatClampNeg) : Int32).toInt64)]) (rest := []) (kX5_mix (kx_l X) Y a1 (((e_cn (a2 : Int32).toNatClampNeg) : Int32).toInt64) hc3) gX5_mixSurroundings_X5_mix rfl 2 rfl hdS_X5_mix ⟨rfl, rfl⟩ ⟨by decide, by decide⟩ ⟨Nat.zero_le _, Nat.zero_le _⟩ rfl (Nat.le_of_ble_eq_true rfl) [] (by decide) rfl kfn0 (gs1 := [gE Y ea er e_cn e_M, gT xa ra ga da va ea sa ca pa t_scn, gG Y ga g_vc g_ec g_F g_T g_X g_Z, gS Y sa s_fi s_ta s_st s_qu, gC Y ca c_re c_cx c_cy c_px c_py c_pn]) rfl dX5_mixSurroundings_11 ?_
  refine kw_lstore (lv' := [(4, .long v2), (0, .ref xa), (1, .long a1), (3, .int a2)]) hX 14 dX5_mixSurroundings_14 (by decide) rfl ?_
  refine kw_aload_n hX 16 dX5_mixSurroundings_16 rfl 1 rfl ?_
  refine kw_iload_n hX 17 dX5_mixSurroundings_17 rfl 3 rfl ?_
  refine kw_iconst hX 18 dX5_mixSurroundings_18 kci_4 ?_
  refine kw_iconst hX 19 dX5_mixSurroundings_19 kci_m1 ?_
  obtain ⟨v4, hc5, h⟩ := kb_some h
  refine kw_callV_V hX 20 (As := [.int a2, .int 4, .int (-1)]) (rest := []) (kX5_walkAround (kx_l X) Y xa ra ga da va ea sa ca pa er e_cn e_M t_scn s_fi s_ta s_st s_qu a2 4 (-1) hc5) gX5_mixSurroundings_X5_walkAround rfl 3 rfl hdV_X5_walkAround ⟨rfl, rfl⟩ ⟨by decide, by decide⟩ ⟨Nat.zero_le _, Nat.zero_le _⟩ rfl (Nat.le_of_ble_eq_true rfl) [0, 1, 3] (by decide) rfl (kfc rfl (kfc rfl (kfc gS_f kfn0))) (gs1 := [gE Y ea er e_cn e_M, gT xa ra ga da va ea sa ca pa t_scn, gG Y ga g_vc g_ec g_F g_T g_X g_Z, gS Y sa v4.1 v4.2.1 v4.2.2.1 v4.2.2.2, gC Y ca c_re c_cx c_cy c_px c_py c_pn]) rfl 23 5 rfl rfl rfl dX5_mixSurroundings_20 ?_
  refine kw_iconst hX 23 dX5_mixSurroundings_23 kci_1 ?_
  refine kw_istore (lv' := [(6, .int 1), (4, .long v2), (0, .ref xa), (1, .long a1), (3, .int a2)]) hX 24 dX5_mixSurroundings_24 (by decide) rfl ?_
  obtain ⟨v11, hl12, h⟩ := kb_some h
  refine kw_lv (lv' := [(0, .ref xa), (3, .int a2), (4, .long v2), (6, .int 1)]) [2, 4, 1, 0] rfl ?_
  refine L26 KF a2 v2 1 e_cn e_M t_scn g_vc g_ec g_F g_T g_X g_Z v4.1 v4.2.1 v4.2.2.1 v4.2.2.2 c_re c_cx c_cy c_px c_py c_pn v11 hl12 ?_
  refine kw_aload_n hX 55 dX5_mixSurroundings_55 rfl 0 rfl ?_
  refine kw_get hX 56 (C := RX5) (T := TX5) (N := 9) hin5 7 f3 (fun _ h => h) 23 rfl rfl (by decide) rfl dX5_mixSurroundings_56 ?_
  refine kw_aload_n hX 59 dX5_mixSurroundings_59 rfl 0 rfl ?_
  refine kw_get hX 60 (C := RX5) (T := TX5) (N := 9) hin5 1 f4 (fun _ h => h) 23 rfl rfl (by decide) rfl dX5_mixSurroundings_60 ?_
  refine kw_iload_n hX 63 dX5_mixSurroundings_63 rfl 1 rfl ?_
  obtain ⟨v13, hc14, h⟩ := kb_some h
  refine kw_callV_V hX 64 (As := [.ref (ga 0), .int a2]) (rest := []) (kX0_explore (kx_l X) Y ga ca g_vc g_ec g_F g_T g_X g_Z c_re c_cx c_cy c_px c_py c_pn a2 hc14) gX5_mixSurroundings_X0_explore rfl 2 rfl hdV_X0_explore ⟨rfl, rfl⟩ ⟨by decide, by decide⟩ ⟨Nat.zero_le _, Nat.zero_le _⟩ rfl (Nat.le_of_ble_eq_true rfl) [2, 4] (by decide) rfl (kfc rfl (kfc gC_f kfn0)) (gs1 := [gE Y ea er e_cn e_M, gT xa ra ga da va ea sa ca pa t_scn, gG Y ga g_vc g_ec g_F g_T g_X g_Z, gS Y sa v4.1 v4.2.1 v4.2.2.1 v4.2.2.2, gC Y ca v13.1 v13.2.1 v13.2.2.1 v13.2.2.2.1 v13.2.2.2.2.1 v13.2.2.2.2.2]) rfl 32 0 rfl rfl rfl dX5_mixSurroundings_64 ?_
  refine kw_lload hX 67 dX5_mixSurroundings_67 2 rfl ?_
  refine kw_aload_n hX 69 dX5_mixSurroundings_69 rfl 0 rfl ?_
  refine kw_get hX 70 (C := RX5) (T := TX5) (N := 9) hin5 7 f3 (fun _ h => h) 23 rfl rfl (by decide) rfl dX5_mixSurroundings_70 ?_
  obtain ⟨v15, hc16, h⟩ := kb_some h
  refine kw_callV_I hX 73 (As := []) (rest := [.long v11.1]) (kX0_latticeRank (kx_l X) Y ca v13.1 v13.2.1 v13.2.2.1 v13.2.2.2.1 v13.2.2.2.2.1 v13.2.2.2.2.2 hc16) gX5_mixSurroundings_X0_latticeRank rfl 0 rfl hdV_X0_latticeRank ⟨rfl, rfl⟩ ⟨by decide, by decide⟩ ⟨Nat.zero_le _, Nat.zero_le _⟩ rfl (Nat.le_of_ble_eq_true rfl) [4] (by decide) rfl (kfc rfl kfn0) (gs1 := [gE Y ea er e_cn e_M, gT xa ra ga da va ea sa ca pa t_scn, gG Y ga g_vc g_ec g_F g_T g_X g_Z, gS Y sa v4.1 v4.2.1 v4.2.2.1 v4.2.2.2, gC Y ca v13.1 v13.2.1 v13.2.2.1 v13.2.2.2.1 v13.2.2.2.2.1 v13.2.2.2.2.2]) rfl 32 0 rfl rfl rfl dX5_mixSurroundings_73 ?_
  refine kw_i2l hX 76 dX5_mixSurroundings_76 ?_
  obtain ⟨v17, hc18, h⟩ := kb_some h
  refine kw_callS_L hX 77 (As := [.long v11.1, .long ((v15 : Int32).toInt64)]) (rest := []) (kX5_mix (kx_l X) Y v11.1 ((v15 : Int32).toInt64) hc18) gX5_mixSurroundings_X5_mix rfl 2 rfl hdS_X5_mix ⟨rfl, rfl⟩ ⟨by decide, by decide⟩ ⟨Nat.zero_le _, Nat.zero_le _⟩ rfl (Nat.le_of_ble_eq_true rfl) [] (by decide) rfl kfn0 (gs1 := [gE Y ea er e_cn e_M, gT xa ra ga da va ea sa ca pa t_scn, gG Y ga g_vc g_ec g_F g_T g_X g_Z, gS Y sa v4.1 v4.2.1 v4.2.2.1 v4.2.2.2, gC Y ca v13.1 v13.2.1 v13.2.2.1 v13.2.2.2.1 v13.2.2.2.2.1 v13.2.2.2.2.2]) rfl dX5_mixSurroundings_77 ?_
  refine kw_lstore (lv' := [(4, .long v17), (0, .ref xa), (3, .int a2), (6, .int v11.2)]) hX 80 dX5_mixSurroundings_80 (by decide) rfl ?_
  refine kw_lload hX 82 dX5_mixSurroundings_82 0 rfl ?_
  refine kw_aload_n hX 84 dX5_mixSurroundings_84 rfl 1 rfl ?_
  refine kw_get hX 85 (C := RX5) (T := TX5) (N := 9) hin5 7 f3 (fun _ h => h) 23 rfl rfl (by decide) rfl dX5_mixSurroundings_85 ?_
  obtain ⟨v19, hc20, h⟩ := kb_some h
  refine kw_callV_I hX 88 (As := []) (rest := [.long v17]) (kX0_latticeIndex (kx_l X) Y ca v13.1 v13.2.1 v13.2.2.1 v13.2.2.2.1 v13.2.2.2.2.1 v13.2.2.2.2.2 hc20) gX5_mixSurroundings_X0_latticeIndex rfl 0 rfl hdV_X0_latticeIndex ⟨rfl, rfl⟩ ⟨by decide, by decide⟩ ⟨Nat.zero_le _, Nat.zero_le _⟩ rfl (Nat.le_of_ble_eq_true rfl) [4] (by decide) rfl (kfc rfl kfn0) (gs1 := [gE Y ea er e_cn e_M, gT xa ra ga da va ea sa ca pa t_scn, gG Y ga g_vc g_ec g_F g_T g_X g_Z, gS Y sa v4.1 v4.2.1 v4.2.2.1 v4.2.2.2, gC Y ca v13.1 v13.2.1 v13.2.2.1 v13.2.2.2.1 v13.2.2.2.2.1 v13.2.2.2.2.2]) rfl 32 0 rfl rfl rfl dX5_mixSurroundings_88 ?_
  refine kw_i2l hX 91 dX5_mixSurroundings_91 ?_
  obtain ⟨v21, hc22, h⟩ := kb_some h
  refine kw_callS_L hX 92 (As := [.long v17, .long ((v19 : Int32).toInt64)]) (rest := []) (kX5_mix (kx_l X) Y v17 ((v19 : Int32).toInt64) hc22) gX5_mixSurroundings_X5_mix rfl 2 rfl hdS_X5_mix ⟨rfl, rfl⟩ ⟨by decide, by decide⟩ ⟨Nat.zero_le _, Nat.zero_le _⟩ rfl (Nat.le_of_ble_eq_true rfl) [] (by decide) rfl kfn0 (gs1 := [gE Y ea er e_cn e_M, gT xa ra ga da va ea sa ca pa t_scn, gG Y ga g_vc g_ec g_F g_T g_X g_Z, gS Y sa v4.1 v4.2.1 v4.2.2.1 v4.2.2.2, gC Y ca v13.1 v13.2.1 v13.2.2.1 v13.2.2.2.1 v13.2.2.2.2.1 v13.2.2.2.2.2]) rfl dX5_mixSurroundings_92 ?_
  obtain rfl := Option.some.inj h
  exact hret _ _ dX5_mixSurroundings_95
def pX5_digest_L6 : Nat → Int64 → Int32 → (Nat → Int32) → Option (Int64 × Int32)
  | 0, _, _, _ => none
  | n + 1, l1, l3, z_r_er => (if (6 : Int32) ≤ l3 then some (l1, l3) else kgd (kin l3 6) (kb (pX5_mix l1 (((z_r_er (l3 : Int32).toNatClampNeg) : Int32).toInt64)) (fun v3 => pX5_digest_L6 n v3 (l3 + 1) z_r_er)))
def pX5_digest_L38 : Nat → Int64 → Int32 → (Nat → Int32) → (Nat → Nat → Int32) → Int32 → Int32 → (Nat → Int32) → (Nat → Int32) → (Nat → Int32) → (Nat → Int32) → Int32 → Int32 → (Nat → Int32) → (Nat → Int32) → (Nat → Int32) → (Nat → Int32) → (Nat → Int32) → (Nat → Int32) → (Nat → Int32) → Int32 → Option (Int64 × Int32 × Int32 × Int32 × (Nat → Int32) × (Nat → Int32) × (Nat → Int32) × (Nat → Int32) × (Nat → Int32) × (Nat → Int32) × (Nat → Int32) × Int32)
  | 0, _, _, _, _, _, _, _, _, _, _, _, _, _, _, _, _, _, _, _, _ => none
  | n + 1, l1, l3, z_e_cn, z_e_M, z_g_vc, z_g_ec, z_g_F, z_g_T, z_g_X, z_g_Z, z_s_fi, z_s_ta, z_s_st, z_s_qu, z_c_re, z_c_cx, z_c_cy, z_c_px, z_c_py, z_c_pn => (if z_g_vc ≤ l3 then some (l1, l3, z_s_fi, z_s_ta, z_s_st, z_s_qu, z_c_re, z_c_cx, z_c_cy, z_c_px, z_c_py, z_c_pn) else kb (pX5_mixSurroundings l1 l3 z_e_cn z_e_M z_g_vc z_g_ec z_g_F z_g_T z_g_X z_g_Z z_s_fi z_s_ta z_s_st z_s_qu z_c_re z_c_cx z_c_cy z_c_px z_c_py z_c_pn) (fun v10 => pX5_digest_L38 n v10.1 (l3 + 1) z_e_cn z_e_M z_g_vc z_g_ec z_g_F z_g_T z_g_X z_g_Z v10.2.1 v10.2.2.1 v10.2.2.2.1 v10.2.2.2.2.1 v10.2.2.2.2.2.1 v10.2.2.2.2.2.2.1 v10.2.2.2.2.2.2.2.1 v10.2.2.2.2.2.2.2.2.1 v10.2.2.2.2.2.2.2.2.2.1 v10.2.2.2.2.2.2.2.2.2.2))
def pX5_digest  (e_cn : Nat → Int32) (e_M : Nat → Nat → Int32) (p_R : Nat → Nat → Int64) (p_un : Int32) (p_sc : Int64) (t_scn : Int32) (r_er : Nat → Int32) (g_vc : Int32) (g_ec : Int32) (g_F : Nat → Int32) (g_T : Nat → Int32) (g_X : Nat → Int32) (g_Z : Nat → Int32) (s_fi : Int32) (s_ta : Int32) (s_st : Nat → Int32) (s_qu : Nat → Int32) (c_re : Nat → Int32) (c_cx : Nat → Int32) (c_cy : Nat → Int32) (c_px : Nat → Int32) (c_py : Nat → Int32) (c_pn : Int32) : Option (Int64 × (Nat → Nat → Int64) × Int32 × Int64 × Int32 × Int32 × (Nat → Int32) × (Nat → Int32) × (Nat → Int32) × (Nat → Int32) × (Nat → Int32) × (Nat → Int32) × (Nat → Int32) × Int32) := kb (pX5_digest_L6 KF 2699 0 r_er) (fun v5 => kb (pX5_mixGraph v5.1 g_vc g_ec g_F g_T g_X g_Z) (fun v7 => kb (pX5_digest_L38 KF v7 0 e_cn e_M g_vc g_ec g_F g_T g_X g_Z s_fi s_ta s_st s_qu c_re c_cx c_cy c_px c_py c_pn) (fun v12 => kb (pX5_isOnePiece g_vc g_ec g_F g_T g_X g_Z v12.2.2.2.2.2.2.1 v12.2.2.2.2.2.2.2.1 v12.2.2.2.2.2.2.2.2.1 v12.2.2.2.2.2.2.2.2.2.1 v12.2.2.2.2.2.2.2.2.2.2.1 v12.2.2.2.2.2.2.2.2.2.2.2) (fun v14 => kb ((if v14.1 = 0 then some 0 else some 1) : Option (Int64)) (fun v17 => kb (pX5_mix v12.1 v17) (fun v19 => kb ((if v14.1 = 0 then some (v19, p_R, p_un, p_sc) else kb (pX5_mixPositions v19 p_R p_un p_sc g_vc g_ec g_F g_T g_X g_Z) (fun v22 => some (v22.1, v22.2.1, v22.2.2.1, v22.2.2.2))) : Option (Int64 × (Nat → Nat → Int64) × Int32 × Int64)) (fun v24 => kb (pX5_mix v24.1 ((t_scn : Int32).toInt64)) (fun v26 => some (v26, v24.2.1, v24.2.2.1, v24.2.2.2, v12.2.2.1, v12.2.2.2.1, v12.2.2.2.2.1, v12.2.2.2.2.2.1, v14.2.1, v14.2.2.1, v14.2.2.2.1, v14.2.2.2.2.1, v14.2.2.2.2.2.1, v14.2.2.2.2.2.2)))))))))
def rmX5_digest : Room := { frames := 5, cells := 0, slots := 0, locals := 128 }
theorem hdV_X5_digest : yX5_digest.cls = RX5 ∧ yX5_digest.cls ≠ "java/lang/invoke/MethodHandle" ∧ yX5_digest.cls ≠ "java/lang/invoke/VarHandle" ∧ (parseMethodDescriptor yX5_digest.desc).map (fun d => d.parameters.length) = some 0 := ⟨rfl, by decide +kernel, by decide +kernel, by decide +kernel⟩
set_option maxHeartbeats 4000000 in
set_option maxRecDepth 100000 in
theorem kX5_digest (l : Launch) (Y : KY) (xa : Nat) (ra : Nat) (ga : Nat → Nat) (da : Nat → Nat) (va : Nat) (ea : Nat → Nat) (sa : Nat → Nat) (ca : Nat → Nat) (pa : Nat → Nat) (er : Nat → Nat) (pr : Nat → Nat) (e_cn : Nat → Int32) (e_M : Nat → Nat → Int32) (p_R : Nat → Nat → Int64) (p_un : Int32) (p_sc : Int64) (t_scn : Int32) (r_er : Nat → Int32) (g_vc : Int32) (g_ec : Int32) (g_F : Nat → Int32) (g_T : Nat → Int32) (g_X : Nat → Int32) (g_Z : Nat → Int32) (s_fi : Int32) (s_ta : Int32) (s_st : Nat → Int32) (s_qu : Nat → Int32) (c_re : Nat → Int32) (c_cx : Nat → Int32) (c_cy : Nat → Int32) (c_px : Nat → Int32) (c_py : Nat → Int32) (c_pn : Int32)  {o : Int64 × (Nat → Nat → Int64) × Int32 × Int64 × Int32 × Int32 × (Nat → Int32) × (Nat → Int32) × (Nat → Int32) × (Nat → Int32) × (Nat → Int32) × (Nat → Int32) × (Nat → Int32) × Int32} (h : pX5_digest e_cn e_M p_R p_un p_sc t_scn r_er g_vc g_ec g_F g_T g_X g_Z s_fi s_ta s_st s_qu c_re c_cx c_cy c_px c_py c_pn = some o) : CtL l yX5_digest wsX5_digest rmX5_digest Y [.ref xa] (kfl [gE Y ea er e_cn e_M, gP Y pa pr p_R p_un p_sc, gT xa ra ga da va ea sa ca pa t_scn, gR Y ra r_er, gG Y ga g_vc g_ec g_F g_T g_X g_Z, gS Y sa s_fi s_ta s_st s_qu, gC Y ca c_re c_cx c_cy c_px c_py c_pn]) o.1 (kfl [gE Y ea er e_cn e_M, gP Y pa pr o.2.1 o.2.2.1 o.2.2.2.1, gT xa ra ga da va ea sa ca pa t_scn, gR Y ra r_er, gG Y ga g_vc g_ec g_F g_T g_X g_Z, gS Y sa o.2.2.2.2.1 o.2.2.2.2.2.1 o.2.2.2.2.2.2.1 o.2.2.2.2.2.2.2.1, gC Y ca o.2.2.2.2.2.2.2.2.1 o.2.2.2.2.2.2.2.2.2.1 o.2.2.2.2.2.2.2.2.2.2.1 o.2.2.2.2.2.2.2.2.2.2.2.1 o.2.2.2.2.2.2.2.2.2.2.2.2.1 o.2.2.2.2.2.2.2.2.2.2.2.2.2]) := by
  refine ctL_intro (cc := cX5_digest) (maxL := 4) (own := RX5) (by decide +kernel) rfl rfl (Nat.le_of_ble_eq_true rfl) rfl ?_
  intro X A hX _ hret
  have hin2 : ∀ w ∈ u_ws RX2 TX2 6, w ∈ wsX5_digest := by decide +kernel
  have hin5 : ∀ w ∈ u_ws RX5 TX5 9, w ∈ wsX5_digest := by decide +kernel
  have f0 := hX.w (Cond.constantLong RX5 194 (2699)) (by decide +kernel)
  have f1 := hX.w (Cond.fieldLink RX5 9 "PeriodicNet" "errors" "[I") (by decide +kernel)
  have f2 := hX.w (Cond.fieldLink RX5 16 "PeriodicNet" "graph" "LPeriodicNet$Graph;") (by decide +kernel)
  have f3 := hX.w (Cond.fieldLink RX5 63 "PeriodicNet$Graph" "vertexCount" "I") (by decide +kernel)
  have f4 := hX.w (Cond.fieldLink RX5 27 "PeriodicNet" "savedCount" "I") (by decide +kernel)
  have L6 : ∀ (n : Nat) (l1 : Int64) (l3 : Int32) (z_e_cn : Nat → Int32) (z_e_M : Nat → Nat → Int32) (z_p_R : Nat → Nat → Int64) (z_p_un : Int32) (z_p_sc : Int64) (z_t_scn : Int32) (z_r_er : Nat → Int32) (z_g_vc : Int32) (z_g_ec : Int32) (z_g_F : Nat → Int32) (z_g_T : Nat → Int32) (z_g_X : Nat → Int32) (z_g_Z : Nat → Int32) (z_s_fi : Int32) (z_s_ta : Int32) (z_s_st : Nat → Int32) (z_s_qu : Nat → Int32) (z_c_re : Nat → Int32) (z_c_cx : Nat → Int32) (z_c_cy : Nat → Int32) (z_c_px : Nat → Int32) (z_c_py : Nat → Int32) (z_c_pn : Int32) (o : Int64 × Int32), pX5_digest_L6 n l1 l3 z_r_er = some o → KW X Y A 4 0 0 (kfl [gE Y ea er z_e_cn z_e_M, gP Y pa pr z_p_R z_p_un z_p_sc, gT xa ra ga da va ea sa ca pa z_t_scn, gR Y ra z_r_er, gG Y ga z_g_vc z_g_ec z_g_F z_g_T z_g_X z_g_Z, gS Y sa z_s_fi z_s_ta z_s_st z_s_qu, gC Y ca z_c_re z_c_cx z_c_cy z_c_px z_c_py z_c_pn]) [(0, .ref xa), (1, .long o.1), (3, .int o.2)] 30 [] → KW X Y A 4 0 0 (kfl [gE Y ea er z_e_cn z_e_M, gP Y pa pr z_p_R z_p_un z_p_sc, gT xa ra ga da va ea sa ca pa z_t_scn, gR Y ra z_r_er, gG Y ga z_g_vc z_g_ec z_g_F z_g_T z_g_X z_g_Z, gS Y sa z_s_fi z_s_ta z_s_st z_s_qu, gC Y ca z_c_re z_c_cx z_c_cy z_c_px z_c_py z_c_pn]) [(0, .ref xa), (1, .long l1), (3, .int l3)] 6 [] := by
    intro n
    induction n with
    | zero => intro l1 l3 z_e_cn z_e_M z_p_R z_p_un z_p_sc z_t_scn z_r_er z_g_vc z_g_ec z_g_F z_g_T z_g_X z_g_Z z_s_fi z_s_ta z_s_st z_s_qu z_c_re z_c_cx z_c_cy z_c_px z_c_py z_c_pn o h; cases h
    | succ n ih =>
      intro l1 l3 z_e_cn z_e_M z_p_R z_p_un z_p_sc z_t_scn z_r_er z_g_vc z_g_ec z_g_F z_g_T z_g_X z_g_Z z_s_fi z_s_ta z_s_st z_s_qu z_c_re z_c_cx z_c_cy z_c_px z_c_py z_c_pn o h hK
      rw [pX5_digest_L6] at h
      refine kw_iload_n hX 6 dX5_digest_6 rfl 2 rfl ?_
      refine kw_bipush hX 7 dX5_digest_7 kcb_6 ?_
      refine kw_icmp_ge hX 9 30 dX5_digest_9 (by decide) (fun c1 => ?_) (fun c1 => ?_)
      · have h := kif_t c1 h
        obtain rfl := Option.some.inj h
        refine kw_lv (lv' := [(0, .ref xa), (1, .long l1), (3, .int l3)]) [0, 1, 2] rfl ?_
        exact hK
      · have h := kif_f c1 h
        refine kw_lload_n hX 12 dX5_digest_12 rfl 1 rfl ?_
        refine kw_aload_n hX 13 dX5_digest_13 rfl 0 rfl ?_
        refine kw_get hX 14 (C := RX5) (T := TX5) (N := 9) hin5 0 f1 (fun _ h => h) 30 rfl rfl (by decide) rfl dX5_digest_14 ?_
        refine kw_iload_n hX 17 dX5_digest_17 rfl 2 rfl ?_
        obtain ⟨g2, h⟩ := kgd_some h
        refine kw_iald hX 18 31 rfl g2 dX5_digest_18 ?_
        refine kw_i2l hX 19 dX5_digest_19 ?_
        obtain ⟨v3, hc4, h⟩ := kb_some h
        refine kw_callS_L hX 20 (As := [.long l1, .long (((z_r_er (l3 : Int32).toNatClampNeg) : Int32).toInt64)]) (rest := []) (kX5_mix (kx_l X) Y l1 (((z_r_er (l3 : Int32).toNatClampNeg) : Int32).toInt64) hc4) gX5_digest_X5_mix rfl 2 rfl hdS_X5_mix ⟨rfl, rfl⟩ ⟨by decide, by decide⟩ ⟨Nat.zero_le _, Nat.zero_le _⟩ rfl (Nat.le_of_ble_eq_true rfl) [] (by decide) rfl kfn0 (gs1 := [gE Y ea er z_e_cn z_e_M, gP Y pa pr z_p_R z_p_un z_p_sc, gT xa ra ga da va ea sa ca pa z_t_scn, gR Y ra z_r_er, gG Y ga z_g_vc z_g_ec z_g_F z_g_T z_g_X z_g_Z, gS Y sa z_s_fi z_s_ta z_s_st z_s_qu, gC Y ca z_c_re z_c_cx z_c_cy z_c_px z_c_py z_c_pn]) rfl dX5_digest_20 ?_
        refine kw_lstore_n (lv' := [(1, .long v3), (0, .ref xa), (3, .int l3)]) hX 23 dX5_digest_23 rfl (by decide) rfl ?_
        refine kw_iinc (v := (l3 + 1)) (lv' := [(3, .int (l3 + 1)), (1, .long v3), (0, .ref xa)]) hX 24 dX5_digest_24 2 rfl (kinc_1 _) (by decide) rfl ?_
        refine kw_goto hX 27 6 dX5_digest_27 (by decide) ?_
        refine kw_lv (lv' := [(0, .ref xa), (1, .long v3), (3, .int (l3 + 1))]) [2, 1, 0] rfl ?_
        exact ih v3 (l3 + 1) z_e_cn z_e_M z_p_R z_p_un z_p_sc z_t_scn z_r_er z_g_vc z_g_ec z_g_F z_g_T z_g_X z_g_Z z_s_fi z_s_ta z_s_st z_s_qu z_c_re z_c_cx z_c_cy z_c_px z_c_py z_c_pn o h hK
  have L38 : ∀ (n : Nat) (l1 : Int64) (l3 : Int32) (z_e_cn : Nat → Int32) (z_e_M : Nat → Nat → Int32) (z_p_R : Nat → Nat → Int64) (z_p_un : Int32) (z_p_sc : Int64) (z_t_scn : Int32) (z_r_er : Nat → Int32) (z_g_vc : Int32) (z_g_ec : Int32) (z_g_F : Nat → Int32) (z_g_T : Nat → Int32) (z_g_X : Nat → Int32) (z_g_Z : Nat → Int32) (z_s_fi : Int32) (z_s_ta : Int32) (z_s_st : Nat → Int32) (z_s_qu : Nat → Int32) (z_c_re : Nat → Int32) (z_c_cx : Nat → Int32) (z_c_cy : Nat → Int32) (z_c_px : Nat → Int32) (z_c_py : Nat → Int32) (z_c_pn : Int32) (o : Int64 × Int32 × Int32 × Int32 × (Nat → Int32) × (Nat → Int32) × (Nat → Int32) × (Nat → Int32) × (Nat → Int32) × (Nat → Int32) × (Nat → Int32) × Int32), pX5_digest_L38 n l1 l3 z_e_cn z_e_M z_g_vc z_g_ec z_g_F z_g_T z_g_X z_g_Z z_s_fi z_s_ta z_s_st z_s_qu z_c_re z_c_cx z_c_cy z_c_px z_c_py z_c_pn = some o → KW X Y A 4 0 0 (kfl [gE Y ea er z_e_cn z_e_M, gP Y pa pr z_p_R z_p_un z_p_sc, gT xa ra ga da va ea sa ca pa z_t_scn, gR Y ra z_r_er, gG Y ga z_g_vc z_g_ec z_g_F z_g_T z_g_X z_g_Z, gS Y sa o.2.2.1 o.2.2.2.1 o.2.2.2.2.1 o.2.2.2.2.2.1, gC Y ca o.2.2.2.2.2.2.1 o.2.2.2.2.2.2.2.1 o.2.2.2.2.2.2.2.2.1 o.2.2.2.2.2.2.2.2.2.1 o.2.2.2.2.2.2.2.2.2.2.1 o.2.2.2.2.2.2.2.2.2.2.2]) [(0, .ref xa), (1, .long o.1), (3, .int o.2.1)] 62 [] → KW X Y A 4 0 0 (kfl [gE Y ea er z_e_cn z_e_M, gP Y pa pr z_p_R z_p_un z_p_sc, gT xa ra ga da va ea sa ca pa z_t_scn, gR Y ra z_r_er, gG Y ga z_g_vc z_g_ec z_g_F z_g_T z_g_X z_g_Z, gS Y sa z_s_fi z_s_ta z_s_st z_s_qu, gC Y ca z_c_re z_c_cx z_c_cy z_c_px z_c_py z_c_pn]) [(0, .ref xa), (1, .long l1), (3, .int l3)] 38 [] := by
    intro n
    induction n with
    | zero => intro l1 l3 z_e_cn z_e_M z_p_R z_p_un z_p_sc z_t_scn z_r_er z_g_vc z_g_ec z_g_F z_g_T z_g_X z_g_Z z_s_fi z_s_ta z_s_st z_s_qu z_c_re z_c_cx z_c_cy z_c_px z_c_py z_c_pn o h; cases h
    | succ n ih =>
      intro l1 l3 z_e_cn z_e_M z_p_R z_p_un z_p_sc z_t_scn z_r_er z_g_vc z_g_ec z_g_F z_g_T z_g_X z_g_Z z_s_fi z_s_ta z_s_st z_s_qu z_c_re z_c_cx z_c_cy z_c_px z_c_py z_c_pn o h hK
      rw [pX5_digest_L38] at h
      refine kw_iload_n hX 38 dX5_digest_38 rfl 2 rfl ?_
      refine kw_aload_n hX 39 dX5_digest_39 rfl 0 rfl ?_
      refine kw_get hX 40 (C := RX5) (T := TX5) (N := 9) hin5 1 f2 (fun _ h => h) 30 rfl rfl (by decide) rfl dX5_digest_40 ?_
      refine kw_get hX 43 (C := RX2) (T := TX2) (N := 6) hin2 0 f3 (fun _ h => h) 32 rfl rfl (by decide) rfl dX5_digest_43 ?_
      refine kw_icmp_ge hX 46 62 dX5_digest_46 (by decide) (fun c9 => ?_) (fun c9 => ?_)
      · have h := kif_t c9 h
        obtain rfl := Option.some.inj h
        refine kw_lv (lv' := [(0, .ref xa), (1, .long l1), (3, .int l3)]) [0, 1, 2] rfl ?_
        exact hK
      · have h := kif_f c9 h
        refine kw_aload_n hX 49 dX5_digest_49 rfl 0 rfl ?_
        refine kw_lload_n hX 50 dX5_digest_50 rfl 1 rfl ?_
        refine kw_iload_n hX 51 dX5_digest_51 rfl 2 rfl ?_
        obtain ⟨v10, hc11, h⟩ := kb_some h
        refine kw_callV_L hX 52 (As := [.long l1, .int l3]) (rest := []) (kX5_mixSurroundings (kx_l X) Y xa ra ga da va ea sa ca pa er z_e_cn z_e_M z_t_scn z_g_vc z_g_ec z_g_F z_g_T z_g_X z_g_Z z_s_fi z_s_ta z_s_st z_s_qu z_c_re z_c_cx z_c_cy z_c_px z_c_py z_c_pn l1 l3 hc11) gX5_digest_X5_mixSurroundings rfl 2 rfl hdV_X5_mixSurroundings ⟨rfl, rfl⟩ ⟨by decide, by decide⟩ ⟨Nat.zero_le _, Nat.zero_le _⟩ rfl (Nat.le_of_ble_eq_true rfl) [0, 2, 4, 5, 6] (by decide) rfl (kfc rfl (kfc rfl (kfc rfl (kfc gS_f (kfc gC_f kfn0))))) (gs1 := [gE Y ea er z_e_cn z_e_M, gP Y pa pr z_p_R z_p_un z_p_sc, gT xa ra ga da va ea sa ca pa z_t_scn, gR Y ra z_r_er, gG Y ga z_g_vc z_g_ec z_g_F z_g_T z_g_X z_g_Z, gS Y sa v10.2.1 v10.2.2.1 v10.2.2.2.1 v10.2.2.2.2.1, gC Y ca v10.2.2.2.2.2.1 v10.2.2.2.2.2.2.1 v10.2.2.2.2.2.2.2.1 v10.2.2.2.2.2.2.2.2.1 v10.2.2.2.2.2.2.2.2.2.1 v10.2.2.2.2.2.2.2.2.2.2]) rfl 30 5 rfl rfl rfl dX5_digest_52 ?_
        refine kw_lstore_n (lv' := [(1, .long v10.1), (0, .ref xa), (3, .int l3)]) hX 55 dX5_digest_55 rfl (by decide) rfl ?_
        refine kw_iinc (v := (l3 + 1)) (lv' := [(3, .int (l3 + 1)), (1, .long v10.1), (0, .ref xa)]) hX 56 dX5_digest_56 2 rfl (kinc_1 _) (by decide) rfl ?_
        refine kw_goto hX 59 38 dX5_digest_59 (by decide) ?_
        refine kw_lv (lv' := [(0, .ref xa), (1, .long v10.1), (3, .int (l3 + 1))]) [2, 1, 0] rfl ?_
        exact ih v10.1 (l3 + 1) z_e_cn z_e_M z_p_R z_p_un z_p_sc z_t_scn z_r_er z_g_vc z_g_ec z_g_F z_g_T z_g_X z_g_Z v10.2.1 v10.2.2.1 v10.2.2.2.1 v10.2.2.2.2.1 v10.2.2.2.2.2.1 v10.2.2.2.2.2.2.1 v10.2.2.2.2.2.2.2.1 v10.2.2.2.2.2.2.2.2.1 v10.2.2.2.2.2.2.2.2.2.1 v10.2.2.2.2.2.2.2.2.2.2 o h hK
  unfold pX5_digest at h
  refine kw_lv (lv' := [(0, .ref xa)]) [0] rfl ?_
  refine kw_ldc2 hX 0 dX5_digest_0 f0 ?_
  refine kw_lstore_n (lv' := [(1, .long 2699), (0, .ref xa)]) hX 3 dX5_digest_3 rfl (by decide) rfl ?_
  refine kw_iconst hX 4 dX5_digest_4 kci_0 ?_
  refine kw_istore_n (lv' := [(3, .int 0), (1, .long 2699), (0, .ref xa)]) hX 5 dX5_digest_5 rfl (by decide) rfl ?_
  obtain ⟨v5, hl6, h⟩ := kb_some h
  refine kw_lv (lv' := [(0, .ref xa), (1, .long 2699), (3, .int 0)]) [2, 1, 0] rfl ?_
  refine L6 KF 2699 0 e_cn e_M p_R p_un p_sc t_scn r_er g_vc g_ec g_F g_T g_X g_Z s_fi s_ta s_st s_qu c_re c_cx c_cy c_px c_py c_pn v5 hl6 ?_
  refine kw_aload_n hX 30 dX5_digest_30 rfl 0 rfl ?_
  refine kw_lload_n hX 31 dX5_digest_31 rfl 1 rfl ?_
  obtain ⟨v7, hc8, h⟩ := kb_some h
  refine kw_callV_L hX 32 (As := [.long v5.1]) (rest := []) (kX5_mixGraph (kx_l X) Y xa ra ga da va ea sa ca pa t_scn g_vc g_ec g_F g_T g_X g_Z v5.1 hc8) gX5_digest_X5_mixGraph rfl 1 rfl hdV_X5_mixGraph ⟨rfl, rfl⟩ ⟨by decide, by decide⟩ ⟨Nat.zero_le _, Nat.zero_le _⟩ rfl (Nat.le_of_ble_eq_true rfl) [2, 4] (by decide) rfl (kfc rfl (kfc rfl kfn0)) (gs1 := [gE Y ea er e_cn e_M, gP Y pa pr p_R p_un p_sc, gT xa ra ga da va ea sa ca pa t_scn, gR Y ra r_er, gG Y ga g_vc g_ec g_F g_T g_X g_Z, gS Y sa s_fi s_ta s_st s_qu, gC Y ca c_re c_cx c_cy c_px c_py c_pn]) rfl 30 5 rfl rfl rfl dX5_digest_32 ?_
  refine kw_lstore_n (lv' := [(1, .long v7), (0, .ref xa), (3, .int v5.2)]) hX 35 dX5_digest_35 rfl (by decide) rfl ?_
  refine kw_iconst hX 36 dX5_digest_36 kci_0 ?_
  refine kw_istore_n (lv' := [(3, .int 0), (1, .long v7), (0, .ref xa)]) hX 37 dX5_digest_37 rfl (by decide) rfl ?_
  obtain ⟨v12, hl13, h⟩ := kb_some h
  refine kw_lv (lv' := [(0, .ref xa), (1, .long v7), (3, .int 0)]) [2, 1, 0] rfl ?_
  refine L38 KF v7 0 e_cn e_M p_R p_un p_sc t_scn r_er g_vc g_ec g_F g_T g_X g_Z s_fi s_ta s_st s_qu c_re c_cx c_cy c_px c_py c_pn v12 hl13 ?_
  refine kw_aload_n hX 62 dX5_digest_62 rfl 0 rfl ?_
  obtain ⟨v14, hc15, h⟩ := kb_some h
  refine kw_callV_I hX 63 (As := []) (rest := []) (kX5_isOnePiece (kx_l X) Y xa ra ga da va ea sa ca pa t_scn g_vc g_ec g_F g_T g_X g_Z v12.2.2.2.2.2.2.1 v12.2.2.2.2.2.2.2.1 v12.2.2.2.2.2.2.2.2.1 v12.2.2.2.2.2.2.2.2.2.1 v12.2.2.2.2.2.2.2.2.2.2.1 v12.2.2.2.2.2.2.2.2.2.2.2 hc15) gX5_digest_X5_isOnePiece rfl 0 rfl hdV_X5_isOnePiece ⟨rfl, rfl⟩ ⟨by decide, by decide⟩ ⟨Nat.zero_le _, Nat.zero_le _⟩ rfl (Nat.le_of_ble_eq_true rfl) [2, 4, 6] (by decide) rfl (kfc rfl (kfc rfl (kfc gC_f kfn0))) (gs1 := [gE Y ea er e_cn e_M, gP Y pa pr p_R p_un p_sc, gT xa ra ga da va ea sa ca pa t_scn, gR Y ra r_er, gG Y ga g_vc g_ec g_F g_T g_X g_Z, gS Y sa v12.2.2.1 v12.2.2.2.1 v12.2.2.2.2.1 v12.2.2.2.2.2.1, gC Y ca v14.2.1 v14.2.2.1 v14.2.2.2.1 v14.2.2.2.2.1 v14.2.2.2.2.2.1 v14.2.2.2.2.2.2]) rfl 30 5 rfl rfl rfl dX5_digest_63 ?_
  refine kw_istore_n (lv' := [(3, .int v14.1), (0, .ref xa), (1, .long v12.1)]) hX 66 dX5_digest_66 rfl (by decide) rfl ?_
  refine kw_lload_n hX 67 dX5_digest_67 rfl 2 rfl ?_
  refine kw_iload_n hX 68 dX5_digest_68 rfl 0 rfl ?_
  obtain ⟨v17, hj29, h⟩ := kb_some h
  have J18 : KW X Y A 4 0 0 (kfl [gE Y ea er e_cn e_M, gP Y pa pr p_R p_un p_sc, gT xa ra ga da va ea sa ca pa t_scn, gR Y ra r_er, gG Y ga g_vc g_ec g_F g_T g_X g_Z, gS Y sa v12.2.2.1 v12.2.2.2.1 v12.2.2.2.2.1 v12.2.2.2.2.2.1, gC Y ca v14.2.1 v14.2.2.1 v14.2.2.2.1 v14.2.2.2.2.1 v14.2.2.2.2.2.1 v14.2.2.2.2.2.2]) [(0, .ref xa), (3, .int v14.1)] 77 [.long v17, .long v12.1] := by
    obtain ⟨v19, hc20, h⟩ := kb_some h
    refine kw_callS_L hX 77 (As := [.long v12.1, .long v17]) (rest := []) (kX5_mix (kx_l X) Y v12.1 v17 hc20) gX5_digest_X5_mix rfl 2 rfl hdS_X5_mix ⟨rfl, rfl⟩ ⟨by decide, by decide⟩ ⟨Nat.zero_le _, Nat.zero_le _⟩ rfl (Nat.le_of_ble_eq_true rfl) [] (by decide) rfl kfn0 (gs1 := [gE Y ea er e_cn e_M, gP Y pa pr p_R p_un p_sc, gT xa ra ga da va ea sa ca pa t_scn, gR Y ra r_er, gG Y ga g_vc g_ec g_F g_T g_X g_Z, gS Y sa v12.2.2.1 v12.2.2.2.1 v12.2.2.2.2.1 v12.2.2.2.2.2.1, gC Y ca v14.2.1 v14.2.2.1 v14.2.2.2.1 v14.2.2.2.2.1 v14.2.2.2.2.2.1 v14.2.2.2.2.2.2]) rfl dX5_digest_77 ?_
    refine kw_lstore_n (lv' := [(1, .long v19), (0, .ref xa), (3, .int v14.1)]) hX 80 dX5_digest_80 rfl (by decide) rfl ?_
    refine kw_iload_n hX 81 dX5_digest_81 rfl 2 rfl ?_
    obtain ⟨v24, hj28, h⟩ := kb_some h
    have J25 : KW X Y A 4 0 0 (kfl [gE Y ea er e_cn e_M, gP Y pa pr v24.2.1 v24.2.2.1 v24.2.2.2, gT xa ra ga da va ea sa ca pa t_scn, gR Y ra r_er, gG Y ga g_vc g_ec g_F g_T g_X g_Z, gS Y sa v12.2.2.1 v12.2.2.2.1 v12.2.2.2.2.1 v12.2.2.2.2.2.1, gC Y ca v14.2.1 v14.2.2.1 v14.2.2.2.1 v14.2.2.2.2.1 v14.2.2.2.2.2.1 v14.2.2.2.2.2.2]) [(0, .ref xa), (1, .long v24.1)] 91 [] := by
      refine kw_lload_n hX 91 dX5_digest_91 rfl 1 rfl ?_
      refine kw_aload_n hX 92 dX5_digest_92 rfl 0 rfl ?_
      refine kw_get hX 93 (C := RX5) (T := TX5) (N := 9) hin5 4 f4 (fun _ h => h) 30 rfl rfl (by decide) rfl dX5_digest_93 ?_
      refine kw_i2l hX 96 dX5_digest_96 ?_
      obtain ⟨v26, hc27, h⟩ := kb_some h
      refine kw_callS_L hX 97 (As := [.long v24.1, .long ((t_scn : Int32).toInt64)]) (rest := []) (kX5_mix (kx_l X) Y v24.1 ((t_scn : Int32).toInt64) hc27) gX5_digest_X5_mix rfl 2 rfl hdS_X5_mix ⟨rfl, rfl⟩ ⟨by decide, by decide⟩ ⟨Nat.zero_le _, Nat.zero_le _⟩ rfl (Nat.le_of_ble_eq_true rfl) [] (by decide) rfl kfn0 (gs1 := [gE Y ea er e_cn e_M, gP Y pa pr v24.2.1 v24.2.2.1 v24.2.2.2, gT xa ra ga da va ea sa ca pa t_scn, gR Y ra r_er, gG Y ga g_vc g_ec g_F g_T g_X g_Z, gS Y sa v12.2.2.1 v12.2.2.2.1 v12.2.2.2.2.1 v12.2.2.2.2.2.1, gC Y ca v14.2.1 v14.2.2.1 v14.2.2.2.1 v14.2.2.2.2.1 v14.2.2.2.2.2.1 v14.2.2.2.2.2.2]) rfl dX5_digest_97 ?_
      obtain rfl := Option.some.inj h
      exact hret _ _ dX5_digest_100
    have h := hj28
    refine kw_if_eq hX 82 91 dX5_digest_82 (by decide) (fun c21 => ?_) (fun c21 => ?_)
    · have h := kif_t c21 h
      obtain rfl := Option.some.inj h
      refine kw_lv (lv' := [(0, .ref xa), (1, .long v19)]) [1, 0] rfl ?_
      exact J25
    · have h := kif_f c21 h
      refine kw_aload_n hX 85 dX5_digest_85 rfl 1 rfl ?_
      refine kw_lload_n hX 86 dX5_digest_86 rfl 0 rfl ?_
      obtain ⟨v22, hc23, h⟩ := kb_some h
      refine kw_callV_L hX 87 (As := [.long v19]) (rest := []) (kX5_mixPositions (kx_l X) Y xa ra ga da va ea sa ca pa pr p_R p_un p_sc t_scn g_vc g_ec g_F g_T g_X g_Z v19 hc23) gX5_digest_X5_mixPositions rfl 1 rfl hdV_X5_mixPositions ⟨rfl, rfl⟩ ⟨by decide, by decide⟩ ⟨Nat.zero_le _, Nat.zero_le _⟩ rfl (Nat.le_of_ble_eq_true rfl) [1, 2, 4] (by decide) rfl (kfc gP_f (kfc rfl (kfc rfl kfn0))) (gs1 := [gE Y ea er e_cn e_M, gP Y pa pr v22.2.1 v22.2.2.1 v22.2.2.2, gT xa ra ga da va ea sa ca pa t_scn, gR Y ra r_er, gG Y ga g_vc g_ec g_F g_T g_X g_Z, gS Y sa v12.2.2.1 v12.2.2.2.1 v12.2.2.2.2.1 v12.2.2.2.2.2.1, gC Y ca v14.2.1 v14.2.2.1 v14.2.2.2.1 v14.2.2.2.2.1 v14.2.2.2.2.2.1 v14.2.2.2.2.2.2]) rfl 30 5 rfl rfl rfl dX5_digest_87 ?_
      refine kw_lstore_n (lv' := [(1, .long v22.1), (0, .ref xa), (3, .int v14.1)]) hX 90 dX5_digest_90 rfl (by decide) rfl ?_
      obtain rfl := Option.some.inj h
      refine kw_lv (lv' := [(0, .ref xa), (1, .long v22.1)]) [1, 0] rfl ?_
      exact J25
  have h := hj29
  refine kw_if_eq hX 69 76 dX5_digest_69 (by decide) (fun c16 => ?_) (fun c16 => ?_)
  · have h := kif_t c16 h
    refine kw_lconst hX 76 dX5_digest_76 kcl_0 ?_
    obtain rfl := Option.some.inj h
    refine kw_lv (lv' := [(0, .ref xa), (3, .int v14.1)]) [1, 0] rfl ?_
    exact J18
  · have h := kif_f c16 h
    refine kw_lconst hX 72 dX5_digest_72 kcl_1 ?_
    refine kw_goto hX 73 77 dX5_digest_73 (by decide) ?_
    obtain rfl := Option.some.inj h
    refine kw_lv (lv' := [(0, .ref xa), (3, .int v14.1)]) [1, 0] rfl ?_
    exact J18
