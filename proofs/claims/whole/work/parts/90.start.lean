theorem kArr {args : Array Value} {s : State} {ty : FieldType} (h : (Cond.arrayClass ty).before args s = true) : ∃ c : ClassId, ArrOfT s c ty ∧ s.vm.findClass ("[" ++ ty.toString) = some c := by
  obtain ⟨c, k, comp, h1, h2, h3⟩ := Cond.arrayClass_spec h
  exact ⟨c, fun n z => ⟨fun k h => (by cases h), k, h2, comp, h3⟩, h1⟩
theorem kArrA {args : Array Value} {s : State} {t : FieldType} (h : (Cond.arrayOver (.array t)).before args s = true) : ∃ c : ClassId, ArrOfT s c (.array t) ∧ s.vm.findClass ("[" ++ (FieldType.array t).toString) = some c := by
  obtain ⟨comp, c, k, h1, h2, h3, h4⟩ := Cond.arrayOver_specA h
  exact ⟨c, fun n z => ⟨fun k h => (by cases h), k, h2, comp, h3⟩, h4⟩
theorem kArrO {args : Array Value} {s : State} {n : String} (h : (Cond.arrayOver (.object n)).before args s = true) : ∃ c : ClassId, ArrOfT s c (.object n) ∧ va_RA s c (.object n) := by
  obtain ⟨comp, c, k, h1, h2, h3, h4, h5⟩ := Cond.arrayOver_spec h
  exact ⟨c, fun n z => ⟨fun k h => (by cases h), k, h3, comp, h4⟩, k, comp, h3, h4, h1, h5⟩
def kdC (a0 a1 a2 a3 a4 a5 a6 : ClassId) : Nat → ClassId := fun k => match k with
  | 0 => a0
  | 1 => a1
  | 2 => a2
  | 3 => a3
  | 4 => a4
  | 5 => a5
  | _ => a6
def kdI (a0 a1 a2 a3 a4 a5 a6 : Nat → Nat) : Nat → Nat → Nat := fun k => match k with
  | 0 => a0
  | 1 => a1
  | 2 => a2
  | 3 => a3
  | 4 => a4
  | 5 => a5
  | _ => a6
def kdY (a0 a1 a2 a3 a4 a5 : ClassId) : Nat → ClassId := fun k => match k with
  | 0 => a0
  | 1 => a1
  | 2 => a2
  | 3 => a3
  | 4 => a4
  | _ => a5
theorem w_inst0 : Cond.instantiable RX0 6 ∈ lw_tbl := by decide +kernel
theorem w_inst1 : Cond.instantiable RX1 4 ∈ lw_tbl := by decide +kernel
theorem w_inst2 : Cond.instantiable RX2 6 ∈ lw_tbl := by decide +kernel
theorem w_inst3 : Cond.instantiable RX3 3 ∈ lw_tbl := by decide +kernel
theorem w_inst4 : Cond.instantiable RX4 4 ∈ lw_tbl := by decide +kernel
theorem w_inst5 : Cond.instantiable RX5 9 ∈ lw_tbl := by decide +kernel
theorem w_inst6 : Cond.instantiable RX6 15 ∈ lw_tbl := by decide +kernel
theorem w_arI : Cond.arrayClass .int ∈ lw_tbl := by decide +kernel
theorem w_arJ : Cond.arrayClass .long ∈ lw_tbl := by decide +kernel
theorem w_arZ : Cond.arrayClass .boolean ∈ lw_tbl := by decide +kernel
theorem w_aoG : Cond.arrayOver (.object "PeriodicNet$Graph") ∈ lw_tbl := by decide +kernel
theorem w_aoI : Cond.arrayOver (.array .int) ∈ lw_tbl := by decide +kernel
theorem w_aoJ : Cond.arrayOver (.array .long) ∈ lw_tbl := by decide +kernel
theorem w_n0 : kN0 ∈ lw_tbl := by decide +kernel
theorem w_n1 : kN1 ∈ lw_tbl := by decide +kernel
theorem w_n2 : kN2 ∈ lw_tbl := by decide +kernel
theorem w_m2 : Cond.methodLinkNest RX5 15 yX2_init RX5 ∈ lw_tbl := by decide +kernel
theorem w_m1 : Cond.methodLinkNest RX5 33 yX1_init RX5 ∈ lw_tbl := by decide +kernel
theorem w_m0 : Cond.methodLinkNest RX5 47 yX0_init RX5 ∈ lw_tbl := by decide +kernel
theorem w_m3 : Cond.methodLinkNest RX5 54 yX3_init RX5 ∈ lw_tbl := by decide +kernel
/-- the tables give the classes' numbers -/
theorem start_K {s : State} {b : Nat} (hts : ∀ w ∈ lw_tbl, w.before #[Value.ref b] s = true) : ∃ Y : KY, KK Y s ∧ kOver s := by
  obtain ⟨c0, i0, k0⟩ := u_known (C := RX0) (T := TX0) (N := 6) (n := 6) hts inX0 (hts _ w_inst0)
  obtain ⟨c1, i1, k1⟩ := u_known (C := RX1) (T := TX1) (N := 4) (n := 4) hts inX1 (hts _ w_inst1)
  obtain ⟨c2, i2, k2⟩ := u_known (C := RX2) (T := TX2) (N := 6) (n := 6) hts inX2 (hts _ w_inst2)
  obtain ⟨c3, i3, k3⟩ := u_known (C := RX3) (T := TX3) (N := 3) (n := 3) hts inX3 (hts _ w_inst3)
  obtain ⟨c4, i4, k4⟩ := u_known (C := RX4) (T := TX4) (N := 4) (n := 4) hts inX4 (hts _ w_inst4)
  obtain ⟨c5, i5, k5⟩ := u_known (C := RX5) (T := TX5) (N := 9) (n := 9) hts inX5 (hts _ w_inst5)
  obtain ⟨c6, i6, k6⟩ := u_known (C := RX6) (T := TX6) (N := 15) (n := 15) hts inX6 (hts _ w_inst6)
  obtain ⟨aI, bI, dI⟩ := kArr (hts _ w_arI)
  obtain ⟨aJ, bJ, dJ⟩ := kArr (hts _ w_arJ)
  obtain ⟨aZ, bZ, dZ⟩ := kArr (hts _ w_arZ)
  obtain ⟨aG, bG, dG⟩ := kArrO (hts _ w_aoG)
  obtain ⟨aA, bA, dA⟩ := kArrA (hts _ w_aoI)
  obtain ⟨aB, bB, dB⟩ := kArrA (hts _ w_aoJ)
  refine ⟨((kdC c0 c1 c2 c3 c4 c5 c6, kdI i0 i1 i2 i3 i4 i5 i6), kdY aI aJ aZ aG aA aB), ⟨⟨?_, ?_⟩, va_Nw.of rfl (hts _ w_n0), va_Nw.of rfl (hts _ w_n1), va_Nw.of rfl (hts _ w_n2)⟩, va_AO.of (hts _ w_aoG), va_AOA.of (hts _ w_aoI), va_AOA.of (hts _ w_aoJ), va_Nw.of rfl (hts _ w_m2), va_Nw.of rfl (hts _ w_m1), va_Nw.of rfl (hts _ w_m0), va_Nw.of rfl (hts _ w_m3)⟩
  · intro k q hq
    match k, hq with
    | 0, hq => cases hq; exact k0
    | 1, hq => cases hq; exact k1
    | 2, hq => cases hq; exact k2
    | 3, hq => cases hq; exact k3
    | 4, hq => cases hq; exact k4
    | 5, hq => cases hq; exact k5
    | 6, hq => cases hq; exact k6
    | k + 7, hq => simp [vwCl] at hq
  · intro k q hq
    match k, hq with
    | 0, hq => cases hq; exact ⟨bI, dI⟩
    | 1, hq => cases hq; exact ⟨bJ, dJ⟩
    | 2, hq => cases hq; exact ⟨bZ, dZ⟩
    | 3, hq => cases hq; exact ⟨bG, dG⟩
    | 4, hq => cases hq; exact ⟨bA, dA⟩
    | 5, hq => cases hq; exact ⟨bB, dB⟩
    | k + 6, hq => simp [kTY] at hq
theorem GI_0 : GI 1 0 (fun _ => 0) (fun _ => 0) (fun _ => 0) (fun _ => 0) := ⟨1, 0, rfl, rfl, by omega, by omega, by omega, fun e h => absurd h (Nat.not_lt_zero _), fun e f _ h => absurd h (Nat.not_lt_zero _)⟩
theorem Rel_0 : Rel 0 (fun _ => 0) 1 0 (fun _ => 0) (fun _ => 0) (fun _ => 0) (fun _ => 0) (fun i => i) (fun _ => 1) (fun _ => 0) (fun _ _ => 0) (fun _ _ => 0) (fun _ _ => 0) (fun _ _ => 0) (fun _ => 0) (fun _ _ => 0) 0 0 (fun _ => (-1)) (fun _ => 0) (upd (fun _ => 0) (0 : Int32).toNatClampNeg 1) (fun _ => 0) 0 (fun _ => 0) := by
  refine ⟨GI_0, ⟨rfl, rfl, fun e h => ?_⟩, fun v hv => ⟨rfl, fun j h => ?_⟩, ⟨0, rfl, by omega, fun k h => absurd h (Nat.not_lt_zero _), fun n _ _ => rfl⟩, fun k _ => rfl, rfl, fun i h => h, fun i j _ _ h => h, 0, by omega, rfl, fun i h => absurd h (Nat.not_lt_zero _)⟩
  · exact absurd h (by rw [show (0 : Int32).toInt = 0 from rfl]; omega)
  · exact absurd h (by rw [show (0 : Int32).toNatClampNeg = 0 from rfl]; omega)
set_option maxHeartbeats 8000000 in
set_option maxRecDepth 100000 in
theorem start_walk {X : KX} {Y : KY} {A : Nat → Prop} {b L : Nat} {xs : Nat → Int32} (hX : KOk X Y cL_law 4 RL wsL_law room_1 A) (hO : kOver (kx_s X)) (hXs : va_X b L xs (kx_s X) (kx_s X).heap) (hbl : b < (kx_s X).heap.size) (hbA : ¬ A b) (hL : L ≤ 2560) (hEnd : ∀ (ws : va_W) (lv : List (Nat × Value)), KW X Y A 4 89 27532 ws lv 836 [.int 1]) : KW X Y A 4 0 0 [] [(0, .ref b)] 0 [] := by
  refine kw_new hX 0 (C := RX5) (T := TX5) (N := 9) (ci := 5) inlX5 tyX5 tyX5_ok (hX.w (Cond.classLink RL 7 RX5) (by decide +kernel)) (hX.w (Cond.instantiable RX5 9) (by decide +kernel)) (hX.w (Cond.initialized RX5) (by decide +kernel)) rfl [.null, .null, .null, .null, .int 0, .null, .null, .null, .null] nfX5 (c1 := 1) (s1 := 9) rfl rfl ⟨by decide, by decide⟩ dL_law_0 (fun q0 => ?_)
  refine kw_perm (ws' := [(q0, .inr (5, [.null, .null, .null, .null, .int 0, .null, .null, .null, .null]))]) [0] (by decide) rfl ?_
  refine kw_dup hX 3 dL_law_3 rfl ?_
  refine kw_ctor hX 4 (rest := [.ref q0]) hO (kX5_init (kx_l X) Y q0) gL_law_X5_init (Or.inl (hX.w (Cond.methodLink RL 9 yX5_init) (by decide +kernel))) (hX.w (Cond.initialized yX5_init.cls) (by decide +kernel)) (hX.w (Cond.instanceMethod yX5_init) (by decide +kernel)) rfl rfl hdC_X5 ⟨rfl, rfl⟩ ⟨by decide, by decide⟩ (c1 := 77) (s1 := 14021) rfl rfl ⟨by decide, by decide⟩ (Nat.le_of_ble_eq_true rfl) [0] [] [] (by decide) rfl rfl (by decide) (by decide) dL_law_4 (fun u => ?_)
  refine kw_perm (ws' := xW0 Y q0 u) [0, 1, 2, 3, 4, 5, 6, 7, 8, 9, 10, 11, 12, 13, 14, 15, 16, 17, 18, 19, 20, 21, 22, 23, 24, 25, 26, 27, 28, 29, 30, 31, 32, 33, 34, 35, 36, 37, 38, 39, 40, 41, 42, 43, 44, 45, 46, 47, 48, 49, 50, 51, 52, 53, 54, 55, 56, 57, 58, 59, 60, 61, 62, 63, 64, 65, 66, 67, 68, 69, 70, 71, 72, 73, 74, 75, 76] (by decide) rfl ?_
  refine kw_astore_n (lv' := [(1, .ref q0), (0, .ref b)]) hX 7 dL_law_7 rfl (by decide) rfl ?_
  refine kw_new hX 8 (C := RX6) (T := TX6) (N := 15) (ci := 6) inlX6 tyX6 tyX6_ok (hX.w (Cond.classLink RL 10 RX6) (by decide +kernel)) (hX.w (Cond.instantiable RX6 15) (by decide +kernel)) (hX.w (Cond.initialized RX6) (by decide +kernel)) rfl [.null, .null, .int 0, .null, .null, .null, .null, .int 0, .null, .null, .null, .null, .null, .long 0, .long 0] nfX6 (c1 := 78) (s1 := 14036) rfl rfl ⟨by decide, by decide⟩ dL_law_8 (fun q1 => ?_)
  refine kw_dup hX 11 dL_law_11 rfl ?_
  refine kw_ctor hX 12 (rest := [.ref q1]) hO (kX6_init (kx_l X) Y q1) gL_law_X6_init (Or.inl (hX.w (Cond.methodLink RL 12 yX6_init) (by decide +kernel))) (hX.w (Cond.initialized yX6_init.cls) (by decide +kernel)) (hX.w (Cond.instanceMethod yX6_init) (by decide +kernel)) rfl rfl hdC_X6 ⟨rfl, rfl⟩ ⟨by decide, by decide⟩ (c1 := 89) (s1 := 27532) rfl rfl ⟨by decide, by decide⟩ (Nat.le_of_ble_eq_true rfl) [77] [0, 1, 2, 3, 4, 5, 6, 7, 8, 9, 10, 11, 12, 13, 14, 15, 16, 17, 18, 19, 20, 21, 22, 23, 24, 25, 26, 27, 28, 29, 30, 31, 32, 33, 34, 35, 36, 37, 38, 39, 40, 41, 42, 43, 44, 45, 46, 47, 48, 49, 50, 51, 52, 53, 54, 55, 56, 57, 58, 59, 60, 61, 62, 63, 64, 65, 66, 67, 68, 69, 70, 71, 72, 73, 74, 75, 76] (xW0 Y q0 u) (by decide) rfl rfl (by decide) (by decide) dL_law_12 (fun u2 => ?_)
  obtain ⟨ma, hma⟩ : ∃ ma : Nat → Nat, ma = fun j => ([q1, u2 1, u2 2, u2 3, u2 4, u2 5, u2 6, u2 7, u2 8, u2 9, u2 10, u2 11] : List Nat).getD j 0 := ⟨_, rfl⟩
  have hm0 : ma 0 = q1 := by rw [hma]; rfl
  refine kw_perm (ws' := kfl [gT q0 u.1 u.2.1 u.2.2.1 u.2.2.2.1 u.2.2.2.2.2.1 u.2.2.2.2.2.2.2.1 u.2.2.2.2.2.2.2.2.1 u.2.2.2.2.2.2.2.2.2.1 0, gR Y u.1 (fun _ => 0), gG Y u.2.1 1 0 (fun _ => 0) (fun _ => 0) (fun _ => 0) (fun _ => 0), gG Y u.2.2.1 1 0 (fun _ => 0) (fun _ => 0) (fun _ => 0) (fun _ => 0), gA Y u.2.2.2.1 u.2.2.2.2.1 (fun i => i), gG Y (fun j => u.2.2.2.2.1 (0 + j)) ((fun _ => 1) 0) ((fun _ => 0) 0) ((fun _ _ => 0) 0) ((fun _ _ => 0) 0) ((fun _ _ => 0) 0) ((fun _ _ => 0) 0), gG Y (fun j => u.2.2.2.2.1 (5 + j)) ((fun _ => 1) 1) ((fun _ => 0) 1) ((fun _ _ => 0) 1) ((fun _ _ => 0) 1) ((fun _ _ => 0) 1) ((fun _ _ => 0) 1), gG Y (fun j => u.2.2.2.2.1 (10 + j)) ((fun _ => 1) 2) ((fun _ => 0) 2) ((fun _ _ => 0) 2) ((fun _ _ => 0) 2) ((fun _ _ => 0) 2) ((fun _ _ => 0) 2), gG Y (fun j => u.2.2.2.2.1 (15 + j)) ((fun _ => 1) 3) ((fun _ => 0) 3) ((fun _ _ => 0) 3) ((fun _ _ => 0) 3) ((fun _ _ => 0) 3) ((fun _ _ => 0) 3), gG Y (fun j => u.2.2.2.2.1 (20 + j)) ((fun _ => 1) 4) ((fun _ => 0) 4) ((fun _ _ => 0) 4) ((fun _ _ => 0) 4) ((fun _ _ => 0) 4) ((fun _ _ => 0) 4), gE Y u.2.2.2.2.2.1 u.2.2.2.2.2.2.1 (fun _ => 0) (fun _ _ => 0), gS Y u.2.2.2.2.2.2.2.1 0 0 (fun _ => (-1)) (fun _ => 0), gC Y u.2.2.2.2.2.2.2.2.1 (fun _ => 0) (fun _ => 0) (fun _ => 0) (fun _ => 0) (fun _ => 0) 0, gP Y u.2.2.2.2.2.2.2.2.2.1 u.2.2.2.2.2.2.2.2.2.2 (fun _ _ => 0) 0 1, gM Y ma (upd (fun _ => 0) (0 : Int32).toNatClampNeg 1) (fun _ => 0) 0 (fun _ => 0) (fun _ => 0) (fun _ => 0) (fun _ => 0) 0 (fun _ => 0) (fun _ => 0) (fun _ => 0) (fun _ => 0) (fun _ => 0) 0 0]) [0, 1, 2, 3, 4, 5, 6, 7, 8, 9, 10, 11, 12, 13, 14, 15, 16, 17, 18, 19, 20, 21, 22, 23, 24, 25, 26, 27, 28, 29, 30, 31, 32, 33, 34, 35, 36, 37, 38, 39, 40, 41, 42, 43, 44, 45, 46, 47, 48, 49, 50, 51, 52, 53, 54, 55, 56, 57, 58, 59, 60, 61, 62, 63, 64, 65, 66, 67, 68, 69, 70, 71, 72, 73, 74, 75, 76, 77, 78, 79, 80, 81, 82, 83, 84, 85, 86, 87, 88] (by decide) (by rw [hma]; rfl) ?_
  rw [← hm0]
  refine kw_astore_n (lv' := [(2, .ref (ma 0)), (1, .ref q0), (0, .ref b)]) hX 15 dL_law_15 rfl (by decide) rfl ?_
  refine kw_iconst hX 16 dL_law_16 kci_0 ?_
  refine kw_istore_n (lv' := [(3, .int 0), (2, .ref (ma 0)), (1, .ref q0), (0, .ref b)]) hX 17 dL_law_17 rfl (by decide) rfl ?_
  refine kw_lv (lv' := [(0, .ref b), (1, .ref q0), (2, .ref (ma 0)), (3, .int (nI 0))]) [3, 2, 1, 0] rfl ?_
  exact law_loop hX hXs hbl hbA hL q0 u.1 u.2.1 u.2.2.1 u.2.2.2.1 u.2.2.2.2.1 u.2.2.2.2.2.1 u.2.2.2.2.2.2.1 u.2.2.2.2.2.2.2.1 u.2.2.2.2.2.2.2.2.1 u.2.2.2.2.2.2.2.2.2.1 u.2.2.2.2.2.2.2.2.2.2 ma (fun lv _ _ _ _ _ _ _ _ _ _ _ _ _ _ _ _ _ _ _ _ _ _ _ _ _ _ _ _ _ _ _ _ _ _ _ _ _ _ _ _ _ _ _ _ _ _ _ _ _ _ _ => hEnd _ lv) (L + 1) 0 0 (fun _ => 0) 1 0 (fun _ => 0) (fun _ => 0) (fun _ => 0) (fun _ => 0) 1 0 (fun _ => 0) (fun _ => 0) (fun _ => 0) (fun _ => 0) (fun i => i) (fun _ => 1) (fun _ => 0) (fun _ _ => 0) (fun _ _ => 0) (fun _ _ => 0) (fun _ _ => 0) (fun _ => 0) (fun _ _ => 0) 0 0 (fun _ => (-1)) (fun _ => 0) (fun _ => 0) (fun _ => 0) (fun _ => 0) (fun _ => 0) (fun _ => 0) 0 (fun _ _ => 0) 0 1 (upd (fun _ => 0) (0 : Int32).toNatClampNeg 1) (fun _ => 0) 0 (fun _ => 0) (fun _ => 0) (fun _ => 0) (fun _ => 0) 0 (fun _ => 0) (fun _ => 0) (fun _ => 0) (fun _ => 0) (fun _ => 0) 0 0 (by omega) (Nat.zero_le _) Rel_0
