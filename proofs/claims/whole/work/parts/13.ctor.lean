/-! what constructors do: new objects and arrays join the world; at the end it is laid in its order -/
def kOver (U : State) : Prop := va_AO "PeriodicNet$Graph" U ∧ va_AOA .int U ∧ va_AOA .long U ∧ va_Nw (.methodLinkNest RX5 15 yX2_init RX5) U ∧ va_Nw (.methodLinkNest RX5 33 yX1_init RX5) U ∧ va_Nw (.methodLinkNest RX5 47 yX0_init RX5) U ∧ va_Nw (.methodLinkNest RX5 54 yX3_init RX5) U
theorem va_AOA.moved {t : FieldType} {u U : State} (hvm : u.vm.Alike U.vm) (h : va_AOA t u) : va_AOA t U := over_moved (a := #[]) (a' := #[]) hvm h
theorem kOver.warm {s U : State} (hW : s.WarmedH U.vm) (h : kOver s) : kOver U := ⟨h.1.moved hW.alike, h.2.1.moved hW.alike, h.2.2.1.moved hW.alike, va_Nw.warmM hW h.2.2.2.1, va_Nw.warmM hW h.2.2.2.2.1, va_Nw.warmM hW h.2.2.2.2.2.1, va_Nw.warmM hW h.2.2.2.2.2.2⟩
theorem kOver.calling {U : State} {g : JFrame} {mk : MethodId} {a : Array Value} (h : kOver U) : kOver (U.calling g mk a) := ⟨h.1.moved (u := U) (U := U.calling g mk a) (Vm.Alike.refl U.vm), h.2.1.moved (u := U) (U := U.calling g mk a) (Vm.Alike.refl U.vm), h.2.2.1.moved (u := U) (U := U.calling g mk a) (Vm.Alike.refl U.vm), va_Nw.same rfl rfl h.2.2.2.1, va_Nw.same rfl rfl h.2.2.2.2.1, va_Nw.same rfl rfl h.2.2.2.2.2.1, va_Nw.same rfl rfl h.2.2.2.2.2.2⟩
def CPre (Y : KY) (ws : va_W) (sz : Nat) : State → Prop := fun U => KPre Y ws sz U ∧ kOver U
def CPost {S : Type} (Y : KY) (ws : va_W) (ws1 : S → va_W) (sz : Nat) : S → State → Prop := fun u t => va_P Y.1 vwCl (ws1 u) t.heap ∧ va_D (va_A ws sz) (ws1 u)
def CtN {S : Type} (l : Launch) (y : MethodName) (wsC : List Cond) (rm : Room) (Y : KY) (av : List Value) (ws : va_W) (ws1 : S → va_W) (mc ms : Nat) : Prop := ∀ sz : Nat, Met l y wsC rm (va_Pc av (CPre Y ws sz)) (va_Qv (fun (_ : S) => True) (CPost Y ws ws1 sz) (va_A ws sz)) mc ms (va_A ws sz)
section KCT
variable {X : KX} {Y : KY} {cc : ByteArray} {nL : Nat} {own : String} {Ts : List Cond} {rm : Room} {A : Nat → Prop} {cells slots : Nat} {ws : va_W} {lv : List (Nat × Value)} {st : List Value}
theorem kw_new (hX : KOk X Y cc nL own Ts rm A) (pc : Nat) {C : String} {T : u_T} {N ci index : Nat} (hin : ∀ w ∈ u_ws C T N, w ∈ Ts) (ty : Nat → FieldType) (hty : ∀ k, k < N → parseFieldDescriptor (T k).2.2.1 = some (ty k)) (hcl : (Cond.classLink own index C).before (kx_a X) (kx_s X) = true) (hinst : (Cond.instantiable C N).before (kx_a X) (kx_s X) = true) (hini : (Cond.initialized C).before (kx_a X) (kx_s X) = true) (hc : vwCl[ci]? = some (C, T, N)) (fs : List Value) (hfs : ∀ j, j < N → defaultValue (ty j) = vp_V fs j) {c1 s1 : Nat} (e1 : cells + 1 = c1) (e2 : slots + N = s1) (hcs : c1 ≤ rm.cells ∧ s1 ≤ rm.slots) (hdg : decode cc pc = .ok (.new index, 3))
    (k : ∀ q : Nat, KW X Y A nL c1 s1 (ws ++ [(q, .inr (ci, fs))]) lv (pc + 3) (.ref q :: st)) : KW X Y A nL cells slots ws lv pc st := by
  intro H ls locs hP hD hS hl
  subst e1; subst e2
  exact va_new hX.1 hX.2.1 hX.2.2.2.2.1 hin ty hty hX.2.2.2.1 hcl hinst hini hX.2.2.2.2.2.1.1 hP hD hS hX.2.2.2.2.2.2.1 hc hfs (by rw [hX.2.2.2.2.2.2.2]; exact hcs.1) (by rw [hX.2.2.2.2.2.2.2]; exact hcs.2) hdg (fun q H1 hP hD hS => k q H1 ls locs hP hD hS hl)
theorem kw_newa (hX : KOk X Y cc nL own Ts rm A) (pc : Nat) {atype : ArrayType} (idx : Nat) {ty : FieldType} (hty : newarray.typeOf atype = ty) (hY : (kTY Y.2)[idx]? = some (Y.2 idx, ty)) (hr : ∀ c : ClassId, va_RA (kx_s X) c ty → (kx_s X).vm.findClass ("[" ++ ty.toString) = some c) (harr : (Cond.arrayClass (newarray.typeOf atype)).before (kx_a X) (kx_s X) = true) {n : Int32} {N' : Nat} (a0 : vp_A) (ha : ∀ cA : ClassId, vp_cell cA a0 = arrV cA N' (fun _ => defaultValue ty)) (hn : ¬ n < 0) (hN : n.toNatClampNeg = N') (hbytes : N' * componentBytes ty ≤ 536870912) {c1 s1 : Nat} (e1 : cells + 1 = c1) (e2 : slots + N' = s1) (hcs : c1 ≤ rm.cells ∧ s1 ≤ rm.slots) (hdg : decode cc pc = .ok (.newarray atype, 2))
    (k : ∀ q : Nat, KW X Y A nL c1 s1 (ws ++ [(q, .inl (Y.2 idx, a0))]) lv (pc + 2) (.ref q :: st)) : KW X Y A nL cells slots ws lv pc (.int n :: st) := by
  intro H ls locs hP hD hS hl
  subst e1; subst e2
  refine va_newa hX.1 hX.2.1 harr hty hX.2.2.2.2.2.1.1 hP hD hS hX.2.2.2.2.2.2.1 ha hn hN hbytes (by rw [hX.2.2.2.2.2.2.2]; exact hcs.1) (by rw [hX.2.2.2.2.2.2.2]; exact hcs.2) hdg (fun q cA H1 hK1 hP hD hS => ?_)
  have e1 := hr cA (hK1.2 6 (cA, ty) rfl).2
  have e2 := hr (Y.2 idx) (hX.2.2.2.2.2.1.1.2 idx _ hY).2
  have e : cA = Y.2 idx := Option.some.inj (e1.symm.trans e2)
  subst e
  exact k q H1 ls locs hP hD hS hl
theorem kw_newq (hX : KOk X Y cc nL own Ts rm A) (pc : Nat) {index : Nat} (hcl : (Cond.classLink own index "PeriodicNet$Graph").before (kx_a X) (kx_s X) = true) (hO : kOver (kx_s X)) {n : Int32} {N' : Nat} (hn : ¬ n < 0) (hN : n.toNatClampNeg = N') (hbytes : N' * 4 ≤ 536870912) {c1 s1 : Nat} (e1 : cells + 1 = c1) (e2 : slots + N' = s1) (hcs : c1 ≤ rm.cells ∧ s1 ≤ rm.slots) (hdg : decode cc pc = .ok (.anewarray index, 3))
    (k : ∀ q : Nat, KW X Y A nL c1 s1 (ws ++ [(q, kO (Y.2 3) N' (fun _ => none))]) lv (pc + 3) (.ref q :: st)) : KW X Y A nL cells slots ws lv pc (.int n :: st) := by
  intro H ls locs hP hD hS hl
  subst e1; subst e2
  refine va_newq hX.1 hX.2.1 hX.2.2.2.1 hcl hO.1 hX.2.2.2.2.2.1.1 hP hD hS hX.2.2.2.2.2.2.1 hn hN hbytes (by rw [hX.2.2.2.2.2.2.2]; exact hcs.1) (by rw [hX.2.2.2.2.2.2.2]; exact hcs.2) hdg (fun q cA H1 hK1 hP hD hS => ?_)
  obtain ⟨-, -, -, -, -, a1⟩ := (hK1.2 6 (cA, .object "PeriodicNet$Graph") rfl).2
  obtain ⟨-, -, -, -, -, a2⟩ := (hX.2.2.2.2.2.1.1.2 3 _ rfl).2
  have e : cA = Y.2 3 := Option.some.inj (a1.symm.trans a2)
  subst e
  exact k q H1 ls locs hP hD hS hl
theorem kr_rows {r : Nat → Nat} {f : Nat → va_E} {e : va_E} {n : Nat} : va_pl ([] ++ (List.range n).map r) (vr_up f ((List.range n).map r) e) = (List.range n).map (fun i => (r i, e)) := by
  unfold va_pl
  rw [List.nil_append, List.map_map]
  apply List.map_congr_left
  intro i hi
  show (r i, vr_up f _ e (r i)) = (r i, e)
  rw [vr_up_in (List.mem_map.mpr ⟨i, hi, rfl⟩)]
theorem kw_mna (hX : KOk X Y cc nL own Ts rm A) (pc : Nat) {index : Nat} (idx ie : Nat) {ty : FieldType} (hclink : (Cond.classLink own index ("[" ++ (FieldType.array ty).toString)).before (kx_a X) (kx_s X) = true) (hover : va_AOA ty (kx_s X)) (harr : (Cond.arrayClass ty).before (kx_a X) (kx_s X) = true) (hY : (kTY Y.2)[idx]? = some (Y.2 idx, .array ty)) (hE : (kTY Y.2)[ie]? = some (Y.2 ie, ty)) (hr : ∀ c : ClassId, va_RA (kx_s X) c ty → (kx_s X).vm.findClass (FieldType.array ty).toString = some c)
    {n k : Int32} {N' K' : Nat} (z : vp_A) (hn : ¬ n < 0) (hk : ¬ k < 0) (hN : n.toNatClampNeg = N') (hM : k.toNatClampNeg = K') (hb1 : N' * 4 ≤ 536870912) (hb2 : K' * componentBytes ty ≤ 536870912) (hb3 : K' ≤ 536870912) (hdf : fits ty (defaultValue ty) = true) (hdd : (defaultValue ty).isDefault = true) {c1 s1 : Nat} (e1 : cells + 1 + N' = c1) (e2 : slots + N' + N' * K' = s1) (hcs : c1 ≤ rm.cells ∧ s1 ≤ rm.slots) (hz : ∀ c : ClassId, Jvm.Free.Multi.innerC c K' (defaultValue ty) = vp_cell c z) (hdg : decode cc pc = .ok (.multianewarray index 2, 4))
    (kk : ∀ (q : Nat) (r : Nat → Nat), KW X Y A nL c1 s1 ((ws ++ [(q, kO (Y.2 idx) N' (fun i => if i < N' then some (r i) else none))]) ++ (List.range N').map (fun i => (r i, .inl (Y.2 ie, z)))) lv (pc + 4) (.ref q :: st)) : KW X Y A nL cells slots ws lv pc (.int k :: .int n :: st) := by
  intro H ls locs hP hD hS hl
  subst e1; subst e2
  have hP0 : va_P Y.1 vwCl (ws ++ va_pl [] (fun _ => .inl (Y.2 ie, z))) H := by
    show va_P Y.1 vwCl (ws ++ []) H
    rw [List.append_nil]; exact hP
  have hD0 : va_D A (ws ++ va_pl [] (fun _ => .inl (Y.2 ie, z))) := by
    show va_D A (ws ++ [])
    rw [List.append_nil]; exact hD
  refine va_mna (cy := Y.2 ie) (z := z) hX.1 hX.2.1 hX.2.2.2.1 hclink hover harr (hr _ (hX.2.2.2.2.2.1.1.2 ie _ hE).2) hX.2.2.2.2.2.1.1 hP0 hD0 hS hX.2.2.2.2.2.2.1 hn hk hN hM hb1 hb2 hb3 hdf hdd (by rw [hX.2.2.2.2.2.2.2]; omega) (by rw [hX.2.2.2.2.2.2.2]; omega) hz hdg (fun q r cA H1 hi hL hK1 hP hD hS => ?_)
  have f1 : (kx_s X).vm.findClass ("[" ++ (FieldType.array ty).toString) = some cA := (hK1.2 6 (cA, .array ty) rfl).2
  have f2 : (kx_s X).vm.findClass ("[" ++ (FieldType.array ty).toString) = some (Y.2 idx) := (hX.2.2.2.2.2.1.1.2 idx _ hY).2
  have e : cA = Y.2 idx := Option.some.inj (f1.symm.trans f2)
  subst e
  rw [kr_rows] at hP hD
  exact kk q r H1 ls locs hP hD hS hl
theorem kw_objInit (hX : KOk X Y cc nL own Ts rm A) (pc : Nat) {idx a : Nat} (hlink : (Cond.methodLink own idx Lib.objectInit).before (kx_a X) (kx_s X) = true) (hinst : (Cond.instanceMethod Lib.objectInit).before (kx_a X) (kx_s X) = true) (hcode : (Cond.code Lib.objectInit ⟨#[0xb1]⟩ 1 none).before (kx_a X) (kx_s X) = true) (hf : 1 ≤ rm.frames) (hlo : (st.map fun v => v.category).sum + 12 ≤ rm.locals) (hdg : decode cc pc = .ok (.invokespecial idx, 3)) (k : KW X Y A nL cells slots ws lv (pc + 3) st) : KW X Y A nL cells slots ws lv pc (.ref a :: st) := by
  intro H ls locs hP hD hS hl
  refine W.objInit hX.1 hX.2.1 hX.2.2.2.1 hlink hinst hcode rfl (by rw [hX.2.2.1]; exact hl.1) rfl hdg (by rw [hX.2.2.2.2.2.2.2]; exact hf) (by rw [hX.2.2.2.2.2.2.2]; show 2 * 0 + _ + 12 ≤ _; omega) ?_
  exact k H ls locs hP hD hS hl
theorem kw_putF (hX : KOk X Y cc nL own Ts rm A) (pc : Nat) {ref C : String} {T : u_T} {N ci index : Nat} {a : Nat} {fs : List Value} {ws' : va_W} (hin2 : (kx_t X).name = "<init>") (hin : ∀ w ∈ u_ws C T N, w ∈ Ts) (ty0 : Nat → FieldType) (hty : ∀ k, k < N → parseFieldDescriptor (T k).2.2.1 = some (ty0 k)) (hnm : ∀ a, a < N → ∀ b, b < N → a ≠ b → (T a).2.1 ≠ (T b).2.1) (f : Nat) (hlink : (Cond.fieldLink own index ref (T f).2.1 (T f).2.2.1).before (kx_a X) (kx_s X) = true) (hsame : ∀ x, (kx_s X).fieldFound? (T f).1 (T f).2.1 (T f).2.2.1 = some x → (kx_s X).fieldFound? ref (T f).2.1 (T f).2.2.1 = some x) (q0 : Nat) (he : ws[q0]? = some (a, .inr (ci, fs))) (hc : vwCl[ci]? = some (C, T, N)) (hk : f < N) (hfin : (T f).2.2.2 = true) (hdecl : (T f).1 = own) {ty : FieldType} {v : Value} (hd : parseFieldDescriptor (T f).2.2.1 = some ty) (hn : narrow ty v = v) (hfit : fits ty v = true) (hlen : f < fs.length) (hw : ws.set q0 (a, .inr (ci, fs.set f v)) = ws') (hdg : decode cc pc = .ok (.putfield index, 3)) (k : KW X Y A nL cells slots ws' lv (pc + 3) st) : KW X Y A nL cells slots ws lv pc (v :: .ref a :: st) := by subst hw; intro H ls locs hP hD hS hl; exact va_putF hX.1 hX.2.1 hX.2.2.2.2.1 hin ty0 hty hnm hX.2.2.2.1 hX.2.2.2.2.2.1.1 hP hD hS q0 he hc f hk hlink hsame hfin hin2 hdecl hd hn hfit hlen hdg (fun H1 locs1 hP hD hS => k H1 ls locs1 hP hD hS hl)
/-- the world in another order, or fewer of its cells -/
theorem kw_perm {pc : Nat} {ws' : va_W} (is : List Nat) (hnd : va_nd is = true) (hs : is.map (fun i => ws[i]?) = ws'.map some) (k : KW X Y A nL cells slots ws' lv pc st) : KW X Y A nL cells slots ws lv pc st := by
  intro H ls locs hP hD hS hl
  exact k H ls locs (hP.sub is (kmap_filter hs)) (hD.sub is hnd hs) hS hl
/-- an array of references, told by another function that is the same below its length -/
theorem kw_cellq {pc : Nat} {a n : Nat} {c : ClassId} {f f' : Nat → Option Nat} {ws' : va_W} (q0 : Nat) (ha : ws[q0]? = some (a, kO c n f)) (hf : ∀ i, i < n → f i = f' i) (hw : ws.set q0 (a, kO c n f') = ws') (k : KW X Y A nL cells slots ws' lv pc st) : KW X Y A nL cells slots ws lv pc st := by
  subst hw
  intro H ls locs hP hD hS hl
  have hcell : vp_cell c (n, .inr (.inr (.inr (.inr f)))) = vp_cell c (n, .inr (.inr (.inr (.inr f')))) := by
    rw [vp_cell_q, vp_cell_q]
    unfold arrV
    congr 1
    apply congrArg
    funext j
    show va_rf (f j.val) = va_rf (f' j.val)
    rw [hf j.val j.isLt]
  refine k H ls locs (fun i q hq => ?_) (hD.set ha) hS hl
  rw [List.getElem?_set] at hq
  by_cases hi : q0 = i
  · subst hi
    rw [if_pos rfl] at hq
    split at hq
    · cases hq
      have h0 := hP q0 _ ha
      show H[a]? = some (vp_cell c (n, .inr (.inr (.inr (.inr f')))))
      rw [← hcell]
      exact h0
    · cases hq
  · rw [if_neg hi] at hq
    exact hP i q hq
theorem kw_widen {pc c0 s0 : Nat} (h1 : c0 ≤ cells) (h2 : s0 ≤ slots) (k : KW X Y A nL cells slots ws lv pc st) : KW X Y A nL c0 s0 ws lv pc st := by
  intro H ls locs hP hD hS hl
  exact W.widen (k := cells) (n := slots) h1 h2 (k H ls locs hP hD hS hl)
end KCT
theorem ctN_intro {S : Type} {l : Launch} {y : MethodName} {wsC wsC' : List Cond} {rm : Room} {Y : KY} {cc : ByteArray} {maxL : Nat} {own : String} {av : List Value} {ws : va_W} {ws1 : S → va_W} {mc ms : Nat} (hy : plainName y.cls = true) (hw : wsC = Cond.code y cc maxL none :: wsC') (ho : y.cls = own) (hyn : y.name = "<init>") (hlen : (lg_sl av).length ≤ maxL) (hrm : (headSpec wsC rm).room = rm)
    (body : ∀ (X : KX) (A : Nat → Prop), KOk X Y cc maxL own wsC rm A → kOver (kx_s X) → (kx_t X).name = "<init>" → (∀ (pc : Nat) (lv : List (Nat × Value)) (u : S), decode cc pc = .ok (.return_, 1) → KW X Y A maxL mc ms (ws1 u) lv pc []) → KW X Y A maxL 0 0 ws (lv_args 0 av) 0 []) : CtN l y wsC rm Y av ws ws1 mc ms := by
  intro sz
  refine Met.ofW (cc := cc) (maxL := maxL) (ret := none) hy hw ?_
  intro p e s m args below meth c s₁ B hml hv
  obtain ⟨rfl, ⟨hsz, hP, hK, hD0⟩, hO⟩ := hv
  have hx := B.exec
  have hb := B.bytes
  have hr := B.returns
  have hts := atoms_spec (ws := wsC) B.pre
  have hown : s.vm.findClass own = some m.cls := by rw [← ho]; exact findClass_of_methodNamed B.named
  have hlocks := B.notSynchronized
  have hin : meth.name = "<init>" := by rw [← hyn]; exact (name_of_methodNamed B.named B.method).1
  subst hsz
  have hD := hD0.self (sz := s.heap.size)
  have hA : ∀ q : Nat, s.heap.size ≤ q → va_A ws s.heap.size q := fun q h => Or.inr h
  have hS : va_S (va_A ws s.heap.size) s.heap s.heap [] := va_S.rf
  have hl := lv_entry av (n := maxL) hlen
  rw [lg_entry_eq]
  have hb0 := body (p, l, e, (headSpec wsC rm).room, s, m, av.toArray, below, meth, c, MQ below (va_Qv (fun (_ : S) => True) (CPost Y ws ws1 s.heap.size) (va_A ws s.heap.size)) av.toArray s mc ms (va_A ws s.heap.size)) (va_A ws s.heap.size) ⟨hx, hb, hml, hown, hts, hK, hA, hrm⟩ hO hin (fun pc lv u hdg H ls locs hP hD hS hl => W.vret hx hb hr (fun t ht hW => ⟨⟨u, rfl, trivial, by rw [ht]; exact hP, hD⟩, hS.F ht⟩) hS.2.2 hdg hlocks)
  exact hb0 s.heap _ [] hP hD hS hl
section KCC
variable {X : KX} {Y : KY} {cc : ByteArray} {nL : Nat} {own : String} {Ts : List Cond} {rm : Room} {A : Nat → Prop} {cells slots : Nat} {ws : va_W} {lv : List (Nat × Value)} {st : List Value}
/-- a constructor of another class of the file, by its nest or plainly -/
theorem kw_ctor {S : Type} (hX : KOk X Y cc nL own Ts rm A) (pc : Nat) {y : MethodName} {idx : Nat} {bytes : ByteArray} {maxL : Nat} {wsC wsC' : List Cond} {rmC : Room} {b : Nat} {rest : List Value} {wc : va_W} {ws1 : S → va_W} {mc ms : Nat} (hO : kOver (kx_s X)) (hM : CtN (kx_l X) y wsC rmC Y [.ref b] wc ws1 mc ms) (hg : GoodIn Ts wsC) (hl0 : (Cond.methodLink own idx y).before (kx_a X) (kx_s X) = true ∨ ∃ host : String, va_Nw (.methodLinkNest own idx y host) (kx_s X)) (hini : (Cond.initialized y.cls).before (kx_a X) (kx_s X) = true) (hins : (Cond.instanceMethod y).before (kx_a X) (kx_s X) = true) (hw : wsC = Cond.code y bytes maxL none :: wsC') (hyn : y.name = "<init>") (hd : y.cls ≠ "java/lang/invoke/MethodHandle" ∧ y.cls ≠ "java/lang/invoke/VarHandle" ∧ (parseMethodDescriptor y.desc).map (fun d => d.parameters.length) = some 0) (hz : rmC.cells = mc ∧ rmC.slots = ms) (hR : rmC.frames + 1 ≤ rm.frames ∧ 8 + (maxL + 11) + rmC.locals ≤ rm.locals) {c1 s1 : Nat} (e1 : cells + mc = c1) (e2 : slots + ms = s1) (hcs : c1 ≤ rm.cells ∧ s1 ≤ rm.slots) (hcat : (rest.map fun v => v.category).sum ≤ 8) (isC isR : List Nat) (wr : va_W) (hnd : va_nd isC = true) (hC : isC.map (fun i => ws[i]?) = wc.map some) (hRr : isR.map (fun i => ws[i]?) = wr.map some) (hnr : va_nd isR = true) (hdis : ∀ i ∈ isR, i ∉ isC) (hdg : decode cc pc = .ok (.invokespecial idx, 3))
    (kk : ∀ u : S, KW X Y A nL c1 s1 (wr ++ ws1 u) lv (pc + 3) rest) : KW X Y A nL cells slots ws lv pc (.ref b :: rest) := by
  intro H ls locs hP hD hS hl
  subst e1; subst e2
  obtain ⟨hx, hb, hml, hown, hts, hK, hA, hR0⟩ := hX
  have hPc := hP.sub (ws' := wc) isC (kmap_filter hC)
  have hDc := hD.sub (ws' := wc) isC hnd hC
  have hFc := va_free (wc := wc) hD hS hA isC hC
  have pre : PreS (kx_s X) H (va_Pc [.ref b] (CPre Y wc H.size)) (.ref b :: []) := ⟨fun a U g mk q => ⟨q.1, ⟨q.2.1.1, q.2.1.2.1, q.2.1.2.2.1.calling, q.2.1.2.2.2⟩, q.2.2.calling⟩, fun U hU hW => ⟨rfl, ⟨by rw [hU], by rw [hU]; exact hPc, KK.warm hW hK, hDc.weaken (fun _ _ _ _ => trivial)⟩, kOver.warm hW hO⟩⟩
  have run : va_Run (kx_p X) (kx_l X) (kx_e X) (kx_R X) (kx_s X) (kx_m X) (kx_a X) (kx_b X) (kx_t X) (kx_c X) H locs cells slots mc ms (F0 (kx_m X) pc ls (.ref b :: rest)) rest (va_Qv (fun (_ : S) => True) (CPost Y wc ws1 H.size) (va_A wc H.size) (Value.ref b :: []).toArray) (va_A wc H.size) := by
    rcases hl0 with h0 | ⟨host, h0⟩
    · exact va_runI (As := []) (rest := rest) ⟨hx, hb, hml, hown, hts⟩ (hM H.size) (cwI 0 hts hg hw hz.1 hz.2 hini h0 hins hyn hd (by rw [hR0]; exact hR)) pre rfl rfl hl.1 rfl (lv_room hcat) hdg (by rw [hR0]; exact hcs)
    · exact va_runIN (As := []) (rest := rest) ⟨hx, hb, hml, hown, hts⟩ (hM H.size) ⟨va_cnB 0 hts hg hw hz.1 hz.2 h0 hini hd (by rw [hR0]; exact hR), hyn, hins⟩ pre rfl rfl hl.1 rfl (lv_room hcat) hdg (by rw [hR0]; exact hcs)
  refine va_callv run hS (fun q _ h => hFc q h) hFc (fun u t H1 locs1 ht hvm hw' hB hz1 hk1 hS1 => ?_)
  obtain ⟨hP1, hD1⟩ := hB
  rw [ht] at hP1
  obtain ⟨hP2, hD2⟩ := va_join (wr := wr) (w1 := ws1 u) hP hD isC isR hC hRr hnr hdis hk1 hFc hP1 hD1
  exact kk u H1 ls locs1 hP2 hD2 hS1 hl
end KCC
