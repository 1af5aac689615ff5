/-! the walk's own judgement KW: a frame with its world and its values at hand, over the kit's rows -/
def KX := Program × Launch × Env × Room × State × MethodId × Array Value × List Frame × Method × Code × (State → Prop)
def kx_p (X : KX) : Program := X.1
def kx_l (X : KX) : Launch := X.2.1
def kx_e (X : KX) : Env := X.2.2.1
def kx_R (X : KX) : Room := X.2.2.2.1
def kx_s (X : KX) : State := X.2.2.2.2.1
def kx_m (X : KX) : MethodId := X.2.2.2.2.2.1
def kx_a (X : KX) : Array Value := X.2.2.2.2.2.2.1
def kx_b (X : KX) : List Frame := X.2.2.2.2.2.2.2.1
def kx_t (X : KX) : Method := X.2.2.2.2.2.2.2.2.1
def kx_c (X : KX) : Code := X.2.2.2.2.2.2.2.2.2.1
def kx_Q (X : KX) : State → Prop := X.2.2.2.2.2.2.2.2.2.2
abbrev KY : Type := va_G × (Nat → ClassId)
/-- the array types that the worlds hold -/
def kTY (y : Nat → ClassId) : List (ClassId × FieldType) := [(y 0, .int), (y 1, .long), (y 2, .boolean), (y 3, .object "PeriodicNet$Graph"), (y 4, .array .int), (y 5, .array .long)]
def kN0 : Cond := .methodLinkNest RX2 47 yX5_isShift RX5
def kN1 : Cond := .methodLinkNest RX0 67 yX5_greatestDivisor RX5
def kN2 : Cond := .methodLinkNest RX3 68 yX5_greatestDivisor RX5
def kNS (U : State) : Prop := va_Nw kN0 U ∧ va_Nw kN1 U ∧ va_Nw kN2 U
def KK (Y : KY) (U : State) : Prop := va_K Y.1 vwCl (kTY Y.2) U ∧ kNS U
theorem KK.warm {Y : KY} {s U : State} (hW : s.WarmedH U.vm) (h : KK Y s) : KK Y U := ⟨va_K.moved hW.alike h.1, va_Nw.warmM hW h.2.1, va_Nw.warmM hW h.2.2.1, va_Nw.warmM hW h.2.2.2⟩
theorem KK.calling {Y : KY} {U : State} {g : JFrame} {mk : MethodId} {a : Array Value} (h : KK Y U) : KK Y (U.calling g mk a) := ⟨va_K.moved (u := U) (U := U.calling g mk a) (Vm.Alike.refl U.vm) h.1, va_Nw.same rfl rfl h.2.1, va_Nw.same rfl rfl h.2.2.1, va_Nw.same rfl rfl h.2.2.2⟩
def KW (X : KX) (Y : KY) (A : Nat → Prop) (nL cells slots : Nat) (ws : va_W) (lv : List (Nat × Value)) (pc : Nat) (st : List Value) : Prop :=
  ∀ (H : Heap) (ls : Array Slot) (locs : List Loc), va_P Y.1 vwCl ws H → va_D A ws → va_S A (kx_s X).heap H locs → lv_has ls nL lv → W (kx_p X) (kx_l X) (kx_e X) (kx_R X) (kx_s X) (kx_m X) (kx_a X) (kx_b X) (kx_t X) (kx_c X) H locs cells slots (kx_Q X) (F0 (kx_m X) pc ls st)
def KOk (X : KX) (Y : KY) (cc : ByteArray) (nL : Nat) (own : String) (Ts : List Cond) (rm : Room) (A : Nat → Prop) : Prop :=
  (kx_p X).tables.exec = Jvm.exec ∧ (kx_c X).code = cc ∧ (kx_c X).maxLocals = nL ∧ (kx_s X).vm.findClass own = some (kx_m X).cls ∧ (∀ w ∈ Ts, w.before (kx_a X) (kx_s X) = true) ∧ KK Y (kx_s X) ∧ (∀ q : Nat, (kx_s X).heap.size ≤ q → A q) ∧ kx_R X = rm
theorem KOk.w {X : KX} {Y : KY} {cc : ByteArray} {nL : Nat} {own : String} {Ts : List Cond} {rm : Room} {A : Nat → Prop} (h : KOk X Y cc nL own Ts rm A) (w : Cond) (hw : w ∈ Ts) : w.before (kx_a X) (kx_s X) = true := h.2.2.2.2.1 w hw
/-! guards, branches, joins of the plain functions -/
def kgd {α : Type} (b : Bool) (k : Option α) : Option α := match b with
  | true => k
  | false => none
theorem kgd_some {α : Type} {b : Bool} {k : Option α} {r : α} (h : kgd b k = some r) : b = true ∧ k = some r := by
  cases b with
  | true => exact ⟨rfl, h⟩
  | false => cases h
theorem kgd_t {α : Type} {b : Bool} (k : Option α) (h : b = true) : kgd b k = k := by subst h; rfl
def kin (i : Int32) (n : Nat) : Bool := decide (0 ≤ i.toInt ∧ i.toInt < n)
theorem kin_in {i : Int32} {n : Nat} (h : kin i n = true) : vp_in i n := vp_in_iff.mpr (of_decide_eq_true h)
theorem kif_t {α : Type} {c : Prop} {dc : Decidable c} {a b : Option α} {r : α} (hc : c) (h : @ite _ c dc a b = some r) : a = some r := by rw [if_pos hc] at h; exact h
theorem kif_f {α : Type} {c : Prop} {dc : Decidable c} {a b : Option α} {r : α} (hc : ¬ c) (h : @ite _ c dc a b = some r) : b = some r := by rw [if_neg hc] at h; exact h
def kb {α β : Type} (a : Option α) (f : α → Option β) : Option β := match a with
  | some v => f v
  | none => none
theorem kb_some {α β : Type} {a : Option α} {f : α → Option β} {r : β} (h : kb a f = some r) : ∃ v, a = some v ∧ f v = some r := by
  cases a with
  | none => cases h
  | some v => exact ⟨v, rfl, h⟩
theorem kb_eq {α β : Type} {a : Option α} {v : α} (f : α → Option β) (h : a = some v) : kb a f = f v := by subst h; rfl
def kfn (x : UInt32) : Bool := decide (x &&& 0x7fffffff ≤ 0x7f800000)
theorem kfn_n {x : UInt32} (h : kfn x = true) : vf_n32 x := by
  have h2 : x &&& 0x7fffffff ≤ 0x7f800000 := of_decide_eq_true h
  exact h2

section KWS
variable {X : KX} {Y : KY} {cc : ByteArray} {nL : Nat} {own : String} {Ts : List Cond} {rm : Room} {A : Nat → Prop} {cells slots : Nat} {ws : va_W} {lv : List (Nat × Value)} {st : List Value}
theorem kw_iconst (hX : KOk X Y cc nL own Ts rm A) (pc : Nat) {n : Int} {v : Int32} (hdg : decode cc pc = .ok (.iconst n, 1)) (hv : Int32.ofInt n = v) (k : KW X Y A nL cells slots ws lv (pc + 1) (.int v :: st)) : KW X Y A nL cells slots ws lv pc (st) := by intro H ls locs hP hD hS hl; exact lv_iconst hX.1 hX.2.1 hdg hv (k H ls locs hP hD hS hl)
theorem kw_bipush (hX : KOk X Y cc nL own Ts rm A) (pc : Nat) {n : Int} {v : Int32} (hdg : decode cc pc = .ok (.bipush n, 2)) (hv : (Int8.ofInt n).toInt32 = v) (k : KW X Y A nL cells slots ws lv (pc + 2) (.int v :: st)) : KW X Y A nL cells slots ws lv pc (st) := by intro H ls locs hP hD hS hl; exact lv_bipush hX.1 hX.2.1 hdg hv (k H ls locs hP hD hS hl)
theorem kw_sipush (hX : KOk X Y cc nL own Ts rm A) (pc : Nat) {n : Int} {v : Int32} (hdg : decode cc pc = .ok (.sipush n, 3)) (hv : (Int16.ofInt n).toInt32 = v) (k : KW X Y A nL cells slots ws lv (pc + 3) (.int v :: st)) : KW X Y A nL cells slots ws lv pc (st) := by intro H ls locs hP hD hS hl; exact lv_sipush hX.1 hX.2.1 hdg hv (k H ls locs hP hD hS hl)
theorem kw_lconst (hX : KOk X Y cc nL own Ts rm A) (pc : Nat) {n : Fin 2} {v : Int64} (hdg : decode cc pc = .ok (.lconst n, 1)) (hv : Int64.ofNat (n : Nat) = v) (k : KW X Y A nL cells slots ws lv (pc + 1) (.long v :: st)) : KW X Y A nL cells slots ws lv pc (st) := by intro H ls locs hP hD hS hl; exact lv_lconst hX.1 hX.2.1 hdg hv (k H ls locs hP hD hS hl)
theorem kw_fconst0 (hX : KOk X Y cc nL own Ts rm A) (pc : Nat)  (hdg : decode cc pc = .ok (.fconst 0, 1)) (k : KW X Y A nL cells slots ws lv (pc + 1) (.float FP.fconst0 :: st)) : KW X Y A nL cells slots ws lv pc (st) := by intro H ls locs hP hD hS hl; exact lv_fconst0 hX.1 hX.2.1 hdg (k H ls locs hP hD hS hl)
theorem kw_fconst1 (hX : KOk X Y cc nL own Ts rm A) (pc : Nat)  (hdg : decode cc pc = .ok (.fconst 1, 1)) (k : KW X Y A nL cells slots ws lv (pc + 1) (.float FP.fconst1 :: st)) : KW X Y A nL cells slots ws lv pc (st) := by intro H ls locs hP hD hS hl; exact lv_fconst1 hX.1 hX.2.1 hdg (k H ls locs hP hD hS hl)
theorem kw_fconst2 (hX : KOk X Y cc nL own Ts rm A) (pc : Nat)  (hdg : decode cc pc = .ok (.fconst 2, 1)) (k : KW X Y A nL cells slots ws lv (pc + 1) (.float FP.fconst2 :: st)) : KW X Y A nL cells slots ws lv pc (st) := by intro H ls locs hP hD hS hl; exact lv_fconst2 hX.1 hX.2.1 hdg (k H ls locs hP hD hS hl)
theorem kw_ldc (hX : KOk X Y cc nL own Ts rm A) (pc : Nat) {index : Nat} {v : Int32} (hdg : decode cc pc = .ok (.ldc index, 2)) (hc : (Jvm.Cond.constant own index v).before (kx_a X) (kx_s X) = true) (k : KW X Y A nL cells slots ws lv (pc + 2) (.int v :: st)) : KW X Y A nL cells slots ws lv pc (st) := by intro H ls locs hP hD hS hl; exact lv_ldc hX.1 hX.2.1 hX.2.2.2.1 hc hdg (k H ls locs hP hD hS hl)
theorem kw_ldcf (hX : KOk X Y cc nL own Ts rm A) (pc : Nat) {index : Nat} {v : UInt32} (hdg : decode cc pc = .ok (.ldc index, 2)) (hc : (Jvm.Cond.constantFloat own index v).before (kx_a X) (kx_s X) = true) (k : KW X Y A nL cells slots ws lv (pc + 2) (.float v :: st)) : KW X Y A nL cells slots ws lv pc (st) := by intro H ls locs hP hD hS hl; exact lv_ldcf hX.1 hX.2.1 hX.2.2.2.1 hc hdg (k H ls locs hP hD hS hl)
theorem kw_ldc2 (hX : KOk X Y cc nL own Ts rm A) (pc : Nat) {index : Nat} {v : Int64} (hdg : decode cc pc = .ok (.ldc2_w index, 3)) (hc : (Jvm.Cond.constantLong own index v).before (kx_a X) (kx_s X) = true) (k : KW X Y A nL cells slots ws lv (pc + 3) (.long v :: st)) : KW X Y A nL cells slots ws lv pc (st) := by intro H ls locs hP hD hS hl; exact lv_ldc2 hX.1 hX.2.1 hX.2.2.2.1 hc hdg (k H ls locs hP hD hS hl)
theorem kw_iload_n (hX : KOk X Y cc nL own Ts rm A) (pc : Nat) {k : Fin 4} {i : Nat} {x : Int32} (hdg : decode cc pc = .ok (.iload_n k, 1)) (hi : (k : Nat) = i) (j : Nat) (hj : lv[j]? = some (i, .int x)) (k : KW X Y A nL cells slots ws lv (pc + 1) (.int x :: st)) : KW X Y A nL cells slots ws lv pc st := by intro H ls locs hP hD hS hl; exact lv_iload_n hX.1 hX.2.1 hdg hi (lv_at hl j hj) (k H ls locs hP hD hS hl)
theorem kw_iload (hX : KOk X Y cc nL own Ts rm A) (pc : Nat) {i : Nat} {x : Int32} (hdg : decode cc pc = .ok (.iload i, 2)) (j : Nat) (hj : lv[j]? = some (i, .int x)) (k : KW X Y A nL cells slots ws lv (pc + 2) (.int x :: st)) : KW X Y A nL cells slots ws lv pc st := by intro H ls locs hP hD hS hl; exact lv_iload hX.1 hX.2.1 hdg (lv_at hl j hj) (k H ls locs hP hD hS hl)
theorem kw_istore_n (hX : KOk X Y cc nL own Ts rm A) (pc : Nat) {k : Fin 4} {i : Nat} {x : Int32} {lv' : List (Nat × Value)} (hdg : decode cc pc = .ok (.istore_n k, 1)) (hi : (k : Nat) = i) (hn : i < nL) (hv : (i, Value.int x) :: lv.filter (fun q => !(q.1 == i) && !(q.1 + 1 == i && q.2.category == 2)) = lv') (k : KW X Y A nL cells slots ws lv' (pc + 1) st) : KW X Y A nL cells slots ws lv pc (.int x :: st) := by intro H ls locs hP hD hS hl; exact lv_istore_n hX.1 hX.2.1 hdg hi hl hn hv (fun ls hl => k H ls locs hP hD hS hl)
theorem kw_istore (hX : KOk X Y cc nL own Ts rm A) (pc : Nat) {i : Nat} {x : Int32} {lv' : List (Nat × Value)} (hdg : decode cc pc = .ok (.istore i, 2)) (hn : i < nL) (hv : (i, Value.int x) :: lv.filter (fun q => !(q.1 == i) && !(q.1 + 1 == i && q.2.category == 2)) = lv') (k : KW X Y A nL cells slots ws lv' (pc + 2) st) : KW X Y A nL cells slots ws lv pc (.int x :: st) := by intro H ls locs hP hD hS hl; exact lv_istore hX.1 hX.2.1 hdg hl hn hv (fun ls hl => k H ls locs hP hD hS hl)
theorem kw_lload_n (hX : KOk X Y cc nL own Ts rm A) (pc : Nat) {k : Fin 4} {i : Nat} {x : Int64} (hdg : decode cc pc = .ok (.lload_n k, 1)) (hi : (k : Nat) = i) (j : Nat) (hj : lv[j]? = some (i, .long x)) (k : KW X Y A nL cells slots ws lv (pc + 1) (.long x :: st)) : KW X Y A nL cells slots ws lv pc st := by intro H ls locs hP hD hS hl; exact lv_lload_n hX.1 hX.2.1 hdg hi (lv_at hl j hj) (k H ls locs hP hD hS hl)
theorem kw_lload (hX : KOk X Y cc nL own Ts rm A) (pc : Nat) {i : Nat} {x : Int64} (hdg : decode cc pc = .ok (.lload i, 2)) (j : Nat) (hj : lv[j]? = some (i, .long x)) (k : KW X Y A nL cells slots ws lv (pc + 2) (.long x :: st)) : KW X Y A nL cells slots ws lv pc st := by intro H ls locs hP hD hS hl; exact lv_lload hX.1 hX.2.1 hdg (lv_at hl j hj) (k H ls locs hP hD hS hl)
theorem kw_lstore_n (hX : KOk X Y cc nL own Ts rm A) (pc : Nat) {k : Fin 4} {i : Nat} {x : Int64} {lv' : List (Nat × Value)} (hdg : decode cc pc = .ok (.lstore_n k, 1)) (hi : (k : Nat) = i) (hn : i + 1 < nL) (hv : (i, Value.long x) :: lv.filter (fun q => !(q.1 == i) && (!(q.1 == i + 1) && !(q.1 + 1 == i && q.2.category == 2))) = lv') (k : KW X Y A nL cells slots ws lv' (pc + 1) st) : KW X Y A nL cells slots ws lv pc (.long x :: st) := by intro H ls locs hP hD hS hl; exact lv_lstore_n hX.1 hX.2.1 hdg hi hl hn hv (fun ls hl => k H ls locs hP hD hS hl)
theorem kw_lstore (hX : KOk X Y cc nL own Ts rm A) (pc : Nat) {i : Nat} {x : Int64} {lv' : List (Nat × Value)} (hdg : decode cc pc = .ok (.lstore i, 2)) (hn : i + 1 < nL) (hv : (i, Value.long x) :: lv.filter (fun q => !(q.1 == i) && (!(q.1 == i + 1) && !(q.1 + 1 == i && q.2.category == 2))) = lv') (k : KW X Y A nL cells slots ws lv' (pc + 2) st) : KW X Y A nL cells slots ws lv pc (.long x :: st) := by intro H ls locs hP hD hS hl; exact lv_lstore hX.1 hX.2.1 hdg hl hn hv (fun ls hl => k H ls locs hP hD hS hl)
theorem kw_aload_n (hX : KOk X Y cc nL own Ts rm A) (pc : Nat) {k : Fin 4} {i : Nat} {x : Nat} (hdg : decode cc pc = .ok (.aload_n k, 1)) (hi : (k : Nat) = i) (j : Nat) (hj : lv[j]? = some (i, .ref x)) (k : KW X Y A nL cells slots ws lv (pc + 1) (.ref x :: st)) : KW X Y A nL cells slots ws lv pc st := by intro H ls locs hP hD hS hl; exact lv_aload_n hX.1 hX.2.1 hdg hi (lv_at hl j hj) (k H ls locs hP hD hS hl)
theorem kw_aload (hX : KOk X Y cc nL own Ts rm A) (pc : Nat) {i : Nat} {x : Nat} (hdg : decode cc pc = .ok (.aload i, 2)) (j : Nat) (hj : lv[j]? = some (i, .ref x)) (k : KW X Y A nL cells slots ws lv (pc + 2) (.ref x :: st)) : KW X Y A nL cells slots ws lv pc st := by intro H ls locs hP hD hS hl; exact lv_aload hX.1 hX.2.1 hdg (lv_at hl j hj) (k H ls locs hP hD hS hl)
theorem kw_astore_n (hX : KOk X Y cc nL own Ts rm A) (pc : Nat) {k : Fin 4} {i : Nat} {x : Nat} {lv' : List (Nat × Value)} (hdg : decode cc pc = .ok (.astore_n k, 1)) (hi : (k : Nat) = i) (hn : i < nL) (hv : (i, Value.ref x) :: lv.filter (fun q => !(q.1 == i) && !(q.1 + 1 == i && q.2.category == 2)) = lv') (k : KW X Y A nL cells slots ws lv' (pc + 1) st) : KW X Y A nL cells slots ws lv pc (.ref x :: st) := by intro H ls locs hP hD hS hl; exact lv_astore_n hX.1 hX.2.1 hdg hi hl hn hv (fun ls hl => k H ls locs hP hD hS hl)
theorem kw_astore (hX : KOk X Y cc nL own Ts rm A) (pc : Nat) {i : Nat} {x : Nat} {lv' : List (Nat × Value)} (hdg : decode cc pc = .ok (.astore i, 2)) (hn : i < nL) (hv : (i, Value.ref x) :: lv.filter (fun q => !(q.1 == i) && !(q.1 + 1 == i && q.2.category == 2)) = lv') (k : KW X Y A nL cells slots ws lv' (pc + 2) st) : KW X Y A nL cells slots ws lv pc (.ref x :: st) := by intro H ls locs hP hD hS hl; exact lv_astore hX.1 hX.2.1 hdg hl hn hv (fun ls hl => k H ls locs hP hD hS hl)
theorem kw_fload_n (hX : KOk X Y cc nL own Ts rm A) (pc : Nat) {k : Fin 4} {i : Nat} {x : UInt32} (hdg : decode cc pc = .ok (.fload_n k, 1)) (hi : (k : Nat) = i) (j : Nat) (hj : lv[j]? = some (i, .float x)) (k : KW X Y A nL cells slots ws lv (pc + 1) (.float x :: st)) : KW X Y A nL cells slots ws lv pc st := by intro H ls locs hP hD hS hl; exact lv_fload_n hX.1 hX.2.1 hdg hi (lv_at hl j hj) (k H ls locs hP hD hS hl)
theorem kw_fload (hX : KOk X Y cc nL own Ts rm A) (pc : Nat) {i : Nat} {x : UInt32} (hdg : decode cc pc = .ok (.fload i, 2)) (j : Nat) (hj : lv[j]? = some (i, .float x)) (k : KW X Y A nL cells slots ws lv (pc + 2) (.float x :: st)) : KW X Y A nL cells slots ws lv pc st := by intro H ls locs hP hD hS hl; exact lv_fload hX.1 hX.2.1 hdg (lv_at hl j hj) (k H ls locs hP hD hS hl)
theorem kw_fstore_n (hX : KOk X Y cc nL own Ts rm A) (pc : Nat) {k : Fin 4} {i : Nat} {x : UInt32} {lv' : List (Nat × Value)} (hdg : decode cc pc = .ok (.fstore_n k, 1)) (hi : (k : Nat) = i) (hn : i < nL) (hv : (i, Value.float x) :: lv.filter (fun q => !(q.1 == i) && !(q.1 + 1 == i && q.2.category == 2)) = lv') (k : KW X Y A nL cells slots ws lv' (pc + 1) st) : KW X Y A nL cells slots ws lv pc (.float x :: st) := by intro H ls locs hP hD hS hl; exact lv_fstore_n hX.1 hX.2.1 hdg hi hl hn hv (fun ls hl => k H ls locs hP hD hS hl)
theorem kw_fstore (hX : KOk X Y cc nL own Ts rm A) (pc : Nat) {i : Nat} {x : UInt32} {lv' : List (Nat × Value)} (hdg : decode cc pc = .ok (.fstore i, 2)) (hn : i < nL) (hv : (i, Value.float x) :: lv.filter (fun q => !(q.1 == i) && !(q.1 + 1 == i && q.2.category == 2)) = lv') (k : KW X Y A nL cells slots ws lv' (pc + 2) st) : KW X Y A nL cells slots ws lv pc (.float x :: st) := by intro H ls locs hP hD hS hl; exact lv_fstore hX.1 hX.2.1 hdg hl hn hv (fun ls hl => k H ls locs hP hD hS hl)
theorem kw_iinc (hX : KOk X Y cc nL own Ts rm A) (pc : Nat) {i : Nat} {n : Int} {x v : Int32} {lv' : List (Nat × Value)} (hdg : decode cc pc = .ok (.iinc i n, 3)) (j : Nat) (hj : lv[j]? = some (i, .int x)) (hv : x + Int32.ofInt n = v) (hn : i < nL) (hf : (i, Value.int v) :: lv.filter (fun q => !(q.1 == i) && !(q.1 + 1 == i && q.2.category == 2)) = lv') (k : KW X Y A nL cells slots ws lv' (pc + 3) st) : KW X Y A nL cells slots ws lv pc st := by intro H ls locs hP hD hS hl; exact lv_iinc hX.1 hX.2.1 hdg hl hj hv hn hf (fun ls hl => k H ls locs hP hD hS hl)
theorem kw_iadd (hX : KOk X Y cc nL own Ts rm A) (pc : Nat) {x y : Int32} (hdg : decode cc pc = .ok (.iadd, 1)) (k : KW X Y A nL cells slots ws lv (pc + 1) (.int (x + y) :: st)) : KW X Y A nL cells slots ws lv pc (.int y :: .int x :: st) := by intro H ls locs hP hD hS hl; exact lv_iadd hX.1 hX.2.1 hdg (k H ls locs hP hD hS hl)
theorem kw_isub (hX : KOk X Y cc nL own Ts rm A) (pc : Nat) {x y : Int32} (hdg : decode cc pc = .ok (.isub, 1)) (k : KW X Y A nL cells slots ws lv (pc + 1) (.int (x - y) :: st)) : KW X Y A nL cells slots ws lv pc (.int y :: .int x :: st) := by intro H ls locs hP hD hS hl; exact lv_isub hX.1 hX.2.1 hdg (k H ls locs hP hD hS hl)
theorem kw_imul (hX : KOk X Y cc nL own Ts rm A) (pc : Nat) {x y : Int32} (hdg : decode cc pc = .ok (.imul, 1)) (k : KW X Y A nL cells slots ws lv (pc + 1) (.int (x * y) :: st)) : KW X Y A nL cells slots ws lv pc (.int y :: .int x :: st) := by intro H ls locs hP hD hS hl; exact lv_imul hX.1 hX.2.1 hdg (k H ls locs hP hD hS hl)
theorem kw_ior (hX : KOk X Y cc nL own Ts rm A) (pc : Nat) {x y : Int32} (hdg : decode cc pc = .ok (.ior, 1)) (k : KW X Y A nL cells slots ws lv (pc + 1) (.int (x ||| y) :: st)) : KW X Y A nL cells slots ws lv pc (.int y :: .int x :: st) := by intro H ls locs hP hD hS hl; exact lv_ior hX.1 hX.2.1 hdg (k H ls locs hP hD hS hl)
theorem kw_ishl (hX : KOk X Y cc nL own Ts rm A) (pc : Nat) {x y : Int32} (hdg : decode cc pc = .ok (.ishl, 1)) (k : KW X Y A nL cells slots ws lv (pc + 1) (.int (x <<< (y &&& 31)) :: st)) : KW X Y A nL cells slots ws lv pc (.int y :: .int x :: st) := by intro H ls locs hP hD hS hl; exact lv_ishl hX.1 hX.2.1 hdg (k H ls locs hP hD hS hl)
theorem kw_ladd (hX : KOk X Y cc nL own Ts rm A) (pc : Nat) {x y : Int64} (hdg : decode cc pc = .ok (.ladd, 1)) (k : KW X Y A nL cells slots ws lv (pc + 1) (.long (x + y) :: st)) : KW X Y A nL cells slots ws lv pc (.long y :: .long x :: st) := by intro H ls locs hP hD hS hl; exact lv_ladd hX.1 hX.2.1 hdg (k H ls locs hP hD hS hl)
theorem kw_lsub (hX : KOk X Y cc nL own Ts rm A) (pc : Nat) {x y : Int64} (hdg : decode cc pc = .ok (.lsub, 1)) (k : KW X Y A nL cells slots ws lv (pc + 1) (.long (x - y) :: st)) : KW X Y A nL cells slots ws lv pc (.long y :: .long x :: st) := by intro H ls locs hP hD hS hl; exact lv_lsub hX.1 hX.2.1 hdg (k H ls locs hP hD hS hl)
theorem kw_lmul (hX : KOk X Y cc nL own Ts rm A) (pc : Nat) {x y : Int64} (hdg : decode cc pc = .ok (.lmul, 1)) (k : KW X Y A nL cells slots ws lv (pc + 1) (.long (x * y) :: st)) : KW X Y A nL cells slots ws lv pc (.long y :: .long x :: st) := by intro H ls locs hP hD hS hl; exact lv_lmul hX.1 hX.2.1 hdg (k H ls locs hP hD hS hl)
theorem kw_idiv (hX : KOk X Y cc nL own Ts rm A) (pc : Nat) {x y : Int32} (hdg : decode cc pc = .ok (.idiv, 1)) (hne : ¬ y = 0) (k : KW X Y A nL cells slots ws lv (pc + 1) (.int (x / y) :: st)) : KW X Y A nL cells slots ws lv pc (.int y :: .int x :: st) := by intro H ls locs hP hD hS hl; exact lv_idiv hX.1 hX.2.1 hdg hne (k H ls locs hP hD hS hl)
theorem kw_irem (hX : KOk X Y cc nL own Ts rm A) (pc : Nat) {x y : Int32} (hdg : decode cc pc = .ok (.irem, 1)) (hne : ¬ y = 0) (k : KW X Y A nL cells slots ws lv (pc + 1) (.int (x - x / y * y) :: st)) : KW X Y A nL cells slots ws lv pc (.int y :: .int x :: st) := by intro H ls locs hP hD hS hl; exact lv_irem hX.1 hX.2.1 hdg hne (k H ls locs hP hD hS hl)
theorem kw_ldiv (hX : KOk X Y cc nL own Ts rm A) (pc : Nat) {x y : Int64} (hdg : decode cc pc = .ok (.ldiv, 1)) (hne : ¬ y = 0) (k : KW X Y A nL cells slots ws lv (pc + 1) (.long (x / y) :: st)) : KW X Y A nL cells slots ws lv pc (.long y :: .long x :: st) := by intro H ls locs hP hD hS hl; exact lv_ldiv hX.1 hX.2.1 hdg hne (k H ls locs hP hD hS hl)
theorem kw_lrem (hX : KOk X Y cc nL own Ts rm A) (pc : Nat) {x y : Int64} (hdg : decode cc pc = .ok (.lrem, 1)) (hne : ¬ y = 0) (k : KW X Y A nL cells slots ws lv (pc + 1) (.long (x - x / y * y) :: st)) : KW X Y A nL cells slots ws lv pc (.long y :: .long x :: st) := by intro H ls locs hP hD hS hl; exact lv_lrem hX.1 hX.2.1 hdg hne (k H ls locs hP hD hS hl)
theorem kw_ineg (hX : KOk X Y cc nL own Ts rm A) (pc : Nat) {x : Int32} (hdg : decode cc pc = .ok (.ineg, 1)) (k : KW X Y A nL cells slots ws lv (pc + 1) (.int (-x) :: st)) : KW X Y A nL cells slots ws lv pc (.int x :: st) := by intro H ls locs hP hD hS hl; exact lv_ineg hX.1 hX.2.1 hdg (k H ls locs hP hD hS hl)
theorem kw_lneg (hX : KOk X Y cc nL own Ts rm A) (pc : Nat) {x : Int64} (hdg : decode cc pc = .ok (.lneg, 1)) (k : KW X Y A nL cells slots ws lv (pc + 1) (.long (-x) :: st)) : KW X Y A nL cells slots ws lv pc (.long x :: st) := by intro H ls locs hP hD hS hl; exact lv_lneg hX.1 hX.2.1 hdg (k H ls locs hP hD hS hl)
theorem kw_i2l (hX : KOk X Y cc nL own Ts rm A) (pc : Nat) {x : Int32} (hdg : decode cc pc = .ok (.i2l, 1)) (k : KW X Y A nL cells slots ws lv (pc + 1) (.long x.toInt64 :: st)) : KW X Y A nL cells slots ws lv pc (.int x :: st) := by intro H ls locs hP hD hS hl; exact lv_i2l hX.1 hX.2.1 hdg rfl (k H ls locs hP hD hS hl)
theorem kw_l2i (hX : KOk X Y cc nL own Ts rm A) (pc : Nat) {x : Int64} (hdg : decode cc pc = .ok (.l2i, 1)) (k : KW X Y A nL cells slots ws lv (pc + 1) (.int x.toInt32 :: st)) : KW X Y A nL cells slots ws lv pc (.long x :: st) := by intro H ls locs hP hD hS hl; exact lv_l2i hX.1 hX.2.1 hdg rfl (k H ls locs hP hD hS hl)
theorem kw_l2f (hX : KOk X Y cc nL own Ts rm A) (pc : Nat) {x : Int64} (hdg : decode cc pc = .ok (.l2f, 1)) (k : KW X Y A nL cells slots ws lv (pc + 1) (.float (FP.l2f x) :: st)) : KW X Y A nL cells slots ws lv pc (.long x :: st) := by intro H ls locs hP hD hS hl; exact lv_l2f hX.1 hX.2.1 hdg (k H ls locs hP hD hS hl)
theorem kw_f2i (hX : KOk X Y cc nL own Ts rm A) (pc : Nat) {x : UInt32} (hdg : decode cc pc = .ok (.f2i, 1)) (k : KW X Y A nL cells slots ws lv (pc + 1) (.int (FP.f2i x) :: st)) : KW X Y A nL cells slots ws lv pc (.float x :: st) := by intro H ls locs hP hD hS hl; exact lv_f2i hX.1 hX.2.1 hdg (k H ls locs hP hD hS hl)
theorem kw_fneg (hX : KOk X Y cc nL own Ts rm A) (pc : Nat) {x : UInt32} (hdg : decode cc pc = .ok (.fneg, 1)) (k : KW X Y A nL cells slots ws lv (pc + 1) (.float (FP.fneg x) :: st)) : KW X Y A nL cells slots ws lv pc (.float x :: st) := by intro H ls locs hP hD hS hl; exact lv_fneg hX.1 hX.2.1 hdg (k H ls locs hP hD hS hl)
theorem kw_fmul (hX : KOk X Y cc nL own Ts rm A) (pc : Nat) {x y : UInt32} (hdg : decode cc pc = .ok (.fmul, 1)) (hne : kfn (FP.fmul x y) = true) (k : KW X Y A nL cells slots ws lv (pc + 1) (.float (FP.fmul x y) :: st)) : KW X Y A nL cells slots ws lv pc (.float y :: .float x :: st) := by intro H ls locs hP hD hS hl; exact lv_fmul hX.1 hX.2.1 hdg (kfn_n hne) (k H ls locs hP hD hS hl)
theorem kw_fdiv (hX : KOk X Y cc nL own Ts rm A) (pc : Nat) {x y : UInt32} (hdg : decode cc pc = .ok (.fdiv, 1)) (hne : kfn (FP.fdiv x y) = true) (k : KW X Y A nL cells slots ws lv (pc + 1) (.float (FP.fdiv x y) :: st)) : KW X Y A nL cells slots ws lv pc (.float y :: .float x :: st) := by intro H ls locs hP hD hS hl; exact lv_fdiv hX.1 hX.2.1 hdg (kfn_n hne) (k H ls locs hP hD hS hl)
theorem kw_fcmp (hX : KOk X Y cc nL own Ts rm A) (pc : Nat) {x y : UInt32} {op : CmpOp} (hdg : decode cc pc = .ok (.fcmp op, 1)) (k : KW X Y A nL cells slots ws lv (pc + 1) (.int (Op.cmpValue (FP.fcmp x y) op) :: st)) : KW X Y A nL cells slots ws lv pc (.float y :: .float x :: st) := by intro H ls locs hP hD hS hl; exact lv_fcmp hX.1 hX.2.1 hdg (k H ls locs hP hD hS hl)
theorem kw_lcmp (hX : KOk X Y cc nL own Ts rm A) (pc : Nat) {x y : Int64} (hdg : decode cc pc = .ok (.lcmp, 1)) (k : KW X Y A nL cells slots ws lv (pc + 1) (.int (lg_cmp x y) :: st)) : KW X Y A nL cells slots ws lv pc (.long y :: .long x :: st) := by intro H ls locs hP hD hS hl; exact W.lcmp hX.1 hX.2.1 hdg (k H ls locs hP hD hS hl)
theorem kw_dup (hX : KOk X Y cc nL own Ts rm A) (pc : Nat) {va : Value} (hdg : decode cc pc = .ok (.dup, 1)) (hva : va.category = 1) (k : KW X Y A nL cells slots ws lv (pc + 1) (va :: va :: st)) : KW X Y A nL cells slots ws lv pc (va :: st) := by intro H ls locs hP hD hS hl; exact lv_dup hX.1 hX.2.1 hdg hva (k H ls locs hP hD hS hl)
theorem kw_dup2 (hX : KOk X Y cc nL own Ts rm A) (pc : Nat) {va vb : Value} (hdg : decode cc pc = .ok (.dup2, 1)) (hva : va.category = 1) (hvb : vb.category = 1) (k : KW X Y A nL cells slots ws lv (pc + 1) (va :: vb :: va :: vb :: st)) : KW X Y A nL cells slots ws lv pc (va :: vb :: st) := by intro H ls locs hP hD hS hl; exact lv_dup2_11 hX.1 hX.2.1 hdg hva hvb (k H ls locs hP hD hS hl)
theorem kw_if_eq (hX : KOk X Y cc nL own Ts rm A) (pc : Nat) {x : Int32} {off : Int} (tgt : Nat) (hdg : decode cc pc = .ok (.ifCond .eq off, 3)) (ht : (pc : Int) + off = (tgt : Int)) (kt : x = 0 → KW X Y A nL cells slots ws lv tgt st) (kf : ¬ x = 0 → KW X Y A nL cells slots ws lv (pc + 3) st) : KW X Y A nL cells slots ws lv pc (.int x :: st) := by intro H ls locs hP hD hS hl; exact lv_if_eq hX.1 hX.2.1 hdg ht (fun c => kt c H ls locs hP hD hS hl) (fun c => kf c H ls locs hP hD hS hl)
theorem kw_if_ne (hX : KOk X Y cc nL own Ts rm A) (pc : Nat) {x : Int32} {off : Int} (tgt : Nat) (hdg : decode cc pc = .ok (.ifCond .ne off, 3)) (ht : (pc : Int) + off = (tgt : Int)) (kt : ¬ x = 0 → KW X Y A nL cells slots ws lv tgt st) (kf : x = 0 → KW X Y A nL cells slots ws lv (pc + 3) st) : KW X Y A nL cells slots ws lv pc (.int x :: st) := by intro H ls locs hP hD hS hl; exact lv_if_ne hX.1 hX.2.1 hdg ht (fun c => kt c H ls locs hP hD hS hl) (fun c => kf c H ls locs hP hD hS hl)
theorem kw_if_lt (hX : KOk X Y cc nL own Ts rm A) (pc : Nat) {x : Int32} {off : Int} (tgt : Nat) (hdg : decode cc pc = .ok (.ifCond .lt off, 3)) (ht : (pc : Int) + off = (tgt : Int)) (kt : x < 0 → KW X Y A nL cells slots ws lv tgt st) (kf : ¬ x < 0 → KW X Y A nL cells slots ws lv (pc + 3) st) : KW X Y A nL cells slots ws lv pc (.int x :: st) := by intro H ls locs hP hD hS hl; exact lv_if_lt hX.1 hX.2.1 hdg ht (fun c => kt c H ls locs hP hD hS hl) (fun c => kf c H ls locs hP hD hS hl)
theorem kw_if_ge (hX : KOk X Y cc nL own Ts rm A) (pc : Nat) {x : Int32} {off : Int} (tgt : Nat) (hdg : decode cc pc = .ok (.ifCond .ge off, 3)) (ht : (pc : Int) + off = (tgt : Int)) (kt : 0 ≤ x → KW X Y A nL cells slots ws lv tgt st) (kf : ¬ 0 ≤ x → KW X Y A nL cells slots ws lv (pc + 3) st) : KW X Y A nL cells slots ws lv pc (.int x :: st) := by intro H ls locs hP hD hS hl; exact lv_if_ge hX.1 hX.2.1 hdg ht (fun c => kt c H ls locs hP hD hS hl) (fun c => kf c H ls locs hP hD hS hl)
theorem kw_if_gt (hX : KOk X Y cc nL own Ts rm A) (pc : Nat) {x : Int32} {off : Int} (tgt : Nat) (hdg : decode cc pc = .ok (.ifCond .gt off, 3)) (ht : (pc : Int) + off = (tgt : Int)) (kt : 0 < x → KW X Y A nL cells slots ws lv tgt st) (kf : ¬ 0 < x → KW X Y A nL cells slots ws lv (pc + 3) st) : KW X Y A nL cells slots ws lv pc (.int x :: st) := by intro H ls locs hP hD hS hl; exact lv_if_gt hX.1 hX.2.1 hdg ht (fun c => kt c H ls locs hP hD hS hl) (fun c => kf c H ls locs hP hD hS hl)
theorem kw_if_le (hX : KOk X Y cc nL own Ts rm A) (pc : Nat) {x : Int32} {off : Int} (tgt : Nat) (hdg : decode cc pc = .ok (.ifCond .le off, 3)) (ht : (pc : Int) + off = (tgt : Int)) (kt : x ≤ 0 → KW X Y A nL cells slots ws lv tgt st) (kf : ¬ x ≤ 0 → KW X Y A nL cells slots ws lv (pc + 3) st) : KW X Y A nL cells slots ws lv pc (.int x :: st) := by intro H ls locs hP hD hS hl; exact lv_if_le hX.1 hX.2.1 hdg ht (fun c => kt c H ls locs hP hD hS hl) (fun c => kf c H ls locs hP hD hS hl)
theorem kw_icmp_eq (hX : KOk X Y cc nL own Ts rm A) (pc : Nat) {x y : Int32} {off : Int} (tgt : Nat) (hdg : decode cc pc = .ok (.if_icmp .eq off, 3)) (ht : (pc : Int) + off = (tgt : Int)) (kt : x = y → KW X Y A nL cells slots ws lv tgt st) (kf : ¬ x = y → KW X Y A nL cells slots ws lv (pc + 3) st) : KW X Y A nL cells slots ws lv pc (.int y :: .int x :: st) := by intro H ls locs hP hD hS hl; exact lv_icmp_eq hX.1 hX.2.1 hdg ht (fun c => kt c H ls locs hP hD hS hl) (fun c => kf c H ls locs hP hD hS hl)
theorem kw_icmp_ne (hX : KOk X Y cc nL own Ts rm A) (pc : Nat) {x y : Int32} {off : Int} (tgt : Nat) (hdg : decode cc pc = .ok (.if_icmp .ne off, 3)) (ht : (pc : Int) + off = (tgt : Int)) (kt : ¬ x = y → KW X Y A nL cells slots ws lv tgt st) (kf : x = y → KW X Y A nL cells slots ws lv (pc + 3) st) : KW X Y A nL cells slots ws lv pc (.int y :: .int x :: st) := by intro H ls locs hP hD hS hl; exact lv_icmp_ne hX.1 hX.2.1 hdg ht (fun c => kt c H ls locs hP hD hS hl) (fun c => kf c H ls locs hP hD hS hl)
theorem kw_icmp_lt (hX : KOk X Y cc nL own Ts rm A) (pc : Nat) {x y : Int32} {off : Int} (tgt : Nat) (hdg : decode cc pc = .ok (.if_icmp .lt off, 3)) (ht : (pc : Int) + off = (tgt : Int)) (kt : x < y → KW X Y A nL cells slots ws lv tgt st) (kf : ¬ x < y → KW X Y A nL cells slots ws lv (pc + 3) st) : KW X Y A nL cells slots ws lv pc (.int y :: .int x :: st) := by intro H ls locs hP hD hS hl; exact lv_icmp_lt hX.1 hX.2.1 hdg ht (fun c => kt c H ls locs hP hD hS hl) (fun c => kf c H ls locs hP hD hS hl)
theorem kw_icmp_ge (hX : KOk X Y cc nL own Ts rm A) (pc : Nat) {x y : Int32} {off : Int} (tgt : Nat) (hdg : decode cc pc = .ok (.if_icmp .ge off, 3)) (ht : (pc : Int) + off = (tgt : Int)) (kt : y ≤ x → KW X Y A nL cells slots ws lv tgt st) (kf : ¬ y ≤ x → KW X Y A nL cells slots ws lv (pc + 3) st) : KW X Y A nL cells slots ws lv pc (.int y :: .int x :: st) := by intro H ls locs hP hD hS hl; exact lv_icmp_ge hX.1 hX.2.1 hdg ht (fun c => kt c H ls locs hP hD hS hl) (fun c => kf c H ls locs hP hD hS hl)
theorem kw_icmp_gt (hX : KOk X Y cc nL own Ts rm A) (pc : Nat) {x y : Int32} {off : Int} (tgt : Nat) (hdg : decode cc pc = .ok (.if_icmp .gt off, 3)) (ht : (pc : Int) + off = (tgt : Int)) (kt : y < x → KW X Y A nL cells slots ws lv tgt st) (kf : ¬ y < x → KW X Y A nL cells slots ws lv (pc + 3) st) : KW X Y A nL cells slots ws lv pc (.int y :: .int x :: st) := by intro H ls locs hP hD hS hl; exact lv_icmp_gt hX.1 hX.2.1 hdg ht (fun c => kt c H ls locs hP hD hS hl) (fun c => kf c H ls locs hP hD hS hl)
theorem kw_icmp_le (hX : KOk X Y cc nL own Ts rm A) (pc : Nat) {x y : Int32} {off : Int} (tgt : Nat) (hdg : decode cc pc = .ok (.if_icmp .le off, 3)) (ht : (pc : Int) + off = (tgt : Int)) (kt : x ≤ y → KW X Y A nL cells slots ws lv tgt st) (kf : ¬ x ≤ y → KW X Y A nL cells slots ws lv (pc + 3) st) : KW X Y A nL cells slots ws lv pc (.int y :: .int x :: st) := by intro H ls locs hP hD hS hl; exact lv_icmp_le hX.1 hX.2.1 hdg ht (fun c => kt c H ls locs hP hD hS hl) (fun c => kf c H ls locs hP hD hS hl)
theorem kw_goto (hX : KOk X Y cc nL own Ts rm A) (pc : Nat) {off : Int} (tgt : Nat) (hdg : decode cc pc = .ok (.goto off, 3)) (ht : (pc : Int) + off = (tgt : Int)) (k : KW X Y A nL cells slots ws lv tgt st) : KW X Y A nL cells slots ws lv pc st := by intro H ls locs hP hD hS hl; exact lv_goto hX.1 hX.2.1 hdg ht (k H ls locs hP hD hS hl)
theorem kw_tabIn (hX : KOk X Y cc nL own Ts rm A) (pc : Nat) {dflt lo hi : Int} {offs : Array Int} {len : Nat} {x : Int32} {off : Int} (tgt : Nat) (hdg : decode cc pc = .ok (.tableswitch dflt lo hi offs, len)) (h1 : ¬ x.toInt < lo) (h2 : ¬ hi < x.toInt) (ho : offs[(x.toInt - lo).toNat]? = some off) (ht : (pc : Int) + off = (tgt : Int)) (k : KW X Y A nL cells slots ws lv tgt st) : KW X Y A nL cells slots ws lv pc (.int x :: st) := by intro H ls locs hP hD hS hl; exact lv_tableIn hX.1 hX.2.1 hdg h1 h2 ho ht (k H ls locs hP hD hS hl)
theorem kw_tabOut (hX : KOk X Y cc nL own Ts rm A) (pc : Nat) {dflt lo hi : Int} {offs : Array Int} {len : Nat} {x : Int32} (tgt : Nat) (hdg : decode cc pc = .ok (.tableswitch dflt lo hi offs, len)) (h : x.toInt < lo ∨ hi < x.toInt) (ht : (pc : Int) + dflt = (tgt : Int)) (k : KW X Y A nL cells slots ws lv tgt st) : KW X Y A nL cells slots ws lv pc (.int x :: st) := by intro H ls locs hP hD hS hl; exact lv_tableOut hX.1 hX.2.1 hdg h ht (k H ls locs hP hD hS hl)
theorem kw_lv {lv' : List (Nat × Value)} {pc : Nat} (ks : List Nat) (hk : lv_pick lv ks = lv') (k : KW X Y A nL cells slots ws lv' pc st) : KW X Y A nL cells slots ws lv pc st := by intro H ls locs hP hD hS hl; exact k H ls locs hP hD hS (lv_sub hl ks hk)
theorem kw_get (hX : KOk X Y cc nL own Ts rm A) (pc : Nat) {ref C : String} {T : u_T} {N ci index : Nat} {a : Nat} {fs : List Value} (hin : ∀ w ∈ u_ws C T N, w ∈ Ts) (f : Nat) (hlink : (Cond.fieldLink own index ref (T f).2.1 (T f).2.2.1).before (kx_a X) (kx_s X) = true) (hsame : ∀ x, (kx_s X).fieldFound? (T f).1 (T f).2.1 (T f).2.2.1 = some x → (kx_s X).fieldFound? ref (T f).2.1 (T f).2.2.1 = some x) (q0 : Nat) (he : ws[q0]? = some (a, .inr (ci, fs))) (hc : vwCl[ci]? = some (C, T, N)) (hk : f < N) {v : Value} (hv : fs[f]? = some v) (hdg : decode cc pc = .ok (.getfield index, 3)) (k : KW X Y A nL cells slots ws lv (pc + 3) (v :: st)) : KW X Y A nL cells slots ws lv pc (.ref a :: st) := by intro H ls locs hP hD hS hl; exact va_get hX.1 hX.2.1 hX.2.2.2.2.1 hin hX.2.2.2.1 hX.2.2.2.2.2.1.1 hP q0 he hc f hk hlink hsame hv hdg (k H ls locs hP hD hS hl)
theorem kw_put (hX : KOk X Y cc nL own Ts rm A) (pc : Nat) {ref C : String} {T : u_T} {N ci index : Nat} {a : Nat} {fs : List Value} {ws' : va_W} (hin : ∀ w ∈ u_ws C T N, w ∈ Ts) (ty0 : Nat → FieldType) (hty : ∀ k, k < N → parseFieldDescriptor (T k).2.2.1 = some (ty0 k)) (hnm : ∀ a, a < N → ∀ b, b < N → a ≠ b → (T a).2.1 ≠ (T b).2.1) (f : Nat) (hlink : (Cond.fieldLink own index ref (T f).2.1 (T f).2.2.1).before (kx_a X) (kx_s X) = true) (hsame : ∀ x, (kx_s X).fieldFound? (T f).1 (T f).2.1 (T f).2.2.1 = some x → (kx_s X).fieldFound? ref (T f).2.1 (T f).2.2.1 = some x) (q0 : Nat) (he : ws[q0]? = some (a, .inr (ci, fs))) (hc : vwCl[ci]? = some (C, T, N)) (hk : f < N) (hfin : (T f).2.2.2 = false) {ty : FieldType} {v : Value} (hd : parseFieldDescriptor (T f).2.2.1 = some ty) (hn : narrow ty v = v) (hfit : fits ty v = true) (hlen : f < fs.length) (hw : ws.set q0 (a, .inr (ci, fs.set f v)) = ws') (hdg : decode cc pc = .ok (.putfield index, 3)) (k : KW X Y A nL cells slots ws' lv (pc + 3) st) : KW X Y A nL cells slots ws lv pc (v :: .ref a :: st) := by subst hw; intro H ls locs hP hD hS hl; exact va_put hX.1 hX.2.1 hX.2.2.2.2.1 hin ty0 hty hnm hX.2.2.2.1 hX.2.2.2.2.2.1.1 hP hD hS q0 he hc f hk hlink hsame hfin hd hn hfit hlen hdg (fun H1 locs1 hP hD hS => k H1 ls locs1 hP hD hS hl)
theorem kw_iald (hX : KOk X Y cc nL own Ts rm A) (pc : Nat) {a : Nat} {n : Nat} {f : Nat → Int32} {i : Int32} (q0 : Nat) (ha : ws[q0]? = some (a, .inl (Y.2 0, n, .inl f))) (hi : kin i n = true) (hdg : decode cc pc = .ok (.iaload, 1)) (k : KW X Y A nL cells slots ws lv (pc + 1) (.int (f i.toNatClampNeg) :: st)) : KW X Y A nL cells slots ws lv pc (.int i :: .ref a :: st) := by intro H ls locs hP hD hS hl; exact va_iald hX.1 hX.2.1 hX.2.2.2.2.2.1.1 hP q0 0 ha rfl (kin_in hi) hdg (k H ls locs hP hD hS hl)
theorem kw_zald (hX : KOk X Y cc nL own Ts rm A) (pc : Nat) {a : Nat} {n : Nat} {f : Nat → Int32} {i : Int32} (q0 : Nat) (ha : ws[q0]? = some (a, .inl (Y.2 2, n, .inl f))) (hi : kin i n = true) (hdg : decode cc pc = .ok (.baload, 1)) (k : KW X Y A nL cells slots ws lv (pc + 1) (.int (f i.toNatClampNeg) :: st)) : KW X Y A nL cells slots ws lv pc (.int i :: .ref a :: st) := by intro H ls locs hP hD hS hl; exact va_zald hX.1 hX.2.1 hX.2.2.2.2.2.1.1 hP q0 2 ha rfl (kin_in hi) hdg (k H ls locs hP hD hS hl)
theorem kw_lald (hX : KOk X Y cc nL own Ts rm A) (pc : Nat) {a : Nat} {n : Nat} {f : Nat → Int64} {i : Int32} (q0 : Nat) (ha : ws[q0]? = some (a, .inl (Y.2 1, n, .inr (.inl f)))) (hi : kin i n = true) (hdg : decode cc pc = .ok (.laload, 1)) (k : KW X Y A nL cells slots ws lv (pc + 1) (.long (f i.toNatClampNeg) :: st)) : KW X Y A nL cells slots ws lv pc (.int i :: .ref a :: st) := by intro H ls locs hP hD hS hl; exact va_lald hX.1 hX.2.1 hX.2.2.2.2.2.1.1 hP q0 1 ha rfl (kin_in hi) hdg (k H ls locs hP hD hS hl)
theorem kw_iast (hX : KOk X Y cc nL own Ts rm A) (pc : Nat) {a : Nat} {n : Nat} {f : Nat → Int32} {i : Int32} {x : Int32} {ws' : va_W} (q0 : Nat) (ha : ws[q0]? = some (a, .inl (Y.2 0, n, .inl f))) (hi : kin i n = true) (hw : ws.set q0 (a, .inl (Y.2 0, n, .inl (upd f i.toNatClampNeg x))) = ws') (hdg : decode cc pc = .ok (.iastore, 1)) (k : KW X Y A nL cells slots ws' lv (pc + 1) st) : KW X Y A nL cells slots ws lv pc (.int x :: .int i :: .ref a :: st) := by subst hw; intro H ls locs hP hD hS hl; exact va_iast hX.1 hX.2.1 hX.2.2.2.2.2.1.1 hP hD hS q0 0 ha rfl (kin_in hi) hdg (fun H1 locs1 hP hD hS => k H1 ls locs1 hP hD hS hl)
theorem kw_zast (hX : KOk X Y cc nL own Ts rm A) (pc : Nat) {a : Nat} {n : Nat} {f : Nat → Int32} {i : Int32} {x : Int32} {ws' : va_W} (q0 : Nat) (ha : ws[q0]? = some (a, .inl (Y.2 2, n, .inl f))) (hi : kin i n = true) (hw : ws.set q0 (a, .inl (Y.2 2, n, .inl (upd f i.toNatClampNeg (vp_nar .boolean x)))) = ws') (hdg : decode cc pc = .ok (.bastore, 1)) (k : KW X Y A nL cells slots ws' lv (pc + 1) st) : KW X Y A nL cells slots ws lv pc (.int x :: .int i :: .ref a :: st) := by subst hw; intro H ls locs hP hD hS hl; exact va_zast hX.1 hX.2.1 hX.2.2.2.2.2.1.1 hP hD hS q0 2 ha rfl (kin_in hi) hdg (fun H1 locs1 hP hD hS => k H1 ls locs1 hP hD hS hl)
theorem kw_last (hX : KOk X Y cc nL own Ts rm A) (pc : Nat) {a : Nat} {n : Nat} {f : Nat → Int64} {i : Int32} {x : Int64} {ws' : va_W} (q0 : Nat) (ha : ws[q0]? = some (a, .inl (Y.2 1, n, .inr (.inl f)))) (hi : kin i n = true) (hw : ws.set q0 (a, .inl (Y.2 1, n, .inr (.inl (vp_updL f i.toNatClampNeg x)))) = ws') (hdg : decode cc pc = .ok (.lastore, 1)) (k : KW X Y A nL cells slots ws' lv (pc + 1) st) : KW X Y A nL cells slots ws lv pc (.long x :: .int i :: .ref a :: st) := by subst hw; intro H ls locs hP hD hS hl; exact va_last hX.1 hX.2.1 hX.2.2.2.2.2.1.1 hP hD hS q0 1 ha rfl (kin_in hi) hdg (fun H1 locs1 hP hD hS => k H1 ls locs1 hP hD hS hl)
theorem kw_aald4 (hX : KOk X Y cc nL own Ts rm A) (pc : Nat) {a b : Nat} {n : Nat} {f : Nat → Option Nat} {i : Int32} (q0 : Nat) (ha : ws[q0]? = some (a, .inl (Y.2 4, n, .inr (.inr (.inr (.inr f)))))) (hi : kin i n = true) (hb : f i.toNatClampNeg = some b) (hdg : decode cc pc = .ok (.aaload, 1)) (k : KW X Y A nL cells slots ws lv (pc + 1) (.ref b :: st)) : KW X Y A nL cells slots ws lv pc (.int i :: .ref a :: st) := by
  intro H ls locs hP hD hS hl; 
  have hlt : i.toNatClampNeg < n := Nat.not_le.mp fun q => (kin_in hi) (Or.inr q)
  have hv : va_rf (f i.toNatClampNeg) = .ref b := by rw [hb]; rfl
  refine W.aald (v := va_rf (f i.toNatClampNeg)) (ty := .array .int) hX.1 hX.2.1 (hP q0 _ ha) (((hX.2.2.2.2.2.1.1).2 4 _ rfl).1 n (fun j => va_rf (f j))) rfl (fun q => by cases q) (by show ¬ (i < 0 ∨ (arrV _ _ _).slots.size ≤ _); rw [arrV_size]; exact kin_in hi) (by show (arrV _ _ _).slots[_]? = _; rw [arrV_read _ _ hlt]) rfl rfl hdg ?_
  rw [hv]
  exact k H ls locs hP hD hS hl
theorem kw_aald5 (hX : KOk X Y cc nL own Ts rm A) (pc : Nat) {a b : Nat} {n : Nat} {f : Nat → Option Nat} {i : Int32} (q0 : Nat) (ha : ws[q0]? = some (a, .inl (Y.2 5, n, .inr (.inr (.inr (.inr f)))))) (hi : kin i n = true) (hb : f i.toNatClampNeg = some b) (hdg : decode cc pc = .ok (.aaload, 1)) (k : KW X Y A nL cells slots ws lv (pc + 1) (.ref b :: st)) : KW X Y A nL cells slots ws lv pc (.int i :: .ref a :: st) := by
  intro H ls locs hP hD hS hl; 
  have hlt : i.toNatClampNeg < n := Nat.not_le.mp fun q => (kin_in hi) (Or.inr q)
  have hv : va_rf (f i.toNatClampNeg) = .ref b := by rw [hb]; rfl
  refine W.aald (v := va_rf (f i.toNatClampNeg)) (ty := .array .long) hX.1 hX.2.1 (hP q0 _ ha) (((hX.2.2.2.2.2.1.1).2 5 _ rfl).1 n (fun j => va_rf (f j))) rfl (fun q => by cases q) (by show ¬ (i < 0 ∨ (arrV _ _ _).slots.size ≤ _); rw [arrV_size]; exact kin_in hi) (by show (arrV _ _ _).slots[_]? = _; rw [arrV_read _ _ hlt]) rfl rfl hdg ?_
  rw [hv]
  exact k H ls locs hP hD hS hl
theorem kw_aald3 (hX : KOk X Y cc nL own Ts rm A) (pc : Nat) {a b : Nat} {n : Nat} {f : Nat → Option Nat} {i : Int32} (q0 : Nat) (ha : ws[q0]? = some (a, .inl (Y.2 3, n, .inr (.inr (.inr (.inr f)))))) (hi : kin i n = true) (hb : f i.toNatClampNeg = some b) (hdg : decode cc pc = .ok (.aaload, 1)) (k : KW X Y A nL cells slots ws lv (pc + 1) (.ref b :: st)) : KW X Y A nL cells slots ws lv pc (.int i :: .ref a :: st) := by
  intro H ls locs hP hD hS hl; 
  have hlt : i.toNatClampNeg < n := Nat.not_le.mp fun q => (kin_in hi) (Or.inr q)
  have hv : va_rf (f i.toNatClampNeg) = .ref b := by rw [hb]; rfl
  refine W.aald (v := va_rf (f i.toNatClampNeg)) (ty := .object "PeriodicNet$Graph") hX.1 hX.2.1 (hP q0 _ ha) (((hX.2.2.2.2.2.1.1).2 3 _ rfl).1 n (fun j => va_rf (f j))) rfl (fun q => by cases q) (by show ¬ (i < 0 ∨ (arrV _ _ _).slots.size ≤ _); rw [arrV_size]; exact kin_in hi) (by show (arrV _ _ _).slots[_]? = _; rw [arrV_read _ _ hlt]) rfl rfl hdg ?_
  rw [hv]
  exact k H ls locs hP hD hS hl
theorem kw_aast3 (hX : KOk X Y cc nL own Ts rm A) (pc : Nat) {a v : Nat} {n : Nat} {f : Nat → Option Nat} {i : Int32} {vs : List Value} {ws' : va_W} (q0 qk : Nat) (ha : ws[q0]? = some (a, .inl (Y.2 3, n, .inr (.inr (.inr (.inr f)))))) (hv : ws[qk]? = some (v, .inr (2, vs))) (hi : kin i n = true) (hw : ws.set q0 (a, .inl (Y.2 3, n, .inr (.inr (.inr (.inr (va_up f i.toNatClampNeg (some v))))))) = ws') (hdg : decode cc pc = .ok (.aastore, 1)) (k : KW X Y A nL cells slots ws' lv (pc + 1) st) : KW X Y A nL cells slots ws lv pc (.ref v :: .int i :: .ref a :: st) := by subst hw; intro H ls locs hP hD hS hl; exact va_astq (r := (RX2, TX2, 6)) hX.1 hX.2.1 hX.2.2.2.2.2.1.1 hP hD hS q0 3 qk 2 ha rfl hv rfl (kin_in hi) hdg (fun H1 locs1 hP hD hS => k H1 ls locs1 hP hD hS hl)
theorem kw_ftraw (hX : KOk X Y cc nL own Ts rm A) (pc : Nat) {index : Nat} {b : UInt32} (hlink : (Cond.methodLink own index ⟨"java/lang/Float", "floatToRawIntBits", "(F)I"⟩).before (kx_a X) (kx_s X) = true) (hnat : (Cond.native ⟨"java/lang/Float", "floatToRawIntBits", "(F)I"⟩).before (kx_a X) (kx_s X) = true) (hstat : (Cond.static ⟨"java/lang/Float", "floatToRawIntBits", "(F)I"⟩).before (kx_a X) (kx_s X) = true) (hinit : (Cond.initialized "java/lang/Float").before (kx_a X) (kx_s X) = true) (hf : 1 ≤ rm.frames) (hlo : (st.map fun v => v.category).sum + 15 ≤ rm.locals) (hdg : decode cc pc = .ok (.invokestatic index, 3)) (k : KW X Y A nL cells slots ws lv (pc + 3) (.int b.toInt32 :: st)) : KW X Y A nL cells slots ws lv pc (.float b :: st) := by intro H ls locs hP hD hS hl; exact vn_f2i hX.1 hX.2.1 (hX.2.2.1.trans hl.1.symm) hX.2.2.2.1 hlink hnat hstat hinit (by rw [hX.2.2.2.2.2.2.2]; exact hf) (by rw [hX.2.2.2.2.2.2.2]; exact hlo) hdg (k H ls locs hP hD hS hl)
end KWS
/-! contracts: what a method is called with, and what it leaves, as worlds -/
def KPre (Y : KY) (ws : va_W) (sz : Nat) : State → Prop := fun U => U.heap.size = sz ∧ va_P Y.1 vwCl ws U.heap ∧ KK Y U ∧ va_D (fun _ => True) ws
def KPost (Y : KY) (ws ws1 : va_W) (sz : Nat) : Unit → State → Prop := fun _ t => va_P Y.1 vwCl ws1 t.heap ∧ va_D (va_A ws sz) ws1
def CtI (l : Launch) (y : MethodName) (wsC : List Cond) (rm : Room) (Y : KY) (av : List Value) (ws : va_W) (r : Int32) (ws1 : va_W) : Prop := ∀ sz : Nat, Met l y wsC rm (va_Pc av (KPre Y ws sz)) (va_Qi (fun (r' : Int32) (_ : Unit) => r' = r) (KPost Y ws ws1 sz) (va_A ws sz)) 0 0 (va_A ws sz)
def CtL (l : Launch) (y : MethodName) (wsC : List Cond) (rm : Room) (Y : KY) (av : List Value) (ws : va_W) (r : Int64) (ws1 : va_W) : Prop := ∀ sz : Nat, Met l y wsC rm (va_Pc av (KPre Y ws sz)) (va_Ql (fun (r' : Int64) (_ : Unit) => r' = r) (KPost Y ws ws1 sz) (va_A ws sz)) 0 0 (va_A ws sz)
def CtV (l : Launch) (y : MethodName) (wsC : List Cond) (rm : Room) (Y : KY) (av : List Value) (ws : va_W) (ws1 : va_W) : Prop := ∀ sz : Nat, Met l y wsC rm (va_Pc av (KPre Y ws sz)) (va_Qv (fun (_ : Unit) => True) (KPost Y ws ws1 sz) (va_A ws sz)) 0 0 (va_A ws sz)

theorem ctI_intro {l : Launch} {y : MethodName} {wsC wsC' : List Cond} {rm : Room} {Y : KY} {cc : ByteArray} {maxL : Nat} {own : String} {av : List Value} {ws : va_W} {r : Int32} {ws1 : va_W} {ty : FieldType} (hy : plainName y.cls = true) (hw : wsC = Cond.code y cc maxL (some ty) :: wsC') (ho : y.cls = own) (hlen : (lg_sl av).length ≤ maxL) (hrm : (headSpec wsC rm).room = rm)
    (body : ∀ (X : KX) (A : Nat → Prop), KOk X Y cc maxL own wsC rm A → kx_l X = l → (∀ (pc : Nat) (lv : List (Nat × Value)), decode cc pc = .ok (.ireturn, 1) → narrow ty (.int r) = .int r → KW X Y A maxL 0 0 ws1 lv pc [.int r]) → KW X Y A maxL 0 0 ws (lv_args 0 av) 0 []) : CtI l y wsC rm Y av ws r ws1 := by
  intro sz
  refine Met.ofW (cc := cc) (maxL := maxL) (ret := some ty) hy hw ?_
  intro p e s m args below meth c s₁ B hml hv
  obtain ⟨rfl, hsz, hP, hK, hD0⟩ := hv
  have hx := B.exec
  have hb := B.bytes
  have hr := B.returns
  have hts := atoms_spec (ws := wsC) B.pre
  have hown : s.vm.findClass own = some m.cls := by rw [← ho]; exact findClass_of_methodNamed B.named
  have hlocks := B.notSynchronized
  subst hsz
  have hD := hD0.self (sz := s.heap.size)
  have hA : ∀ q : Nat, s.heap.size ≤ q → va_A ws s.heap.size q := fun q h => Or.inr h
  have hS : va_S (va_A ws s.heap.size) s.heap s.heap [] := va_S.rf
  have hl := lv_entry av (n := maxL) hlen
  rw [lg_entry_eq]
  have hb0 := body (p, l, e, (headSpec wsC rm).room, s, m, av.toArray, below, meth, c, MQ below (va_Qi (fun (r' : Int32) (_ : Unit) => r' = r) (KPost Y ws ws1 s.heap.size) (va_A ws s.heap.size)) av.toArray s 0 0 (va_A ws s.heap.size)) (va_A ws s.heap.size) ⟨hx, hb, hml, hown, hts, hK, hA, hrm⟩ rfl (fun pc lv hdg hn H ls locs hP hD hS hl => W.zret hx hb hr hn (fun t ht hW => ⟨⟨r, (), rfl, rfl, by rw [ht]; exact hP, hD⟩, hS.F ht⟩) hS.2.2 hdg hlocks)
  exact hb0 s.heap _ [] hP hD hS hl
theorem ctIF_intro {l : Launch} {y : MethodName} {wsC wsC' : List Cond} {rm : Room} {Y : KY} {cc : ByteArray} {maxL : Nat} {own : String} {av : List Value} {ws : va_W} {r : Int32} {ws1 : va_W} {ty : FieldType} (hy : plainFor y = true) (hw : wsC = Cond.code y cc maxL (some ty) :: wsC') (ho : y.cls = own) (hlen : (lg_sl av).length ≤ maxL) (hrm : (headSpec wsC rm).room = rm)
    (body : ∀ (X : KX) (A : Nat → Prop), KOk X Y cc maxL own wsC rm A → kx_l X = l → (∀ (pc : Nat) (lv : List (Nat × Value)), decode cc pc = .ok (.ireturn, 1) → narrow ty (.int r) = .int r → KW X Y A maxL 0 0 ws1 lv pc [.int r]) → KW X Y A maxL 0 0 ws (lv_args 0 av) 0 []) : CtI l y wsC rm Y av ws r ws1 := by
  intro sz
  refine va_MetF (cc := cc) (maxL := maxL) (ret := some ty) hy hw ?_
  intro p e s m args below meth c s₁ B hml hv
  obtain ⟨rfl, hsz, hP, hK, hD0⟩ := hv
  have hx := B.exec
  have hb := B.bytes
  have hr := B.returns
  have hts := atoms_spec (ws := wsC) B.pre
  have hown : s.vm.findClass own = some m.cls := by rw [← ho]; exact findClass_of_methodNamed B.named
  have hlocks := B.notSynchronized
  subst hsz
  have hD := hD0.self (sz := s.heap.size)
  have hA : ∀ q : Nat, s.heap.size ≤ q → va_A ws s.heap.size q := fun q h => Or.inr h
  have hS : va_S (va_A ws s.heap.size) s.heap s.heap [] := va_S.rf
  have hl := lv_entry av (n := maxL) hlen
  rw [lg_entry_eq]
  have hb0 := body (p, l, e, (headSpec wsC rm).room, s, m, av.toArray, below, meth, c, MQ below (va_Qi (fun (r' : Int32) (_ : Unit) => r' = r) (KPost Y ws ws1 s.heap.size) (va_A ws s.heap.size)) av.toArray s 0 0 (va_A ws s.heap.size)) (va_A ws s.heap.size) ⟨hx, hb, hml, hown, hts, hK, hA, hrm⟩ rfl (fun pc lv hdg hn H ls locs hP hD hS hl => W.zret hx hb hr hn (fun t ht hW => ⟨⟨r, (), rfl, rfl, by rw [ht]; exact hP, hD⟩, hS.F ht⟩) hS.2.2 hdg hlocks)
  exact hb0 s.heap _ [] hP hD hS hl
theorem ctL_intro {l : Launch} {y : MethodName} {wsC wsC' : List Cond} {rm : Room} {Y : KY} {cc : ByteArray} {maxL : Nat} {own : String} {av : List Value} {ws : va_W} {r : Int64} {ws1 : va_W} (hy : plainName y.cls = true) (hw : wsC = Cond.code y cc maxL (some .long) :: wsC') (ho : y.cls = own) (hlen : (lg_sl av).length ≤ maxL) (hrm : (headSpec wsC rm).room = rm)
    (body : ∀ (X : KX) (A : Nat → Prop), KOk X Y cc maxL own wsC rm A → kx_l X = l → (∀ (pc : Nat) (lv : List (Nat × Value)), decode cc pc = .ok (.lreturn, 1) → KW X Y A maxL 0 0 ws1 lv pc [.long r]) → KW X Y A maxL 0 0 ws (lv_args 0 av) 0 []) : CtL l y wsC rm Y av ws r ws1 := by
  intro sz
  refine Met.ofW (cc := cc) (maxL := maxL) (ret := some .long) hy hw ?_
  intro p e s m args below meth c s₁ B hml hv
  obtain ⟨rfl, hsz, hP, hK, hD0⟩ := hv
  have hx := B.exec
  have hb := B.bytes
  have hr := B.returns
  have hts := atoms_spec (ws := wsC) B.pre
  have hown : s.vm.findClass own = some m.cls := by rw [← ho]; exact findClass_of_methodNamed B.named
  have hlocks := B.notSynchronized
  subst hsz
  have hD := hD0.self (sz := s.heap.size)
  have hA : ∀ q : Nat, s.heap.size ≤ q → va_A ws s.heap.size q := fun q h => Or.inr h
  have hS : va_S (va_A ws s.heap.size) s.heap s.heap [] := va_S.rf
  have hl := lv_entry av (n := maxL) hlen
  rw [lg_entry_eq]
  have hb0 := body (p, l, e, (headSpec wsC rm).room, s, m, av.toArray, below, meth, c, MQ below (va_Ql (fun (r' : Int64) (_ : Unit) => r' = r) (KPost Y ws ws1 s.heap.size) (va_A ws s.heap.size)) av.toArray s 0 0 (va_A ws s.heap.size)) (va_A ws s.heap.size) ⟨hx, hb, hml, hown, hts, hK, hA, hrm⟩ rfl (fun pc lv hdg H ls locs hP hD hS hl => W.lret hx hb hr (fun t ht hW => ⟨⟨r, (), rfl, rfl, by rw [ht]; exact hP, hD⟩, hS.F ht⟩) hS.2.2 hdg hlocks)
  exact hb0 s.heap _ [] hP hD hS hl
theorem ctV_intro {l : Launch} {y : MethodName} {wsC wsC' : List Cond} {rm : Room} {Y : KY} {cc : ByteArray} {maxL : Nat} {own : String} {av : List Value} {ws : va_W} {ws1 : va_W} (hy : plainName y.cls = true) (hw : wsC = Cond.code y cc maxL (none) :: wsC') (ho : y.cls = own) (hlen : (lg_sl av).length ≤ maxL) (hrm : (headSpec wsC rm).room = rm)
    (body : ∀ (X : KX) (A : Nat → Prop), KOk X Y cc maxL own wsC rm A → kx_l X = l → (∀ (pc : Nat) (lv : List (Nat × Value)), decode cc pc = .ok (.return_, 1) → KW X Y A maxL 0 0 ws1 lv pc []) → KW X Y A maxL 0 0 ws (lv_args 0 av) 0 []) : CtV l y wsC rm Y av ws ws1 := by
  intro sz
  refine Met.ofW (cc := cc) (maxL := maxL) (ret := none) hy hw ?_
  intro p e s m args below meth c s₁ B hml hv
  obtain ⟨rfl, hsz, hP, hK, hD0⟩ := hv
  have hx := B.exec
  have hb := B.bytes
  have hr := B.returns
  have hts := atoms_spec (ws := wsC) B.pre
  have hown : s.vm.findClass own = some m.cls := by rw [← ho]; exact findClass_of_methodNamed B.named
  have hlocks := B.notSynchronized
  subst hsz
  have hD := hD0.self (sz := s.heap.size)
  have hA : ∀ q : Nat, s.heap.size ≤ q → va_A ws s.heap.size q := fun q h => Or.inr h
  have hS : va_S (va_A ws s.heap.size) s.heap s.heap [] := va_S.rf
  have hl := lv_entry av (n := maxL) hlen
  rw [lg_entry_eq]
  have hb0 := body (p, l, e, (headSpec wsC rm).room, s, m, av.toArray, below, meth, c, MQ below (va_Qv (fun (_ : Unit) => True) (KPost Y ws ws1 s.heap.size) (va_A ws s.heap.size)) av.toArray s 0 0 (va_A ws s.heap.size)) (va_A ws s.heap.size) ⟨hx, hb, hml, hown, hts, hK, hA, hrm⟩ rfl (fun pc lv hdg H ls locs hP hD hS hl => W.vret hx hb hr (fun t ht hW => ⟨⟨(), rfl, trivial, by rw [ht]; exact hP, hD⟩, hS.F ht⟩) hS.2.2 hdg hlocks)
  exact hb0 s.heap _ [] hP hD hS hl
def kput {α : Type} : List α → List Nat → List α → List α
  | ws, i :: is, q :: qs => kput (ws.set i q) is qs
  | ws, _, _ => ws
theorem kput_at {α : Type} : ∀ (is : List Nat) (es ws : List α) (k : Nat) (q : α), is.length = es.length → (kput ws is es)[k]? = some q → (∃ j : Nat, is[j]? = some k ∧ es[j]? = some q) ∨ (k ∉ is ∧ ws[k]? = some q)
  | [], es, ws, k, q, _, h => by
    cases es with
    | nil => exact Or.inr ⟨List.not_mem_nil, h⟩
    | cons e es => exact Or.inr ⟨List.not_mem_nil, h⟩
  | i :: is, [], ws, k, q, hl, h => by simp at hl
  | i :: is, e :: es, ws, k, q, hl, h => by
    rcases kput_at is es (ws.set i e) k q (by simpa using hl) h with ⟨j, h1, h2⟩ | ⟨h1, h2⟩
    · exact Or.inl ⟨j + 1, h1, h2⟩
    · by_cases hk : k = i
      · subst hk
        rw [List.getElem?_set] at h2
        simp only [if_true] at h2
        by_cases hlt : k < ws.length
        · rw [if_pos hlt] at h2
          exact Or.inl ⟨0, rfl, h2⟩
        · rw [if_neg hlt] at h2
          cases h2
      · rw [List.getElem?_set_ne (fun e => hk e.symm)] at h2
        refine Or.inr ⟨fun h => ?_, h2⟩
        rcases List.mem_cons.mp h with h | h
        · exact hk h
        · exact h1 h
def kfl : List va_W → va_W
  | [] => []
  | g :: gs => g ++ kfl gs
theorem kfl_mem {q : Nat × va_E} : ∀ {gs : List va_W}, q ∈ kfl gs ↔ ∃ g, g ∈ gs ∧ q ∈ g
  | [] => by simp [kfl]
  | g :: gs => by
    rw [show kfl (g :: gs) = g ++ kfl gs from rfl, List.mem_append, kfl_mem]
    constructor
    · rintro (h | ⟨x, h1, h2⟩)
      · exact ⟨g, List.mem_cons_self, h⟩
      · exact ⟨x, List.mem_cons_of_mem _ h1, h2⟩
    · rintro ⟨x, h1, h2⟩
      rcases List.mem_cons.mp h1 with rfl | h1
      · exact Or.inl h2
      · exact Or.inr ⟨x, h1, h2⟩
theorem kP_iff {D : va_G} {cl : List vw_C} {ws : va_W} {H : Heap} : va_P D cl ws H ↔ ∀ q, q ∈ ws → va_at D cl q H := by
  constructor
  · intro h q hq
    obtain ⟨k, hk⟩ := List.getElem?_of_mem hq
    exact h k q hk
  · intro h k q hk
    exact h q (List.mem_of_getElem? hk)
theorem kD_app {A : Nat → Prop} {a b : va_W} : va_D A (a ++ b) ↔ va_D A a ∧ va_D A b ∧ ∀ p, p ∈ a → ∀ q, q ∈ b → p.1 ≠ q.1 := by
  have lt : ∀ {l : va_W} {i : Nat} {x : Nat × va_E}, l[i]? = some x → i < l.length := fun h => (List.getElem?_eq_some_iff.mp h).1
  have la : ∀ {i : Nat} {x : Nat × va_E}, a[i]? = some x → (a ++ b)[i]? = some x := fun h => by rw [List.getElem?_append_left (lt h)]; exact h
  have lb : ∀ {i : Nat} {x : Nat × va_E}, b[i]? = some x → (a ++ b)[a.length + i]? = some x := fun {i x} h => by
    rw [List.getElem?_append_right (Nat.le_add_right _ _), Nat.add_sub_cancel_left]; exact h
  constructor
  · intro h
    refine ⟨⟨fun i j p q hp hq e => h.1 i j p q (la hp) (la hq) e, fun k q hk => h.2 k q (la hk)⟩, ⟨fun i j p q hp hq e => ?_, fun k q hk => h.2 _ q (lb hk)⟩, fun p hp q hq e => ?_⟩
    · have := h.1 _ _ p q (lb hp) (lb hq) e
      omega
    · obtain ⟨i, hi⟩ := List.getElem?_of_mem hp
      obtain ⟨j, hj⟩ := List.getElem?_of_mem hq
      have h1 := h.1 _ _ p q (la hi) (lb hj) e
      have h2 := lt hi
      omega
  · rintro ⟨h1, h2, h3⟩
    exact va_D.app h1 h2 (fun i j x y hx hy e => h3 x (List.mem_of_getElem? hx) y (List.mem_of_getElem? hy) e)
theorem kG_of {A : Nat → Prop} : ∀ {gs : List va_W}, va_D A (kfl gs) → (∀ (i : Nat) (g : va_W), gs[i]? = some g → va_D A g) ∧ ∀ (i j : Nat) (g g' : va_W), i ≠ j → gs[i]? = some g → gs[j]? = some g' → ∀ p, p ∈ g → ∀ q, q ∈ g' → p.1 ≠ q.1
  | [], _ => ⟨fun i g h => by simp at h, fun i j g g' _ h => by simp at h⟩
  | g :: gs, h => by
    obtain ⟨h1, h2, h3⟩ := kD_app.mp (show va_D A (g ++ kfl gs) from h)
    obtain ⟨i1, i2⟩ := kG_of h2
    refine ⟨fun i x hx => ?_, fun i j x y hij hx hy p hp q hq => ?_⟩
    · cases i with
      | zero => cases hx; exact h1
      | succ i => exact i1 i x hx
    · cases i with
      | zero =>
        cases j with
        | zero => exact absurd rfl hij
        | succ j =>
          cases hx
          exact h3 p hp q (kfl_mem.mpr ⟨y, List.mem_of_getElem? (show gs[j]? = some y from hy), hq⟩)
      | succ i =>
        cases j with
        | zero =>
          cases hy
          exact (h3 q hq p (kfl_mem.mpr ⟨x, List.mem_of_getElem? (show gs[i]? = some x from hx), hp⟩)).symm
        | succ j => exact i2 i j x y (fun e => hij (by rw [e])) hx hy p hp q hq
theorem kG_to {A : Nat → Prop} : ∀ {gs : List va_W}, (∀ (i : Nat) (g : va_W), gs[i]? = some g → va_D A g) → (∀ (i j : Nat) (g g' : va_W), i ≠ j → gs[i]? = some g → gs[j]? = some g' → ∀ p, p ∈ g → ∀ q, q ∈ g' → p.1 ≠ q.1) → va_D A (kfl gs)
  | [], _, _ => ⟨fun i j p q h => by simp [kfl] at h, fun k q h => by simp [kfl] at h⟩
  | g :: gs, h1, h2 => by
    show va_D A (g ++ kfl gs)
    refine kD_app.mpr ⟨h1 0 g rfl, kG_to (fun i x hx => h1 (i + 1) x hx) (fun i j x y hij hx hy => h2 (i + 1) (j + 1) x y (by omega) hx hy), fun p hp q hq => ?_⟩
    obtain ⟨x, hx, hqx⟩ := kfl_mem.mp hq
    obtain ⟨j, hj⟩ := List.getElem?_of_mem hx
    exact h2 0 (j + 1) g x (by omega) rfl hj p hp q hqx
theorem kmap_at {α : Type} {ws : List α} {is : List Nat} {w : List α} (hs : is.map (fun i => ws[i]?) = w.map some) : ∀ (k : Nat) (q : α), w[k]? = some q → ∃ i, is[k]? = some i ∧ ws[i]? = some q := by
  intro k q hq
  have h1 : (is.map (fun i => ws[i]?))[k]? = some (some q) := by rw [hs, List.getElem?_map, hq]; rfl
  rw [List.getElem?_map] at h1
  cases hi : is[k]? with
  | none => rw [hi] at h1; cases h1
  | some i => rw [hi] at h1; exact ⟨i, rfl, Option.some.inj h1⟩
theorem kmap_filter {ws : va_W} : ∀ {is : List Nat} {w : va_W}, is.map (fun i => ws[i]?) = w.map some → is.filterMap (fun i => ws[i]?) = w
  | [], w, h => by
    cases w with
    | nil => rfl
    | cons a b => cases h
  | i :: is, w, h => by
    cases w with
    | nil => cases h
    | cons a b =>
      simp only [List.map_cons, List.cons.injEq] at h
      rw [List.filterMap_cons_some h.1, kmap_filter h.2]
theorem kfst_at {w w1 : va_W} (h : w1.map Prod.fst = w.map Prod.fst) {j : Nat} {q : Nat × va_E} (hq : w1[j]? = some q) : ∃ e : va_E, w[j]? = some (q.1, e) := by
  have h1 : (w1.map Prod.fst)[j]? = some q.1 := by rw [List.getElem?_map, hq]; rfl
  rw [h, List.getElem?_map] at h1
  cases hw : w[j]? with
  | none => rw [hw] at h1; cases h1
  | some x => rw [hw] at h1; obtain ⟨a, e⟩ := x; cases h1; exact ⟨e, rfl⟩
theorem kput_join {A0 : Nat → Prop} {D : va_G} {cl : List vw_C} {gs gc g1 gs1 : List va_W} {H H1 : Heap} (hP : va_P D cl (kfl gs) H) (hD : va_D A0 (kfl gs)) (isC : List Nat) (hC : isC.map (fun i => gs[i]?) = gc.map some) (h1 : g1.map (List.map Prod.fst) = gc.map (List.map Prod.fst)) (hput : kput gs isC g1 = gs1)
    (hk : ∀ q : Nat, q < H.size → ¬ va_A (kfl gc) H.size q → H1[q]? = H[q]?) (hP1 : va_P D cl (kfl g1) H1) : va_P D cl (kfl gs1) H1 ∧ va_D A0 (kfl gs1) := by
  subst hput
  have hlen : isC.length = g1.length := by
    have a := congrArg List.length hC
    have b := congrArg List.length h1
    simp only [List.length_map] at a b
    omega
  obtain ⟨d1, d2⟩ := kG_of hD
  have old : ∀ (k : Nat) (g : va_W), (kput gs isC g1)[k]? = some g → ∃ g0 : va_W, gs[k]? = some g0 ∧ g.map Prod.fst = g0.map Prod.fst := by
    intro k g hg
    rcases kput_at isC g1 gs k g hlen hg with ⟨j, a, b⟩ | ⟨-, b⟩
    · have e1 : (g1.map (List.map Prod.fst))[j]? = some (g.map Prod.fst) := by rw [List.getElem?_map, b]; rfl
      rw [h1, List.getElem?_map] at e1
      cases hw : gc[j]? with
      | none => rw [hw] at e1; cases e1
      | some x =>
        rw [hw] at e1
        obtain ⟨i, hi, hx⟩ := kmap_at hC j x hw
        rw [a] at hi
        cases hi
        exact ⟨x, hx, (Option.some.inj e1).symm⟩
    · exact ⟨g, b, rfl⟩
  have adr : ∀ {g g0 : va_W}, g.map Prod.fst = g0.map Prod.fst → ∀ p, p ∈ g → ∃ p0, p0 ∈ g0 ∧ p0.1 = p.1 := by
    intro g g0 e p hp
    have : p.1 ∈ g0.map Prod.fst := by rw [← e]; exact List.mem_map.mpr ⟨p, hp, rfl⟩
    obtain ⟨p0, h2, h3⟩ := List.mem_map.mp this
    exact ⟨p0, h2, h3⟩
  constructor
  · rw [kP_iff]
    intro q hq
    obtain ⟨g, hg, hqg⟩ := kfl_mem.mp hq
    obtain ⟨k, hkg⟩ := List.getElem?_of_mem hg
    rcases kput_at isC g1 gs k g hlen hkg with ⟨j, a, b⟩ | ⟨a, b⟩
    · exact kP_iff.mp hP1 q (kfl_mem.mpr ⟨g, List.mem_of_getElem? b, hqg⟩)
    · have hat := kP_iff.mp hP q (kfl_mem.mpr ⟨g, List.mem_of_getElem? b, hqg⟩)
      have hl := hat.lt
      refine hat.kept (hk q.1 hl fun h => ?_)
      rcases h with ⟨k2, e, h⟩ | h
      · obtain ⟨x, hx, hqx⟩ := kfl_mem.mp (List.mem_of_getElem? h)
        obtain ⟨j2, hj2⟩ := List.getElem?_of_mem hx
        obtain ⟨i, hi, hgi⟩ := kmap_at hC j2 x hj2
        have hne : k ≠ i := fun e => a (by rw [e]; exact List.mem_of_getElem? hi)
        exact d2 k i g x hne b hgi q hqg _ hqx rfl
      · omega
  · refine kG_to (fun i g hg => ?_) (fun i j g g' hij hg hg' p hp q hq => ?_)
    · obtain ⟨g0, h2, h3⟩ := old i g hg
      have hd := d1 i g0 h2
      have at' : ∀ {k : Nat} {p : Nat × va_E}, g[k]? = some p → ∃ e : va_E, g0[k]? = some (p.1, e) := fun {k p} hp => kfst_at h3 hp
      refine ⟨fun i2 j2 p q hp hq e => ?_, fun k q hq => ?_⟩
      · obtain ⟨e1, a1⟩ := at' hp
        obtain ⟨e2, a2⟩ := at' hq
        exact hd.1 i2 j2 _ _ a1 a2 e
      · obtain ⟨e1, a1⟩ := at' hq
        exact hd.2 k (q.1, e1) a1
    · obtain ⟨g0, h2, h3⟩ := old i g hg
      obtain ⟨g0', h2', h3'⟩ := old j g' hg'
      obtain ⟨p0, m1, e1⟩ := adr h3 p hp
      obtain ⟨q0, m2, e2⟩ := adr h3' q hq
      rw [← e1, ← e2]
      exact d2 i j g0 g0' hij h2 h2' p0 m1 q0 m2
theorem kPick {D : va_G} {cl : List vw_C} {gs gc : List va_W} {H : Heap} (hP : va_P D cl (kfl gs) H) (isC : List Nat) (hC : isC.map (fun i => gs[i]?) = gc.map some) : va_P D cl (kfl gc) H := by
  rw [kP_iff] at hP ⊢
  intro q hq
  obtain ⟨g, hg, hqg⟩ := kfl_mem.mp hq
  obtain ⟨j, hj⟩ := List.getElem?_of_mem hg
  obtain ⟨i, -, hi⟩ := kmap_at hC j g hj
  exact hP q (kfl_mem.mpr ⟨g, List.mem_of_getElem? hi, hqg⟩)
theorem kPickD {A : Nat → Prop} {gs gc : List va_W} (hD : va_D A (kfl gs)) (isC : List Nat) (hnd : va_nd isC = true) (hC : isC.map (fun i => gs[i]?) = gc.map some) : va_D A (kfl gc) := by
  obtain ⟨d1, d2⟩ := kG_of hD
  refine kG_to (fun j g hj => ?_) (fun j k g g' hjk hj hk => ?_)
  · obtain ⟨i, -, hi⟩ := kmap_at hC j g hj
    exact d1 i g hi
  · obtain ⟨i, a, hi⟩ := kmap_at hC j g hj
    obtain ⟨i', a', hi'⟩ := kmap_at hC k g' hk
    exact d2 i i' g g' (fun e => hjk (va_nd_inj isC hnd j k i a (by rw [e]; exact a'))) hi hi'
theorem kPickF {A0 : Nat → Prop} {gs gc : List va_W} {H0 H : Heap} {locs : List Loc} (hD : va_D A0 (kfl gs)) (hS : va_S A0 H0 H locs) (hA : ∀ q, H0.size ≤ q → A0 q) (isC : List Nat) (hC : isC.map (fun i => gs[i]?) = gc.map some) : ∀ q, va_A (kfl gc) H.size q → A0 q := by
  intro q h
  rcases h with ⟨k, e, h⟩ | h
  · obtain ⟨g, hg, hqg⟩ := kfl_mem.mp (List.mem_of_getElem? h)
    obtain ⟨j, hj⟩ := List.getElem?_of_mem hg
    obtain ⟨i, -, hi⟩ := kmap_at hC j g hj
    obtain ⟨k2, hk2⟩ := List.getElem?_of_mem (kfl_mem.mpr ⟨g, List.mem_of_getElem? hi, hqg⟩)
    exact hD.2 k2 _ hk2
  · exact hA q (Nat.le_trans hS.1 h)
theorem kfn0 : (([] : List va_W).map (List.map Prod.fst)) = ([] : List va_W).map (List.map Prod.fst) := rfl
theorem kfc {x y : va_W} {l l' : List va_W} (h : x.map Prod.fst = y.map Prod.fst) (h2 : l.map (List.map Prod.fst) = l'.map (List.map Prod.fst)) : (x :: l).map (List.map Prod.fst) = (y :: l').map (List.map Prod.fst) := by
  rw [List.map_cons, List.map_cons, h, h2]

section KWC
variable {X : KX} {Y : KY} {cc : ByteArray} {nL : Nat} {own : String} {Ts : List Cond} {rm : Room} {A : Nat → Prop} {cells slots : Nat} {ws : va_W} {lv : List (Nat × Value)} {st : List Value}
theorem kw_callV_I (hX : KOk X Y cc nL own Ts rm A) (pc : Nat) {y : MethodName} {idx : Nat} {bytes : ByteArray} {maxL : Nat} {ret : Option FieldType} {wsC wsC' : List Cond} {rmC : Room} {C : String} {b : Nat} {As rest : List Value} {gs gc gc1 : List va_W} {r : Int32} (hM : CtI (kx_l X) y wsC rmC Y (.ref b :: As) (kfl gc) r (kfl gc1)) (hg : GoodIn Ts (wsV own idx C y wsC)) (hw : wsC = Cond.code y bytes maxL ret :: wsC') (n : Nat) (hn : As.length = n) (hd : y.cls = C ∧ y.cls ≠ "java/lang/invoke/MethodHandle" ∧ y.cls ≠ "java/lang/invoke/VarHandle" ∧ (parseMethodDescriptor y.desc).map (fun d => d.parameters.length) = some n) (hz : rmC.cells = 0 ∧ rmC.slots = 0) (hR : rmC.frames + 1 ≤ rm.frames ∧ 8 + (maxL + 11) + rmC.locals ≤ rm.locals) (hcs : cells ≤ rm.cells ∧ slots ≤ rm.slots) (hst : st = As.reverse ++ .ref b :: rest) (hcat : (rest.map fun v => v.category).sum ≤ 8) (isC : List Nat) (hnd : va_nd isC = true) (hC : isC.map (fun i => gs[i]?) = gc.map some) (h1 : gc1.map (List.map Prod.fst) = gc.map (List.map Prod.fst)) {gs1 : List va_W} (hput : kput gs isC gc1 = gs1) (q0 ci : Nat) {fs : List Value} {cq : vw_C} (he : (kfl gs)[q0]? = some (b, .inr (ci, fs))) (hc : vwCl[ci]? = some cq) (hcq : cq.1 = C) (hdg : decode cc pc = .ok (.invokevirtual idx, 3))
    (kk : KW X Y A nL cells slots (kfl gs1) lv (pc + 3) (.int r :: rest)) : KW X Y A nL cells slots (kfl gs) lv pc st := by
  intro H ls locs hP hD hS hl
  subst hst
  obtain ⟨hx, hb, hml, hown, hts, hK, hA, hR0⟩ := hX
  have hPc := kPick hP isC hC
  have hDc := kPickD hD isC hnd hC
  have hFc := kPickF hD hS hA isC hC
  refine va_calli (va_runV (As := As) (rest := rest) ⟨hx, hb, hml, hown, hts⟩ (hM H.size) (cwV n hts hg hw hz.1 hz.2 hd (by rw [hR0]; exact hR)) ⟨fun a U g mk q => ⟨q.1, q.2.1, q.2.2.1, q.2.2.2.1.calling, q.2.2.2.2⟩, (by rw [← hcq]; exact va_recv hK.1 hP hc he), fun U hU hW => ⟨rfl, by rw [hU], by rw [hU]; exact hPc, KK.warm hW hK, hDc.weaken (fun _ _ _ _ => trivial)⟩⟩ rfl hn hl.1 rfl (lv_room hcat) hdg (by rw [hR0]; exact hcs)) hS (fun q _ h => hFc q h) hFc (fun r' u t H1 locs1 ht hvm hw' hB hz1 hk1 hS1 => ?_)
  obtain ⟨hP1, hD1⟩ := hB
  rw [ht] at hP1
  obtain ⟨hP2, hD2⟩ := kput_join hP hD isC hC h1 hput hk1 hP1
  subst hw'
  exact kk H1 ls locs1 hP2 hD2 hS1 hl
theorem kw_callS_I (hX : KOk X Y cc nL own Ts rm A) (pc : Nat) {y : MethodName} {idx : Nat} {bytes : ByteArray} {maxL : Nat} {ret : Option FieldType} {wsC wsC' : List Cond} {rmC : Room} {As rest : List Value} {gs gc gc1 : List va_W} {r : Int32} (hM : CtI (kx_l X) y wsC rmC Y As (kfl gc) r (kfl gc1)) (hg : GoodIn Ts (va_wsS own idx y wsC)) (hw : wsC = Cond.code y bytes maxL ret :: wsC') (n : Nat) (hn : As.length = n) (hd : y.cls ≠ "java/lang/invoke/MethodHandle" ∧ y.cls ≠ "java/lang/invoke/VarHandle" ∧ (parseMethodDescriptor y.desc).map (fun d => d.parameters.length) = some n) (hz : rmC.cells = 0 ∧ rmC.slots = 0) (hR : rmC.frames + 1 ≤ rm.frames ∧ 8 + (maxL + 11) + rmC.locals ≤ rm.locals) (hcs : cells ≤ rm.cells ∧ slots ≤ rm.slots) (hst : st = As.reverse ++ rest) (hcat : (rest.map fun v => v.category).sum ≤ 8) (isC : List Nat) (hnd : va_nd isC = true) (hC : isC.map (fun i => gs[i]?) = gc.map some) (h1 : gc1.map (List.map Prod.fst) = gc.map (List.map Prod.fst)) {gs1 : List va_W} (hput : kput gs isC gc1 = gs1) (hdg : decode cc pc = .ok (.invokestatic idx, 3))
    (kk : KW X Y A nL cells slots (kfl gs1) lv (pc + 3) (.int r :: rest)) : KW X Y A nL cells slots (kfl gs) lv pc st := by
  intro H ls locs hP hD hS hl
  subst hst
  obtain ⟨hx, hb, hml, hown, hts, hK, hA, hR0⟩ := hX
  have hPc := kPick hP isC hC
  have hDc := kPickD hD isC hnd hC
  have hFc := kPickF hD hS hA isC hC
  refine va_calli (va_runS (As := As) (rest := rest) ⟨hx, hb, hml, hown, hts⟩ (hM H.size) (va_cwS n hts hg hw hz.1 hz.2 hd (by rw [hR0]; exact hR)) ⟨fun a U g mk q => ⟨q.1, q.2.1, q.2.2.1, q.2.2.2.1.calling, q.2.2.2.2⟩, fun U hU hW => ⟨rfl, by rw [hU], by rw [hU]; exact hPc, KK.warm hW hK, hDc.weaken (fun _ _ _ _ => trivial)⟩⟩ rfl hn hl.1 rfl (lv_room hcat) hdg (by rw [hR0]; exact hcs)) hS (fun q _ h => hFc q h) hFc (fun r' u t H1 locs1 ht hvm hw' hB hz1 hk1 hS1 => ?_)
  obtain ⟨hP1, hD1⟩ := hB
  rw [ht] at hP1
  obtain ⟨hP2, hD2⟩ := kput_join hP hD isC hC h1 hput hk1 hP1
  subst hw'
  exact kk H1 ls locs1 hP2 hD2 hS1 hl
theorem kw_callSN_I (hX : KOk X Y cc nL own Ts rm A) (pc : Nat) {y : MethodName} {idx : Nat} {bytes : ByteArray} {maxL : Nat} {ret : Option FieldType} {wsC wsC' : List Cond} {rmC : Room} {As rest : List Value} {gs gc gc1 : List va_W} {r : Int32} (hM : CtI (kx_l X) y wsC rmC Y As (kfl gc) r (kfl gc1)) (hg : GoodIn Ts wsC) {host : String} (hnest : va_Nw (.methodLinkNest own idx y host) (kx_s X)) (hini : (Cond.initialized y.cls).before (kx_a X) (kx_s X) = true) (hsta : (Cond.static y).before (kx_a X) (kx_s X) = true) (hw : wsC = Cond.code y bytes maxL ret :: wsC') (n : Nat) (hn : As.length = n) (hd : y.cls ≠ "java/lang/invoke/MethodHandle" ∧ y.cls ≠ "java/lang/invoke/VarHandle" ∧ (parseMethodDescriptor y.desc).map (fun d => d.parameters.length) = some n) (hz : rmC.cells = 0 ∧ rmC.slots = 0) (hR : rmC.frames + 1 ≤ rm.frames ∧ 8 + (maxL + 11) + rmC.locals ≤ rm.locals) (hcs : cells ≤ rm.cells ∧ slots ≤ rm.slots) (hst : st = As.reverse ++ rest) (hcat : (rest.map fun v => v.category).sum ≤ 8) (isC : List Nat) (hnd : va_nd isC = true) (hC : isC.map (fun i => gs[i]?) = gc.map some) (h1 : gc1.map (List.map Prod.fst) = gc.map (List.map Prod.fst)) {gs1 : List va_W} (hput : kput gs isC gc1 = gs1) (hdg : decode cc pc = .ok (.invokestatic idx, 3))
    (kk : KW X Y A nL cells slots (kfl gs1) lv (pc + 3) (.int r :: rest)) : KW X Y A nL cells slots (kfl gs) lv pc st := by
  intro H ls locs hP hD hS hl
  subst hst
  obtain ⟨hx, hb, hml, hown, hts, hK, hA, hR0⟩ := hX
  have hPc := kPick hP isC hC
  have hDc := kPickD hD isC hnd hC
  have hFc := kPickF hD hS hA isC hC
  refine va_calli (va_runSN (As := As) (rest := rest) ⟨hx, hb, hml, hown, hts⟩ (hM H.size) ⟨va_cnB n hts hg hw hz.1 hz.2 hnest hini hd (by rw [hR0]; exact hR), hsta, trivial⟩ ⟨fun a U g mk q => ⟨q.1, q.2.1, q.2.2.1, q.2.2.2.1.calling, q.2.2.2.2⟩, fun U hU hW => ⟨rfl, by rw [hU], by rw [hU]; exact hPc, KK.warm hW hK, hDc.weaken (fun _ _ _ _ => trivial)⟩⟩ rfl hn hl.1 rfl (lv_room hcat) hdg (by rw [hR0]; exact hcs)) hS (fun q _ h => hFc q h) hFc (fun r' u t H1 locs1 ht hvm hw' hB hz1 hk1 hS1 => ?_)
  obtain ⟨hP1, hD1⟩ := hB
  rw [ht] at hP1
  obtain ⟨hP2, hD2⟩ := kput_join hP hD isC hC h1 hput hk1 hP1
  subst hw'
  exact kk H1 ls locs1 hP2 hD2 hS1 hl
theorem kw_callV_L (hX : KOk X Y cc nL own Ts rm A) (pc : Nat) {y : MethodName} {idx : Nat} {bytes : ByteArray} {maxL : Nat} {ret : Option FieldType} {wsC wsC' : List Cond} {rmC : Room} {C : String} {b : Nat} {As rest : List Value} {gs gc gc1 : List va_W} {r : Int64} (hM : CtL (kx_l X) y wsC rmC Y (.ref b :: As) (kfl gc) r (kfl gc1)) (hg : GoodIn Ts (wsV own idx C y wsC)) (hw : wsC = Cond.code y bytes maxL ret :: wsC') (n : Nat) (hn : As.length = n) (hd : y.cls = C ∧ y.cls ≠ "java/lang/invoke/MethodHandle" ∧ y.cls ≠ "java/lang/invoke/VarHandle" ∧ (parseMethodDescriptor y.desc).map (fun d => d.parameters.length) = some n) (hz : rmC.cells = 0 ∧ rmC.slots = 0) (hR : rmC.frames + 1 ≤ rm.frames ∧ 8 + (maxL + 11) + rmC.locals ≤ rm.locals) (hcs : cells ≤ rm.cells ∧ slots ≤ rm.slots) (hst : st = As.reverse ++ .ref b :: rest) (hcat : (rest.map fun v => v.category).sum ≤ 8) (isC : List Nat) (hnd : va_nd isC = true) (hC : isC.map (fun i => gs[i]?) = gc.map some) (h1 : gc1.map (List.map Prod.fst) = gc.map (List.map Prod.fst)) {gs1 : List va_W} (hput : kput gs isC gc1 = gs1) (q0 ci : Nat) {fs : List Value} {cq : vw_C} (he : (kfl gs)[q0]? = some (b, .inr (ci, fs))) (hc : vwCl[ci]? = some cq) (hcq : cq.1 = C) (hdg : decode cc pc = .ok (.invokevirtual idx, 3))
    (kk : KW X Y A nL cells slots (kfl gs1) lv (pc + 3) (.long r :: rest)) : KW X Y A nL cells slots (kfl gs) lv pc st := by
  intro H ls locs hP hD hS hl
  subst hst
  obtain ⟨hx, hb, hml, hown, hts, hK, hA, hR0⟩ := hX
  have hPc := kPick hP isC hC
  have hDc := kPickD hD isC hnd hC
  have hFc := kPickF hD hS hA isC hC
  refine va_calll (va_runV (As := As) (rest := rest) ⟨hx, hb, hml, hown, hts⟩ (hM H.size) (cwV n hts hg hw hz.1 hz.2 hd (by rw [hR0]; exact hR)) ⟨fun a U g mk q => ⟨q.1, q.2.1, q.2.2.1, q.2.2.2.1.calling, q.2.2.2.2⟩, (by rw [← hcq]; exact va_recv hK.1 hP hc he), fun U hU hW => ⟨rfl, by rw [hU], by rw [hU]; exact hPc, KK.warm hW hK, hDc.weaken (fun _ _ _ _ => trivial)⟩⟩ rfl hn hl.1 rfl (lv_room hcat) hdg (by rw [hR0]; exact hcs)) hS (fun q _ h => hFc q h) hFc (fun r' u t H1 locs1 ht hvm hw' hB hz1 hk1 hS1 => ?_)
  obtain ⟨hP1, hD1⟩ := hB
  rw [ht] at hP1
  obtain ⟨hP2, hD2⟩ := kput_join hP hD isC hC h1 hput hk1 hP1
  subst hw'
  exact kk H1 ls locs1 hP2 hD2 hS1 hl
theorem kw_callS_L (hX : KOk X Y cc nL own Ts rm A) (pc : Nat) {y : MethodName} {idx : Nat} {bytes : ByteArray} {maxL : Nat} {ret : Option FieldType} {wsC wsC' : List Cond} {rmC : Room} {As rest : List Value} {gs gc gc1 : List va_W} {r : Int64} (hM : CtL (kx_l X) y wsC rmC Y As (kfl gc) r (kfl gc1)) (hg : GoodIn Ts (va_wsS own idx y wsC)) (hw : wsC = Cond.code y bytes maxL ret :: wsC') (n : Nat) (hn : As.length = n) (hd : y.cls ≠ "java/lang/invoke/MethodHandle" ∧ y.cls ≠ "java/lang/invoke/VarHandle" ∧ (parseMethodDescriptor y.desc).map (fun d => d.parameters.length) = some n) (hz : rmC.cells = 0 ∧ rmC.slots = 0) (hR : rmC.frames + 1 ≤ rm.frames ∧ 8 + (maxL + 11) + rmC.locals ≤ rm.locals) (hcs : cells ≤ rm.cells ∧ slots ≤ rm.slots) (hst : st = As.reverse ++ rest) (hcat : (rest.map fun v => v.category).sum ≤ 8) (isC : List Nat) (hnd : va_nd isC = true) (hC : isC.map (fun i => gs[i]?) = gc.map some) (h1 : gc1.map (List.map Prod.fst) = gc.map (List.map Prod.fst)) {gs1 : List va_W} (hput : kput gs isC gc1 = gs1) (hdg : decode cc pc = .ok (.invokestatic idx, 3))
    (kk : KW X Y A nL cells slots (kfl gs1) lv (pc + 3) (.long r :: rest)) : KW X Y A nL cells slots (kfl gs) lv pc st := by
  intro H ls locs hP hD hS hl
  subst hst
  obtain ⟨hx, hb, hml, hown, hts, hK, hA, hR0⟩ := hX
  have hPc := kPick hP isC hC
  have hDc := kPickD hD isC hnd hC
  have hFc := kPickF hD hS hA isC hC
  refine va_calll (va_runS (As := As) (rest := rest) ⟨hx, hb, hml, hown, hts⟩ (hM H.size) (va_cwS n hts hg hw hz.1 hz.2 hd (by rw [hR0]; exact hR)) ⟨fun a U g mk q => ⟨q.1, q.2.1, q.2.2.1, q.2.2.2.1.calling, q.2.2.2.2⟩, fun U hU hW => ⟨rfl, by rw [hU], by rw [hU]; exact hPc, KK.warm hW hK, hDc.weaken (fun _ _ _ _ => trivial)⟩⟩ rfl hn hl.1 rfl (lv_room hcat) hdg (by rw [hR0]; exact hcs)) hS (fun q _ h => hFc q h) hFc (fun r' u t H1 locs1 ht hvm hw' hB hz1 hk1 hS1 => ?_)
  obtain ⟨hP1, hD1⟩ := hB
  rw [ht] at hP1
  obtain ⟨hP2, hD2⟩ := kput_join hP hD isC hC h1 hput hk1 hP1
  subst hw'
  exact kk H1 ls locs1 hP2 hD2 hS1 hl
theorem kw_callSN_L (hX : KOk X Y cc nL own Ts rm A) (pc : Nat) {y : MethodName} {idx : Nat} {bytes : ByteArray} {maxL : Nat} {ret : Option FieldType} {wsC wsC' : List Cond} {rmC : Room} {As rest : List Value} {gs gc gc1 : List va_W} {r : Int64} (hM : CtL (kx_l X) y wsC rmC Y As (kfl gc) r (kfl gc1)) (hg : GoodIn Ts wsC) {host : String} (hnest : va_Nw (.methodLinkNest own idx y host) (kx_s X)) (hini : (Cond.initialized y.cls).before (kx_a X) (kx_s X) = true) (hsta : (Cond.static y).before (kx_a X) (kx_s X) = true) (hw : wsC = Cond.code y bytes maxL ret :: wsC') (n : Nat) (hn : As.length = n) (hd : y.cls ≠ "java/lang/invoke/MethodHandle" ∧ y.cls ≠ "java/lang/invoke/VarHandle" ∧ (parseMethodDescriptor y.desc).map (fun d => d.parameters.length) = some n) (hz : rmC.cells = 0 ∧ rmC.slots = 0) (hR : rmC.frames + 1 ≤ rm.frames ∧ 8 + (maxL + 11) + rmC.locals ≤ rm.locals) (hcs : cells ≤ rm.cells ∧ slots ≤ rm.slots) (hst : st = As.reverse ++ rest) (hcat : (rest.map fun v => v.category).sum ≤ 8) (isC : List Nat) (hnd : va_nd isC = true) (hC : isC.map (fun i => gs[i]?) = gc.map some) (h1 : gc1.map (List.map Prod.fst) = gc.map (List.map Prod.fst)) {gs1 : List va_W} (hput : kput gs isC gc1 = gs1) (hdg : decode cc pc = .ok (.invokestatic idx, 3))
    (kk : KW X Y A nL cells slots (kfl gs1) lv (pc + 3) (.long r :: rest)) : KW X Y A nL cells slots (kfl gs) lv pc st := by
  intro H ls locs hP hD hS hl
  subst hst
  obtain ⟨hx, hb, hml, hown, hts, hK, hA, hR0⟩ := hX
  have hPc := kPick hP isC hC
  have hDc := kPickD hD isC hnd hC
  have hFc := kPickF hD hS hA isC hC
  refine va_calll (va_runSN (As := As) (rest := rest) ⟨hx, hb, hml, hown, hts⟩ (hM H.size) ⟨va_cnB n hts hg hw hz.1 hz.2 hnest hini hd (by rw [hR0]; exact hR), hsta, trivial⟩ ⟨fun a U g mk q => ⟨q.1, q.2.1, q.2.2.1, q.2.2.2.1.calling, q.2.2.2.2⟩, fun U hU hW => ⟨rfl, by rw [hU], by rw [hU]; exact hPc, KK.warm hW hK, hDc.weaken (fun _ _ _ _ => trivial)⟩⟩ rfl hn hl.1 rfl (lv_room hcat) hdg (by rw [hR0]; exact hcs)) hS (fun q _ h => hFc q h) hFc (fun r' u t H1 locs1 ht hvm hw' hB hz1 hk1 hS1 => ?_)
  obtain ⟨hP1, hD1⟩ := hB
  rw [ht] at hP1
  obtain ⟨hP2, hD2⟩ := kput_join hP hD isC hC h1 hput hk1 hP1
  subst hw'
  exact kk H1 ls locs1 hP2 hD2 hS1 hl
theorem kw_callV_V (hX : KOk X Y cc nL own Ts rm A) (pc : Nat) {y : MethodName} {idx : Nat} {bytes : ByteArray} {maxL : Nat} {ret : Option FieldType} {wsC wsC' : List Cond} {rmC : Room} {C : String} {b : Nat} {As rest : List Value} {gs gc gc1 : List va_W} (hM : CtV (kx_l X) y wsC rmC Y (.ref b :: As) (kfl gc) (kfl gc1)) (hg : GoodIn Ts (wsV own idx C y wsC)) (hw : wsC = Cond.code y bytes maxL ret :: wsC') (n : Nat) (hn : As.length = n) (hd : y.cls = C ∧ y.cls ≠ "java/lang/invoke/MethodHandle" ∧ y.cls ≠ "java/lang/invoke/VarHandle" ∧ (parseMethodDescriptor y.desc).map (fun d => d.parameters.length) = some n) (hz : rmC.cells = 0 ∧ rmC.slots = 0) (hR : rmC.frames + 1 ≤ rm.frames ∧ 8 + (maxL + 11) + rmC.locals ≤ rm.locals) (hcs : cells ≤ rm.cells ∧ slots ≤ rm.slots) (hst : st = As.reverse ++ .ref b :: rest) (hcat : (rest.map fun v => v.category).sum ≤ 8) (isC : List Nat) (hnd : va_nd isC = true) (hC : isC.map (fun i => gs[i]?) = gc.map some) (h1 : gc1.map (List.map Prod.fst) = gc.map (List.map Prod.fst)) {gs1 : List va_W} (hput : kput gs isC gc1 = gs1) (q0 ci : Nat) {fs : List Value} {cq : vw_C} (he : (kfl gs)[q0]? = some (b, .inr (ci, fs))) (hc : vwCl[ci]? = some cq) (hcq : cq.1 = C) (hdg : decode cc pc = .ok (.invokevirtual idx, 3))
    (kk : KW X Y A nL cells slots (kfl gs1) lv (pc + 3) (rest)) : KW X Y A nL cells slots (kfl gs) lv pc st := by
  intro H ls locs hP hD hS hl
  subst hst
  obtain ⟨hx, hb, hml, hown, hts, hK, hA, hR0⟩ := hX
  have hPc := kPick hP isC hC
  have hDc := kPickD hD isC hnd hC
  have hFc := kPickF hD hS hA isC hC
  refine va_callv (va_runV (As := As) (rest := rest) ⟨hx, hb, hml, hown, hts⟩ (hM H.size) (cwV n hts hg hw hz.1 hz.2 hd (by rw [hR0]; exact hR)) ⟨fun a U g mk q => ⟨q.1, q.2.1, q.2.2.1, q.2.2.2.1.calling, q.2.2.2.2⟩, (by rw [← hcq]; exact va_recv hK.1 hP hc he), fun U hU hW => ⟨rfl, by rw [hU], by rw [hU]; exact hPc, KK.warm hW hK, hDc.weaken (fun _ _ _ _ => trivial)⟩⟩ rfl hn hl.1 rfl (lv_room hcat) hdg (by rw [hR0]; exact hcs)) hS (fun q _ h => hFc q h) hFc (fun u t H1 locs1 ht hvm hw' hB hz1 hk1 hS1 => ?_)
  obtain ⟨hP1, hD1⟩ := hB
  rw [ht] at hP1
  obtain ⟨hP2, hD2⟩ := kput_join hP hD isC hC h1 hput hk1 hP1
  
  exact kk H1 ls locs1 hP2 hD2 hS1 hl
theorem kw_callS_V (hX : KOk X Y cc nL own Ts rm A) (pc : Nat) {y : MethodName} {idx : Nat} {bytes : ByteArray} {maxL : Nat} {ret : Option FieldType} {wsC wsC' : List Cond} {rmC : Room} {As rest : List Value} {gs gc gc1 : List va_W} (hM : CtV (kx_l X) y wsC rmC Y As (kfl gc) (kfl gc1)) (hg : GoodIn Ts (va_wsS own idx y wsC)) (hw : wsC = Cond.code y bytes maxL ret :: wsC') (n : Nat) (hn : As.length = n) (hd : y.cls ≠ "java/lang/invoke/MethodHandle" ∧ y.cls ≠ "java/lang/invoke/VarHandle" ∧ (parseMethodDescriptor y.desc).map (fun d => d.parameters.length) = some n) (hz : rmC.cells = 0 ∧ rmC.slots = 0) (hR : rmC.frames + 1 ≤ rm.frames ∧ 8 + (maxL + 11) + rmC.locals ≤ rm.locals) (hcs : cells ≤ rm.cells ∧ slots ≤ rm.slots) (hst : st = As.reverse ++ rest) (hcat : (rest.map fun v => v.category).sum ≤ 8) (isC : List Nat) (hnd : va_nd isC = true) (hC : isC.map (fun i => gs[i]?) = gc.map some) (h1 : gc1.map (List.map Prod.fst) = gc.map (List.map Prod.fst)) {gs1 : List va_W} (hput : kput gs isC gc1 = gs1) (hdg : decode cc pc = .ok (.invokestatic idx, 3))
    (kk : KW X Y A nL cells slots (kfl gs1) lv (pc + 3) (rest)) : KW X Y A nL cells slots (kfl gs) lv pc st := by
  intro H ls locs hP hD hS hl
  subst hst
  obtain ⟨hx, hb, hml, hown, hts, hK, hA, hR0⟩ := hX
  have hPc := kPick hP isC hC
  have hDc := kPickD hD isC hnd hC
  have hFc := kPickF hD hS hA isC hC
  refine va_callv (va_runS (As := As) (rest := rest) ⟨hx, hb, hml, hown, hts⟩ (hM H.size) (va_cwS n hts hg hw hz.1 hz.2 hd (by rw [hR0]; exact hR)) ⟨fun a U g mk q => ⟨q.1, q.2.1, q.2.2.1, q.2.2.2.1.calling, q.2.2.2.2⟩, fun U hU hW => ⟨rfl, by rw [hU], by rw [hU]; exact hPc, KK.warm hW hK, hDc.weaken (fun _ _ _ _ => trivial)⟩⟩ rfl hn hl.1 rfl (lv_room hcat) hdg (by rw [hR0]; exact hcs)) hS (fun q _ h => hFc q h) hFc (fun u t H1 locs1 ht hvm hw' hB hz1 hk1 hS1 => ?_)
  obtain ⟨hP1, hD1⟩ := hB
  rw [ht] at hP1
  obtain ⟨hP2, hD2⟩ := kput_join hP hD isC hC h1 hput hk1 hP1
  
  exact kk H1 ls locs1 hP2 hD2 hS1 hl
theorem kw_callSN_V (hX : KOk X Y cc nL own Ts rm A) (pc : Nat) {y : MethodName} {idx : Nat} {bytes : ByteArray} {maxL : Nat} {ret : Option FieldType} {wsC wsC' : List Cond} {rmC : Room} {As rest : List Value} {gs gc gc1 : List va_W} (hM : CtV (kx_l X) y wsC rmC Y As (kfl gc) (kfl gc1)) (hg : GoodIn Ts wsC) {host : String} (hnest : va_Nw (.methodLinkNest own idx y host) (kx_s X)) (hini : (Cond.initialized y.cls).before (kx_a X) (kx_s X) = true) (hsta : (Cond.static y).before (kx_a X) (kx_s X) = true) (hw : wsC = Cond.code y bytes maxL ret :: wsC') (n : Nat) (hn : As.length = n) (hd : y.cls ≠ "java/lang/invoke/MethodHandle" ∧ y.cls ≠ "java/lang/invoke/VarHandle" ∧ (parseMethodDescriptor y.desc).map (fun d => d.parameters.length) = some n) (hz : rmC.cells = 0 ∧ rmC.slots = 0) (hR : rmC.frames + 1 ≤ rm.frames ∧ 8 + (maxL + 11) + rmC.locals ≤ rm.locals) (hcs : cells ≤ rm.cells ∧ slots ≤ rm.slots) (hst : st = As.reverse ++ rest) (hcat : (rest.map fun v => v.category).sum ≤ 8) (isC : List Nat) (hnd : va_nd isC = true) (hC : isC.map (fun i => gs[i]?) = gc.map some) (h1 : gc1.map (List.map Prod.fst) = gc.map (List.map Prod.fst)) {gs1 : List va_W} (hput : kput gs isC gc1 = gs1) (hdg : decode cc pc = .ok (.invokestatic idx, 3))
    (kk : KW X Y A nL cells slots (kfl gs1) lv (pc + 3) (rest)) : KW X Y A nL cells slots (kfl gs) lv pc st := by
  intro H ls locs hP hD hS hl
  subst hst
  obtain ⟨hx, hb, hml, hown, hts, hK, hA, hR0⟩ := hX
  have hPc := kPick hP isC hC
  have hDc := kPickD hD isC hnd hC
  have hFc := kPickF hD hS hA isC hC
  refine va_callv (va_runSN (As := As) (rest := rest) ⟨hx, hb, hml, hown, hts⟩ (hM H.size) ⟨va_cnB n hts hg hw hz.1 hz.2 hnest hini hd (by rw [hR0]; exact hR), hsta, trivial⟩ ⟨fun a U g mk q => ⟨q.1, q.2.1, q.2.2.1, q.2.2.2.1.calling, q.2.2.2.2⟩, fun U hU hW => ⟨rfl, by rw [hU], by rw [hU]; exact hPc, KK.warm hW hK, hDc.weaken (fun _ _ _ _ => trivial)⟩⟩ rfl hn hl.1 rfl (lv_room hcat) hdg (by rw [hR0]; exact hcs)) hS (fun q _ h => hFc q h) hFc (fun u t H1 locs1 ht hvm hw' hB hz1 hk1 hS1 => ?_)
  obtain ⟨hP1, hD1⟩ := hB
  rw [ht] at hP1
  obtain ⟨hP2, hD2⟩ := kput_join hP hD isC hC h1 hput hk1 hP1
  
  exact kk H1 ls locs1 hP2 hD2 hS1 hl
end KWC
