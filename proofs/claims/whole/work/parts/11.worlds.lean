/-! the worlds, group by group; the constants that the listing loads -/
def KF : Nat := 7000
abbrev kI (c : ClassId) (n : Nat) (f : Nat → Int32) : va_E := .inl (c, n, .inl f)
abbrev kL (c : ClassId) (n : Nat) (f : Nat → Int64) : va_E := .inl (c, n, .inr (.inl f))
abbrev kO (c : ClassId) (n : Nat) (f : Nat → Option Nat) : va_E := .inl (c, n, .inr (.inr (.inr (.inr f))))
def gT (xa ra : Nat) (ga da : Nat → Nat) (va : Nat) (ea sa ca pa : Nat → Nat) (scn : Int32) : va_W := [(xa, .inr (5, [.ref ra, .ref (ga 0), .ref (da 0), .ref va, .int scn, .ref (ea 0), .ref (sa 0), .ref (ca 0), .ref (pa 0)]))]
def gR (Y : KY) (ra : Nat) (er : Nat → Int32) : va_W := [(ra, kI (Y.2 0) 6 er)]
def gG (Y : KY) (a : Nat → Nat) (vc ec : Int32) (F T X Z : Nat → Int32) : va_W := [(a 0, .inr (2, [.int vc, .int ec, .ref (a 1), .ref (a 2), .ref (a 3), .ref (a 4)])), (a 1, kI (Y.2 0) 12 F), (a 2, kI (Y.2 0) 12 T), (a 3, kI (Y.2 0) 12 X), (a 4, kI (Y.2 0) 12 Z)]
def gS (Y : KY) (a : Nat → Nat) (fi ta : Int32) (st qu : Nat → Int32) : va_W := [(a 0, .inr (4, [.ref (a 1), .ref (a 2), .int fi, .int ta])), (a 1, kI (Y.2 0) 6534 st), (a 2, kI (Y.2 0) 6534 qu)]
def gC (Y : KY) (a : Nat → Nat) (re cx cy px py : Nat → Int32) (pn : Int32) : va_W := [(a 0, .inr (0, [.ref (a 1), .ref (a 2), .ref (a 3), .ref (a 4), .ref (a 5), .int pn])), (a 1, kI (Y.2 2) 6 re), (a 2, kI (Y.2 0) 6 cx), (a 3, kI (Y.2 0) 6 cy), (a 4, kI (Y.2 0) 12 px), (a 5, kI (Y.2 0) 12 py)]
def gE (Y : KY) (a r : Nat → Nat) (cn : Nat → Int32) (M : Nat → Nat → Int32) : va_W := [(a 0, .inr (1, [.ref (a 1), .ref (a 2), .ref (a 3), .ref (a 4)])), (a 1, kI (Y.2 0) 6 cn), (a 2, kO (Y.2 4) 6 (fun i => some (r (0 + i)))), (a 3, kO (Y.2 4) 6 (fun i => some (r (6 + i)))), (a 4, kO (Y.2 4) 6 (fun i => some (r (12 + i)))), (r 0, kI (Y.2 0) 24 (M 0)), (r 1, kI (Y.2 0) 24 (M 1)), (r 2, kI (Y.2 0) 24 (M 2)), (r 3, kI (Y.2 0) 24 (M 3)), (r 4, kI (Y.2 0) 24 (M 4)), (r 5, kI (Y.2 0) 24 (M 5)), (r 6, kI (Y.2 0) 24 (M 6)), (r 7, kI (Y.2 0) 24 (M 7)), (r 8, kI (Y.2 0) 24 (M 8)), (r 9, kI (Y.2 0) 24 (M 9)), (r 10, kI (Y.2 0) 24 (M 10)), (r 11, kI (Y.2 0) 24 (M 11)), (r 12, kI (Y.2 0) 24 (M 12)), (r 13, kI (Y.2 0) 24 (M 13)), (r 14, kI (Y.2 0) 24 (M 14)), (r 15, kI (Y.2 0) 24 (M 15)), (r 16, kI (Y.2 0) 24 (M 16)), (r 17, kI (Y.2 0) 24 (M 17))]
def gP (Y : KY) (a r : Nat → Nat) (R : Nat → Nat → Int64) (un : Int32) (sc : Int64) : va_W := [(a 0, .inr (3, [.ref (a 1), .int un, .long sc])), (a 1, kO (Y.2 5) 5 (fun i => some (r (0 + i)))), (r 0, kL (Y.2 1) 7 (R 0)), (r 1, kL (Y.2 1) 7 (R 1)), (r 2, kL (Y.2 1) 7 (R 2)), (r 3, kL (Y.2 1) 7 (R 3)), (r 4, kL (Y.2 1) 7 (R 4))]
def gA (Y : KY) (va : Nat) (vg pi : Nat → Nat) : va_W := [(va, kO (Y.2 3) 5 (fun i => some (vg (5 * pi i))))]
def gM (Y : KY) (a : Nat → Nat) (now sav : Nat → Int32) (sc : Int32) (err shf stp que : Nat → Int32) (qd : Int32) (qx qy met per : Nat → Int32) (row : Nat → Int64) (det h : Int64) : va_W := [(a 0, .inr (6, [.ref (a 1), .ref (a 2), .int sc, .ref (a 3), .ref (a 4), .ref (a 5), .ref (a 6), .int qd, .ref (a 7), .ref (a 8), .ref (a 9), .ref (a 10), .ref (a 11), .long det, .long h])), (a 1, kI (Y.2 0) 50 now), (a 2, kI (Y.2 0) 250 sav), (a 3, kI (Y.2 0) 6 err), (a 4, kI (Y.2 0) 24 shf), (a 5, kI (Y.2 0) 6534 stp), (a 6, kI (Y.2 0) 6534 que), (a 7, kI (Y.2 0) 6 qx), (a 8, kI (Y.2 0) 6 qy), (a 9, kI (Y.2 2) 6 met), (a 10, kI (Y.2 0) 24 per), (a 11, kL (Y.2 1) 56 row)]
theorem gT_f {xa ra : Nat} {ga da : Nat → Nat} {va : Nat} {ea sa ca pa : Nat → Nat} {x y : Int32} : (gT xa ra ga da va ea sa ca pa x).map Prod.fst = (gT xa ra ga da va ea sa ca pa y).map Prod.fst := rfl
theorem gR_f {Y : KY} {ra : Nat} {x y : Nat → Int32} : (gR Y ra x).map Prod.fst = (gR Y ra y).map Prod.fst := rfl
theorem gA_f {Y : KY} {va : Nat} {vg x y : Nat → Nat} : (gA Y va vg x).map Prod.fst = (gA Y va vg y).map Prod.fst := rfl
theorem gG_f {Y : KY} {a : Nat → Nat} {x0 y0 : Int32} {x1 y1 : Int32} {x2 y2 : Nat → Int32} {x3 y3 : Nat → Int32} {x4 y4 : Nat → Int32} {x5 y5 : Nat → Int32} : (gG Y a x0 x1 x2 x3 x4 x5).map Prod.fst = (gG Y a y0 y1 y2 y3 y4 y5).map Prod.fst := rfl
theorem gS_f {Y : KY} {a : Nat → Nat} {x0 y0 : Int32} {x1 y1 : Int32} {x2 y2 : Nat → Int32} {x3 y3 : Nat → Int32} : (gS Y a x0 x1 x2 x3).map Prod.fst = (gS Y a y0 y1 y2 y3).map Prod.fst := rfl
theorem gC_f {Y : KY} {a : Nat → Nat} {x0 y0 : Nat → Int32} {x1 y1 : Nat → Int32} {x2 y2 : Nat → Int32} {x3 y3 : Nat → Int32} {x4 y4 : Nat → Int32} {x5 y5 : Int32} : (gC Y a x0 x1 x2 x3 x4 x5).map Prod.fst = (gC Y a y0 y1 y2 y3 y4 y5).map Prod.fst := rfl
theorem gE_f {Y : KY} {a r : Nat → Nat} {x0 y0 : Nat → Int32} {x1 y1 : Nat → Nat → Int32} : (gE Y a r x0 x1).map Prod.fst = (gE Y a r y0 y1).map Prod.fst := rfl
theorem gP_f {Y : KY} {a r : Nat → Nat} {x0 y0 : Nat → Nat → Int64} {x1 y1 : Int32} {x2 y2 : Int64} : (gP Y a r x0 x1 x2).map Prod.fst = (gP Y a r y0 y1 y2).map Prod.fst := rfl
theorem gM_f {Y : KY} {a : Nat → Nat} {x0 y0 : Nat → Int32} {x1 y1 : Nat → Int32} {x2 y2 : Int32} {x3 y3 : Nat → Int32} {x4 y4 : Nat → Int32} {x5 y5 : Nat → Int32} {x6 y6 : Nat → Int32} {x7 y7 : Int32} {x8 y8 : Nat → Int32} {x9 y9 : Nat → Int32} {x10 y10 : Nat → Int32} {x11 y11 : Nat → Int32} {x12 y12 : Nat → Int64} {x13 y13 : Int64} {x14 y14 : Int64} : (gM Y a x0 x1 x2 x3 x4 x5 x6 x7 x8 x9 x10 x11 x12 x13 x14).map Prod.fst = (gM Y a y0 y1 y2 y3 y4 y5 y6 y7 y8 y9 y10 y11 y12 y13 y14).map Prod.fst := rfl
theorem kj5 {j : Nat} (h : j < 5) : j = 0 ∨ j = 1 ∨ j = 2 ∨ j = 3 ∨ j = 4 := by omega
theorem gV_up {vg pi : Nat → Nat} {k j : Nat} : va_up (fun i => some (vg (5 * pi i))) k (some (vg (5 * j))) = fun i => some (vg (5 * va_up pi k j i)) := by
  funext i
  simp only [va_up]
  split <;> rfl
theorem gE_row {Y : KY} {a r : Nat → Nat} {cn : Nat → Int32} {M : Nat → Nat → Int32} {rest : List va_W} {k : Nat} (h : k < 18) : (kfl (gE Y a r cn M :: rest))[5 + k]? = some (r k, kI (Y.2 0) 24 (M k)) := by
  match k, h with
  | 0, _ => rfl
  | 1, _ => rfl
  | 2, _ => rfl
  | 3, _ => rfl
  | 4, _ => rfl
  | 5, _ => rfl
  | 6, _ => rfl
  | 7, _ => rfl
  | 8, _ => rfl
  | 9, _ => rfl
  | 10, _ => rfl
  | 11, _ => rfl
  | 12, _ => rfl
  | 13, _ => rfl
  | 14, _ => rfl
  | 15, _ => rfl
  | 16, _ => rfl
  | 17, _ => rfl
  | _ + 18, h => exact absurd h (by omega)
theorem gE_set {Y : KY} {a r : Nat → Nat} {cn : Nat → Int32} {M : Nat → Nat → Int32} {rest : List va_W} {k : Nat} {v : Nat → Int32} (h : k < 18) : (kfl (gE Y a r cn M :: rest)).set (5 + k) (r k, kI (Y.2 0) 24 v) = kfl (gE Y a r cn (va_up M k v) :: rest) := by
  match k, h with
  | 0, _ => rfl
  | 1, _ => rfl
  | 2, _ => rfl
  | 3, _ => rfl
  | 4, _ => rfl
  | 5, _ => rfl
  | 6, _ => rfl
  | 7, _ => rfl
  | 8, _ => rfl
  | 9, _ => rfl
  | 10, _ => rfl
  | 11, _ => rfl
  | 12, _ => rfl
  | 13, _ => rfl
  | 14, _ => rfl
  | 15, _ => rfl
  | 16, _ => rfl
  | 17, _ => rfl
  | _ + 18, h => exact absurd h (by omega)
theorem gP_row {Y : KY} {a r : Nat → Nat} {R : Nat → Nat → Int64} {un : Int32} {sc : Int64} {rest : List va_W} {k : Nat} (h : k < 5) : (kfl (gP Y a r R un sc :: rest))[2 + k]? = some (r k, kL (Y.2 1) 7 (R k)) := by
  match k, h with
  | 0, _ => rfl
  | 1, _ => rfl
  | 2, _ => rfl
  | 3, _ => rfl
  | 4, _ => rfl
  | _ + 5, h => exact absurd h (by omega)
theorem gP_set {Y : KY} {a r : Nat → Nat} {R : Nat → Nat → Int64} {un : Int32} {sc : Int64} {rest : List va_W} {k : Nat} {v : Nat → Int64} (h : k < 5) : (kfl (gP Y a r R un sc :: rest)).set (2 + k) (r k, kL (Y.2 1) 7 v) = kfl (gP Y a r (va_up R k v) un sc :: rest) := by
  match k, h with
  | 0, _ => rfl
  | 1, _ => rfl
  | 2, _ => rfl
  | 3, _ => rfl
  | 4, _ => rfl
  | _ + 5, h => exact absurd h (by omega)
theorem kcb_m16 : (Int8.ofInt (-16)).toInt32 = (-16 : Int32) := by decide
theorem kcb_m2 : (Int8.ofInt (-2)).toInt32 = (-2 : Int32) := by decide
theorem kcb_m3 : (Int8.ofInt (-3)).toInt32 = (-3 : Int32) := by decide
theorem kcb_m4 : (Int8.ofInt (-4)).toInt32 = (-4 : Int32) := by decide
theorem kcb_m5 : (Int8.ofInt (-5)).toInt32 = (-5 : Int32) := by decide
theorem kcb_m6 : (Int8.ofInt (-6)).toInt32 = (-6 : Int32) := by decide
theorem kcb_m7 : (Int8.ofInt (-7)).toInt32 = (-7 : Int32) := by decide
theorem kcb_m8 : (Int8.ofInt (-8)).toInt32 = (-8 : Int32) := by decide
theorem kcb_10 : (Int8.ofInt (10)).toInt32 = (10 : Int32) := by decide
theorem kcb_100 : (Int8.ofInt (100)).toInt32 = (100 : Int32) := by decide
theorem kcb_12 : (Int8.ofInt (12)).toInt32 = (12 : Int32) := by decide
theorem kcb_127 : (Int8.ofInt (127)).toInt32 = (127 : Int32) := by decide
theorem kcb_16 : (Int8.ofInt (16)).toInt32 = (16 : Int32) := by decide
theorem kcb_23 : (Int8.ofInt (23)).toInt32 = (23 : Int32) := by decide
theorem kcb_24 : (Int8.ofInt (24)).toInt32 = (24 : Int32) := by decide
theorem kcb_33 : (Int8.ofInt (33)).toInt32 = (33 : Int32) := by decide
theorem kcb_50 : (Int8.ofInt (50)).toInt32 = (50 : Int32) := by decide
theorem kcb_56 : (Int8.ofInt (56)).toInt32 = (56 : Int32) := by decide
theorem kcb_6 : (Int8.ofInt (6)).toInt32 = (6 : Int32) := by decide
theorem kcb_7 : (Int8.ofInt (7)).toInt32 = (7 : Int32) := by decide
theorem kcb_8 : (Int8.ofInt (8)).toInt32 = (8 : Int32) := by decide
theorem kci_m1 : Int32.ofInt (-1) = (-1 : Int32) := by decide
theorem kci_0 : Int32.ofInt (0) = (0 : Int32) := by decide
theorem kci_1 : Int32.ofInt (1) = (1 : Int32) := by decide
theorem kci_2 : Int32.ofInt (2) = (2 : Int32) := by decide
theorem kci_3 : Int32.ofInt (3) = (3 : Int32) := by decide
theorem kci_4 : Int32.ofInt (4) = (4 : Int32) := by decide
theorem kci_5 : Int32.ofInt (5) = (5 : Int32) := by decide
theorem kcs_1089 : (Int16.ofInt (1089)).toInt32 = (1089 : Int32) := by decide
theorem kcs_200 : (Int16.ofInt (200)).toInt32 = (200 : Int32) := by decide
theorem kcs_250 : (Int16.ofInt (250)).toInt32 = (250 : Int32) := by decide
theorem kcs_254 : (Int16.ofInt (254)).toInt32 = (254 : Int32) := by decide
theorem kcs_6534 : (Int16.ofInt (6534)).toInt32 = (6534 : Int32) := by decide
theorem kcl_0 : Int64.ofNat ((0 : Fin 2) : Nat) = (0 : Int64) := by decide
theorem kcl_1 : Int64.ofNat ((1 : Fin 2) : Nat) = (1 : Int64) := by decide
theorem kinc_m1 (x : Int32) : x + Int32.ofInt (-1) = x + (-1) := rfl
theorem kinc_1 (x : Int32) : x + Int32.ofInt (1) = x + 1 := rfl
def kzb (r : Int32) : Bool := decide (r = 0 ∨ r = 1)
theorem kzb_nar {r : Int32} (h : kzb r = true) : narrow .boolean (.int r) = .int r := by
  rcases of_decide_eq_true h with h | h <;> (rw [h]; rfl)
section KNS
variable {X : KX} {Y : KY} {cc : ByteArray} {nL : Nat} {own : String} {Ts : List Cond} {rm : Room} {A : Nat → Prop}
theorem kn0 (hX : KOk X Y cc nL own Ts rm A) : va_Nw (.methodLinkNest RX2 47 yX5_isShift RX5) (kx_s X) := hX.2.2.2.2.2.1.2.1
theorem kn1 (hX : KOk X Y cc nL own Ts rm A) : va_Nw (.methodLinkNest RX0 67 yX5_greatestDivisor RX5) (kx_s X) := hX.2.2.2.2.2.1.2.2.1
theorem kn2 (hX : KOk X Y cc nL own Ts rm A) : va_Nw (.methodLinkNest RX3 68 yX5_greatestDivisor RX5) (kx_s X) := hX.2.2.2.2.2.1.2.2.2
end KNS
theorem kw_tab0_2 (x : Int32) (h0 : ¬ x = 0) (h1 : ¬ x = 1) (h2 : ¬ x = 2) : x.toInt < 0 ∨ 2 < x.toInt := by
  by_cases a : x.toInt < 0
  · exact Or.inl a
  · by_cases b : 2 < x.toInt
    · exact Or.inr b
    · exfalso
      have : x.toInt = 0 ∨ x.toInt = 1 ∨ x.toInt = 2 := by omega
      rcases this with h | h | h
      · exact h0 (Int32.toInt_inj.mp (by rw [h]; rfl))
      · exact h1 (Int32.toInt_inj.mp (by rw [h]; rfl))
      · exact h2 (Int32.toInt_inj.mp (by rw [h]; rfl))
