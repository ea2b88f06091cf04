-- BittenBoards.isWithin (P)
def xf_C_isWithin (a0 : Int32) (a1 : Int32) (a2 : Int32) : Option Int32 :=
  (if a0 < a1 then (gd ((0 : Int32) = 0 ∨ (0 : Int32) = 1) <| some (0 : Int32)) else ((if a2 < a0 then (gd ((0 : Int32) = 0 ∨ (0 : Int32) = 1) <| some (0 : Int32)) else (gd ((1 : Int32) = 0 ∨ (1 : Int32) = 1) <| some (1 : Int32)))))
-- BittenBoards.nextGame (R)
def xf_C_nextGame (w : xW) : Option (Option Nat) :=
  (if (w.1 0) < 0 then (some none) else ((if (6 : Int32) ≤ (w.1 0) then (some none) else (gi (w.1 0) 6 <| nm (w.1 0).toNatClampNeg fun g_27 => some (some g_27)))))
-- BittenBoards$Game.restart (W)
def xf_G_restart (g : Nat) (w : xW) : Option xW :=
  nm (xG w 3 g (w.2.2.1 2 g)) fun w_5 => nm (xG w_5 4 g (0 : Int32)) fun w_10 => some w_10
-- BittenBoards$Game.begin (W)
def xf_G_begin (g : Nat) (a1 : Int32) (a2 : Int32) (w : xW) : Option xW :=
  nm (xG w 0 g a1) fun w_2 => nm (xG w_2 1 g a2) fun w_7 => nm (xG w_7 2 g (0 : Int32)) fun w_12 => gd ((0 : Int32) = 0 ∨ (0 : Int32) = 1) <| nm (xG w_12 5 g (0 : Int32)) fun w_17 => bn (xf_G_restart g w_17) fun w_21 => some w_21
-- BittenBoards.at (R)
def xf_C_at (na : Nat) (fa : Nat → Int32) (a1 : Int32) (w : xW) : Option Int32 :=
  (if a1 < 0 then (some (0 : Int32)) else ((if (Int32.ofNat na) ≤ a1 then (some (0 : Int32)) else (gi a1 na <| some (fa a1.toNatClampNeg)))))
-- BittenBoards$Boards.rankOfLines (R)
def xf_B_rankOfLines_C4 (w : xW) : Nat → Int32 → Int32 → Option Int32
  | 0, _, _ => none
  | n + 1, x1, x2 =>
    (if (7 : Int32) ≤ x2 then (some x1) else (gi x2 7 <| bn (xf_C_at 64 (w.2.1 4) (((8 : Int32) * x2) + ((w.2.1 5) x2.toNatClampNeg)) w) fun r_29 => nm (x1 + r_29) fun x1_33 => nm (x2 + (1 : Int32)) fun x2_34 => xf_B_rankOfLines_C4 w n x1_33 x2_34))
def xf_B_rankOfLines (w : xW) : Option Int32 :=
  xf_B_rankOfLines_C4 w fu (0 : Int32) (0 : Int32)
-- BittenBoards$Boards.rankOfBlock (W)
def xf_B_rankOfBlock_C26 (K2 : Int32 → Int32 → Int32 → xW → Option (Int32 × xW)) (x1 : Int32) (x2 : Int32) (x3 : Int32) (t1 : Int32) (t2 : Int32) (w : xW) : Option (Int32 × xW) :=
  gi t1 7 <| nm (xU w 5 (t1.toNatClampNeg) t2) fun w_26 => nm (x3 + (1 : Int32)) fun x3_27 => K2 x1 x2 x3_27 w_26
def xf_B_rankOfBlock_C2 : Nat → Int32 → Int32 → Int32 → xW → Option (Int32 × xW)
  | 0, _, _, _, _ => none
  | n + 1, x1, x2, x3, w =>
    (if (7 : Int32) ≤ x3 then (bn (xf_B_rankOfLines w) fun r_34 => some (r_34, w)) else ((if x1 ≤ x3 then (xf_B_rankOfBlock_C26 (xf_B_rankOfBlock_C2 n) x1 x2 x3 x3 (0 : Int32) w) else (xf_B_rankOfBlock_C26 (xf_B_rankOfBlock_C2 n) x1 x2 x3 x3 x2 w))))
def xf_B_rankOfBlock (a1 : Int32) (a2 : Int32) (w : xW) : Option (Int32 × xW) :=
  xf_B_rankOfBlock_C2 fu a1 a2 (0 : Int32) w
-- BittenBoards$Game.putBoard (W)
def xf_G_putBoard (g : Nat) (a1 : Int32) (w : xW) : Option xW :=
  nm (xG w 3 g a1) fun w_2 => nm (xG w_2 4 g (0 : Int32)) fun w_7 => some w_7
-- BittenBoards.rows (W)
def xf_C_rows (a1 : Int32) (a2 : Int32) (a3 : Int32) (w : xW) : Option (Int32 × xW) :=
  bn (xf_C_isWithin a1 (1 : Int32) (7 : Int32)) fun r_4 => (if r_4 = 0 then (some ((-1002 : Int32), w)) else (bn (xf_C_isWithin a2 (1 : Int32) (7 : Int32)) fun r_14 => (if r_14 = 0 then (some ((-1002 : Int32), w)) else (bn (xf_C_isWithin a3 (0 : Int32) (1 : Int32)) fun r_23 => (if r_23 = 0 then (some ((-1002 : Int32), w)) else (bn (xf_C_nextGame w) fun r_34 => onO r_34 (some ((-1004 : Int32), w)) fun g_34 => gd (g_34 < 6) <| bn (xf_G_begin g_34 (0 : Int32) a3 w) fun w_52 => bn2 (xf_B_rankOfBlock a1 a2 w_52) fun r_63 w_63 => bn (xf_G_putBoard g_34 r_63 w_63) fun w_66 => nm (xS w_66 0 ((w_66.1 0) + (1 : Int32))) fun w_77 => some ((w_66.1 0), w_77)))))))
-- BittenBoards.beginEmpty (W)
def xf_C_beginEmpty (a1 : Int32) (a2 : Int32) (w : xW) : Option (Int32 × xW) :=
  bn (xf_C_isWithin a2 (0 : Int32) (1 : Int32)) fun r_3 => (if r_3 = 0 then (some ((-1002 : Int32), w)) else (bn (xf_C_nextGame w) fun r_14 => onO r_14 (some ((-1004 : Int32), w)) fun g_14 => gd (g_14 < 6) <| bn (xf_G_begin g_14 a1 a2 w) fun w_29 => nm (xS w_29 0 ((w_29.1 0) + (1 : Int32))) fun w_40 => some ((w_29.1 0), w_40)))
-- BittenBoards.order (W)
def xf_C_order (a1 : Int32) (w : xW) : Option (Int32 × xW) :=
  bn2 (xf_C_beginEmpty (1 : Int32) a1 w) fun r_3 w_3 => some (r_3, w_3)
-- BittenBoards.listDivisors (W)
def xf_C_listDivisors_C4 : Nat → Int32 → Int32 → Int32 → xW → Option (Int32 × xW)
  | 0, _, _, _, _ => none
  | n + 1, x1, x2, x3, w =>
    (if x1 < x3 then (some (x2, w)) else ((if (10000 : Int32) < x3 then (some (x2, w)) else (gd (¬ x3 = 0) <| (if (x1 - x1 / x3 * x3) = 0 then ((if (12 : Int32) ≤ x2 then (nm (x2 + (1 : Int32)) fun x2_38 => nm (x3 + (1 : Int32)) fun x3_41 => xf_C_listDivisors_C4 n x1 x2_38 x3_41 w) else (gi x2 12 <| nm (xU w 2 (x2.toNatClampNeg) x3) fun w_37 => nm (x2 + (1 : Int32)) fun x2_38 => nm (x3 + (1 : Int32)) fun x3_41 => xf_C_listDivisors_C4 n x1 x2_38 x3_41 w_37))) else (nm (x3 + (1 : Int32)) fun x3_41 => xf_C_listDivisors_C4 n x1 x2 x3_41 w))))))
def xf_C_listDivisors (a1 : Int32) (w : xW) : Option (Int32 × xW) :=
  xf_C_listDivisors_C4 fu a1 (0 : Int32) (1 : Int32) w
-- BittenBoards$Game.addPart (W)
def xf_G_addPart (g : Nat) (a1 : Int32) (w : xW) : Option xW :=
  (if a1 < 0 then (some w) else ((if (15 : Int32) ≤ a1 then (some w) else (gi a1 15 <| nm (xV w 0 g (a1.toNatClampNeg) ((1 : Int32) <<< (a1 &&& 31))) fun w_21 => nm (xG w_21 2 g ((w_21.2.2.1 2 g) ||| ((1 : Int32) <<< (a1 &&& 31)))) fun w_31 => gd ((0 : Int32) = 0 ∨ (0 : Int32) = 1) <| nm (xG w_31 5 g (0 : Int32)) fun w_36 => bn (xf_G_restart g w_36) fun w_40 => some w_40))))
-- BittenBoards$Game.takesAlong (R)
def xf_G_takesAlong (g : Nat) (a1 : Int32) (a2 : Int32) (w : xW) : Option Int32 :=
  bn (xf_C_at 15 (w.2.2.2.1 0 g) a1 w) fun r_5 => (if ((r_5 >>> (a2 &&& 31)) &&& (1 : Int32)) = 0 then (gd ((0 : Int32) = 0 ∨ (0 : Int32) = 1) <| some (0 : Int32)) else (gd ((1 : Int32) = 0 ∨ (1 : Int32) = 1) <| some (1 : Int32)))
-- java/lang/Integer.bitCount (P)
def xf_J_bitCount (a0 : Int32) : Option Int32 :=
  nm (a0 - (((a0.toUInt32 >>> ((1 : Int32).toUInt32 &&& Int32.toUInt32 31)).toInt32) &&& (1431655765 : Int32))) fun x0_9 => nm ((x0_9 &&& (858993459 : Int32)) + (((x0_9.toUInt32 >>> ((2 : Int32).toUInt32 &&& Int32.toUInt32 31)).toInt32) &&& (858993459 : Int32))) fun x0_23 => nm ((x0_23 + ((x0_23.toUInt32 >>> ((4 : Int32).toUInt32 &&& Int32.toUInt32 31)).toInt32)) &&& (252645135 : Int32)) fun x0_33 => nm (x0_33 + ((x0_33.toUInt32 >>> ((8 : Int32).toUInt32 &&& Int32.toUInt32 31)).toInt32)) fun x0_40 => nm (x0_40 + ((x0_40.toUInt32 >>> ((16 : Int32).toUInt32 &&& Int32.toUInt32 31)).toInt32)) fun x0_47 => some (x0_47 &&& (63 : Int32))
-- BittenBoards$Game.countThings (R)
def xf_G_countThings (g : Nat) (w : xW) : Option Int32 :=
  bn (xf_J_bitCount (w.2.2.1 2 g)) fun r_4 => some r_4
-- BittenBoards$Game.hasThing (R)
def xf_G_hasThing (g : Nat) (a1 : Int32) (w : xW) : Option Int32 :=
  (if a1 < 0 then (gd ((0 : Int32) = 0 ∨ (0 : Int32) = 1) <| some (0 : Int32)) else (bn (xf_G_countThings g w) fun r_6 => (if r_6 ≤ a1 then (gd ((0 : Int32) = 0 ∨ (0 : Int32) = 1) <| some (0 : Int32)) else (gd ((1 : Int32) = 0 ∨ (1 : Int32) = 1) <| some (1 : Int32)))))
-- BittenBoards$Game.takeAlong (W)
def xf_G_takeAlong (g : Nat) (a1 : Int32) (a2 : Int32) (w : xW) : Option xW :=
  (if a1 < 0 then (some w) else ((if (15 : Int32) ≤ a1 then (some w) else (gi a1 15 <| gi a1 15 <| nm (xV w 0 g (a1.toNatClampNeg) (((w.2.2.2.1 0 g) a1.toNatClampNeg) ||| a2)) fun w_22 => some w_22))))
-- BittenBoards$Game.putBelow (W)
def xf_G_putBelow_C65 (g : Nat) (w : xW) : Option xW :=
  bn (xf_G_restart g w) fun w_66 => some w_66
def xf_G_putBelow_C21 (g : Nat) : Nat → Int32 → Int32 → Int32 → xW → Option xW
  | 0, _, _, _, _ => none
  | n + 1, x1, x3, x4, w =>
    (if (12 : Int32) ≤ x4 then (gd ((0 : Int32) = 0 ∨ (0 : Int32) = 1) <| nm (xG w 5 g (0 : Int32)) fun w_62 => xf_G_putBelow_C65 g w_62) else (bn (xf_G_hasThing g x4 w) fun r_31 => (if r_31 = 0 then (nm (x4 + (1 : Int32)) fun x4_54 => xf_G_putBelow_C21 g n x1 x3 x4_54 w) else (bn (xf_G_takesAlong g x4 x1 w) fun r_41 => (if r_41 = 0 then (nm (x4 + (1 : Int32)) fun x4_54 => xf_G_putBelow_C21 g n x1 x3 x4_54 w) else (bn (xf_G_takeAlong g x4 x3 w) fun w_51 => nm (x4 + (1 : Int32)) fun x4_54 => xf_G_putBelow_C21 g n x1 x3 x4_54 w_51))))))
def xf_G_putBelow (g : Nat) (a1 : Int32) (a2 : Int32) (w : xW) : Option xW :=
  bn (xf_C_at 15 (w.2.2.2.1 0 g) a2 w) fun r_5 => bn (xf_G_takesAlong g a1 a2 w) fun r_12 => (if r_12 = 0 then (xf_G_putBelow_C21 g fu a1 r_5 (0 : Int32) w) else (xf_G_putBelow_C65 g w))
-- BittenBoards$Game.putMultiples (W)
def xf_G_putMultiples_C30 (g : Nat) (K20 : Int32 → Int32 → xW → Option xW) : Nat → Int32 → Int32 → Int32 → xW → Option xW
  | 0, _, _, _, _ => none
  | n + 1, x2, x3, x4, w =>
    (if x2 ≤ x4 then (nm (x3 + (1 : Int32)) fun x3_73 => K20 x2 x3_73 w) else (bn (xf_C_at 12 (w.2.1 2) x3 w) fun r_38 => (if r_38 ≤ 0 then (nm (x4 + (1 : Int32)) fun x4_67 => xf_G_putMultiples_C30 g K20 n x2 x3 x4_67 w) else (bn (xf_C_at 12 (w.2.1 2) x4 w) fun r_51 => gd (¬ r_38 = 0) <| (if (r_51 - r_51 / r_38 * r_38) = 0 then (bn (xf_G_putBelow g x3 x4 w) fun w_64 => nm (x4 + (1 : Int32)) fun x4_67 => xf_G_putMultiples_C30 g K20 n x2 x3 x4_67 w_64) else (nm (x4 + (1 : Int32)) fun x4_67 => xf_G_putMultiples_C30 g K20 n x2 x3 x4_67 w))))))
def xf_G_putMultiples_C20 (g : Nat) : Nat → Int32 → Int32 → xW → Option xW
  | 0, _, _, _ => none
  | n + 1, x2, x3, w =>
    (if x2 ≤ x3 then (some w) else (nm (x3 + (1 : Int32)) fun x4_28 => xf_G_putMultiples_C30 g (xf_G_putMultiples_C20 g n) fu x2 x3 x4_28 w))
def xf_G_putMultiples_C2 (g : Nat) : Nat → Int32 → Int32 → xW → Option xW
  | 0, _, _, _ => none
  | n + 1, x2, x3, w =>
    (if x2 ≤ x3 then (xf_G_putMultiples_C20 g fu x2 (0 : Int32) w) else (bn (xf_G_addPart g x3 w) fun w_9 => nm (x3 + (1 : Int32)) fun x3_12 => xf_G_putMultiples_C2 g n x2 x3_12 w_9))
def xf_G_putMultiples (g : Nat) (a2 : Int32) (w : xW) : Option xW :=
  xf_G_putMultiples_C2 g fu a2 (0 : Int32) w
-- BittenBoards.divisors (W)
def xf_C_divisors (a1 : Int32) (a2 : Int32) (w : xW) : Option (Int32 × xW) :=
  bn (xf_C_isWithin a1 (1 : Int32) (10000 : Int32)) fun r_5 => (if r_5 = 0 then (some ((-1002 : Int32), w)) else (bn (xf_C_isWithin a2 (0 : Int32) (1 : Int32)) fun r_14 => (if r_14 = 0 then (some ((-1002 : Int32), w)) else (bn2 (xf_C_listDivisors a1 w) fun r_26 w_26 => (if r_26 ≤ (12 : Int32) then (bn (xf_C_nextGame w_26) fun r_41 => onO r_41 (some ((-1004 : Int32), w_26)) fun g_41 => gd (g_41 < 6) <| bn (xf_G_begin g_41 (1 : Int32) a2 w_26) fun w_59 => bn (xf_G_putMultiples g_41 r_26 w_59) fun w_69 => nm (xS w_69 0 ((w_69.1 0) + (1 : Int32))) fun w_80 => some ((w_69.1 0), w_80)) else (some ((-1002 : Int32), w_26)))))))
-- BittenBoards.net (W)
def xf_C_net (a1 : Int32) (w : xW) : Option (Int32 × xW) :=
  bn2 (xf_C_beginEmpty (2 : Int32) a1 w) fun r_3 w_3 => some (r_3, w_3)
-- BittenBoards.clear (W)
def xf_C_clear (w : xW) : Option (Int32 × xW) :=
  nm (w.1 0) fun x1_4 => nm (xS w 0 (0 : Int32)) fun w_7 => some (x1_4, w_7)
-- BittenBoards.gameAt (R)
def xf_C_gameAt (a1 : Int32) (w : xW) : Option (Option Nat) :=
  (if a1 < 0 then (some none) else ((if (w.1 0) ≤ a1 then (some none) else ((if (6 : Int32) ≤ a1 then (some none) else (gi a1 6 <| nm a1.toNatClampNeg fun g_26 => some (some g_26)))))))
-- BittenBoards.gameOf (R)
def xf_C_gameOf (a1 : Int32) (a2 : Int32) (w : xW) : Option (Option Nat) :=
  bn (xf_C_gameAt a1 w) fun r_2 => onO r_2 (some none) fun g_2 => gd (g_2 < 6) <| (if (w.2.2.1 0 g_2) = a2 then (some (some g_2)) else (some none))
-- BittenBoards$Boards.lookAt (W)
def xf_B_lookAt_C46 (K4 : Int32 → Int32 → xW → Option xW) (x2 : Int32) (x3 : Int32) (x4 : Int32) (w : xW) : Option xW :=
  gi x3 7 <| nm (xU w 5 (x3.toNatClampNeg) x4) fun w_53 => bn (xf_C_at 64 (w_53.2.1 4) (((8 : Int32) * x3) + x4) w_53) fun r_66 => nm (x2 - r_66) fun x2_70 => nm (x3 + (1 : Int32)) fun x3_71 => K4 x2_70 x3_71 w_53
def xf_B_lookAt_C17 (K4 : Int32 → Int32 → xW → Option xW) : Nat → Int32 → Int32 → Int32 → xW → Option xW
  | 0, _, _, _, _ => none
  | n + 1, x2, x3, x4, w =>
    (if x4 ≤ 0 then (xf_B_lookAt_C46 K4 x2 x3 x4 w) else (bn (xf_C_at 64 (w.2.1 4) (((8 : Int32) * x3) + x4) w) fun r_33 => (if r_33 ≤ x2 then (xf_B_lookAt_C46 K4 x2 x3 x4 w) else (nm (x4 + (-1 : Int32)) fun x4_40 => xf_B_lookAt_C17 K4 n x2 x3 x4_40 w))))
def xf_B_lookAt_C4 : Nat → Int32 → Int32 → xW → Option xW
  | 0, _, _, _ => none
  | n + 1, x2, x3, w =>
    (if (7 : Int32) ≤ x3 then (some w) else (xf_B_lookAt_C17 (xf_B_lookAt_C4 n) fu x2 x3 (7 : Int32) w))
def xf_B_lookAt (a1 : Int32) (w : xW) : Option xW :=
  xf_B_lookAt_C4 fu a1 (0 : Int32) w
-- BittenBoards$Boards.rowOf (W)
def xf_B_rowOf (a1 : Int32) (a2 : Int32) (w : xW) : Option (Int32 × xW) :=
  bn (xf_B_lookAt a1 w) fun w_2 => bn (xf_C_at 7 (w_2.2.1 5) a2 w_2) fun r_10 => some (r_10, w_2)
-- BittenBoards$Boards.rankWithRow (W)
def xf_B_rankWithRow_C8 : Nat → Int32 → Int32 → Int32 → xW → Option (Int32 × xW)
  | 0, _, _, _, _ => none
  | n + 1, x2, x3, x4, w =>
    (if (7 : Int32) ≤ x4 then (bn (xf_B_rankOfLines w) fun r_66 => some (r_66, w)) else ((if x4 = x2 then (gi x4 7 <| nm (xU w 5 (x4.toNatClampNeg) x3) fun w_31 => nm (x4 + (1 : Int32)) fun x4_59 => xf_B_rankWithRow_C8 n x2 x3 x4_59 w_31) else ((if x4 ≤ x2 then (nm (x4 + (1 : Int32)) fun x4_59 => xf_B_rankWithRow_C8 n x2 x3 x4_59 w) else (gi x4 7 <| nm (imin ((w.2.1 5) x4.toNatClampNeg) x3) fun r_55 => gi x4 7 <| nm (xU w 5 (x4.toNatClampNeg) r_55) fun w_58 => nm (x4 + (1 : Int32)) fun x4_59 => xf_B_rankWithRow_C8 n x2 x3 x4_59 w_58))))))
def xf_B_rankWithRow (a1 : Int32) (a2 : Int32) (a3 : Int32) (w : xW) : Option (Int32 × xW) :=
  bn (xf_B_lookAt a1 w) fun w_2 => xf_B_rankWithRow_C8 fu a2 a3 (0 : Int32) w_2
-- BittenBoards$Boards.countSquares (W)
def xf_B_countSquares_C19 : Nat → Int32 → Int32 → Int32 → xW → Option (Int32 × xW)
  | 0, _, _, _, _ => none
  | n + 1, x2, x4, x5, w =>
    (if x4 ≤ x5 then (some (x2, w)) else (gi x5 7 <| nm ((w.2.1 5) x5.toNatClampNeg) fun x6_30 => nm (x2 + x6_30) fun x2_36 => nm (x5 + (1 : Int32)) fun x5_37 => xf_B_countSquares_C19 n x2_36 x4 x5_37 w))
def xf_B_countSquares (a1 : Int32) (w : xW) : Option (Int32 × xW) :=
  bn (xf_B_lookAt a1 w) fun w_2 => xf_B_countSquares_C19 fu (0 : Int32) (7 : Int32) (0 : Int32) w_2
-- BittenBoards$Game.countBites (W)
def xf_G_countBites (g : Nat) (w : xW) : Option (Int32 × xW) :=
  (if (w.2.2.1 0 g) = 0 then (bn2 (xf_B_countSquares (w.2.2.1 3 g) w) fun r_15 w_15 => some (r_15, w_15)) else (bn (xf_J_bitCount (w.2.2.1 3 g)) fun r_25 => some (r_25, w)))
-- BittenBoards.row (W)
def xf_C_row_C68 (x2 : Int32) (x3 : Int32) (g4 : Nat) (w : xW) : Option (Int32 × xW) :=
  gd (g4 < 6) <| bn2 (xf_B_rankWithRow (w.2.2.1 3 g4) x2 x3 w) fun r_81 w_81 => bn (xf_G_putBoard g4 r_81 w_81) fun w_84 => bn2 (xf_G_countBites g4 w_84) fun r_89 w_89 => some (r_89, w_89)
def xf_C_row (a1 : Int32) (a2 : Int32) (a3 : Int32) (w : xW) : Option (Int32 × xW) :=
  bn (xf_C_gameOf a1 (0 : Int32) w) fun r_3 => onO r_3 (some ((-1001 : Int32), w)) fun g_3 => gd (g_3 < 6) <| bn (xf_C_isWithin a2 (0 : Int32) (6 : Int32)) fun r_21 => (if r_21 = 0 then (some ((-1002 : Int32), w)) else (bn (xf_C_isWithin a3 (0 : Int32) (7 : Int32)) fun r_31 => (if r_31 = 0 then (some ((-1002 : Int32), w)) else ((if a2 ≤ 0 then (xf_C_row_C68 a2 a3 g_3 w) else (bn2 (xf_B_rowOf (w.2.2.1 3 g_3) (a2 - (1 : Int32)) w) fun r_58 w_58 => (if a3 ≤ r_58 then (xf_C_row_C68 a2 a3 g_3 w_58) else (some ((-1003 : Int32), w_58)))))))))
-- BittenBoards.thing (W)
def xf_C_thing (a1 : Int32) (w : xW) : Option (Int32 × xW) :=
  bn (xf_C_gameOf a1 (1 : Int32) w) fun r_3 => onO r_3 (some ((-1001 : Int32), w)) fun g_3 => gd (g_3 < 6) <| bn (xf_G_countThings g_3 w) fun r_16 => (if r_16 < (12 : Int32) then (bn (xf_G_addPart g_3 r_16 w) fun w_32 => some (r_16, w_32)) else (some ((-1004 : Int32), w)))
-- BittenBoards$Game.countPairs (R)
def xf_G_countPairs_C4 (g : Nat) (w : xW) : Nat → Int32 → Int32 → Option Int32
  | 0, _, _ => none
  | n + 1, x1, x2 =>
    bn (xf_G_countThings g w) fun r_6 => (if r_6 ≤ x2 then (some x1) else (bn (xf_C_at 15 (w.2.2.2.1 0 g) x2 w) fun r_18 => bn (xf_J_bitCount r_18) fun r_21 => nm (x1 + (r_21 - (1 : Int32))) fun x1_27 => nm (x2 + (1 : Int32)) fun x2_28 => xf_G_countPairs_C4 g w n x1_27 x2_28))
def xf_G_countPairs (g : Nat) (w : xW) : Option Int32 :=
  xf_G_countPairs_C4 g w fu (0 : Int32) (0 : Int32)
-- BittenBoards.below (W)
def xf_C_below (a1 : Int32) (a2 : Int32) (a3 : Int32) (w : xW) : Option (Int32 × xW) :=
  bn (xf_C_gameOf a1 (1 : Int32) w) fun r_3 => onO r_3 (some ((-1001 : Int32), w)) fun g_3 => gd (g_3 < 6) <| bn (xf_G_hasThing g_3 a2 w) fun r_16 => (if r_16 = 0 then (some ((-1001 : Int32), w)) else (bn (xf_G_hasThing g_3 a3 w) fun r_25 => (if r_25 = 0 then (some ((-1001 : Int32), w)) else ((if a2 = a3 then (some ((-1003 : Int32), w)) else (bn (xf_G_takesAlong g_3 a3 a2 w) fun r_44 => (if r_44 = 0 then (bn (xf_G_putBelow g_3 a2 a3 w) fun w_58 => bn (xf_G_countPairs g_3 w_58) fun r_63 => some (r_63, w_58)) else (some ((-1003 : Int32), w)))))))))
-- BittenBoards$Game.countPosts (R)
def xf_G_countPosts (g : Nat) (w : xW) : Option Int32 :=
  bn (xf_J_bitCount ((w.2.2.1 2 g) &&& (63 : Int32))) fun r_7 => some r_7
-- BittenBoards.post (W)
def xf_C_post (a1 : Int32) (w : xW) : Option (Int32 × xW) :=
  bn (xf_C_gameOf a1 (2 : Int32) w) fun r_3 => onO r_3 (some ((-1001 : Int32), w)) fun g_3 => gd (g_3 < 6) <| bn (xf_G_countPosts g_3 w) fun r_16 => (if r_16 < (6 : Int32) then (bn (xf_G_addPart g_3 r_16 w) fun w_32 => some (r_16, w_32)) else (some ((-1004 : Int32), w)))
-- BittenBoards$Game.hasPost (R)
def xf_G_hasPost (g : Nat) (a1 : Int32) (w : xW) : Option Int32 :=
  (if a1 < 0 then (gd ((0 : Int32) = 0 ∨ (0 : Int32) = 1) <| some (0 : Int32)) else (bn (xf_G_countPosts g w) fun r_6 => (if r_6 ≤ a1 then (gd ((0 : Int32) = 0 ∨ (0 : Int32) = 1) <| some (0 : Int32)) else (gd ((1 : Int32) = 0 ∨ (1 : Int32) = 1) <| some (1 : Int32)))))
-- BittenBoards$Game.countRoads (R)
def xf_G_countRoads (g : Nat) (w : xW) : Option Int32 :=
  bn (xf_J_bitCount ((w.2.2.1 2 g) &&& (-64 : Int32))) fun r_7 => some r_7
-- BittenBoards$Game.addRoad (W)
def xf_G_addRoad (g : Nat) (a1 : Int32) (a2 : Int32) (a3 : Int32) (w : xW) : Option xW :=
  bn (xf_G_addPart g a1 w) fun w_2 => bn (xf_G_takeAlong g a2 ((1 : Int32) <<< (a1 &&& 31)) w_2) fun w_10 => bn (xf_G_takeAlong g a3 ((1 : Int32) <<< (a1 &&& 31)) w_10) fun w_18 => some w_18
-- BittenBoards.road (W)
def xf_C_road (a1 : Int32) (a2 : Int32) (a3 : Int32) (w : xW) : Option (Int32 × xW) :=
  bn (xf_C_gameOf a1 (2 : Int32) w) fun r_3 => onO r_3 (some ((-1001 : Int32), w)) fun g_3 => gd (g_3 < 6) <| bn (xf_G_hasPost g_3 a2 w) fun r_16 => (if r_16 = 0 then (some ((-1001 : Int32), w)) else (bn (xf_G_hasPost g_3 a3 w) fun r_25 => (if r_25 = 0 then (some ((-1001 : Int32), w)) else ((if a2 = a3 then (some ((-1003 : Int32), w)) else (bn (xf_G_countRoads g_3 w) fun r_46 => (if r_46 < (9 : Int32) then (bn (xf_G_addRoad g_3 ((6 : Int32) + r_46) a2 a3 w) fun w_71 => some (r_46, w_71)) else (some ((-1004 : Int32), w)))))))))
-- BittenBoards.rule (W)
def xf_C_rule (a1 : Int32) (a2 : Int32) (w : xW) : Option (Int32 × xW) :=
  bn (xf_C_gameAt a1 w) fun r_2 => onO r_2 (some ((-1001 : Int32), w)) fun g_2 => gd (g_2 < 6) <| bn (xf_C_isWithin a2 (0 : Int32) (1 : Int32)) fun r_17 => (if r_17 = 0 then (some ((-1002 : Int32), w)) else (nm (w.2.2.1 1 g_2) fun x4_31 => nm (xG w 1 g_2 a2) fun w_35 => some (x4_31, w_35)))
-- BittenBoards.told (W)
def xf_C_told (a1 : Int32) (a2 : Int32) (w : xW) : Option (Int32 × xW) :=
  bn (xf_C_gameAt a1 w) fun r_2 => onO r_2 (some ((-1001 : Int32), w)) fun g_2 => gd (g_2 < 6) <| (if a2 = 0 then (some ((w.2.2.1 0 g_2), w)) else (if a2 = 1 then (some ((w.2.2.1 1 g_2), w)) else (if a2 = 2 then (bn2 (xf_G_countBites g_2 w) fun r_63 w_63 => some (r_63, w_63)) else (if a2 = 3 then (bn2 (xf_G_countBites g_2 w) fun r_63 w_63 => some (r_63, w_63)) else (if a2 = 4 then (some ((w.2.2.1 4 g_2), w)) else (if a2 = 5 then (some ((w.2.2.1 3 g_2), w)) else (some ((-1002 : Int32), w))))))))
-- BittenBoards.isBelow (R)
def xf_C_isBelow (a1 : Int32) (a2 : Int32) (a3 : Int32) (w : xW) : Option Int32 :=
  bn (xf_C_gameOf a1 (1 : Int32) w) fun r_3 => onO r_3 (some (-1001 : Int32)) fun g_3 => gd (g_3 < 6) <| bn (xf_G_hasThing g_3 a2 w) fun r_16 => (if r_16 = 0 then (some (-1001 : Int32)) else (bn (xf_G_hasThing g_3 a3 w) fun r_25 => (if r_25 = 0 then (some (-1001 : Int32)) else ((if a2 = a3 then (some (0 : Int32)) else (bn (xf_G_takesAlong g_3 a2 a3 w) fun r_44 => (if r_44 = 0 then (some (0 : Int32)) else (some (1 : Int32)))))))))
-- BittenBoards$Game.hasBite (W)
def xf_G_hasBite (g : Nat) (a1 : Int32) (w : xW) : Option (Int32 × xW) :=
  (if a1 < 0 then (gd ((0 : Int32) = 0 ∨ (0 : Int32) = 1) <| some ((0 : Int32), w)) else (bn2 (xf_G_countBites g w) fun r_6 w_6 => (if r_6 ≤ a1 then (gd ((0 : Int32) = 0 ∨ (0 : Int32) = 1) <| some ((0 : Int32), w_6)) else (gd ((1 : Int32) = 0 ∨ (1 : Int32) = 1) <| some ((1 : Int32), w_6)))))
-- BittenBoards$Boards.rowOfBite (W)
def xf_B_rowOfBite_C10 : Nat → Int32 → Int32 → xW → Option (Int32 × xW)
  | 0, _, _, _ => none
  | n + 1, x3, x4, w =>
    (if (7 : Int32) ≤ x4 then (some (x4, w)) else (gi x4 7 <| (if x3 < ((w.2.1 5) x4.toNatClampNeg) then (some (x4, w)) else (gi x4 7 <| nm (x3 - ((w.2.1 5) x4.toNatClampNeg)) fun x3_40 => nm (x4 + (1 : Int32)) fun x4_41 => xf_B_rowOfBite_C10 n x3_40 x4_41 w))))
def xf_B_rowOfBite (a1 : Int32) (a2 : Int32) (w : xW) : Option (Int32 × xW) :=
  bn (xf_B_lookAt a1 w) fun w_2 => xf_B_rowOfBite_C10 fu a2 (0 : Int32) w_2
-- BittenBoards$Boards.columnOfBite (W)
def xf_B_columnOfBite_C10 : Nat → Int32 → Int32 → xW → Option (Int32 × xW)
  | 0, _, _, _ => none
  | n + 1, x3, x4, w =>
    (if (7 : Int32) ≤ x4 then (some (x3, w)) else (gi x4 7 <| (if x3 < ((w.2.1 5) x4.toNatClampNeg) then (some (x3, w)) else (gi x4 7 <| nm (x3 - ((w.2.1 5) x4.toNatClampNeg)) fun x3_40 => nm (x4 + (1 : Int32)) fun x4_41 => xf_B_columnOfBite_C10 n x3_40 x4_41 w))))
def xf_B_columnOfBite (a1 : Int32) (a2 : Int32) (w : xW) : Option (Int32 × xW) :=
  bn (xf_B_lookAt a1 w) fun w_2 => xf_B_columnOfBite_C10 fu a2 (0 : Int32) w_2
-- BittenBoards$Boards.rankAfter (W)
def xf_B_rankAfter_C18 : Nat → Int32 → Int32 → Int32 → xW → Option (Int32 × xW)
  | 0, _, _, _, _ => none
  | n + 1, x3, x4, x5, w =>
    (if (7 : Int32) ≤ x5 then (bn (xf_B_rankOfLines w) fun r_60 => some (r_60, w)) else ((if x5 < x3 then (nm (x5 + (1 : Int32)) fun x5_53 => xf_B_rankAfter_C18 n x3 x4 x5_53 w) else (gi x5 7 <| nm (imin ((w.2.1 5) x5.toNatClampNeg) x4) fun r_49 => gi x5 7 <| nm (xU w 5 (x5.toNatClampNeg) r_49) fun w_52 => nm (x5 + (1 : Int32)) fun x5_53 => xf_B_rankAfter_C18 n x3 x4 x5_53 w_52))))
def xf_B_rankAfter (a1 : Int32) (a2 : Int32) (w : xW) : Option (Int32 × xW) :=
  bn2 (xf_B_rowOfBite a1 a2 w) fun r_3 w_3 => bn2 (xf_B_columnOfBite a1 a2 w_3) fun r_10 w_10 => xf_B_rankAfter_C18 fu r_3 r_10 (0 : Int32) w_10
-- BittenBoards$Game.partOfBite (R)
def xf_G_partOfBite_C4 (g : Nat) (w : xW) : Nat → Int32 → Int32 → Option Int32
  | 0, _, _ => none
  | n + 1, x2, x3 =>
    (if (15 : Int32) ≤ x3 then (some (-1 : Int32)) else ((if (((w.2.2.1 3 g) >>> (x3 &&& 31)) &&& (1 : Int32)) = 0 then (nm (x3 + (1 : Int32)) fun x3_33 => xf_G_partOfBite_C4 g w n x2 x3_33) else ((if x2 = 0 then (some x3) else (nm (x2 + (-1 : Int32)) fun x2_30 => nm (x3 + (1 : Int32)) fun x3_33 => xf_G_partOfBite_C4 g w n x2_30 x3_33))))))
def xf_G_partOfBite (g : Nat) (a1 : Int32) (w : xW) : Option Int32 :=
  xf_G_partOfBite_C4 g w fu a1 (0 : Int32)
-- BittenBoards$Game.stateAfter (W)
def xf_G_stateAfter (g : Nat) (a1 : Int32) (w : xW) : Option (Int32 × xW) :=
  (if (w.2.2.1 0 g) = 0 then (bn2 (xf_B_rankAfter (w.2.2.1 3 g) a1 w) fun r_16 w_16 => some (r_16, w_16)) else (bn (xf_G_partOfBite g a1 w) fun r_30 => bn (xf_C_at 15 (w.2.2.2.1 0 g) r_30 w) fun r_33 => some (((w.2.2.1 3 g) &&& (r_33 ^^^ (-1 : Int32))), w)))
-- BittenBoards$Boards.countFilled (R)
def xf_B_countFilled_C13 (w : xW) : Nat → Int32 → Int32 → Int32 → Option Int32
  | 0, _, _, _ => none
  | n + 1, x1, x3, x4 =>
    (if x3 ≤ x4 then (some x1) else (gi x4 7 <| nm ((w.2.1 5) x4.toNatClampNeg) fun x5_23 => (if x5_23 ≤ 0 then (nm (x4 + (1 : Int32)) fun x4_33 => xf_B_countFilled_C13 w n x1 x3 x4_33) else (nm (x1 + (1 : Int32)) fun x1_30 => nm (x4 + (1 : Int32)) fun x4_33 => xf_B_countFilled_C13 w n x1_30 x3 x4_33))))
def xf_B_countFilled (w : xW) : Option Int32 :=
  xf_B_countFilled_C13 w fu (0 : Int32) (7 : Int32) (0 : Int32)
-- BittenBoards$Tally.begin (W)
def xf_T_begin_C7 : Nat → Int32 → xW → Option xW
  | 0, _, _ => none
  | n + 1, x1, w =>
    (if (2 : Int32) ≤ x1 then (some w) else (gi x1 2 <| nm (xU w 10 (x1.toNatClampNeg) (255 : Int32)) fun w_20 => gi x1 2 <| nm (xU w_20 11 (x1.toNatClampNeg) (-1 : Int32)) fun w_27 => nm (x1 + (1 : Int32)) fun x1_28 => xf_T_begin_C7 n x1_28 w_27))
def xf_T_begin (w : xW) : Option xW :=
  nm (xL w (0 : Int64)) fun w_2 => xf_T_begin_C7 fu (0 : Int32) w_2
-- BittenBoards.worthIn (P)
def xf_C_worthIn (a0 : Int32) : Option Int32 :=
  some ((a0 >>> ((16 : Int32) &&& 31)) &&& (255 : Int32))
-- BittenBoards.lengthIn (P)
def xf_C_lengthIn (a0 : Int32) (a1 : Int32) : Option Int32 :=
  (if a1 = 0 then (some (a0 &&& (255 : Int32))) else (some ((a0 >>> ((8 : Int32) &&& 31)) &&& (255 : Int32))))
-- BittenBoards.isWon (P)
def xf_C_isWon (a0 : Int32) (a1 : Int32) : Option Int32 :=
  (if (a0 &&& (1 : Int32)) = a1 then (gd ((1 : Int32) = 0 ∨ (1 : Int32) = 1) <| some (1 : Int32)) else (gd ((0 : Int32) = 0 ∨ (0 : Int32) = 1) <| some (0 : Int32)))
-- BittenBoards$Tally.take (W)
def xf_T_take_C17 : Nat → Int32 → Int32 → xW → Option xW
  | 0, _, _, _ => none
  | n + 1, x1, x2, w =>
    (if (2 : Int32) ≤ x2 then (some w) else (bn (xf_C_lengthIn x1 x2) fun r_24 => gi x2 2 <| nm (imax ((w.2.1 11) x2.toNatClampNeg) r_24) fun r_40 => gi x2 2 <| nm (xU w 11 (x2.toNatClampNeg) r_40) fun w_43 => bn (xf_C_isWon r_24 x2) fun r_46 => (if r_46 = 0 then (gi x2 2 <| nm (imin ((w_43.2.1 10) x2.toNatClampNeg) r_24) fun r_64 => gi x2 2 <| nm (xU w_43 10 (x2.toNatClampNeg) r_64) fun w_67 => nm (x2 + (1 : Int32)) fun x2_68 => xf_T_take_C17 n x1 x2_68 w_67) else (nm (x2 + (1 : Int32)) fun x2_68 => xf_T_take_C17 n x1 x2_68 w_43))))
def xf_T_take (a1 : Int32) (w : xW) : Option xW :=
  bn (xf_C_worthIn a1) fun r_7 => nm (xL w (w.2.2.2.2 ||| ((1 : Int64) <<< (r_7.toInt64 &&& 63)))) fun w_12 => xf_T_take_C17 fu a1 (0 : Int32) w_12
-- BittenBoards$Tally.leastMissing (R)
def xf_T_leastMissing_C2 (w : xW) : Nat → Int32 → Option Int32
  | 0, _ => none
  | n + 1, x1 =>
    (if (63 : Int32) ≤ x1 then (some x1) else ((if (lg_cmp ((w.2.2.2.2 >>> (x1.toInt64 &&& 63)) &&& (1 : Int64)) (0 : Int64)) = 0 then (some x1) else (nm (x1 + (1 : Int32)) fun x1_21 => xf_T_leastMissing_C2 w n x1_21))))
def xf_T_leastMissing (w : xW) : Option Int32 :=
  xf_T_leastMissing_C2 w fu (0 : Int32)
-- BittenBoards$Tally.facts (R)
def xf_T_facts_C42 (w : xW) (K10 : Int32 → Int32 → Option Int32) (x1 : Int32) (x2 : Int32) (t0 : Int32) : Option Int32 :=
  nm (x1 ||| ((t0 + (1 : Int32)) <<< (((8 : Int32) * x2) &&& 31))) fun x1_53 => nm (x2 + (1 : Int32)) fun x2_54 => K10 x1_53 x2_54
def xf_T_facts_C10 (w : xW) : Nat → Int32 → Int32 → Option Int32
  | 0, _, _ => none
  | n + 1, x1, x2 =>
    (if (2 : Int32) ≤ x2 then (some x1) else (gi x2 2 <| (if (255 : Int32) ≤ ((w.2.1 10) x2.toNatClampNeg) then (gi x2 2 <| xf_T_facts_C42 w (xf_T_facts_C10 w n) x1 x2 ((w.2.1 11) x2.toNatClampNeg)) else (gi x2 2 <| xf_T_facts_C42 w (xf_T_facts_C10 w n) x1 x2 ((w.2.1 10) x2.toNatClampNeg)))))
def xf_T_facts (w : xW) : Option Int32 :=
  bn (xf_T_leastMissing w) fun r_1 => nm (r_1 <<< ((16 : Int32) &&& 31)) fun x1_7 => xf_T_facts_C10 w fu x1_7 (0 : Int32)
-- BittenBoards$Boards.factsOfLines (W)
def xf_B_factsOfLines_C26 (K9 : Int32 → Int32 → xW → Option (Int32 × xW)) : Nat → Int32 → Int32 → Int32 → Int32 → xW → Option (Int32 × xW)
  | 0, _, _, _, _, _ => none
  | n + 1, x1, x2, x3, x4, w =>
    (if x4 < 0 then (nm (x2 + (1 : Int32)) fun x2_101 => K9 x1 x2_101 w) else (gi x4 7 <| (if ((w.2.1 5) x4.toNatClampNeg) ≤ x2 then (nm (x4 + (-1 : Int32)) fun x4_95 => xf_B_factsOfLines_C26 K9 n x1 x2 x3 x4_95 w) else (bn (xf_C_at 64 (w.2.1 4) (((8 : Int32) * x4) + x2) w) fun r_54 => gi x4 7 <| bn (xf_C_at 64 (w.2.1 4) (((8 : Int32) * x4) + ((w.2.1 5) x4.toNatClampNeg)) w) fun r_74 => nm (x3 + (r_54 - r_74)) fun x3_79 => bn (xf_C_at 3432 (w.2.1 6) x3_79 w) fun r_89 => bn (xf_T_take r_89 w) fun w_92 => nm (x4 + (-1 : Int32)) fun x4_95 => xf_B_factsOfLines_C26 K9 n x1 x2 x3_79 x4_95 w_92))))
def xf_B_factsOfLines_C9 : Nat → Int32 → Int32 → xW → Option (Int32 × xW)
  | 0, _, _, _ => none
  | n + 1, x1, x2, w =>
    (if (7 : Int32) ≤ x2 then (bn (xf_T_facts w) fun r_111 => some (r_111, w)) else (nm ((7 : Int32) - (1 : Int32)) fun x4_24 => xf_B_factsOfLines_C26 (xf_B_factsOfLines_C9 n) fu x1 x2 x1 x4_24 w))
def xf_B_factsOfLines (a1 : Int32) (w : xW) : Option (Int32 × xW) :=
  bn (xf_T_begin w) fun w_4 => xf_B_factsOfLines_C9 fu a1 (0 : Int32) w_4
-- BittenBoards$Boards.solve (W)
def xf_B_solve_C10 : Nat → Int32 → xW → Option xW
  | 0, _, _ => none
  | n + 1, x1, w =>
    (if (3432 : Int32) ≤ x1 then (gd ((1 : Int32) = 0 ∨ (1 : Int32) = 1) <| nm (xS w 1 (1 : Int32)) fun w_65 => some w_65) else (bn (xf_B_lookAt x1 w) fun w_19 => bn (xf_C_at 7 (w_19.2.1 5) (0 : Int32) w_19) fun r_32 => gi x1 3432 <| nm (xU w_19 7 (x1.toNatClampNeg) r_32) fun w_35 => bn (xf_B_countFilled w_35) fun r_42 => gi x1 3432 <| nm (xU w_35 8 (x1.toNatClampNeg) r_42) fun w_45 => bn2 (xf_B_factsOfLines x1 w_45) fun r_53 w_53 => gi x1 3432 <| nm (xU w_53 6 (x1.toNatClampNeg) r_53) fun w_56 => nm (x1 + (1 : Int32)) fun x1_57 => xf_B_solve_C10 n x1_57 w_56))
def xf_B_solve (w : xW) : Option xW :=
  (if (w.1 1) = 0 then (xf_B_solve_C10 fu (0 : Int32) w) else (some w))
-- BittenBoards$Game.canBeLeft (R)
def xf_G_canBeLeft_C11 (g : Nat) (w : xW) : Nat → Int32 → Int32 → Int32 → Option Int32
  | 0, _, _, _ => none
  | n + 1, x1, x2, x3 =>
    (if (15 : Int32) ≤ x3 then (gd ((1 : Int32) = 0 ∨ (1 : Int32) = 1) <| some (1 : Int32)) else ((if ((x2 >>> (x3 &&& 31)) &&& (1 : Int32)) = 0 then (nm (x3 + (1 : Int32)) fun x3_41 => xf_G_canBeLeft_C11 g w n x1 x2 x3_41) else (gi x3 15 <| (if (((w.2.2.2.1 0 g) x3.toNatClampNeg) &&& x1) = 0 then (nm (x3 + (1 : Int32)) fun x3_41 => xf_G_canBeLeft_C11 g w n x1 x2 x3_41) else (gd ((0 : Int32) = 0 ∨ (0 : Int32) = 1) <| some (0 : Int32)))))))
def xf_G_canBeLeft (g : Nat) (a1 : Int32) (w : xW) : Option Int32 :=
  nm ((w.2.2.1 2 g) &&& (a1 ^^^ (-1 : Int32))) fun x2_8 => xf_G_canBeLeft_C11 g w fu a1 x2_8 (0 : Int32)
-- BittenBoards$Game.factsOfSet (W)
def xf_G_factsOfSet_C9 (g : Nat) : Nat → Int32 → Int32 → xW → Option (Int32 × xW)
  | 0, _, _, _ => none
  | n + 1, x1, x2, w =>
    (if (15 : Int32) ≤ x2 then (bn (xf_T_facts w) fun r_60 => some (r_60, w)) else ((if ((x1 >>> (x2 &&& 31)) &&& (1 : Int32)) = 0 then (nm (x2 + (1 : Int32)) fun x2_50 => xf_G_factsOfSet_C9 g n x1 x2_50 w) else (gi x2 15 <| bn (xf_C_at 32768 (w.2.2.2.1 3 g) (x1 &&& (((w.2.2.2.1 0 g) x2.toNatClampNeg) ^^^ (-1 : Int32))) w) fun r_44 => bn (xf_T_take r_44 w) fun w_47 => nm (x2 + (1 : Int32)) fun x2_50 => xf_G_factsOfSet_C9 g n x1 x2_50 w_47))))
def xf_G_factsOfSet (g : Nat) (a1 : Int32) (w : xW) : Option (Int32 × xW) :=
  bn (xf_T_begin w) fun w_4 => xf_G_factsOfSet_C9 g fu a1 (0 : Int32) w_4
-- BittenBoards$Game.solve (W)
def xf_G_solve_C55 (g : Nat) (w : xW) : Option xW :=
  gd ((1 : Int32) = 0 ∨ (1 : Int32) = 1) <| nm (xG w 5 g (1 : Int32)) fun w_57 => some w_57
def xf_G_solve_C2 (g : Nat) : Nat → Int32 → xW → Option xW
  | 0, _, _ => none
  | n + 1, x1, w =>
    (if (w.2.2.1 2 g) < x1 then (xf_G_solve_C55 g w) else ((if (32768 : Int32) ≤ x1 then (xf_G_solve_C55 g w) else ((if (x1 &&& ((w.2.2.1 2 g) ^^^ (-1 : Int32))) = 0 then (bn (xf_G_canBeLeft g x1 w) fun r_32 => (if r_32 = 0 then (nm (x1 + (1 : Int32)) fun x1_49 => xf_G_solve_C2 g n x1_49 w) else (bn2 (xf_G_factsOfSet g x1 w) fun r_45 w_45 => gi x1 32768 <| nm (xV w_45 3 g (x1.toNatClampNeg) r_45) fun w_48 => nm (x1 + (1 : Int32)) fun x1_49 => xf_G_solve_C2 g n x1_49 w_48))) else (nm (x1 + (1 : Int32)) fun x1_49 => xf_G_solve_C2 g n x1_49 w))))))
def xf_G_solve (g : Nat) (w : xW) : Option xW :=
  xf_G_solve_C2 g fu (0 : Int32) w
-- BittenBoards$Game.factsOf (W)
def xf_G_factsOf_C37 (g : Nat) (x1 : Int32) (w : xW) : Option (Int32 × xW) :=
  bn (xf_C_at 32768 (w.2.2.2.1 3 g) x1 w) fun r_42 => some (r_42, w)
def xf_G_factsOf (g : Nat) (a1 : Int32) (w : xW) : Option (Int32 × xW) :=
  (if (w.2.2.1 0 g) = 0 then (bn (xf_B_solve w) fun w_11 => bn (xf_C_at 3432 (w_11.2.1 6) a1 w_11) fun r_22 => some (r_22, w_11)) else ((if (w.2.2.1 5 g) = 0 then (bn (xf_G_solve g w) fun w_34 => xf_G_factsOf_C37 g a1 w_34) else (xf_G_factsOf_C37 g a1 w))))
-- BittenBoards$Game.isWinning (W)
def xf_G_isWinning (g : Nat) (a1 : Int32) (w : xW) : Option (Int32 × xW) :=
  bn2 (xf_G_stateAfter g a1 w) fun r_3 w_3 => bn2 (xf_G_factsOf g r_3 w_3) fun r_6 w_6 => bn (xf_C_lengthIn r_6 (w_6.2.2.1 1 g)) fun r_13 => bn (xf_C_isWon r_13 (w_6.2.2.1 1 g)) fun r_20 => (if r_20 = 0 then (gd ((1 : Int32) = 0 ∨ (1 : Int32) = 1) <| some ((1 : Int32), w_6)) else (gd ((0 : Int32) = 0 ∨ (0 : Int32) = 1) <| some ((0 : Int32), w_6)))
-- BittenBoards$Game.placeOfBite (W)
def xf_G_placeOfBite (g : Nat) (a1 : Int32) (w : xW) : Option (Int32 × xW) :=
  (if (w.2.2.1 0 g) = 0 then (bn2 (xf_B_rowOfBite (w.2.2.1 3 g) a1 w) fun r_16 w_16 => some (r_16, w_16)) else (bn (xf_G_partOfBite g a1 w) fun r_22 => (if (w.2.2.1 0 g) = (2 : Int32) then ((if r_22 < (6 : Int32) then (some (r_22, w)) else (some ((r_22 + (4 : Int32)), w)))) else (some (r_22, w)))))
-- BittenBoards$Game.sizeOfBite (W)
def xf_G_sizeOfBite (g : Nat) (a1 : Int32) (w : xW) : Option (Int32 × xW) :=
  (if (w.2.2.1 0 g) = 0 then (bn2 (xf_B_columnOfBite (w.2.2.1 3 g) a1 w) fun r_16 w_16 => some (r_16, w_16)) else (bn (xf_G_partOfBite g a1 w) fun r_30 => bn (xf_C_at 15 (w.2.2.2.1 0 g) r_30 w) fun r_33 => bn (xf_J_bitCount ((w.2.2.1 3 g) &&& r_33)) fun r_37 => some (r_37, w)))
-- BittenBoards.bite (W)
def xf_C_bite (a1 : Int32) (a2 : Int32) (a3 : Int32) (w : xW) : Option (Int32 × xW) :=
  bn (xf_C_gameAt a1 w) fun r_2 => onO r_2 (some ((-1001 : Int32), w)) fun g_2 => gd (g_2 < 6) <| bn (xf_C_isWithin a3 (0 : Int32) (2 : Int32)) fun r_19 => (if r_19 = 0 then (some ((-1002 : Int32), w)) else (bn2 (xf_G_hasBite g_2 a2 w) fun r_32 w_32 => (if r_32 = 0 then (some ((-1 : Int32), w_32)) else ((if a3 = (2 : Int32) then (bn2 (xf_G_isWinning g_2 a2 w_32) fun r_48 w_48 => (if r_48 = 0 then (some ((0 : Int32), w_48)) else (some ((1 : Int32), w_48)))) else ((if a3 = 0 then (bn2 (xf_G_placeOfBite g_2 a2 w_32) fun r_67 w_67 => some (r_67, w_67)) else (bn2 (xf_G_sizeOfBite g_2 a2 w_32) fun r_76 w_76 => some (r_76, w_76)))))))))
-- BittenBoards.won (W)
def xf_C_won (a1 : Int32) (w : xW) : Option (Int32 × xW) :=
  bn (xf_C_gameAt a1 w) fun r_2 => onO r_2 (some ((-1001 : Int32), w)) fun g_2 => gd (g_2 < 6) <| bn2 (xf_G_factsOf g_2 (w.2.2.1 3 g_2) w) fun r_19 w_19 => bn (xf_C_lengthIn r_19 (w_19.2.2.1 1 g_2)) fun r_26 => bn (xf_C_isWon r_26 (w_19.2.2.1 1 g_2)) fun r_33 => (if r_33 = 0 then (some ((0 : Int32), w_19)) else (some ((1 : Int32), w_19)))
-- BittenBoards.worth (W)
def xf_C_worth (a1 : Int32) (w : xW) : Option (Int32 × xW) :=
  bn (xf_C_gameAt a1 w) fun r_2 => onO r_2 (some ((-1001 : Int32), w)) fun g_2 => gd (g_2 < 6) <| bn2 (xf_G_factsOf g_2 (w.2.2.1 3 g_2) w) fun r_19 w_19 => bn (xf_C_worthIn r_19) fun r_22 => some (r_22, w_19)
-- BittenBoards.length (W)
def xf_C_length (a1 : Int32) (w : xW) : Option (Int32 × xW) :=
  bn (xf_C_gameAt a1 w) fun r_2 => onO r_2 (some ((-1001 : Int32), w)) fun g_2 => gd (g_2 < 6) <| bn2 (xf_G_factsOf g_2 (w.2.2.1 3 g_2) w) fun r_19 w_19 => bn (xf_C_lengthIn r_19 (w_19.2.2.1 1 g_2)) fun r_26 => some (r_26, w_19)
-- BittenBoards.winning (W)
def xf_C_winning_C25 : Nat → Nat → Int32 → Int32 → Int32 → xW → Option (Int32 × xW)
  | 0, _, _, _, _, _ => none
  | n + 1, g2, x3, x4, x5, w =>
    gd (g2 < 6) <| (if x4 ≤ x5 then (some (x3, w)) else (bn2 (xf_G_isWinning g2 x5 w) fun r_35 w_35 => (if r_35 = 0 then (nm (x5 + (1 : Int32)) fun x5_44 => xf_C_winning_C25 n g2 x3 x4 x5_44 w_35) else (nm (x3 + (1 : Int32)) fun x3_41 => nm (x5 + (1 : Int32)) fun x5_44 => xf_C_winning_C25 n g2 x3_41 x4 x5_44 w_35))))
def xf_C_winning (a1 : Int32) (w : xW) : Option (Int32 × xW) :=
  bn (xf_C_gameAt a1 w) fun r_2 => onO r_2 (some ((-1001 : Int32), w)) fun g_2 => gd (g_2 < 6) <| bn2 (xf_G_countBites g_2 w) fun r_17 w_17 => xf_C_winning_C25 fu g_2 (0 : Int32) r_17 (0 : Int32) w_17
-- BittenBoards$Boards.isInside (R)
def xf_B_isInside (a1 : Int32) (a2 : Int32) (a3 : Int32) (w : xW) : Option Int32 :=
  bn (xf_C_at 3432 (w.2.1 7) a1 w) fun r_5 => (if a3 < r_5 then (gd ((0 : Int32) = 0 ∨ (0 : Int32) = 1) <| some (0 : Int32)) else (bn (xf_C_at 3432 (w.2.1 8) a1 w) fun r_17 => (if a2 < r_17 then (gd ((0 : Int32) = 0 ∨ (0 : Int32) = 1) <| some (0 : Int32)) else (gd ((1 : Int32) = 0 ∨ (1 : Int32) = 1) <| some (1 : Int32)))))
-- BittenBoards$Boards.greatestWorth (W)
def xf_B_greatestWorth_C9 : Nat → Int32 → Int32 → Int32 → Int32 → xW → Option (Int32 × xW)
  | 0, _, _, _, _, _ => none
  | n + 1, x1, x2, x3, x4, w =>
    (if (3432 : Int32) ≤ x4 then (some (x3, w)) else (bn (xf_B_isInside x4 x1 x2 w) fun r_22 => (if r_22 = 0 then (nm (x4 + (1 : Int32)) fun x4_45 => xf_B_greatestWorth_C9 n x1 x2 x3 x4_45 w) else (bn (xf_C_at 3432 (w.2.1 6) x4 w) fun r_35 => bn (xf_C_worthIn r_35) fun r_38 => nm (imax x3 r_38) fun r_41 => nm (x4 + (1 : Int32)) fun x4_45 => xf_B_greatestWorth_C9 n x1 x2 r_41 x4_45 w))))
def xf_B_greatestWorth (a1 : Int32) (a2 : Int32) (w : xW) : Option (Int32 × xW) :=
  bn (xf_B_solve w) fun w_1 => xf_B_greatestWorth_C9 fu a1 a2 (0 : Int32) (0 : Int32) w_1
-- BittenBoards$Boards.countWithin (W)
def xf_B_countWithin_C43 (K10 : Int32 → Int32 → Int32 → Int32 → Int32 → xW → Option (Int32 × xW)) (x1 : Int32) (x2 : Int32) (x3 : Int32) (x4 : Int32) (x5 : Int32) (t0 : Int32) (w : xW) : Option (Int32 × xW) :=
  bn (xf_B_isInside x5 x1 x2 w) fun r_50 => (if r_50 = 0 then (nm (x5 + (1 : Int32)) fun x5_68 => K10 x1 x2 x3 x4 x5_68 w) else ((if t0 = 0 then ((if x3 = 0 then (nm (x4 + (1 : Int32)) fun x4_65 => nm (x5 + (1 : Int32)) fun x5_68 => K10 x1 x2 x3 x4_65 x5_68 w) else (nm (x5 + (1 : Int32)) fun x5_68 => K10 x1 x2 x3 x4 x5_68 w))) else (nm (x4 + (1 : Int32)) fun x4_65 => nm (x5 + (1 : Int32)) fun x5_68 => K10 x1 x2 x3 x4_65 x5_68 w))))
def xf_B_countWithin_C10 : Nat → Int32 → Int32 → Int32 → Int32 → Int32 → xW → Option (Int32 × xW)
  | 0, _, _, _, _, _, _ => none
  | n + 1, x1, x2, x3, x4, x5, w =>
    (if (3432 : Int32) ≤ x5 then (some (x4, w)) else (bn (xf_C_at 3432 (w.2.1 6) x5 w) fun r_24 => bn (xf_C_lengthIn r_24 (0 : Int32)) fun r_28 => bn (xf_C_isWon r_28 (0 : Int32)) fun r_32 => (if r_32 = 0 then (xf_B_countWithin_C43 (xf_B_countWithin_C10 n) x1 x2 x3 x4 x5 (1 : Int32) w) else (xf_B_countWithin_C43 (xf_B_countWithin_C10 n) x1 x2 x3 x4 x5 (0 : Int32) w))))
def xf_B_countWithin (a1 : Int32) (a2 : Int32) (a3 : Int32) (w : xW) : Option (Int32 × xW) :=
  bn (xf_B_solve w) fun w_1 => xf_B_countWithin_C10 fu a1 a2 a3 (0 : Int32) (0 : Int32) w_1
-- BittenBoards.boards (W)
def xf_C_boards_C66 (t1 : Int32) (t2 : Int32) (t3 : Int32) (w : xW) : Option (Int32 × xW) :=
  bn2 (xf_B_countWithin t1 t2 t3 w) fun r_66 w_66 => some (r_66, w_66)
def xf_C_boards (a1 : Int32) (a2 : Int32) (a3 : Int32) (w : xW) : Option (Int32 × xW) :=
  bn (xf_C_isWithin a1 (0 : Int32) (7 : Int32)) fun r_4 => (if r_4 = 0 then (some ((-1002 : Int32), w)) else (bn (xf_C_isWithin a2 (0 : Int32) (7 : Int32)) fun r_14 => (if r_14 = 0 then (some ((-1002 : Int32), w)) else (bn (xf_C_isWithin a3 (0 : Int32) (2 : Int32)) fun r_23 => (if r_23 = 0 then (some ((-1002 : Int32), w)) else ((if a3 = (2 : Int32) then (bn2 (xf_B_greatestWorth a1 a2 w) fun r_44 w_44 => some (r_44, w_44)) else ((if a3 = (1 : Int32) then (xf_C_boards_C66 a1 a2 (1 : Int32) w) else (xf_C_boards_C66 a1 a2 (0 : Int32) w))))))))))
-- BittenBoards.ranked (W)
def xf_C_ranked (a1 : Int32) (a2 : Int32) (w : xW) : Option (Int32 × xW) :=
  bn (xf_C_isWithin a1 (0 : Int32) (3431 : Int32)) fun r_5 => (if r_5 = 0 then (some ((-1002 : Int32), w)) else (bn (xf_C_isWithin a2 (0 : Int32) (6 : Int32)) fun r_15 => (if r_15 = 0 then (some ((-1002 : Int32), w)) else (bn2 (xf_B_rowOf a1 a2 w) fun r_31 w_31 => some (r_31, w_31)))))
-- BittenBoards$Game.doBite (W)
def xf_G_doBite (g : Nat) (a1 : Int32) (w : xW) : Option xW :=
  (if (w.2.2.1 4 g) < 0 then (some w) else ((if (100 : Int32) ≤ (w.2.2.1 4 g) then (some w) else ((if (100 : Int32) ≤ (w.2.2.1 4 g) then (some w) else (gi (w.2.2.1 4 g) 100 <| nm (xV w 1 g ((w.2.2.1 4 g).toNatClampNeg) a1) fun w_40 => gi (w_40.2.2.1 4 g) 100 <| nm (xV w_40 2 g ((w_40.2.2.1 4 g).toNatClampNeg) (w_40.2.2.1 3 g)) fun w_53 => nm (xG w_53 4 g ((w_53.2.2.1 4 g) + (1 : Int32))) fun w_61 => bn2 (xf_G_stateAfter g a1 w_61) fun r_67 w_67 => nm (xG w_67 3 g r_67) fun w_70 => some w_70))))))
-- BittenBoards.play (W)
def xf_C_play (a1 : Int32) (a2 : Int32) (w : xW) : Option (Int32 × xW) :=
  bn (xf_C_gameAt a1 w) fun r_2 => onO r_2 (some ((-1001 : Int32), w)) fun g_2 => gd (g_2 < 6) <| bn2 (xf_G_hasBite g_2 a2 w) fun r_16 w_16 => (if r_16 = 0 then (some ((-1003 : Int32), w_16)) else ((if (w_16.2.2.1 4 g_2) < (100 : Int32) then (bn (xf_G_doBite g_2 a2 w_16) fun w_41 => some ((w_41.2.2.1 3 g_2), w_41)) else (some ((-1004 : Int32), w_16)))))
-- BittenBoards$Game.findAnswer (W)
def xf_G_findAnswer_C12 (g : Nat) : Nat → Int32 → Int32 → Int32 → Int32 → xW → Option (Int32 × xW)
  | 0, _, _, _, _, _ => none
  | n + 1, x1, x2, x3, x4, w =>
    (if x3 ≤ x4 then (some (x1, w)) else (bn2 (xf_G_stateAfter g x4 w) fun r_22 w_22 => bn2 (xf_G_factsOf g r_22 w_22) fun r_25 w_25 => bn (xf_C_lengthIn r_25 (w_25.2.2.1 1 g)) fun r_32 => bn (xf_C_isWon r_32 (w_25.2.2.1 1 g)) fun r_43 => (if r_43 = 0 then (some (x4, w_25)) else ((if r_32 ≤ x2 then (nm (x4 + (1 : Int32)) fun x4_64 => xf_G_findAnswer_C12 g n x1 x2 x3 x4_64 w_25) else (nm (x4 + (1 : Int32)) fun x4_64 => xf_G_findAnswer_C12 g n x4 r_32 x3 x4_64 w_25))))))
def xf_G_findAnswer (g : Nat) (w : xW) : Option (Int32 × xW) :=
  bn2 (xf_G_countBites g w) fun r_5 w_5 => xf_G_findAnswer_C12 g fu (-1 : Int32) (-1 : Int32) r_5 (0 : Int32) w_5
-- BittenBoards.answer (W)
def xf_C_answer (a1 : Int32) (w : xW) : Option (Int32 × xW) :=
  bn (xf_C_gameAt a1 w) fun r_2 => onO r_2 (some ((-1001 : Int32), w)) fun g_2 => gd (g_2 < 6) <| bn2 (xf_G_hasBite g_2 (0 : Int32) w) fun r_16 w_16 => (if r_16 = 0 then (some ((-1003 : Int32), w_16)) else ((if (w_16.2.2.1 4 g_2) < (100 : Int32) then (bn2 (xf_G_findAnswer g_2 w_16) fun r_40 w_40 => bn (xf_G_doBite g_2 r_40 w_40) fun w_46 => some (r_40, w_46)) else (some ((-1004 : Int32), w_16)))))
-- BittenBoards$Game.undoBite (W)
def xf_G_undoBite (g : Nat) (w : xW) : Option xW :=
  (if (w.2.2.1 4 g) ≤ 0 then (some w) else (nm (xG w 4 g ((w.2.2.1 4 g) - (1 : Int32))) fun w_14 => bn (xf_C_at 100 (w_14.2.2.2.1 2 g) (w_14.2.2.1 4 g) w_14) fun r_26 => nm (xG w_14 3 g r_26) fun w_29 => some w_29))
-- BittenBoards.back (W)
def xf_C_back (a1 : Int32) (w : xW) : Option (Int32 × xW) :=
  bn (xf_C_gameAt a1 w) fun r_2 => onO r_2 (some ((-1001 : Int32), w)) fun g_2 => gd (g_2 < 6) <| (if (w.2.2.1 4 g_2) = 0 then (some ((-1003 : Int32), w)) else (bn (xf_G_undoBite g_2 w) fun w_26 => some ((w_26.2.2.1 4 g_2), w_26)))
-- BittenBoards.noted (R)
def xf_C_noted (a1 : Int32) (a2 : Int32) (w : xW) : Option Int32 :=
  bn (xf_C_gameAt a1 w) fun r_2 => onO r_2 (some (-1001 : Int32)) fun g_2 => gd (g_2 < 6) <| bn (xf_C_isWithin a2 (0 : Int32) ((w.2.2.1 4 g_2) - (1 : Int32))) fun r_22 => (if r_22 = 0 then (some (-1 : Int32)) else (bn (xf_C_at 100 (w.2.2.2.1 1 g_2) a2 w) fun r_33 => some r_33))
-- BittenBoards.isSum (R)
def xf_C_isSum (a1 : Int32) (w : xW) : Option Int32 :=
  bn (xf_C_isWithin a1 (1 : Int32) (((1 : Int32) <<< ((w.1 0) &&& 31)) - (1 : Int32))) fun r_10 => gd (r_10 = 0 ∨ r_10 = 1) <| some r_10
-- BittenBoards.worthOfSum (W)
def xf_C_worthOfSum_C4 : Nat → Int32 → Int32 → Int32 → xW → Option (Int32 × xW)
  | 0, _, _, _, _ => none
  | n + 1, x1, x2, x3, w =>
    (if (w.1 0) ≤ x3 then (some (x2, w)) else ((if (6 : Int32) ≤ x3 then (some (x2, w)) else (gi x3 6 <| nm x3.toNatClampNeg fun g_26 => (if ((x1 >>> (x3 &&& 31)) &&& (1 : Int32)) = 0 then (nm (x3 + (1 : Int32)) fun x3_58 => xf_C_worthOfSum_C4 n x1 x2 x3_58 w) else (bn2 (xf_G_factsOf g_26 (w.2.2.1 3 g_26) w) fun r_50 w_50 => bn (xf_C_worthIn r_50) fun r_53 => nm (x2 ^^^ r_53) fun x2_57 => nm (x3 + (1 : Int32)) fun x3_58 => xf_C_worthOfSum_C4 n x1 x2_57 x3_58 w_50))))))
def xf_C_worthOfSum (a1 : Int32) (w : xW) : Option (Int32 × xW) :=
  xf_C_worthOfSum_C4 fu a1 (0 : Int32) (0 : Int32) w
-- BittenBoards.sum (W)
def xf_C_sum (a1 : Int32) (w : xW) : Option (Int32 × xW) :=
  bn (xf_C_isSum a1 w) fun r_2 => (if r_2 = 0 then (some ((-1002 : Int32), w)) else (bn2 (xf_C_worthOfSum a1 w) fun r_10 w_10 => some (r_10, w_10)))
-- BittenBoards$Game.findBiteTo (W)
def xf_G_findBiteTo_C7 (g : Nat) : Nat → Int32 → Int32 → Int32 → xW → Option (Int32 × xW)
  | 0, _, _, _, _ => none
  | n + 1, x1, x2, x3, w =>
    (if x2 ≤ x3 then (some ((-1 : Int32), w)) else (bn2 (xf_G_stateAfter g x3 w) fun r_15 w_15 => bn2 (xf_G_factsOf g r_15 w_15) fun r_18 w_18 => bn (xf_C_worthIn r_18) fun r_21 => (if r_21 = x1 then (some (x3, w_18)) else (nm (x3 + (1 : Int32)) fun x3_30 => xf_G_findBiteTo_C7 g n x1 x2 x3_30 w_18))))
def xf_G_findBiteTo (g : Nat) (a1 : Int32) (w : xW) : Option (Int32 × xW) :=
  bn2 (xf_G_countBites g w) fun r_1 w_1 => xf_G_findBiteTo_C7 g fu a1 r_1 (0 : Int32) w_1
-- BittenBoards.inSum (W)
def xf_C_inSum_C30 : Nat → Int32 → Int32 → Int32 → Int32 → xW → Option (Int32 × xW)
  | 0, _, _, _, _, _ => none
  | n + 1, x1, x2, x3, x4, w =>
    (if (w.1 0) ≤ x4 then (some ((-1 : Int32), w)) else ((if (6 : Int32) ≤ x4 then (some ((-1 : Int32), w)) else (gi x4 6 <| nm x4.toNatClampNeg fun g_55 => (if ((x1 >>> (x4 &&& 31)) &&& (1 : Int32)) = 0 then (nm (x4 + (1 : Int32)) fun x4_115 => xf_C_inSum_C30 n x1 x2 x3 x4_115 w) else (bn2 (xf_G_factsOf g_55 (w.2.2.1 3 g_55) w) fun r_85 w_85 => bn (xf_C_worthIn r_85) fun r_88 => bn2 (xf_G_findBiteTo g_55 (x3 ^^^ r_88) w_85) fun r_92 w_92 => (if r_92 = (-1 : Int32) then (nm (x4 + (1 : Int32)) fun x4_115 => xf_C_inSum_C30 n x1 x2 x3 x4_115 w_92) else ((if x2 = 0 then (some (x4, w_92)) else (some (r_92, w_92)))))))))))
def xf_C_inSum (a1 : Int32) (a2 : Int32) (w : xW) : Option (Int32 × xW) :=
  bn (xf_C_isSum a1 w) fun r_2 => (if r_2 = 0 then (some ((-1002 : Int32), w)) else (bn (xf_C_isWithin a2 (0 : Int32) (1 : Int32)) fun r_11 => (if r_11 = 0 then (some ((-1002 : Int32), w)) else (bn2 (xf_C_worthOfSum a1 w) fun r_23 w_23 => xf_C_inSum_C30 fu a1 a2 r_23 (0 : Int32) w_23))))
