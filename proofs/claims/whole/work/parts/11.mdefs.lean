-- BittenBoardsModel.in (P)
def mf_in (a0 : Int64) (a2 : Int64) (a4 : Int64) : Option Int32 :=
  (if (lg_cmp a0 a2) < 0 then (gd ((0 : Int32) = 0 ∨ (0 : Int32) = 1) <| some (0 : Int32)) else ((if 0 < (lg_cmp a0 a4) then (gd ((0 : Int32) = 0 ∨ (0 : Int32) = 1) <| some (0 : Int32)) else (gd ((1 : Int32) = 0 ∨ (1 : Int32) = 1) <| some (1 : Int32)))))
-- BittenBoardsModel.bits (P)
def mf_bits_C4 : Nat → Int32 → Int32 → Int32 → Option Int32
  | 0, _, _, _ => none
  | n + 1, x0, x1, x2 =>
    (if (16 : Int32) ≤ x2 then (some x1) else (nm (x1 + ((x0 >>> (x2 &&& 31)) &&& (1 : Int32))) fun x1_17 => nm (x2 + (1 : Int32)) fun x2_18 => mf_bits_C4 n x0 x1_17 x2_18))
def mf_bits (a0 : Int32) : Option Int32 :=
  mf_bits_C4 fu a0 (0 : Int32) (0 : Int32)
-- BittenBoardsModel.rowsOf (P)
def mf_rowsOf_C4 : Nat → Int32 → Int32 → Int32 → Int32 → Option Int32
  | 0, _, _, _, _ => none
  | n + 1, x0, x1, x2, x3 =>
    (if x0 < x3 then (some x2) else (gd (¬ x3 = 0) <| nm ((x2 * (x1 + x3)) / x3) fun x2_16 => nm (x3 + (1 : Int32)) fun x3_17 => mf_rowsOf_C4 n x0 x1 x2_16 x3_17))
def mf_rowsOf (a0 : Int32) (a1 : Int32) : Option Int32 :=
  mf_rowsOf_C4 fu a0 a1 (1 : Int32) (1 : Int32)
-- BittenBoardsModel.rankOf (R)
def mf_rankOf_C12 (w : mW) (K4 : Int32 → Int32 → Option Int32) : Nat → Int32 → Int32 → Int32 → Option Int32
  | 0, _, _, _ => none
  | n + 1, x1, x2, x3 =>
    gi x2 7 <| (if ((w.2 15) x2.toNatClampNeg) ≤ x3 then (nm (x2 + (1 : Int32)) fun x2_39 => K4 x1 x2_39) else (bn (mf_rowsOf ((6 : Int32) - x2) x3) fun r_28 => nm (x1 + r_28) fun x1_32 => nm (x3 + (1 : Int32)) fun x3_33 => mf_rankOf_C12 w K4 n x1_32 x2 x3_33))
def mf_rankOf_C4 (w : mW) : Nat → Int32 → Int32 → Option Int32
  | 0, _, _ => none
  | n + 1, x1, x2 =>
    (if (7 : Int32) ≤ x2 then (some x1) else (mf_rankOf_C12 w (mf_rankOf_C4 w n) fu x1 x2 (0 : Int32)))
def mf_rankOf (w : mW) : Option Int32 :=
  mf_rankOf_C4 w fu (0 : Int32) (0 : Int32)
-- BittenBoardsModel.unrank (W)
def mf_unrank_C13 (K4 : Int32 → Int32 → mW → Option mW) : Nat → Int32 → Int32 → Int32 → mW → Option mW
  | 0, _, _, _, _ => none
  | n + 1, x2, x3, x4, w =>
    bn (mf_rowsOf ((6 : Int32) - x3) x4) fun r_20 => (if x2 < r_20 then (gi x3 7 <| nm (mU w 15 (x3.toNatClampNeg) x4) fun w_51 => nm (x3 + (1 : Int32)) fun x3_52 => K4 x2 x3_52 w_51) else (bn (mf_rowsOf ((6 : Int32) - x3) x4) fun r_33 => nm (x2 - r_33) fun x2_37 => nm (x4 + (1 : Int32)) fun x4_38 => mf_unrank_C13 K4 n x2_37 x3 x4_38 w))
def mf_unrank_C4 : Nat → Int32 → Int32 → mW → Option mW
  | 0, _, _, _ => none
  | n + 1, x2, x3, w =>
    (if (7 : Int32) ≤ x3 then (some w) else (mf_unrank_C13 (mf_unrank_C4 n) fu x2 x3 (0 : Int32) w))
def mf_unrank (a1 : Int32) (w : mW) : Option mW :=
  mf_unrank_C4 fu a1 (0 : Int32) w
-- BittenBoardsModel.placeOf (P)
def mf_placeOf (a0 : Int32) (a1 : Int32) : Option Int32 :=
  some (((12 : Int32) * a0) + a1)
-- BittenBoardsModel.withPost (R)
def mf_withPost_C54 (w : mW) (K7 : Int32 → Int32 → Int32 → Int32 → Option Int32) (x1 : Int32) (x2 : Int32) (x4 : Int32) (t0 : Int32) : Option Int32 :=
  nm (t0 ||| ((64 : Int32) <<< (x4 &&& 31))) fun x3_64 => nm (x4 + (1 : Int32)) fun x4_65 => K7 x1 x2 x3_64 x4_65
def mf_withPost_C7 (w : mW) : Nat → Int32 → Int32 → Int32 → Int32 → Option Int32
  | 0, _, _, _, _ => none
  | n + 1, x1, x2, x3, x4 =>
    gi x1 6 <| (if ((w.2 7) x1.toNatClampNeg) ≤ x4 then (some x3) else (nm (((18 : Int32) * x1) + ((2 : Int32) * x4)) fun x5_27 => gi x5_27 108 <| (if ((w.2 8) x5_27.toNatClampNeg) = x2 then (mf_withPost_C54 w (mf_withPost_C7 w n) x1 x2 x4 x3) else (gi (x5_27 + (1 : Int32)) 108 <| (if ((w.2 8) (x5_27 + (1 : Int32)).toNatClampNeg) = x2 then (mf_withPost_C54 w (mf_withPost_C7 w n) x1 x2 x4 x3) else (nm (x3 ||| (0 : Int32)) fun x3_64 => nm (x4 + (1 : Int32)) fun x4_65 => mf_withPost_C7 w n x1 x2 x3_64 x4_65))))))
def mf_withPost (a1 : Int32) (a2 : Int32) (w : mW) : Option Int32 :=
  nm ((1 : Int32) <<< (a2 &&& 31)) fun x3_3 => mf_withPost_C7 w fu a1 a2 x3_3 (0 : Int32)
-- BittenBoardsModel.addNext (W)
def mf_addNext (a1 : Int32) (w : mW) : Option mW :=
  gi (w.1 2) 49 <| nm (mU w 16 ((w.1 2).toNatClampNeg) a1) fun w_9 => nm (mS w_9 2 ((w_9.1 2) + (1 : Int32))) fun w_17 => some w_17
-- BittenBoardsModel.bitesOfRows (W)
def mf_bitesOfRows_C95 (K33 : Int32 → mW → Option mW) (K41 : Int32 → Int32 → mW → Option mW) (K54 : Int32 → Int32 → Int32 → mW → Option mW) (x2 : Int32) (x3 : Int32) (x4 : Int32) (t1 : Int32) (t2 : Int32) (w : mW) : Option mW :=
  gi t1 7 <| nm (mU w 15 (t1.toNatClampNeg) t2) fun w_95 => nm (x4 + (1 : Int32)) fun x4_96 => K54 x2 x3 x4_96 w_95
def mf_bitesOfRows_C88 (K33 : Int32 → mW → Option mW) (K41 : Int32 → Int32 → mW → Option mW) (K54 : Int32 → Int32 → Int32 → mW → Option mW) (x2 : Int32) (x3 : Int32) (x4 : Int32) (t1 : Int32) (w : mW) : Option mW :=
  gi x4 7 <| mf_bitesOfRows_C95 K33 K41 K54 x2 x3 x4 t1 ((w.2 18) x4.toNatClampNeg) w
def mf_bitesOfRows_C54 (K33 : Int32 → mW → Option mW) (K41 : Int32 → Int32 → mW → Option mW) : Nat → Int32 → Int32 → Int32 → mW → Option mW
  | 0, _, _, _, _ => none
  | n + 1, x2, x3, x4, w =>
    (if (7 : Int32) ≤ x4 then (bn (mf_rankOf w) fun r_104 => bn (mf_addNext r_104 w) fun w_107 => nm (x3 + (1 : Int32)) fun x3_110 => K41 x2 x3_110 w_107) else ((if x4 < x2 then (mf_bitesOfRows_C88 K33 K41 (mf_bitesOfRows_C54 K33 K41 n) x2 x3 x4 x4 w) else (gi x4 7 <| (if ((w.2 18) x4.toNatClampNeg) ≤ x3 then (mf_bitesOfRows_C88 K33 K41 (mf_bitesOfRows_C54 K33 K41 n) x2 x3 x4 x4 w) else (mf_bitesOfRows_C95 K33 K41 (mf_bitesOfRows_C54 K33 K41 n) x2 x3 x4 x4 x3 w))))))
def mf_bitesOfRows_C41 (K33 : Int32 → mW → Option mW) : Nat → Int32 → Int32 → mW → Option mW
  | 0, _, _, _ => none
  | n + 1, x2, x3, w =>
    gi x2 7 <| (if ((w.2 18) x2.toNatClampNeg) ≤ x3 then (nm (x2 + (1 : Int32)) fun x2_116 => K33 x2_116 w) else (mf_bitesOfRows_C54 K33 (mf_bitesOfRows_C41 K33 n) fu x2 x3 (0 : Int32) w))
def mf_bitesOfRows_C33 : Nat → Int32 → mW → Option mW
  | 0, _, _ => none
  | n + 1, x2, w =>
    (if (7 : Int32) ≤ x2 then (some w) else (mf_bitesOfRows_C41 (mf_bitesOfRows_C33 n) fu x2 (0 : Int32) w))
def mf_bitesOfRows_C7 : Nat → Int32 → mW → Option mW
  | 0, _, _ => none
  | n + 1, x2, w =>
    (if (7 : Int32) ≤ x2 then (mf_bitesOfRows_C33 fu (0 : Int32) w) else (gi x2 7 <| gi x2 7 <| nm (mU w 18 (x2.toNatClampNeg) ((w.2 15) x2.toNatClampNeg)) fun w_24 => nm (x2 + (1 : Int32)) fun x2_25 => mf_bitesOfRows_C7 n x2_25 w_24))
def mf_bitesOfRows (a1 : Int32) (w : mW) : Option mW :=
  bn (mf_unrank a1 w) fun w_2 => mf_bitesOfRows_C7 fu (0 : Int32) w_2
-- BittenBoardsModel.findNext (W)
def mf_findNext_C127 : Nat → Int32 → Int32 → Int32 → mW → Option mW
  | 0, _, _, _, _ => none
  | n + 1, x1, x2, x3, w =>
    gi x1 6 <| (if ((w.2 7) x1.toNatClampNeg) ≤ x3 then (some w) else ((if ((x2 >>> (((6 : Int32) + x3) &&& 31)) &&& (1 : Int32)) = (1 : Int32) then (bn (mf_addNext (x2 &&& (((64 : Int32) <<< (x3 &&& 31)) ^^^ (-1 : Int32))) w) fun w_158 => nm (x3 + (1 : Int32)) fun x3_161 => mf_findNext_C127 n x1 x2 x3_161 w_158) else (nm (x3 + (1 : Int32)) fun x3_161 => mf_findNext_C127 n x1 x2 x3_161 w))))
def mf_findNext_C86 : Nat → Int32 → Int32 → Int32 → mW → Option mW
  | 0, _, _, _, _ => none
  | n + 1, x1, x2, x3, w =>
    gi x1 6 <| (if ((w.2 6) x1.toNatClampNeg) ≤ x3 then (mf_findNext_C127 fu x1 x2 (0 : Int32) w) else ((if ((x2 >>> (x3 &&& 31)) &&& (1 : Int32)) = (1 : Int32) then (bn (mf_withPost x1 x3 w) fun r_110 => bn (mf_addNext (x2 &&& (r_110 ^^^ (-1 : Int32))) w) fun w_116 => nm (x3 + (1 : Int32)) fun x3_119 => mf_findNext_C86 n x1 x2 x3_119 w_116) else (nm (x3 + (1 : Int32)) fun x3_119 => mf_findNext_C86 n x1 x2 x3_119 w))))
def mf_findNext_C34 : Nat → Int32 → Int32 → Int32 → mW → Option mW
  | 0, _, _, _, _ => none
  | n + 1, x1, x2, x3, w =>
    gi x1 6 <| (if ((w.2 4) x1.toNatClampNeg) ≤ x3 then (some w) else ((if ((x2 >>> (x3 &&& 31)) &&& (1 : Int32)) = (1 : Int32) then (bn (mf_placeOf x1 x3) fun r_64 => gi r_64 72 <| bn (mf_addNext (x2 &&& ((((1 : Int32) <<< (x3 &&& 31)) ||| ((w.2 5) r_64.toNatClampNeg)) ^^^ (-1 : Int32))) w) fun w_72 => nm (x3 + (1 : Int32)) fun x3_75 => mf_findNext_C34 n x1 x2 x3_75 w_72) else (nm (x3 + (1 : Int32)) fun x3_75 => mf_findNext_C34 n x1 x2 x3_75 w))))
def mf_findNext (a1 : Int32) (a2 : Int32) (w : mW) : Option mW :=
  nm (mS w 2 (0 : Int32)) fun w_2 => gi a1 6 <| (if ((w_2.2 1) a1.toNatClampNeg) = 0 then (bn (mf_bitesOfRows a2 w_2) fun w_16 => some w_16) else (gi a1 6 <| (if ((w_2.2 1) a1.toNatClampNeg) = (1 : Int32) then (mf_findNext_C34 fu a1 a2 (0 : Int32) w_2) else (mf_findNext_C86 fu a1 a2 (0 : Int32) w_2))))
-- BittenBoardsModel.fullOf (R)
def mf_fullOf (a1 : Int32) (w : mW) : Option Int32 :=
  gi a1 6 <| (if ((w.2 1) a1.toNatClampNeg) = 0 then (some (3431 : Int32)) else (gi a1 6 <| (if ((w.2 1) a1.toNatClampNeg) = (1 : Int32) then (gi a1 6 <| some (((1 : Int32) <<< (((w.2 4) a1.toNatClampNeg) &&& 31)) - (1 : Int32))) else (gi a1 6 <| gi a1 6 <| some ((((1 : Int32) <<< (((w.2 6) a1.toNatClampNeg) &&& 31)) - (1 : Int32)) ||| ((((1 : Int32) <<< (((w.2 7) a1.toNatClampNeg) &&& 31)) - (1 : Int32)) <<< ((6 : Int32) &&& 31)))))))
-- BittenBoardsModel.solveState (W)
def mf_solveState_C222 : Nat → Int32 → Int32 → mW → Option mW
  | 0, _, _, _ => none
  | n + 1, x2, x6, w =>
    gi x6 64 <| (if ((w.2 17) x6.toNatClampNeg) = 0 then (gi x2 32768 <| nm (mU w 14 (x2.toNatClampNeg) x6) fun w_245 => some w_245) else (nm (x6 + (1 : Int32)) fun x6_232 => mf_solveState_C222 n x2 x6_232 w))
def mf_solveState_C218 (x2 : Int32) (t1 : Int32) (t2 : Int32) (w : mW) : Option mW :=
  gi t1 32768 <| nm (mU w 13 (t1.toNatClampNeg) t2) fun w_218 => mf_solveState_C222 fu x2 (0 : Int32) w_218
def mf_solveState_C217 (x2 : Int32) (t1 : Int32) (t2 : Int32) (t3 : Int32) (w : mW) : Option mW :=
  mf_solveState_C218 x2 t1 (t2 + t3) w
def mf_solveState_C148 (K58 : Int32 → Int32 → Int32 → Int32 → Int32 → mW → Option mW) (x2 : Int32) (x3 : Int32) (x5 : Int32) (x6 : Int32) (x7 : Int32) (t0 : Int32) (w : mW) : Option mW :=
  gi x7 32768 <| (if ((w.2 13) x7.toNatClampNeg) ≤ x5 then (nm (x6 + (1 : Int32)) fun x6_176 => K58 x2 x3 t0 x5 x6_176 w) else (gi x7 32768 <| nm ((w.2 13) x7.toNatClampNeg) fun x5_174 => nm (x6 + (1 : Int32)) fun x6_176 => K58 x2 x3 t0 x5_174 x6_176 w))
def mf_solveState_C146 (K58 : Int32 → Int32 → Int32 → Int32 → Int32 → mW → Option mW) (x2 : Int32) (x3 : Int32) (x4 : Int32) (x5 : Int32) (x6 : Int32) (x7 : Int32) (w : mW) : Option mW :=
  mf_solveState_C148 K58 x2 x3 x5 x6 x7 x4 w
def mf_solveState_C136 (K58 : Int32 → Int32 → Int32 → Int32 → Int32 → mW → Option mW) (x2 : Int32) (x3 : Int32) (x5 : Int32) (x6 : Int32) (x7 : Int32) (w : mW) : Option mW :=
  gi x7 32768 <| mf_solveState_C148 K58 x2 x3 x5 x6 x7 ((w.2 13) x7.toNatClampNeg) w
def mf_solveState_C108 (K58 : Int32 → Int32 → Int32 → Int32 → Int32 → mW → Option mW) (x2 : Int32) (x4 : Int32) (x5 : Int32) (x6 : Int32) (x7 : Int32) (t0 : Int32) (w : mW) : Option mW :=
  gi x7 32768 <| (if ((w.2 12) x7.toNatClampNeg) = 0 then ((if x4 < 0 then (mf_solveState_C136 K58 x2 t0 x5 x6 x7 w) else (gi x7 32768 <| (if x4 ≤ ((w.2 13) x7.toNatClampNeg) then (mf_solveState_C146 K58 x2 t0 x4 x5 x6 x7 w) else (mf_solveState_C136 K58 x2 t0 x5 x6 x7 w))))) else (mf_solveState_C146 K58 x2 t0 x4 x5 x6 x7 w))
def mf_solveState_C103 (K58 : Int32 → Int32 → Int32 → Int32 → Int32 → mW → Option mW) (x2 : Int32) (x4 : Int32) (x5 : Int32) (x6 : Int32) (x7 : Int32) (w : mW) : Option mW :=
  mf_solveState_C108 K58 x2 x4 x5 x6 x7 (1 : Int32) w
def mf_solveState_C58 : Nat → Int32 → Int32 → Int32 → Int32 → Int32 → mW → Option mW
  | 0, _, _, _, _, _, _ => none
  | n + 1, x2, x3, x4, x5, x6, w =>
    (if (w.1 2) ≤ x6 then (gi x2 32768 <| nm (mU w 12 (x2.toNatClampNeg) (vp_nar .boolean x3)) fun w_188 => (if (w_188.1 2) = 0 then (mf_solveState_C218 x2 x2 (0 : Int32) w_188) else ((if x3 = 0 then (mf_solveState_C217 x2 x2 (1 : Int32) x5 w_188) else (mf_solveState_C217 x2 x2 (1 : Int32) x4 w_188))))) else (gi x6 49 <| nm ((w.2 16) x6.toNatClampNeg) fun x7_74 => gi x7_74 32768 <| gi ((w.2 14) x7_74.toNatClampNeg) 64 <| nm (mU w 17 (((w.2 14) x7_74.toNatClampNeg).toNatClampNeg) (vp_nar .boolean (1 : Int32))) fun w_88 => (if x3 = 0 then (gi x7_74 32768 <| (if ((w_88.2 12) x7_74.toNatClampNeg) = 0 then (mf_solveState_C103 (mf_solveState_C58 n) x2 x4 x5 x6 x7_74 w_88) else (mf_solveState_C108 (mf_solveState_C58 n) x2 x4 x5 x6 x7_74 (0 : Int32) w_88))) else (mf_solveState_C103 (mf_solveState_C58 n) x2 x4 x5 x6 x7_74 w_88))))
def mf_solveState_C47 (x2 : Int32) (w : mW) : Option mW :=
  mf_solveState_C58 fu x2 (0 : Int32) (-1 : Int32) (-1 : Int32) (0 : Int32) w
def mf_solveState_C8 : Nat → Int32 → Int32 → Int32 → mW → Option mW
  | 0, _, _, _, _ => none
  | n + 1, x1, x2, x3, w =>
    (if (64 : Int32) ≤ x3 then ((if (w.1 2) = 0 then (gi x1 6 <| (if ((w.2 2) x1.toNatClampNeg) = 0 then (mf_solveState_C58 fu x2 (1 : Int32) (-1 : Int32) (-1 : Int32) (0 : Int32) w) else (mf_solveState_C47 x2 w))) else (mf_solveState_C47 x2 w))) else (gi x3 64 <| nm (mU w 17 (x3.toNatClampNeg) (vp_nar .boolean (0 : Int32))) fun w_20 => nm (x3 + (1 : Int32)) fun x3_21 => mf_solveState_C8 n x1 x2 x3_21 w_20))
def mf_solveState (a1 : Int32) (a2 : Int32) (w : mW) : Option mW :=
  bn (mf_findNext a1 a2 w) fun w_3 => mf_solveState_C8 fu a1 a2 (0 : Int32) w_3
-- BittenBoardsModel.solve (W)
def mf_solve_C16 : Nat → Int32 → Int32 → Int32 → mW → Option mW
  | 0, _, _, _, _ => none
  | n + 1, x1, x2, x3, w =>
    (if x2 < x3 then (nm (mS w 1 x1) fun w_35 => some w_35) else (bn (mf_solveState x1 x3 w) fun w_24 => nm (x3 + (1 : Int32)) fun x3_27 => mf_solve_C16 n x1 x2 x3_27 w_24))
def mf_solve (a1 : Int32) (w : mW) : Option mW :=
  (if (w.1 1) = a1 then (some w) else (bn (mf_fullOf a1 w) fun r_10 => mf_solve_C16 fu a1 r_10 (0 : Int32) w))
-- BittenBoardsModel.fresh (W)
def mf_fresh_C71 (x3 : Int32) (t1 : Int32) (w : mW) : Option (Int32 × mW) :=
  nm (mS w 1 t1) fun w_71 => nm (mS w_71 0 ((w_71.1 0) + (1 : Int32))) fun w_81 => some (x3, w_81)
def mf_fresh (a1 : Int32) (a2 : Int32) (w : mW) : Option (Int32 × mW) :=
  nm (w.1 0) fun x3_4 => gi x3_4 6 <| nm (mU w 1 (x3_4.toNatClampNeg) a1) fun w_11 => gi x3_4 6 <| nm (mU w_11 2 (x3_4.toNatClampNeg) a2) fun w_18 => gi x3_4 6 <| nm (mU w_18 3 (x3_4.toNatClampNeg) (0 : Int32)) fun w_25 => gi x3_4 6 <| nm (mU w_25 4 (x3_4.toNatClampNeg) (0 : Int32)) fun w_32 => gi x3_4 6 <| nm (mU w_32 6 (x3_4.toNatClampNeg) (0 : Int32)) fun w_39 => gi x3_4 6 <| nm (mU w_39 7 (x3_4.toNatClampNeg) (0 : Int32)) fun w_46 => gi x3_4 6 <| nm (mU w_46 9 (x3_4.toNatClampNeg) (0 : Int32)) fun w_53 => (if (w_53.1 1) = x3_4 then (mf_fresh_C71 x3_4 (-1 : Int32) w_53) else (mf_fresh_C71 x3_4 (w_53.1 1) w_53))
-- BittenBoardsModel.isRule (P)
def mf_isRule (a0 : Int32) : Option Int32 :=
  bn (mf_in (a0.toInt64) (0 : Int64) (1 : Int64)) fun r_4 => gd (r_4 = 0 ∨ r_4 = 1) <| some r_4
-- BittenBoardsModel.rows (W)
def mf_rows_C83 (K59 : Int32 → Int32 → Int32 → Int32 → mW → Option (Int32 × mW)) (x1 : Int32) (x2 : Int32) (x4 : Int32) (x5 : Int32) (t1 : Int32) (t2 : Int32) (w : mW) : Option (Int32 × mW) :=
  gi t1 7 <| nm (mU w 15 (t1.toNatClampNeg) t2) fun w_83 => nm (x5 + (1 : Int32)) fun x5_84 => K59 x1 x2 x4 x5_84 w_83
def mf_rows_C59 : Nat → Int32 → Int32 → Int32 → Int32 → mW → Option (Int32 × mW)
  | 0, _, _, _, _, _ => none
  | n + 1, x1, x2, x4, x5, w =>
    (if (7 : Int32) ≤ x5 then (bn (mf_rankOf w) fun r_97 => gi x4 6 <| nm (mU w 3 (x4.toNatClampNeg) r_97) fun w_100 => some (x4, w_100)) else ((if x1 ≤ x5 then (mf_rows_C83 (mf_rows_C59 n) x1 x2 x4 x5 x5 (0 : Int32) w) else (mf_rows_C83 (mf_rows_C59 n) x1 x2 x4 x5 x5 x2 w))))
def mf_rows (a1 : Int32) (a2 : Int32) (a3 : Int32) (w : mW) : Option (Int32 × mW) :=
  bn (mf_in (a1.toInt64) (1 : Int64) (7 : Int64)) fun r_6 => (if r_6 = 0 then (some ((-1002 : Int32), w)) else (bn (mf_in (a2.toInt64) (1 : Int64) (7 : Int64)) fun r_18 => (if r_18 = 0 then (some ((-1002 : Int32), w)) else (bn (mf_isRule a3) fun r_25 => (if r_25 = 0 then (some ((-1002 : Int32), w)) else ((if (w.1 0) = (6 : Int32) then (some ((-1004 : Int32), w)) else (bn2 (mf_fresh (0 : Int32) a3 w) fun r_51 w_51 => mf_rows_C59 fu a1 a2 r_51 (0 : Int32) w_51))))))))
-- BittenBoardsModel.order (W)
def mf_order (a1 : Int32) (w : mW) : Option (Int32 × mW) :=
  bn (mf_isRule a1) fun r_1 => (if r_1 = 0 then (some ((-1002 : Int32), w)) else ((if (w.1 0) = (6 : Int32) then (some ((-1004 : Int32), w)) else (bn2 (mf_fresh (1 : Int32) a1 w) fun r_31 w_31 => some (r_31, w_31)))))
-- BittenBoardsModel.divisors (W)
def mf_divisors_C183 (K102 : Int32 → Int32 → Int32 → Int32 → mW → Option (Int32 × mW)) (K134 : Int32 → Int32 → Int32 → Int32 → Int32 → Int32 → mW → Option (Int32 × mW)) (x1 : Int32) (x4 : Int32) (x5 : Int32) (x6 : Int32) (x7 : Int32) (x8 : Int32) (t1 : Int32) (t2 : Int32) (t3 : Int32) (w : mW) : Option (Int32 × mW) :=
  gi t1 72 <| nm (mU w 5 (t1.toNatClampNeg) (t2 ||| t3)) fun w_184 => nm (x7 + (1 : Int32)) fun x7_185 => nm (x8 + (1 : Int32)) fun x8_188 => K134 x1 x4 x5 x6 x7_185 x8_188 w_184
def mf_divisors_C182 (K102 : Int32 → Int32 → Int32 → Int32 → mW → Option (Int32 × mW)) (K134 : Int32 → Int32 → Int32 → Int32 → Int32 → Int32 → mW → Option (Int32 × mW)) (x1 : Int32) (x4 : Int32) (x5 : Int32) (x6 : Int32) (x7 : Int32) (x8 : Int32) (t1 : Int32) (t2 : Int32) (w : mW) : Option (Int32 × mW) :=
  mf_divisors_C183 K102 K134 x1 x4 x5 x6 x7 x8 t1 t2 (0 : Int32) w
def mf_divisors_C134 (K102 : Int32 → Int32 → Int32 → Int32 → mW → Option (Int32 × mW)) : Nat → Int32 → Int32 → Int32 → Int32 → Int32 → Int32 → mW → Option (Int32 × mW)
  | 0, _, _, _, _, _, _, _ => none
  | n + 1, x1, x4, x5, x6, x7, x8, w =>
    (if x1 < x8 then (nm (x5 + (1 : Int32)) fun x5_194 => nm (x6 + (1 : Int32)) fun x6_197 => K102 x1 x4 x5_194 x6_197 w) else (gd (¬ x8 = 0) <| (if (x1 - x1 / x8 * x8) = 0 then (bn (mf_placeOf x4 x5) fun r_155 => gi r_155 72 <| (if x8 = x6 then (mf_divisors_C182 K102 (mf_divisors_C134 K102 n) x1 x4 x5 x6 x7 x8 r_155 ((w.2 5) r_155.toNatClampNeg) w) else (gd (¬ x6 = 0) <| (if (x8 - x8 / x6 * x6) = 0 then (mf_divisors_C183 K102 (mf_divisors_C134 K102 n) x1 x4 x5 x6 x7 x8 r_155 ((w.2 5) r_155.toNatClampNeg) ((1 : Int32) <<< (x7 &&& 31)) w) else (mf_divisors_C182 K102 (mf_divisors_C134 K102 n) x1 x4 x5 x6 x7 x8 r_155 ((w.2 5) r_155.toNatClampNeg) w))))) else (nm (x8 + (1 : Int32)) fun x8_188 => mf_divisors_C134 K102 n x1 x4 x5 x6 x7 x8_188 w))))
def mf_divisors_C102 : Nat → Int32 → Int32 → Int32 → Int32 → mW → Option (Int32 × mW)
  | 0, _, _, _, _, _ => none
  | n + 1, x1, x4, x5, x6, w =>
    (if x1 < x6 then (bn (mf_fullOf x4 w) fun r_212 => gi x4 6 <| nm (mU w 3 (x4.toNatClampNeg) r_212) fun w_215 => some (x4, w_215)) else (gd (¬ x6 = 0) <| (if (x1 - x1 / x6 * x6) = 0 then (bn (mf_placeOf x4 x5) fun r_126 => gi r_126 72 <| nm (mU w 5 (r_126.toNatClampNeg) (0 : Int32)) fun w_130 => mf_divisors_C134 (mf_divisors_C102 n) fu x1 x4 x5 x6 (0 : Int32) (1 : Int32) w_130) else (nm (x6 + (1 : Int32)) fun x6_197 => mf_divisors_C102 n x1 x4 x5 x6_197 w))))
def mf_divisors_C44 (x1 : Int32) (x2 : Int32) (x3 : Int32) (w : mW) : Option (Int32 × mW) :=
  bn (mf_in (x3.toInt64) (1 : Int64) (12 : Int64)) fun r_50 => (if r_50 = 0 then (some ((-1002 : Int32), w)) else (bn (mf_isRule x2) fun r_57 => (if r_57 = 0 then (some ((-1002 : Int32), w)) else ((if (w.1 0) = (6 : Int32) then (some ((-1004 : Int32), w)) else (bn2 (mf_fresh (1 : Int32) x2 w) fun r_83 w_83 => gi r_83 6 <| nm (mU w_83 4 (r_83.toNatClampNeg) x3) fun w_95 => mf_divisors_C102 fu x1 r_83 (0 : Int32) (1 : Int32) w_95))))))
def mf_divisors_C5 : Nat → Int32 → Int32 → Int32 → Int32 → mW → Option (Int32 × mW)
  | 0, _, _, _, _, _ => none
  | n + 1, x1, x2, x3, x4, w =>
    (if x1 < x4 then (mf_divisors_C44 x1 x2 x3 w) else (bn (mf_in (x1.toInt64) (1 : Int64) (10000 : Int64)) fun r_17 => (if r_17 = 0 then (mf_divisors_C44 x1 x2 x3 w) else (gd (¬ x4 = 0) <| (if (x1 - x1 / x4 * x4) = 0 then (nm (x3 + (1 : Int32)) fun x3_37 => nm (x4 + (1 : Int32)) fun x4_38 => mf_divisors_C5 n x1 x2 x3_37 x4_38 w) else (nm (x3 + (0 : Int32)) fun x3_37 => nm (x4 + (1 : Int32)) fun x4_38 => mf_divisors_C5 n x1 x2 x3_37 x4_38 w))))))
def mf_divisors (a1 : Int32) (a2 : Int32) (w : mW) : Option (Int32 × mW) :=
  mf_divisors_C5 fu a1 a2 (0 : Int32) (1 : Int32) w
-- BittenBoardsModel.net (W)
def mf_net (a1 : Int32) (w : mW) : Option (Int32 × mW) :=
  bn (mf_isRule a1) fun r_1 => (if r_1 = 0 then (some ((-1002 : Int32), w)) else ((if (w.1 0) = (6 : Int32) then (some ((-1004 : Int32), w)) else (bn2 (mf_fresh (2 : Int32) a1 w) fun r_31 w_31 => some (r_31, w_31)))))
-- BittenBoardsModel.clear (W)
def mf_clear (w : mW) : Option (Int32 × mW) :=
  nm (w.1 0) fun x1_4 => nm (mS w 0 (0 : Int32)) fun w_7 => nm (mS w_7 1 (-1 : Int32)) fun w_12 => some (x1_4, w_12)
-- BittenBoardsModel.isGame (R)
def mf_isGame (a1 : Int32) (w : mW) : Option Int32 :=
  bn (mf_in (a1.toInt64) (0 : Int64) (((w.1 0) - (1 : Int32)).toInt64)) fun r_10 => gd (r_10 = 0 ∨ r_10 = 1) <| some r_10
-- BittenBoardsModel.isOf (R)
def mf_isOf (a1 : Int32) (a2 : Int32) (w : mW) : Option Int32 :=
  bn (mf_isGame a1 w) fun r_2 => (if r_2 = 0 then (gd ((0 : Int32) = 0 ∨ (0 : Int32) = 1) <| some (0 : Int32)) else (gi a1 6 <| (if ((w.2 1) a1.toNatClampNeg) = a2 then (gd ((1 : Int32) = 0 ∨ (1 : Int32) = 1) <| some (1 : Int32)) else (gd ((0 : Int32) = 0 ∨ (0 : Int32) = 1) <| some (0 : Int32)))))
-- BittenBoardsModel.bitesOf (W)
def mf_bitesOf (a1 : Int32) (w : mW) : Option (Int32 × mW) :=
  gi a1 6 <| bn (mf_findNext a1 ((w.2 3) a1.toNatClampNeg) w) fun w_8 => some ((w_8.1 2), w_8)
-- BittenBoardsModel.row (W)
def mf_row_C118 (K83 : Int32 → Int32 → Int32 → mW → Option (Int32 × mW)) (x1 : Int32) (x3 : Int32) (x4 : Int32) (t1 : Int32) (t2 : Int32) (w : mW) : Option (Int32 × mW) :=
  gi t1 7 <| nm (mU w 15 (t1.toNatClampNeg) t2) fun w_118 => nm (x4 + (1 : Int32)) fun x4_119 => K83 x1 x3 x4_119 w_118
def mf_row_C83 : Nat → Int32 → Int32 → Int32 → mW → Option (Int32 × mW)
  | 0, _, _, _, _ => none
  | n + 1, x1, x3, x4, w =>
    (if (7 : Int32) ≤ x4 then (bn (mf_rankOf w) fun r_131 => gi x1 6 <| nm (mU w 3 (x1.toNatClampNeg) r_131) fun w_134 => gi x1 6 <| nm (mU w_134 9 (x1.toNatClampNeg) (0 : Int32)) fun w_141 => bn2 (mf_bitesOf x1 w_141) fun r_144 w_144 => some (r_144, w_144)) else (gi x4 7 <| (if ((w.2 15) x4.toNatClampNeg) ≤ x3 then (gi x4 7 <| mf_row_C118 (mf_row_C83 n) x1 x3 x4 x4 ((w.2 15) x4.toNatClampNeg) w) else (mf_row_C118 (mf_row_C83 n) x1 x3 x4 x4 x3 w))))
def mf_row_C71 (x1 : Int32) (x2 : Int32) (x3 : Int32) (w : mW) : Option (Int32 × mW) :=
  gi x2 7 <| nm (mU w 15 (x2.toNatClampNeg) x3) fun w_77 => nm (x2 + (1 : Int32)) fun x4_81 => mf_row_C83 fu x1 x3 x4_81 w_77
def mf_row (a1 : Int32) (a2 : Int32) (a3 : Int32) (w : mW) : Option (Int32 × mW) :=
  bn (mf_isOf a1 (0 : Int32) w) fun r_3 => (if r_3 = 0 then (some ((-1001 : Int32), w)) else (bn (mf_in (a2.toInt64) (0 : Int64) (6 : Int64)) fun r_19 => (if r_19 = 0 then (some ((-1002 : Int32), w)) else (bn (mf_in (a3.toInt64) (0 : Int64) (7 : Int64)) fun r_31 => (if r_31 = 0 then (some ((-1002 : Int32), w)) else (gi a1 6 <| bn (mf_unrank ((w.2 3) a1.toNatClampNeg) w) fun w_48 => (if a2 ≤ 0 then (mf_row_C71 a1 a2 a3 w_48) else (gi (a2 - (1 : Int32)) 7 <| (if a3 ≤ ((w_48.2 15) (a2 - (1 : Int32)).toNatClampNeg) then (mf_row_C71 a1 a2 a3 w_48) else (some ((-1003 : Int32), w_48)))))))))))
-- BittenBoardsModel.again (W)
def mf_again_C35 (t1 : Int32) (w : mW) : Option mW :=
  nm (mS w 1 t1) fun w_35 => some w_35
def mf_again (a1 : Int32) (w : mW) : Option mW :=
  bn (mf_fullOf a1 w) fun r_7 => gi a1 6 <| nm (mU w 3 (a1.toNatClampNeg) r_7) fun w_10 => gi a1 6 <| nm (mU w_10 9 (a1.toNatClampNeg) (0 : Int32)) fun w_17 => (if (w_17.1 1) = a1 then (mf_again_C35 (-1 : Int32) w_17) else (mf_again_C35 (w_17.1 1) w_17))
-- BittenBoardsModel.thing (W)
def mf_thing (a1 : Int32) (w : mW) : Option (Int32 × mW) :=
  bn (mf_isOf a1 (1 : Int32) w) fun r_3 => (if r_3 = 0 then (some ((-1001 : Int32), w)) else (gi a1 6 <| (if ((w.2 4) a1.toNatClampNeg) = (12 : Int32) then (some ((-1004 : Int32), w)) else (gi a1 6 <| bn (mf_placeOf a1 ((w.2 4) a1.toNatClampNeg)) fun r_39 => gi r_39 72 <| nm (mU w 5 (r_39.toNatClampNeg) (0 : Int32)) fun w_43 => gi a1 6 <| gi a1 6 <| nm (mU w_43 4 (a1.toNatClampNeg) (((w_43.2 4) a1.toNatClampNeg) + (1 : Int32))) fun w_53 => bn (mf_again a1 w_53) fun w_56 => gi a1 6 <| some ((((w_56.2 4) a1.toNatClampNeg) - (1 : Int32)), w_56)))))
-- BittenBoardsModel.isThing (R)
def mf_isThing (a1 : Int32) (a2 : Int32) (w : mW) : Option Int32 :=
  bn (mf_isOf a1 (1 : Int32) w) fun r_3 => (if r_3 = 0 then (gd ((0 : Int32) = 0 ∨ (0 : Int32) = 1) <| some (0 : Int32)) else (gi a1 6 <| bn (mf_in (a2.toInt64) (0 : Int64) ((((w.2 4) a1.toNatClampNeg) - (1 : Int32)).toInt64)) fun r_21 => (if r_21 = 0 then (gd ((0 : Int32) = 0 ∨ (0 : Int32) = 1) <| some (0 : Int32)) else (gd ((1 : Int32) = 0 ∨ (1 : Int32) = 1) <| some (1 : Int32)))))
-- BittenBoardsModel.lies (R)
def mf_lies (a1 : Int32) (a2 : Int32) (a3 : Int32) (w : mW) : Option Int32 :=
  bn (mf_placeOf a1 a2) fun r_6 => gi r_6 72 <| (if ((((w.2 5) r_6.toNatClampNeg) >>> (a3 &&& 31)) &&& (1 : Int32)) = (1 : Int32) then (gd ((1 : Int32) = 0 ∨ (1 : Int32) = 1) <| some (1 : Int32)) else (gd ((0 : Int32) = 0 ∨ (0 : Int32) = 1) <| some (0 : Int32)))
-- BittenBoardsModel.below (W)
def mf_below_C107 (K63 : Int32 → Int32 → Int32 → Int32 → Int32 → mW → Option (Int32 × mW)) (x1 : Int32) (x2 : Int32) (x4 : Int32) (x5 : Int32) (x6 : Int32) (w : mW) : Option (Int32 × mW) :=
  bn (mf_placeOf x1 x6) fun r_116 => gi r_116 72 <| bn (mf_bits ((w.2 5) r_116.toNatClampNeg)) fun r_120 => nm (x5 + r_120) fun x5_124 => nm (x6 + (1 : Int32)) fun x6_126 => K63 x1 x2 x4 x5_124 x6_126 w
def mf_below_C91 (K63 : Int32 → Int32 → Int32 → Int32 → Int32 → mW → Option (Int32 × mW)) (x1 : Int32) (x2 : Int32) (x4 : Int32) (x5 : Int32) (x6 : Int32) (w : mW) : Option (Int32 × mW) :=
  bn (mf_placeOf x1 x6) fun r_98 => gi r_98 72 <| gi r_98 72 <| nm (mU w 5 (r_98.toNatClampNeg) (((w.2 5) r_98.toNatClampNeg) ||| x4)) fun w_106 => mf_below_C107 K63 x1 x2 x4 x5 x6 w_106
def mf_below_C63 : Nat → Int32 → Int32 → Int32 → Int32 → Int32 → mW → Option (Int32 × mW)
  | 0, _, _, _, _, _, _ => none
  | n + 1, x1, x2, x4, x5, x6, w =>
    gi x1 6 <| (if ((w.2 4) x1.toNatClampNeg) ≤ x6 then (bn (mf_again x1 w) fun w_134 => some (x5, w_134)) else ((if x6 = x2 then (mf_below_C91 (mf_below_C63 n) x1 x2 x4 x5 x6 w) else (bn (mf_lies x1 x6 x2 w) fun r_85 => (if r_85 = 0 then (mf_below_C107 (mf_below_C63 n) x1 x2 x4 x5 x6 w) else (mf_below_C91 (mf_below_C63 n) x1 x2 x4 x5 x6 w))))))
def mf_below (a1 : Int32) (a2 : Int32) (a3 : Int32) (w : mW) : Option (Int32 × mW) :=
  bn (mf_isThing a1 a2 w) fun r_3 => (if r_3 = 0 then (some ((-1001 : Int32), w)) else (bn (mf_isThing a1 a3 w) fun r_12 => (if r_12 = 0 then (some ((-1001 : Int32), w)) else ((if a2 = a3 then (some ((-1003 : Int32), w)) else (bn (mf_lies a1 a3 a2 w) fun r_31 => (if r_31 = 0 then (bn (mf_placeOf a1 a3) fun r_50 => gi r_50 72 <| nm (((1 : Int32) <<< (a3 &&& 31)) ||| ((w.2 5) r_50.toNatClampNeg)) fun x4_55 => mf_below_C63 fu a1 a2 x4_55 (0 : Int32) (0 : Int32) w) else (some ((-1003 : Int32), w)))))))))
-- BittenBoardsModel.post (W)
def mf_post (a1 : Int32) (w : mW) : Option (Int32 × mW) :=
  bn (mf_isOf a1 (2 : Int32) w) fun r_3 => (if r_3 = 0 then (some ((-1001 : Int32), w)) else (gi a1 6 <| (if ((w.2 6) a1.toNatClampNeg) = (6 : Int32) then (some ((-1004 : Int32), w)) else (gi a1 6 <| gi a1 6 <| nm (mU w 6 (a1.toNatClampNeg) (((w.2 6) a1.toNatClampNeg) + (1 : Int32))) fun w_37 => bn (mf_again a1 w_37) fun w_40 => gi a1 6 <| some ((((w_40.2 6) a1.toNatClampNeg) - (1 : Int32)), w_40)))))
-- BittenBoardsModel.road (W)
def mf_road (a1 : Int32) (a2 : Int32) (a3 : Int32) (w : mW) : Option (Int32 × mW) :=
  bn (mf_isOf a1 (2 : Int32) w) fun r_3 => (if r_3 = 0 then (some ((-1001 : Int32), w)) else (gi a1 6 <| bn (mf_in (a2.toInt64) (0 : Int64) ((((w.2 6) a1.toNatClampNeg) - (1 : Int32)).toInt64)) fun r_21 => (if r_21 = 0 then (some ((-1001 : Int32), w)) else (gi a1 6 <| bn (mf_in (a3.toInt64) (0 : Int64) ((((w.2 6) a1.toNatClampNeg) - (1 : Int32)).toInt64)) fun r_39 => (if r_39 = 0 then (some ((-1001 : Int32), w)) else ((if a2 = a3 then (some ((-1003 : Int32), w)) else (gi a1 6 <| (if ((w.2 7) a1.toNatClampNeg) = (9 : Int32) then (some ((-1004 : Int32), w)) else (gi a1 6 <| gi (((18 : Int32) * a1) + ((2 : Int32) * ((w.2 7) a1.toNatClampNeg))) 108 <| nm (mU w 8 ((((18 : Int32) * a1) + ((2 : Int32) * ((w.2 7) a1.toNatClampNeg))).toNatClampNeg) a2) fun w_91 => gi a1 6 <| gi ((((18 : Int32) * a1) + ((2 : Int32) * ((w_91.2 7) a1.toNatClampNeg))) + (1 : Int32)) 108 <| nm (mU w_91 8 (((((18 : Int32) * a1) + ((2 : Int32) * ((w_91.2 7) a1.toNatClampNeg))) + (1 : Int32)).toNatClampNeg) a3) fun w_112 => gi a1 6 <| gi a1 6 <| nm (mU w_112 7 (a1.toNatClampNeg) (((w_112.2 7) a1.toNatClampNeg) + (1 : Int32))) fun w_122 => bn (mf_again a1 w_122) fun w_125 => gi a1 6 <| some ((((w_125.2 7) a1.toNatClampNeg) - (1 : Int32)), w_125)))))))))))
-- BittenBoardsModel.rule (W)
def mf_rule_C54 (x3 : Int32) (t1 : Int32) (w : mW) : Option (Int32 × mW) :=
  nm (mS w 1 t1) fun w_54 => some (x3, w_54)
def mf_rule (a1 : Int32) (a2 : Int32) (w : mW) : Option (Int32 × mW) :=
  bn (mf_isGame a1 w) fun r_2 => (if r_2 = 0 then (some ((-1001 : Int32), w)) else (bn (mf_isRule a2) fun r_13 => (if r_13 = 0 then (some ((-1002 : Int32), w)) else (gi a1 6 <| nm ((w.2 2) a1.toNatClampNeg) fun x3_29 => gi a1 6 <| nm (mU w 2 (a1.toNatClampNeg) a2) fun w_36 => (if (w_36.1 1) = a1 then (mf_rule_C54 x3_29 (-1 : Int32) w_36) else (mf_rule_C54 x3_29 (w_36.1 1) w_36))))))
-- BittenBoardsModel.told (W)
def mf_told (a1 : Int32) (a2 : Int32) (w : mW) : Option (Int32 × mW) :=
  bn (mf_isGame a1 w) fun r_2 => (if r_2 = 0 then (some ((-1001 : Int32), w)) else ((if a2 = 0 then (gi a1 6 <| some (((w.2 1) a1.toNatClampNeg), w)) else (if a2 = 1 then (gi a1 6 <| some (((w.2 2) a1.toNatClampNeg), w)) else (if a2 = 2 then (bn2 (mf_bitesOf a1 w) fun r_68 w_68 => some (r_68, w_68)) else (if a2 = 3 then (bn2 (mf_bitesOf a1 w) fun r_68 w_68 => some (r_68, w_68)) else (if a2 = 4 then (gi a1 6 <| some (((w.2 9) a1.toNatClampNeg), w)) else (if a2 = 5 then (gi a1 6 <| some (((w.2 3) a1.toNatClampNeg), w)) else (some ((-1002 : Int32), w))))))))))
-- BittenBoardsModel.isBelow (R)
def mf_isBelow (a1 : Int32) (a2 : Int32) (a3 : Int32) (w : mW) : Option Int32 :=
  bn (mf_isThing a1 a2 w) fun r_3 => (if r_3 = 0 then (some (-1001 : Int32)) else (bn (mf_isThing a1 a3 w) fun r_12 => (if r_12 = 0 then (some (-1001 : Int32)) else (bn (mf_lies a1 a2 a3 w) fun r_28 => (if r_28 = 0 then (some (0 : Int32)) else (some (1 : Int32)))))))
-- BittenBoardsModel.biteAt (W)
def mf_biteAt_C80 : Nat → Int32 → Int32 → Int32 → Int32 → Int32 → Int32 → mW → Option (Int32 × mW)
  | 0, _, _, _, _, _, _, _ => none
  | n + 1, x1, x2, x3, x4, x5, x6, w =>
    (if x4 < x6 then ((if x3 = (1 : Int32) then (gi x1 6 <| gi x2 49 <| bn (mf_bits (((w.2 3) x1.toNatClampNeg) &&& (((w.2 16) x2.toNatClampNeg) ^^^ (-1 : Int32)))) fun r_129 => some (r_129, w)) else (gi x1 6 <| (if ((w.2 1) x1.toNatClampNeg) = (1 : Int32) then (some (x5, w)) else ((if (6 : Int32) ≤ x5 then (some ((x5 + (4 : Int32)), w)) else (some (x5, w)))))))) else (nm (x5 + (1 : Int32)) fun x5_87 => gi x1 6 <| nm (x6 + ((((w.2 3) x1.toNatClampNeg) >>> (x5_87 &&& 31)) &&& (1 : Int32))) fun x6_104 => mf_biteAt_C80 n x1 x2 x3 x4 x5_87 x6_104 w))
def mf_biteAt_C25 : Nat → Int32 → Int32 → Int32 → mW → Option (Int32 × mW)
  | 0, _, _, _, _ => none
  | n + 1, x3, x4, x5, w =>
    gi x5 7 <| (if x4 < ((w.2 15) x5.toNatClampNeg) then ((if x3 = 0 then (some (x5, w)) else (some (x4, w)))) else (gi x5 7 <| nm (x4 - ((w.2 15) x5.toNatClampNeg)) fun x4_47 => nm (x5 + (1 : Int32)) fun x5_49 => mf_biteAt_C25 n x3 x4_47 x5_49 w))
def mf_biteAt (a1 : Int32) (a2 : Int32) (a3 : Int32) (w : mW) : Option (Int32 × mW) :=
  gi a1 6 <| (if ((w.2 1) a1.toNatClampNeg) = 0 then (gi a1 6 <| bn (mf_unrank ((w.2 3) a1.toNatClampNeg) w) fun w_19 => mf_biteAt_C25 fu a3 a2 (0 : Int32) w_19) else (gi a1 6 <| nm (((w.2 3) a1.toNatClampNeg) &&& (1 : Int32)) fun x6_78 => mf_biteAt_C80 fu a1 a2 a3 a2 (0 : Int32) x6_78 w))
-- BittenBoardsModel.bite (W)
def mf_bite (a1 : Int32) (a2 : Int32) (a3 : Int32) (w : mW) : Option (Int32 × mW) :=
  bn (mf_isGame a1 w) fun r_2 => (if r_2 = 0 then (some ((-1001 : Int32), w)) else (bn (mf_in (a3.toInt64) (0 : Int64) (2 : Int64)) fun r_18 => (if r_18 = 0 then (some ((-1002 : Int32), w)) else (bn (mf_solve a1 w) fun w_30 => bn2 (mf_bitesOf a1 w_30) fun r_38 w_38 => bn (mf_in (a2.toInt64) (0 : Int64) ((r_38 - (1 : Int32)).toInt64)) fun r_44 => (if r_44 = 0 then (some ((-1 : Int32), w_38)) else ((if a3 = (2 : Int32) then (gi a2 49 <| gi ((w_38.2 16) a2.toNatClampNeg) 32768 <| (if ((w_38.2 12) ((w_38.2 16) a2.toNatClampNeg).toNatClampNeg) = 0 then (some ((1 : Int32), w_38)) else (some ((0 : Int32), w_38)))) else (bn2 (mf_biteAt a1 a2 a3 w_38) fun r_83 w_83 => some (r_83, w_83)))))))))
-- BittenBoardsModel.won (W)
def mf_won (a1 : Int32) (w : mW) : Option (Int32 × mW) :=
  bn (mf_isGame a1 w) fun r_2 => (if r_2 = 0 then (some ((-1001 : Int32), w)) else (bn (mf_solve a1 w) fun w_14 => gi a1 6 <| gi ((w_14.2 3) a1.toNatClampNeg) 32768 <| (if ((w_14.2 12) ((w_14.2 3) a1.toNatClampNeg).toNatClampNeg) = 0 then (some ((0 : Int32), w_14)) else (some ((1 : Int32), w_14)))))
-- BittenBoardsModel.worthOf (W)
def mf_worthOf (a1 : Int32) (w : mW) : Option (Int32 × mW) :=
  bn (mf_solve a1 w) fun w_2 => gi a1 6 <| gi ((w_2.2 3) a1.toNatClampNeg) 32768 <| some (((w_2.2 14) ((w_2.2 3) a1.toNatClampNeg).toNatClampNeg), w_2)
-- BittenBoardsModel.worth (W)
def mf_worth (a1 : Int32) (w : mW) : Option (Int32 × mW) :=
  bn (mf_isGame a1 w) fun r_2 => (if r_2 = 0 then (some ((-1001 : Int32), w)) else (bn2 (mf_worthOf a1 w) fun r_10 w_10 => some (r_10, w_10)))
-- BittenBoardsModel.length (W)
def mf_length (a1 : Int32) (w : mW) : Option (Int32 × mW) :=
  bn (mf_isGame a1 w) fun r_2 => (if r_2 = 0 then (some ((-1001 : Int32), w)) else (bn (mf_solve a1 w) fun w_14 => gi a1 6 <| gi ((w_14.2 3) a1.toNatClampNeg) 32768 <| some (((w_14.2 13) ((w_14.2 3) a1.toNatClampNeg).toNatClampNeg), w_14)))
-- BittenBoardsModel.winning (W)
def mf_winning_C27 : Nat → Int32 → Int32 → mW → Option (Int32 × mW)
  | 0, _, _, _ => none
  | n + 1, x2, x3, w =>
    (if x3 < 0 then (some (x2, w)) else (gi x3 49 <| gi ((w.2 16) x3.toNatClampNeg) 32768 <| (if ((w.2 12) ((w.2 16) x3.toNatClampNeg).toNatClampNeg) = 0 then (nm (x2 + (1 : Int32)) fun x2_52 => nm (x3 + (-1 : Int32)) fun x3_53 => mf_winning_C27 n x2_52 x3_53 w) else (nm (x2 + (0 : Int32)) fun x2_52 => nm (x3 + (-1 : Int32)) fun x3_53 => mf_winning_C27 n x2_52 x3_53 w))))
def mf_winning (a1 : Int32) (w : mW) : Option (Int32 × mW) :=
  bn (mf_isGame a1 w) fun r_2 => (if r_2 = 0 then (some ((-1001 : Int32), w)) else (bn (mf_solve a1 w) fun w_14 => bn2 (mf_bitesOf a1 w_14) fun r_21 w_21 => nm (r_21 - (1 : Int32)) fun x3_26 => mf_winning_C27 fu (0 : Int32) x3_26 w_21))
-- BittenBoardsModel.boards (W)
def mf_boards_C172 (K113 : Int32 → Int32 → Int32 → Int32 → Int32 → Int32 → Int32 → mW → Option (Int32 × mW)) (x1 : Int32) (x2 : Int32) (x3 : Int32) (x6 : Int32) (x8 : Int32) (x9 : Int32) (t0 : Int32) (t1 : Int32) (w : mW) : Option (Int32 × mW) :=
  nm (t0 + t1) fun x7_173 => gi x9 32768 <| (if ((w.2 14) x9.toNatClampNeg) ≤ x8 then (nm (x9 + (1 : Int32)) fun x9_201 => K113 x1 x2 x3 x6 x7_173 x8 x9_201 w) else (gi x9 32768 <| nm ((w.2 14) x9.toNatClampNeg) fun x8_199 => nm (x9 + (1 : Int32)) fun x9_201 => K113 x1 x2 x3 x6 x7_173 x8_199 x9_201 w))
def mf_boards_C152 (K113 : Int32 → Int32 → Int32 → Int32 → Int32 → Int32 → Int32 → mW → Option (Int32 × mW)) (x1 : Int32) (x2 : Int32) (x3 : Int32) (x6 : Int32) (x7 : Int32) (x8 : Int32) (x9 : Int32) (w : mW) : Option (Int32 × mW) :=
  nm (x6 + (1 : Int32)) fun x6_152 => gi x9 32768 <| (if ((w.2 12) x9.toNatClampNeg) = 0 then (mf_boards_C172 K113 x1 x2 x3 x6_152 x8 x9 x7 (1 : Int32) w) else (mf_boards_C172 K113 x1 x2 x3 x6_152 x8 x9 x7 (0 : Int32) w))
def mf_boards_C113 : Nat → Int32 → Int32 → Int32 → Int32 → Int32 → Int32 → Int32 → mW → Option (Int32 × mW)
  | 0, _, _, _, _, _, _, _, _ => none
  | n + 1, x1, x2, x3, x6, x7, x8, x9, w =>
    (if (3432 : Int32) ≤ x9 then ((if x3 = 0 then (some (x6, w)) else ((if x3 = (1 : Int32) then (some (x7, w)) else (some (x8, w)))))) else (bn (mf_unrank x9 w) fun w_124 => gi (0 : Int32) 7 <| (if x2 < ((w_124.2 15) (0 : Int32).toNatClampNeg) then (nm (x9 + (1 : Int32)) fun x9_201 => mf_boards_C113 n x1 x2 x3 x6 x7 x8 x9_201 w_124) else ((if x1 = (7 : Int32) then (mf_boards_C152 (mf_boards_C113 n) x1 x2 x3 x6 x7 x8 x9 w_124) else (gi x1 7 <| (if ((w_124.2 15) x1.toNatClampNeg) = 0 then (mf_boards_C152 (mf_boards_C113 n) x1 x2 x3 x6 x7 x8 x9 w_124) else (nm (x9 + (1 : Int32)) fun x9_201 => mf_boards_C113 n x1 x2 x3 x6 x7 x8 x9_201 w_124))))))))
def mf_boards (a1 : Int32) (a2 : Int32) (a3 : Int32) (w : mW) : Option (Int32 × mW) :=
  bn (mf_in (a1.toInt64) (0 : Int64) (7 : Int64)) fun r_6 => (if r_6 = 0 then (some ((-1002 : Int32), w)) else (bn (mf_in (a2.toInt64) (0 : Int64) (7 : Int64)) fun r_18 => (if r_18 = 0 then (some ((-1002 : Int32), w)) else (bn (mf_in (a3.toInt64) (0 : Int64) (2 : Int64)) fun r_30 => (if r_30 = 0 then (some ((-1002 : Int32), w)) else (gi (5 : Int32) 6 <| nm ((w.2 1) (5 : Int32).toNatClampNeg) fun x4_46 => gi (5 : Int32) 6 <| nm ((w.2 2) (5 : Int32).toNatClampNeg) fun x5_54 => gi (5 : Int32) 6 <| nm (mU w 1 ((5 : Int32).toNatClampNeg) (0 : Int32)) fun w_62 => gi (5 : Int32) 6 <| nm (mU w_62 2 ((5 : Int32).toNatClampNeg) (0 : Int32)) fun w_69 => nm (mS w_69 1 (-1 : Int32)) fun w_72 => bn (mf_solve (5 : Int32) w_72) fun w_77 => gi (5 : Int32) 6 <| nm (mU w_77 1 ((5 : Int32).toNatClampNeg) x4_46) fun w_87 => gi (5 : Int32) 6 <| nm (mU w_87 2 ((5 : Int32).toNatClampNeg) x5_54) fun w_95 => nm (mS w_95 1 (-1 : Int32)) fun w_98 => mf_boards_C113 fu a1 a2 a3 (0 : Int32) (0 : Int32) (0 : Int32) (0 : Int32) w_98))))))
-- BittenBoardsModel.ranked (W)
def mf_ranked (a1 : Int32) (a2 : Int32) (w : mW) : Option (Int32 × mW) :=
  bn (mf_in (a1.toInt64) (0 : Int64) (3431 : Int64)) fun r_6 => (if r_6 = 0 then (some ((-1002 : Int32), w)) else (bn (mf_in (a2.toInt64) (0 : Int64) (6 : Int64)) fun r_18 => (if r_18 = 0 then (some ((-1002 : Int32), w)) else (bn (mf_unrank a1 w) fun w_30 => gi a2 7 <| some (((w_30.2 15) a2.toNatClampNeg), w_30)))))
-- BittenBoardsModel.done (W)
def mf_done (a1 : Int32) (a2 : Int32) (w : mW) : Option (Int32 × mW) :=
  gi a1 6 <| nm (((100 : Int32) * a1) + ((w.2 9) a1.toNatClampNeg)) fun x3_11 => gi a1 6 <| gi x3_11 600 <| nm (mU w 11 (x3_11.toNatClampNeg) ((w.2 3) a1.toNatClampNeg)) fun w_23 => gi x3_11 600 <| nm (mU w_23 10 (x3_11.toNatClampNeg) a2) fun w_30 => gi a1 6 <| gi a1 6 <| nm (mU w_30 9 (a1.toNatClampNeg) (((w_30.2 9) a1.toNatClampNeg) + (1 : Int32))) fun w_40 => gi a2 49 <| gi a1 6 <| nm (mU w_40 3 (a1.toNatClampNeg) ((w_40.2 16) a2.toNatClampNeg)) fun w_52 => gi a1 6 <| some (((w_52.2 3) a1.toNatClampNeg), w_52)
-- BittenBoardsModel.play (W)
def mf_play (a1 : Int32) (a2 : Int32) (w : mW) : Option (Int32 × mW) :=
  bn (mf_isGame a1 w) fun r_2 => (if r_2 = 0 then (some ((-1001 : Int32), w)) else (bn2 (mf_bitesOf a1 w) fun r_17 w_17 => bn (mf_in (a2.toInt64) (0 : Int64) ((r_17 - (1 : Int32)).toInt64)) fun r_23 => (if r_23 = 0 then (some ((-1003 : Int32), w_17)) else (gi a1 6 <| (if ((w_17.2 9) a1.toNatClampNeg) = (100 : Int32) then (some ((-1004 : Int32), w_17)) else (bn2 (mf_done a1 a2 w_17) fun r_53 w_53 => some (r_53, w_53)))))))
-- BittenBoardsModel.firstOf (R)
def mf_firstOf_C2 (w : mW) : Nat → Int32 → Int32 → Option Int32
  | 0, _, _ => none
  | n + 1, x1, x2 =>
    gi x2 49 <| gi ((w.2 16) x2.toNatClampNeg) 32768 <| (if ((w.2 13) ((w.2 16) x2.toNatClampNeg).toNatClampNeg) = x1 then (some x2) else (nm (x2 + (1 : Int32)) fun x2_17 => mf_firstOf_C2 w n x1 x2_17))
def mf_firstOf (a1 : Int32) (w : mW) : Option Int32 :=
  mf_firstOf_C2 w fu a1 (0 : Int32)
-- BittenBoardsModel.answer (W)
def mf_answer_C149 (x1 : Int32) (t0 : Int32) (w : mW) : Option (Int32 × mW) :=
  bn2 (mf_done x1 t0 w) fun r_155 w_155 => some (t0, w_155)
def mf_answer_C82 (K56 : Int32 → Int32 → Int32 → Int32 → mW → Option (Int32 × mW)) (x1 : Int32) (x4 : Int32) (x5 : Int32) (t0 : Int32) (w : mW) : Option (Int32 × mW) :=
  gi x5 49 <| gi ((w.2 16) x5.toNatClampNeg) 32768 <| gi x4 49 <| gi ((w.2 16) x4.toNatClampNeg) 32768 <| (if ((w.2 13) ((w.2 16) x5.toNatClampNeg).toNatClampNeg) < ((w.2 13) ((w.2 16) x4.toNatClampNeg).toNatClampNeg) then (nm (x5 + (-1 : Int32)) fun x5_119 => K56 x1 t0 x4 x5_119 w) else (nm (x5 + (-1 : Int32)) fun x5_119 => K56 x1 t0 x5 x5_119 w))
def mf_answer_C56 : Nat → Int32 → Int32 → Int32 → Int32 → mW → Option (Int32 × mW)
  | 0, _, _, _, _, _ => none
  | n + 1, x1, x3, x4, x5, w =>
    (if x5 < 0 then ((if x3 < 0 then (gi x4 49 <| gi ((w.2 16) x4.toNatClampNeg) 32768 <| bn (mf_firstOf ((w.2 13) ((w.2 16) x4.toNatClampNeg).toNatClampNeg) w) fun r_146 => mf_answer_C149 x1 r_146 w) else (mf_answer_C149 x1 x3 w))) else (gi x5 49 <| gi ((w.2 16) x5.toNatClampNeg) 32768 <| (if ((w.2 12) ((w.2 16) x5.toNatClampNeg).toNatClampNeg) = 0 then (mf_answer_C82 (mf_answer_C56 n) x1 x4 x5 x5 w) else (mf_answer_C82 (mf_answer_C56 n) x1 x4 x5 x3 w))))
def mf_answer (a1 : Int32) (w : mW) : Option (Int32 × mW) :=
  bn (mf_isGame a1 w) fun r_2 => (if r_2 = 0 then (some ((-1001 : Int32), w)) else (bn (mf_solve a1 w) fun w_14 => bn2 (mf_bitesOf a1 w_14) fun r_19 w_19 => (if r_19 = 0 then (some ((-1003 : Int32), w_19)) else (gi a1 6 <| (if ((w_19.2 9) a1.toNatClampNeg) = (100 : Int32) then (some ((-1004 : Int32), w_19)) else (nm (r_19 - (1 : Int32)) fun x5_54 => mf_answer_C56 fu a1 (-1 : Int32) (0 : Int32) x5_54 w_19))))))
-- BittenBoardsModel.back (W)
def mf_back (a1 : Int32) (w : mW) : Option (Int32 × mW) :=
  bn (mf_isGame a1 w) fun r_2 => (if r_2 = 0 then (some ((-1001 : Int32), w)) else (gi a1 6 <| (if ((w.2 9) a1.toNatClampNeg) = 0 then (some ((-1003 : Int32), w)) else (gi a1 6 <| gi a1 6 <| nm (mU w 9 (a1.toNatClampNeg) (((w.2 9) a1.toNatClampNeg) - (1 : Int32))) fun w_34 => gi a1 6 <| gi (((100 : Int32) * a1) + ((w_34.2 9) a1.toNatClampNeg)) 600 <| gi a1 6 <| nm (mU w_34 3 (a1.toNatClampNeg) ((w_34.2 11) (((100 : Int32) * a1) + ((w_34.2 9) a1.toNatClampNeg)).toNatClampNeg)) fun w_56 => gi a1 6 <| some (((w_56.2 9) a1.toNatClampNeg), w_56)))))
-- BittenBoardsModel.noted (R)
def mf_noted (a1 : Int32) (a2 : Int32) (w : mW) : Option Int32 :=
  bn (mf_isGame a1 w) fun r_2 => (if r_2 = 0 then (some (-1001 : Int32)) else (gi a1 6 <| bn (mf_in (a2.toInt64) (0 : Int64) ((((w.2 9) a1.toNatClampNeg) - (1 : Int32)).toInt64)) fun r_26 => (if r_26 = 0 then (some (-1 : Int32)) else (gi (((100 : Int32) * a1) + a2) 600 <| some ((w.2 10) (((100 : Int32) * a1) + a2).toNatClampNeg)))))
-- BittenBoardsModel.isSet (R)
def mf_isSet (a1 : Int32) (w : mW) : Option Int32 :=
  bn (mf_in (a1.toInt64) (1 : Int64) ((((1 : Int32) <<< ((w.1 0) &&& 31)) - (1 : Int32)).toInt64)) fun r_12 => gd (r_12 = 0 ∨ r_12 = 1) <| some r_12
-- BittenBoardsModel.sumOf (W)
def mf_sumOf_C4 : Nat → Int32 → Int32 → Int32 → mW → Option (Int32 × mW)
  | 0, _, _, _, _ => none
  | n + 1, x1, x2, x3, w =>
    (if (w.1 0) ≤ x3 then (some (x2, w)) else ((if ((x1 >>> (x3 &&& 31)) &&& (1 : Int32)) = (1 : Int32) then (bn2 (mf_worthOf x3 w) fun r_24 w_24 => nm (x2 ^^^ r_24) fun x2_32 => nm (x3 + (1 : Int32)) fun x3_33 => mf_sumOf_C4 n x1 x2_32 x3_33 w_24) else (nm (x2 ^^^ (0 : Int32)) fun x2_32 => nm (x3 + (1 : Int32)) fun x3_33 => mf_sumOf_C4 n x1 x2_32 x3_33 w))))
def mf_sumOf (a1 : Int32) (w : mW) : Option (Int32 × mW) :=
  mf_sumOf_C4 fu a1 (0 : Int32) (0 : Int32) w
-- BittenBoardsModel.sum (W)
def mf_sum (a1 : Int32) (w : mW) : Option (Int32 × mW) :=
  bn (mf_isSet a1 w) fun r_2 => (if r_2 = 0 then (some ((-1002 : Int32), w)) else (bn2 (mf_sumOf a1 w) fun r_10 w_10 => some (r_10, w_10)))
-- BittenBoardsModel.inSum (W)
def mf_inSum_C71 (K31 : Int32 → Int32 → Int32 → Int32 → mW → Option (Int32 × mW)) : Nat → Int32 → Int32 → Int32 → Int32 → Int32 → Int32 → Int32 → mW → Option (Int32 × mW)
  | 0, _, _, _, _, _, _, _, _ => none
  | n + 1, x1, x2, x3, x4, x5, x6, x7, w =>
    (if x6 ≤ x7 then (nm (x4 + (1 : Int32)) fun x4_113 => K31 x1 x2 x3 x4_113 w) else (gi x7 49 <| gi ((w.2 16) x7.toNatClampNeg) 32768 <| (if ((w.2 14) ((w.2 16) x7.toNatClampNeg).toNatClampNeg) = x5 then ((if x2 = 0 then (some (x4, w)) else (some (x7, w)))) else (nm (x7 + (1 : Int32)) fun x7_107 => mf_inSum_C71 K31 n x1 x2 x3 x4 x5 x6 x7_107 w))))
def mf_inSum_C31 : Nat → Int32 → Int32 → Int32 → Int32 → mW → Option (Int32 × mW)
  | 0, _, _, _, _, _ => none
  | n + 1, x1, x2, x3, x4, w =>
    (if (w.1 0) ≤ x4 then (some ((-1 : Int32), w)) else ((if ((x1 >>> (x4 &&& 31)) &&& (1 : Int32)) = (1 : Int32) then (bn2 (mf_worthOf x4 w) fun r_54 w_54 => nm (x3 ^^^ r_54) fun x5_58 => bn2 (mf_bitesOf x4 w_54) fun r_63 w_63 => mf_inSum_C71 (mf_inSum_C31 n) fu x1 x2 x3 x4 x5_58 r_63 (0 : Int32) w_63) else (nm (x4 + (1 : Int32)) fun x4_113 => mf_inSum_C31 n x1 x2 x3 x4_113 w))))
def mf_inSum (a1 : Int32) (a2 : Int32) (w : mW) : Option (Int32 × mW) :=
  bn (mf_isSet a1 w) fun r_2 => (if r_2 = 0 then (some ((-1002 : Int32), w)) else (bn (mf_in (a2.toInt64) (0 : Int64) (1 : Int64)) fun r_12 => (if r_12 = 0 then (some ((-1002 : Int32), w)) else (bn2 (mf_sumOf a1 w) fun r_24 w_24 => mf_inSum_C31 fu a1 a2 r_24 (0 : Int32) w_24))))
