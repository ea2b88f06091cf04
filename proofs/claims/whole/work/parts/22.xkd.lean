set_option maxHeartbeats 4000000 in
set_option maxRecDepth 100000 in
theorem k_xf_T_take (l : Launch) (dC : Nat → ClassId) (dI : Nat → Nat → Nat) (cI cZ cG : ClassId) (ad : Nat → Nat) (sz : Nat) (w : xW) (a1 : Int32) (w0 : xW) (hf : xf_T_take a1 w = some w0) : Met l yX2_take wsX2_take ({ frames := 1, cells := 0, slots := 0, locals := 21 } : Room) (va_Pc [.ref (ad 9), .int a1] (xPre dC dI cI cZ cG ad sz w)) (va_Qv (fun (u : xW) => u = w0) (xB dC dI cI cZ cG ad (xA ad sz)) (xA ad sz)) 0 0 (xA ad sz) := by
  refine Met.ofW (cc := cX2_take) (maxL := 4) (ret := none) (by decide) rfl ?_
  intro p e s m args below meth c s₁ B hml hv
  obtain ⟨rfl, hsz, hP, hK, hD0, hN⟩ := hv
  have hx := B.exec
  have hb := B.bytes
  have hr := B.returns
  have hts := atoms_spec (ws := wsX2_take) B.pre
  have hown : s.vm.findClass RX2 = some m.cls := findClass_of_methodNamed B.named
  have hlocks := B.notSynchronized
  have inX2 : ∀ w ∈ u_ws RX2 TX2 3, w ∈ wsX2_take := by decide +kernel
  subst hsz
  have hD : va_D (xA ad s.heap.size) (xc cI cG ad w) := xD_self hD0
  have hAA : ∀ z q, s.heap.size ≤ z → xA ad z q → xA ad s.heap.size q := xA_mono
  generalize xA ad s.heap.size = A at hD hAA ⊢
  have hS : va_S A s.heap s.heap [] := va_S.rf
  have C17 : ∀ (n17 : Nat) (x1 : Int32) (x2 : Int32) (w : xW), xf_T_take_C17 n17 x1 x2 w = some w0 → ∀ (H : Heap) (locs : List Loc) (ls : Array Slot), va_P (dC, dI) vwCl (xc cI cG ad w) H → va_D A (xc cI cG ad w) → va_S A s.heap H locs → lv_has ls 4 [(0, .ref (ad 9)), (1, .int x1), (2, .int x2)] → W p l e (headSpec wsX2_take ({ frames := 1, cells := 0, slots := 0, locals := 21 } : Room)).room s m (List.toArray [Value.ref (ad 9), Value.int a1]) below meth c H locs 0 0 (MQ below (va_Qv (fun (u : xW) => u = w0) (xB dC dI cI cZ cG ad A) A) (List.toArray [Value.ref (ad 9), Value.int a1]) s 0 0 A) (F0 m 17 ls []) := by
    intro n17
    induction n17 with
    | zero => intro x1 x2 w hf; cases hf
    | succ n17 ih17 =>
      intro x1 x2 w hf H locs ls hP hD hS hl
      rw [xf_T_take_C17] at hf
      refine lv_iload_n hx hb dX2_take_17 rfl (lv_at hl 2 rfl) ?_
      refine lv_iconst (v := (2 : Int32)) hx hb dX2_take_18 (by decide) ?_
      refine lv_icmp_ge (tgt := 74) hx hb dX2_take_19 (by decide) (fun h19 => ?_) (fun h19 => ?_)
      · have hf := if_t h19 hf
        exact x_vret hx hb hr hlocks hK hP hD hS (so_1 hf) dX2_take_74
      · have hf := if_f h19 hf
        refine lv_iload_n hx hb dX2_take_22 rfl (lv_at hl 1 rfl) ?_
        refine lv_iload_n hx hb dX2_take_23 rfl (lv_at hl 2 rfl) ?_
        obtain ⟨r_24, hc24, hf⟩ := bn_e hf
        refine x_calli hD hS hAA (va_runSN (host := "BittenBoards") (As := [.int x1, .int x2]) (rest := []) ⟨hx, hb, hml, hown, hts⟩ (k_xf_C_lengthIn l dC dI cI cZ cG ad H.size w x1 x2 r_24 w hc24 rfl) ⟨va_cnB (host := "BittenBoards") 2 hts gX2_take_X3_lengthIn_n26 rfl rfl rfl (hN (.methodLinkNest RX2 26 yX3_lengthIn "BittenBoards") (by decide +kernel)) (hts (.initialized RX3) (by decide +kernel)) (by decide +kernel) ⟨Nat.le_of_ble_eq_true rfl, Nat.le_of_ble_eq_true rfl⟩, hts (.static yX3_lengthIn) (by decide +kernel), trivial⟩ ⟨x_blind, fun U hU hW => x_pre hU hW hK hP hD hN⟩ rfl rfl hl.1 rfl (lv_room (Nat.le_of_ble_eq_true rfl)) dX2_take_24 ⟨Nat.zero_le _, Nat.zero_le _⟩) (fun H locs hP hD hS => ?_)
        refine lv_istore_n (lv' := [(3, .int r_24), (0, .ref (ad 9)), (1, .int x1), (2, .int x2)]) hx hb dX2_take_27 rfl hl (by decide) rfl (fun ls hl => ?_)
        refine lv_aload_n hx hb dX2_take_28 rfl (lv_at hl 1 rfl) ?_
        refine va_get (D := (dC, dI)) (ci := 2) (v := .ref (ad 11)) (C := RX2) (T := TX2) (N := 3) hx hb hts inX2 hown hK hP 9 rfl rfl 1 (by decide) (hts (.fieldLink RX2 13 "BittenBoards$Tally" "greatest" "[I") (by decide +kernel)) (fun _ h9 => h9) rfl dX2_take_29 ?_
        refine lv_iload_n hx hb dX2_take_32 rfl (lv_at hl 3 rfl) ?_
        refine lv_aload_n hx hb dX2_take_33 rfl (lv_at hl 1 rfl) ?_
        refine va_get (D := (dC, dI)) (ci := 2) (v := .ref (ad 11)) (C := RX2) (T := TX2) (N := 3) hx hb hts inX2 hown hK hP 9 rfl rfl 1 (by decide) (hts (.fieldLink RX2 13 "BittenBoards$Tally" "greatest" "[I") (by decide +kernel)) (fun _ h9 => h9) rfl dX2_take_34 ?_
        refine lv_iload_n hx hb dX2_take_37 rfl (lv_at hl 3 rfl) ?_
        obtain ⟨hg38, hf⟩ := gi_e hf
        refine va_iald (f := (w.2.1 11)) hx hb hK hP 11 0 rfl rfl hg38 dX2_take_38 ?_
        refine lv_iload_n hx hb dX2_take_39 rfl (lv_at hl 0 rfl) ?_
        obtain ⟨r_40, er_40, hf⟩ := nm_x hf
        refine va_mmax hx hb (by rw [hml]; exact hl.1.symm) hown (hts (.methodLink RX2 30 Lib.Math.max.name) (by decide +kernel)) (hts (.static Lib.Math.max.name) (by decide +kernel)) (hts (.initialized "java/lang/Math") (by decide +kernel)) (hts (.code Lib.Math.max.name Lib.Math.max.code 2 (some .int)) (by decide +kernel)) (Nat.le_of_ble_eq_true rfl) (Nat.le_of_ble_eq_true rfl) (Nat.zero_le _) (Nat.zero_le _) dX2_take_40 ?_
        refine W.eq (g2 := F0 m 43 ls [.int r_40, .int x2, .ref (ad 11)]) (by rw [er_40]; rfl) ?_
        obtain ⟨hg43, hf⟩ := gi_e hf
        obtain ⟨w_43, ew_43, hf⟩ := nm_x hf
        refine va_iast (f := (w.2.1 11)) hx hb hK hP hD hS 11 0 rfl rfl hg43 dX2_take_43 (fun H locs hP hD hS => ?_)
        have hP : va_P (dC, dI) vwCl (xc cI cG ad w_43) H := hP.eqs (by rw [ew_43]; rfl)
        have hD : va_D A (xc cI cG ad w_43) := hD.eqs (by rw [ew_43]; rfl)
        refine lv_iload_n hx hb dX2_take_44 rfl (lv_at hl 0 rfl) ?_
        refine lv_iload_n hx hb dX2_take_45 rfl (lv_at hl 3 rfl) ?_
        obtain ⟨r_46, hc46, hf⟩ := bn_e hf
        refine x_calli hD hS hAA (va_runSN (host := "BittenBoards") (As := [.int r_24, .int x2]) (rest := []) ⟨hx, hb, hml, hown, hts⟩ (k_xf_C_isWon l dC dI cI cZ cG ad H.size w_43 r_24 x2 r_46 w_43 hc46 rfl) ⟨va_cnB (host := "BittenBoards") 2 hts gX2_take_X3_isWon_n35 rfl rfl rfl (hN (.methodLinkNest RX2 35 yX3_isWon "BittenBoards") (by decide +kernel)) (hts (.initialized RX3) (by decide +kernel)) (by decide +kernel) ⟨Nat.le_of_ble_eq_true rfl, Nat.le_of_ble_eq_true rfl⟩, hts (.static yX3_isWon) (by decide +kernel), trivial⟩ ⟨x_blind, fun U hU hW => x_pre hU hW hK hP hD hN⟩ rfl rfl hl.1 rfl (lv_room (Nat.le_of_ble_eq_true rfl)) dX2_take_46 ⟨Nat.zero_le _, Nat.zero_le _⟩) (fun H locs hP hD hS => ?_)
        refine lv_if_ne (tgt := 68) hx hb dX2_take_49 (by decide) (fun h49 => ?_) (fun h49 => ?_)
        · have hf := if_f h49 hf
          obtain ⟨x2_68, ex2_68, hf⟩ := nm_x hf
          refine lv_iinc (v := x2_68) (lv' := [(2, .int x2_68), (3, .int r_24), (0, .ref (ad 9)), (1, .int x1)]) hx hb dX2_take_68 hl (k := 3) rfl (by rw [ex2_68]; rfl) (by decide) rfl (fun ls hl => ?_)
          refine lv_goto (tgt := 17) hx hb dX2_take_71 (by decide) ?_
          exact ih17 x1 x2_68 w_43 hf _ _ _ hP hD hS (lv_sub hl [2, 3, 0] rfl)
        · have hf := if_t h49 hf
          refine lv_aload_n hx hb dX2_take_52 rfl (lv_at hl 1 rfl) ?_
          refine va_get (D := (dC, dI)) (ci := 2) (v := .ref (ad 10)) (C := RX2) (T := TX2) (N := 3) hx hb hts inX2 hown hK hP 9 rfl rfl 0 (by decide) (hts (.fieldLink RX2 7 "BittenBoards$Tally" "leastLost" "[I") (by decide +kernel)) (fun _ h9 => h9) rfl dX2_take_53 ?_
          refine lv_iload_n hx hb dX2_take_56 rfl (lv_at hl 3 rfl) ?_
          refine lv_aload_n hx hb dX2_take_57 rfl (lv_at hl 1 rfl) ?_
          refine va_get (D := (dC, dI)) (ci := 2) (v := .ref (ad 10)) (C := RX2) (T := TX2) (N := 3) hx hb hts inX2 hown hK hP 9 rfl rfl 0 (by decide) (hts (.fieldLink RX2 7 "BittenBoards$Tally" "leastLost" "[I") (by decide +kernel)) (fun _ h9 => h9) rfl dX2_take_58 ?_
          refine lv_iload_n hx hb dX2_take_61 rfl (lv_at hl 3 rfl) ?_
          obtain ⟨hg62, hf⟩ := gi_e hf
          refine va_iald (f := (w_43.2.1 10)) hx hb hK hP 10 0 rfl rfl hg62 dX2_take_62 ?_
          refine lv_iload_n hx hb dX2_take_63 rfl (lv_at hl 0 rfl) ?_
          obtain ⟨r_64, er_64, hf⟩ := nm_x hf
          refine va_mmin hx hb (by rw [hml]; exact hl.1.symm) hown (hts (.methodLink RX2 39 Lib.Math.min.name) (by decide +kernel)) (hts (.static Lib.Math.min.name) (by decide +kernel)) (hts (.initialized "java/lang/Math") (by decide +kernel)) (hts (.code Lib.Math.min.name Lib.Math.min.code 2 (some .int)) (by decide +kernel)) (Nat.le_of_ble_eq_true rfl) (Nat.le_of_ble_eq_true rfl) (Nat.zero_le _) (Nat.zero_le _) dX2_take_64 ?_
          refine W.eq (g2 := F0 m 67 ls [.int r_64, .int x2, .ref (ad 10)]) (by rw [er_64]; rfl) ?_
          obtain ⟨hg67, hf⟩ := gi_e hf
          obtain ⟨w_67, ew_67, hf⟩ := nm_x hf
          refine va_iast (f := (w_43.2.1 10)) hx hb hK hP hD hS 10 0 rfl rfl hg67 dX2_take_67 (fun H locs hP hD hS => ?_)
          have hP : va_P (dC, dI) vwCl (xc cI cG ad w_67) H := hP.eqs (by rw [ew_67]; rfl)
          have hD : va_D A (xc cI cG ad w_67) := hD.eqs (by rw [ew_67]; rfl)
          obtain ⟨x2_68, ex2_68, hf⟩ := nm_x hf
          refine lv_iinc (v := x2_68) (lv' := [(2, .int x2_68), (3, .int r_24), (0, .ref (ad 9)), (1, .int x1)]) hx hb dX2_take_68 hl (k := 3) rfl (by rw [ex2_68]; rfl) (by decide) rfl (fun ls hl => ?_)
          refine lv_goto (tgt := 17) hx hb dX2_take_71 (by decide) ?_
          exact ih17 x1 x2_68 w_67 hf _ _ _ hP hD hS (lv_sub hl [2, 3, 0] rfl)
  have hl := lv_entry ([.ref (ad 9), .int a1]) (n := 4) (Nat.le_of_ble_eq_true rfl)
  rw [lg_entry_eq]
  generalize (lg_sl ([.ref (ad 9), .int a1]) ++ List.replicate (4 - (lg_sl ([.ref (ad 9), .int a1])).length) Slot.unset).toArray = ls at hl ⊢
  have hl : lv_has ls 4 [(0, .ref (ad 9)), (1, .int a1)] := hl
  unfold xf_T_take at hf
  refine lv_aload_n hx hb dX2_take_0 rfl (lv_at hl 0 rfl) ?_
  refine lv_dup hx hb dX2_take_1 rfl ?_
  refine va_get (D := (dC, dI)) (ci := 2) (v := .long w.2.2.2.2) (C := RX2) (T := TX2) (N := 3) hx hb hts inX2 hown hK hP 9 rfl rfl 2 (by decide) (hts (.fieldLink RX2 16 "BittenBoards$Tally" "worths" "J") (by decide +kernel)) (fun _ h9 => h9) rfl dX2_take_2 ?_
  refine lv_lconst (v := (1 : Int64)) hx hb dX2_take_5 (by decide) ?_
  refine lv_iload_n hx hb dX2_take_6 rfl (lv_at hl 1 rfl) ?_
  obtain ⟨r_7, hc7, hf⟩ := bn_e hf
  refine x_calli hD hS hAA (va_runSN (host := "BittenBoards") (As := [.int a1]) (rest := [.long (1 : Int64), .long w.2.2.2.2, .ref (ad 9)]) ⟨hx, hb, hml, hown, hts⟩ (k_xf_C_worthIn l dC dI cI cZ cG ad s.heap.size w a1 r_7 w hc7 rfl) ⟨va_cnB (host := "BittenBoards") 1 hts gX2_take_X3_worthIn_n20 rfl rfl rfl (hN (.methodLinkNest RX2 20 yX3_worthIn "BittenBoards") (by decide +kernel)) (hts (.initialized RX3) (by decide +kernel)) (by decide +kernel) ⟨Nat.le_of_ble_eq_true rfl, Nat.le_of_ble_eq_true rfl⟩, hts (.static yX3_worthIn) (by decide +kernel), trivial⟩ ⟨x_blind, fun U hU hW => x_pre hU hW hK hP hD hN⟩ rfl rfl hl.1 rfl (lv_room (Nat.le_of_ble_eq_true rfl)) dX2_take_7 ⟨Nat.zero_le _, Nat.zero_le _⟩) (fun H locs hP hD hS => ?_)
  refine lv_lshl hx hb dX2_take_10 rfl ?_
  refine lv_lor hx hb dX2_take_11 ?_
  obtain ⟨w_12, ew_12, hf⟩ := nm_x hf
  refine va_put (D := (dC, dI)) (ci := 2) (v := .long (w.2.2.2.2 ||| ((1 : Int64) <<< (r_7.toInt64 &&& 63)))) (ty := .long) (C := RX2) (T := TX2) (N := 3) hx hb hts inX2 tyX2 tyX2_ok nmX2 hown hK hP hD hS 9 rfl rfl 2 (by decide) (hts (.fieldLink RX2 16 "BittenBoards$Tally" "worths" "J") (by decide +kernel)) (fun _ h9 => h9) rfl (by decide +kernel) rfl rfl (Nat.le_of_ble_eq_true rfl) dX2_take_12 (fun H locs hP hD hS => ?_)
  have hP : va_P (dC, dI) vwCl (xc cI cG ad w_12) H := hP.eqs (by rw [ew_12]; rfl)
  have hD : va_D A (xc cI cG ad w_12) := hD.eqs (by rw [ew_12]; rfl)
  refine lv_iconst (v := (0 : Int32)) hx hb dX2_take_15 (by decide) ?_
  refine lv_istore_n (lv' := [(2, .int (0 : Int32)), (0, .ref (ad 9)), (1, .int a1)]) hx hb dX2_take_16 rfl hl (by decide) rfl (fun ls hl => ?_)
  exact C17 fu a1 (0 : Int32) w_12 hf _ _ _ hP hD hS (lv_sub hl [1, 2, 0] rfl)
set_option maxHeartbeats 4000000 in
set_option maxRecDepth 100000 in
theorem k_xf_T_leastMissing (l : Launch) (dC : Nat → ClassId) (dI : Nat → Nat → Nat) (cI cZ cG : ClassId) (ad : Nat → Nat) (sz : Nat) (w : xW) (r0 : Int32) (w0 : xW) (hf : xf_T_leastMissing w = some r0) (hw0 : w = w0) : Met l yX2_leastMissing wsX2_leastMissing ({ frames := 0, cells := 0, slots := 0, locals := 0 } : Room) (va_Pc [.ref (ad 9)] (xPre dC dI cI cZ cG ad sz w)) (va_Qi (fun (r : Int32) (u : xW) => r = r0 ∧ u = w0) (xB dC dI cI cZ cG ad (xA ad sz)) (xA ad sz)) 0 0 (xA ad sz) := by
  refine Met.ofW (cc := cX2_leastMissing) (maxL := 2) (ret := (some .int)) (by decide) rfl ?_
  intro p e s m args below meth c s₁ B hml hv
  obtain ⟨rfl, hsz, hP, hK, hD0, hN⟩ := hv
  have hx := B.exec
  have hb := B.bytes
  have hr := B.returns
  have hts := atoms_spec (ws := wsX2_leastMissing) B.pre
  have hown : s.vm.findClass RX2 = some m.cls := findClass_of_methodNamed B.named
  have hlocks := B.notSynchronized
  have inX2 : ∀ w ∈ u_ws RX2 TX2 3, w ∈ wsX2_leastMissing := by decide +kernel
  subst hsz
  have hD : va_D (xA ad s.heap.size) (xc cI cG ad w) := xD_self hD0
  have hAA : ∀ z q, s.heap.size ≤ z → xA ad z q → xA ad s.heap.size q := xA_mono
  generalize xA ad s.heap.size = A at hD hAA ⊢
  have hS : va_S A s.heap s.heap [] := va_S.rf
  have C2 : ∀ (n2 : Nat) (x1 : Int32), xf_T_leastMissing_C2 w n2 x1 = some r0 → ∀ (H : Heap) (locs : List Loc) (ls : Array Slot), va_P (dC, dI) vwCl (xc cI cG ad w) H → va_D A (xc cI cG ad w) → va_S A s.heap H locs → lv_has ls 2 [(0, .ref (ad 9)), (1, .int x1)] → W p l e (headSpec wsX2_leastMissing ({ frames := 0, cells := 0, slots := 0, locals := 0 } : Room)).room s m (List.toArray [Value.ref (ad 9)]) below meth c H locs 0 0 (MQ below (va_Qi (fun (r : Int32) (u : xW) => r = r0 ∧ u = w0) (xB dC dI cI cZ cG ad A) A) (List.toArray [Value.ref (ad 9)]) s 0 0 A) (F0 m 2 ls []) := by
    intro n2
    induction n2 with
    | zero => intro x1 hf; cases hf
    | succ n2 ih2 =>
      intro x1 hf H locs ls hP hD hS hl
      rw [xf_T_leastMissing_C2] at hf
      refine lv_iload_n hx hb dX2_leastMissing_2 rfl (lv_at hl 1 rfl) ?_
      refine lv_bipush (v := (63 : Int32)) hx hb dX2_leastMissing_3 (by decide) ?_
      refine lv_icmp_ge (tgt := 27) hx hb dX2_leastMissing_5 (by decide) (fun h5 => ?_) (fun h5 => ?_)
      · have hf := if_t h5 hf
        refine lv_iload_n hx hb dX2_leastMissing_27 rfl (lv_at hl 1 rfl) ?_
        exact x_iret hx hb hr hlocks hK hP hD hS ⟨so_1 hf, hw0⟩ dX2_leastMissing_28
      · have hf := if_f h5 hf
        refine lv_aload_n hx hb dX2_leastMissing_8 rfl (lv_at hl 0 rfl) ?_
        refine va_get (D := (dC, dI)) (ci := 2) (v := .long w.2.2.2.2) (C := RX2) (T := TX2) (N := 3) hx hb hts inX2 hown hK hP 9 rfl rfl 2 (by decide) (hts (.fieldLink RX2 16 "BittenBoards$Tally" "worths" "J") (by decide +kernel)) (fun _ h9 => h9) rfl dX2_leastMissing_9 ?_
        refine lv_iload_n hx hb dX2_leastMissing_12 rfl (lv_at hl 1 rfl) ?_
        refine lv_lshr hx hb dX2_leastMissing_13 rfl ?_
        refine lv_lconst (v := (1 : Int64)) hx hb dX2_leastMissing_14 (by decide) ?_
        refine lv_land hx hb dX2_leastMissing_15 ?_
        refine lv_lconst (v := (0 : Int64)) hx hb dX2_leastMissing_16 (by decide) ?_
        refine W.lcmp hx hb dX2_leastMissing_17 ?_
        refine lv_if_eq (tgt := 27) hx hb dX2_leastMissing_18 (by decide) (fun h18 => ?_) (fun h18 => ?_)
        · have hf := if_t h18 hf
          refine lv_iload_n hx hb dX2_leastMissing_27 rfl (lv_at hl 1 rfl) ?_
          exact x_iret hx hb hr hlocks hK hP hD hS ⟨so_1 hf, hw0⟩ dX2_leastMissing_28
        · have hf := if_f h18 hf
          obtain ⟨x1_21, ex1_21, hf⟩ := nm_x hf
          refine lv_iinc (v := x1_21) (lv' := [(1, .int x1_21), (0, .ref (ad 9))]) hx hb dX2_leastMissing_21 hl (k := 1) rfl (by rw [ex1_21]; rfl) (by decide) rfl (fun ls hl => ?_)
          refine lv_goto (tgt := 2) hx hb dX2_leastMissing_24 (by decide) ?_
          exact ih2 x1_21 hf _ _ _ hP hD hS (lv_sub hl [1, 0] rfl)
  have hl := lv_entry ([.ref (ad 9)]) (n := 2) (Nat.le_of_ble_eq_true rfl)
  rw [lg_entry_eq]
  generalize (lg_sl ([.ref (ad 9)]) ++ List.replicate (2 - (lg_sl ([.ref (ad 9)])).length) Slot.unset).toArray = ls at hl ⊢
  have hl : lv_has ls 2 [(0, .ref (ad 9))] := hl
  unfold xf_T_leastMissing at hf
  refine lv_iconst (v := (0 : Int32)) hx hb dX2_leastMissing_0 (by decide) ?_
  refine lv_istore_n (lv' := [(1, .int (0 : Int32)), (0, .ref (ad 9))]) hx hb dX2_leastMissing_1 rfl hl (by decide) rfl (fun ls hl => ?_)
  exact C2 fu (0 : Int32) hf _ _ _ hP hD hS (lv_sub hl [1, 0] rfl)
set_option maxHeartbeats 4000000 in
set_option maxRecDepth 100000 in
theorem k_xf_T_facts (l : Launch) (dC : Nat → ClassId) (dI : Nat → Nat → Nat) (cI cZ cG : ClassId) (ad : Nat → Nat) (sz : Nat) (w : xW) (r0 : Int32) (w0 : xW) (hf : xf_T_facts w = some r0) (hw0 : w = w0) : Met l yX2_facts wsX2_facts ({ frames := 1, cells := 0, slots := 0, locals := 21 } : Room) (va_Pc [.ref (ad 9)] (xPre dC dI cI cZ cG ad sz w)) (va_Qi (fun (r : Int32) (u : xW) => r = r0 ∧ u = w0) (xB dC dI cI cZ cG ad (xA ad sz)) (xA ad sz)) 0 0 (xA ad sz) := by
  refine Met.ofW (cc := cX2_facts) (maxL := 4) (ret := (some .int)) (by decide) rfl ?_
  intro p e s m args below meth c s₁ B hml hv
  obtain ⟨rfl, hsz, hP, hK, hD0, hN⟩ := hv
  have hx := B.exec
  have hb := B.bytes
  have hr := B.returns
  have hts := atoms_spec (ws := wsX2_facts) B.pre
  have hown : s.vm.findClass RX2 = some m.cls := findClass_of_methodNamed B.named
  have hlocks := B.notSynchronized
  have inX2 : ∀ w ∈ u_ws RX2 TX2 3, w ∈ wsX2_facts := by decide +kernel
  subst hsz
  have hD : va_D (xA ad s.heap.size) (xc cI cG ad w) := xD_self hD0
  have hAA : ∀ z q, s.heap.size ≤ z → xA ad z q → xA ad s.heap.size q := xA_mono
  generalize xA ad s.heap.size = A at hD hAA ⊢
  have hS : va_S A s.heap s.heap [] := va_S.rf
  have C10 : ∀ (n10 : Nat) (x1 : Int32) (x2 : Int32), xf_T_facts_C10 w n10 x1 x2 = some r0 → ∀ (H : Heap) (locs : List Loc) (ls : Array Slot), va_P (dC, dI) vwCl (xc cI cG ad w) H → va_D A (xc cI cG ad w) → va_S A s.heap H locs → lv_has ls 4 [(0, .ref (ad 9)), (1, .int x1), (2, .int x2)] → W p l e (headSpec wsX2_facts ({ frames := 1, cells := 0, slots := 0, locals := 21 } : Room)).room s m (List.toArray [Value.ref (ad 9)]) below meth c H locs 0 0 (MQ below (va_Qi (fun (r : Int32) (u : xW) => r = r0 ∧ u = w0) (xB dC dI cI cZ cG ad A) A) (List.toArray [Value.ref (ad 9)]) s 0 0 A) (F0 m 10 ls []) := by
    intro n10
    induction n10 with
    | zero => intro x1 x2 hf; cases hf
    | succ n10 ih10 =>
      have C42 : ∀ (x1 : Int32) (x2 : Int32) (t0 : Int32), xf_T_facts_C42 w (xf_T_facts_C10 w n10) x1 x2 t0 = some r0 → ∀ (H : Heap) (locs : List Loc) (ls : Array Slot), va_P (dC, dI) vwCl (xc cI cG ad w) H → va_D A (xc cI cG ad w) → va_S A s.heap H locs → lv_has ls 4 [(0, .ref (ad 9)), (1, .int x1), (2, .int x2)] → W p l e (headSpec wsX2_facts ({ frames := 1, cells := 0, slots := 0, locals := 21 } : Room)).room s m (List.toArray [Value.ref (ad 9)]) below meth c H locs 0 0 (MQ below (va_Qi (fun (r : Int32) (u : xW) => r = r0 ∧ u = w0) (xB dC dI cI cZ cG ad A) A) (List.toArray [Value.ref (ad 9)]) s 0 0 A) (F0 m 42 ls [.int t0]) := by
        intro x1 x2 t0 hf H locs ls hP hD hS hl
        unfold xf_T_facts_C42 at hf
        refine lv_istore_n (lv' := [(3, .int t0), (0, .ref (ad 9)), (1, .int x1), (2, .int x2)]) hx hb dX2_facts_42 rfl hl (by decide) rfl (fun ls hl => ?_)
        refine lv_iload_n hx hb dX2_facts_43 rfl (lv_at hl 2 rfl) ?_
        refine lv_iload_n hx hb dX2_facts_44 rfl (lv_at hl 0 rfl) ?_
        refine lv_iconst (v := (1 : Int32)) hx hb dX2_facts_45 (by decide) ?_
        refine lv_iadd hx hb dX2_facts_46 ?_
        refine lv_bipush (v := (8 : Int32)) hx hb dX2_facts_47 (by decide) ?_
        refine lv_iload_n hx hb dX2_facts_49 rfl (lv_at hl 3 rfl) ?_
        refine lv_imul hx hb dX2_facts_50 ?_
        refine lv_ishl hx hb dX2_facts_51 ?_
        refine lv_ior hx hb dX2_facts_52 ?_
        obtain ⟨x1_53, ex1_53, hf⟩ := nm_x hf
        refine W.eq (g2 := F0 m 53 ls [.int x1_53]) (by rw [ex1_53]) ?_
        refine lv_istore_n (lv' := [(1, .int x1_53), (3, .int t0), (0, .ref (ad 9)), (2, .int x2)]) hx hb dX2_facts_53 rfl hl (by decide) rfl (fun ls hl => ?_)
        obtain ⟨x2_54, ex2_54, hf⟩ := nm_x hf
        refine lv_iinc (v := x2_54) (lv' := [(2, .int x2_54), (1, .int x1_53), (3, .int t0), (0, .ref (ad 9))]) hx hb dX2_facts_54 hl (k := 3) rfl (by rw [ex2_54]; rfl) (by decide) rfl (fun ls hl => ?_)
        refine lv_goto (tgt := 10) hx hb dX2_facts_57 (by decide) ?_
        exact ih10 x1_53 x2_54 hf _ _ _ hP hD hS (lv_sub hl [3, 1, 0] rfl)
      intro x1 x2 hf H locs ls hP hD hS hl
      rw [xf_T_facts_C10] at hf
      refine lv_iload_n hx hb dX2_facts_10 rfl (lv_at hl 2 rfl) ?_
      refine lv_iconst (v := (2 : Int32)) hx hb dX2_facts_11 (by decide) ?_
      refine lv_icmp_ge (tgt := 60) hx hb dX2_facts_12 (by decide) (fun h12 => ?_) (fun h12 => ?_)
      · have hf := if_t h12 hf
        refine lv_iload_n hx hb dX2_facts_60 rfl (lv_at hl 1 rfl) ?_
        exact x_iret hx hb hr hlocks hK hP hD hS ⟨so_1 hf, hw0⟩ dX2_facts_61
      · have hf := if_f h12 hf
        refine lv_aload_n hx hb dX2_facts_15 rfl (lv_at hl 0 rfl) ?_
        refine va_get (D := (dC, dI)) (ci := 2) (v := .ref (ad 10)) (C := RX2) (T := TX2) (N := 3) hx hb hts inX2 hown hK hP 9 rfl rfl 0 (by decide) (hts (.fieldLink RX2 7 "BittenBoards$Tally" "leastLost" "[I") (by decide +kernel)) (fun _ h9 => h9) rfl dX2_facts_16 ?_
        refine lv_iload_n hx hb dX2_facts_19 rfl (lv_at hl 2 rfl) ?_
        obtain ⟨hg20, hf⟩ := gi_e hf
        refine va_iald (f := (w.2.1 10)) hx hb hK hP 10 0 rfl rfl hg20 dX2_facts_20 ?_
        refine lv_sipush (v := (255 : Int32)) hx hb dX2_facts_21 (by decide) ?_
        refine lv_icmp_ge (tgt := 36) hx hb dX2_facts_24 (by decide) (fun h24 => ?_) (fun h24 => ?_)
        · have hf := if_t h24 hf
          refine lv_aload_n hx hb dX2_facts_36 rfl (lv_at hl 0 rfl) ?_
          refine va_get (D := (dC, dI)) (ci := 2) (v := .ref (ad 11)) (C := RX2) (T := TX2) (N := 3) hx hb hts inX2 hown hK hP 9 rfl rfl 1 (by decide) (hts (.fieldLink RX2 13 "BittenBoards$Tally" "greatest" "[I") (by decide +kernel)) (fun _ h9 => h9) rfl dX2_facts_37 ?_
          refine lv_iload_n hx hb dX2_facts_40 rfl (lv_at hl 2 rfl) ?_
          obtain ⟨hg41, hf⟩ := gi_e hf
          refine va_iald (f := (w.2.1 11)) hx hb hK hP 11 0 rfl rfl hg41 dX2_facts_41 ?_
          exact C42 x1 x2 ((w.2.1 11) x2.toNatClampNeg) hf _ _ _ hP hD hS (lv_sub hl [0, 1, 2] rfl)
        · have hf := if_f h24 hf
          refine lv_aload_n hx hb dX2_facts_27 rfl (lv_at hl 0 rfl) ?_
          refine va_get (D := (dC, dI)) (ci := 2) (v := .ref (ad 10)) (C := RX2) (T := TX2) (N := 3) hx hb hts inX2 hown hK hP 9 rfl rfl 0 (by decide) (hts (.fieldLink RX2 7 "BittenBoards$Tally" "leastLost" "[I") (by decide +kernel)) (fun _ h9 => h9) rfl dX2_facts_28 ?_
          refine lv_iload_n hx hb dX2_facts_31 rfl (lv_at hl 2 rfl) ?_
          obtain ⟨hg32, hf⟩ := gi_e hf
          refine va_iald (f := (w.2.1 10)) hx hb hK hP 10 0 rfl rfl hg32 dX2_facts_32 ?_
          refine lv_goto (tgt := 42) hx hb dX2_facts_33 (by decide) ?_
          exact C42 x1 x2 ((w.2.1 10) x2.toNatClampNeg) hf _ _ _ hP hD hS (lv_sub hl [0, 1, 2] rfl)
  have hl := lv_entry ([.ref (ad 9)]) (n := 4) (Nat.le_of_ble_eq_true rfl)
  rw [lg_entry_eq]
  generalize (lg_sl ([.ref (ad 9)]) ++ List.replicate (4 - (lg_sl ([.ref (ad 9)])).length) Slot.unset).toArray = ls at hl ⊢
  have hl : lv_has ls 4 [(0, .ref (ad 9))] := hl
  unfold xf_T_facts at hf
  refine lv_aload_n hx hb dX2_facts_0 rfl (lv_at hl 0 rfl) ?_
  obtain ⟨r_1, hc1, hf⟩ := bn_e hf
  refine x_calli hD hS hAA (va_runV (As := []) (rest := []) ⟨hx, hb, hml, hown, hts⟩ (k_xf_T_leastMissing l dC dI cI cZ cG ad s.heap.size w  r_1 w hc1 rfl) (cwV 0 hts gX2_facts_X2_leastMissing rfl rfl rfl (by decide +kernel) ⟨Nat.le_of_ble_eq_true rfl, Nat.le_of_ble_eq_true rfl⟩) ⟨x_blind, va_recv hK hP (ci := 2) (q0 := 9) rfl rfl, fun U hU hW => x_pre hU hW hK hP hD hN⟩ rfl rfl hl.1 rfl (lv_room (Nat.le_of_ble_eq_true rfl)) dX2_facts_1 ⟨Nat.zero_le _, Nat.zero_le _⟩) (fun H locs hP hD hS => ?_)
  refine lv_bipush (v := (16 : Int32)) hx hb dX2_facts_4 (by decide) ?_
  refine lv_ishl hx hb dX2_facts_6 ?_
  obtain ⟨x1_7, ex1_7, hf⟩ := nm_x hf
  refine W.eq (g2 := F0 m 7 ls [.int x1_7]) (by rw [ex1_7]) ?_
  refine lv_istore_n (lv' := [(1, .int x1_7), (0, .ref (ad 9))]) hx hb dX2_facts_7 rfl hl (by decide) rfl (fun ls hl => ?_)
  refine lv_iconst (v := (0 : Int32)) hx hb dX2_facts_8 (by decide) ?_
  refine lv_istore_n (lv' := [(2, .int (0 : Int32)), (1, .int x1_7), (0, .ref (ad 9))]) hx hb dX2_facts_9 rfl hl (by decide) rfl (fun ls hl => ?_)
  exact C10 fu x1_7 (0 : Int32) hf _ _ _ hP hD hS (lv_sub hl [2, 1, 0] rfl)
set_option maxHeartbeats 4000000 in
set_option maxRecDepth 100000 in
theorem k_xf_B_factsOfLines (l : Launch) (dC : Nat → ClassId) (dI : Nat → Nat → Nat) (cI cZ cG : ClassId) (ad : Nat → Nat) (sz : Nat) (w : xW) (a1 : Int32) (r0 : Int32) (w0 : xW) (hf : xf_B_factsOfLines a1 w = some (r0, w0)) : Met l yX0_factsOfLines wsX0_factsOfLines ({ frames := 2, cells := 0, slots := 0, locals := 44 } : Room) (va_Pc [.ref (ad 3), .int a1] (xPre dC dI cI cZ cG ad sz w)) (va_Qi (fun (r : Int32) (u : xW) => r = r0 ∧ u = w0) (xB dC dI cI cZ cG ad (xA ad sz)) (xA ad sz)) 0 0 (xA ad sz) := by
  refine Met.ofW (cc := cX0_factsOfLines) (maxL := 5) (ret := (some .int)) (by decide) rfl ?_
  intro p e s m args below meth c s₁ B hml hv
  obtain ⟨rfl, hsz, hP, hK, hD0, hN⟩ := hv
  have hx := B.exec
  have hb := B.bytes
  have hr := B.returns
  have hts := atoms_spec (ws := wsX0_factsOfLines) B.pre
  have hown : s.vm.findClass RX0 = some m.cls := findClass_of_methodNamed B.named
  have hlocks := B.notSynchronized
  have inX0 : ∀ w ∈ u_ws RX0 TX0 7, w ∈ wsX0_factsOfLines := by decide +kernel
  subst hsz
  have hD : va_D (xA ad s.heap.size) (xc cI cG ad w) := xD_self hD0
  have hAA : ∀ z q, s.heap.size ≤ z → xA ad z q → xA ad s.heap.size q := xA_mono
  generalize xA ad s.heap.size = A at hD hAA ⊢
  have hS : va_S A s.heap s.heap [] := va_S.rf
  have C9 : ∀ (n9 : Nat) (x1 : Int32) (x2 : Int32) (w : xW), xf_B_factsOfLines_C9 n9 x1 x2 w = some (r0, w0) → ∀ (H : Heap) (locs : List Loc) (ls : Array Slot), va_P (dC, dI) vwCl (xc cI cG ad w) H → va_D A (xc cI cG ad w) → va_S A s.heap H locs → lv_has ls 5 [(0, .ref (ad 3)), (1, .int x1), (2, .int x2)] → W p l e (headSpec wsX0_factsOfLines ({ frames := 2, cells := 0, slots := 0, locals := 44 } : Room)).room s m (List.toArray [Value.ref (ad 3), Value.int a1]) below meth c H locs 0 0 (MQ below (va_Qi (fun (r : Int32) (u : xW) => r = r0 ∧ u = w0) (xB dC dI cI cZ cG ad A) A) (List.toArray [Value.ref (ad 3), Value.int a1]) s 0 0 A) (F0 m 9 ls []) := by
    intro n9
    induction n9 with
    | zero => intro x1 x2 w hf; cases hf
    | succ n9 ih9 =>
      have C26 : ∀ (n26 : Nat) (x1 : Int32) (x2 : Int32) (x3 : Int32) (x4 : Int32) (w : xW), xf_B_factsOfLines_C26 (xf_B_factsOfLines_C9 n9) n26 x1 x2 x3 x4 w = some (r0, w0) → ∀ (H : Heap) (locs : List Loc) (ls : Array Slot), va_P (dC, dI) vwCl (xc cI cG ad w) H → va_D A (xc cI cG ad w) → va_S A s.heap H locs → lv_has ls 5 [(0, .ref (ad 3)), (1, .int x1), (2, .int x2), (3, .int x3), (4, .int x4)] → W p l e (headSpec wsX0_factsOfLines ({ frames := 2, cells := 0, slots := 0, locals := 44 } : Room)).room s m (List.toArray [Value.ref (ad 3), Value.int a1]) below meth c H locs 0 0 (MQ below (va_Qi (fun (r : Int32) (u : xW) => r = r0 ∧ u = w0) (xB dC dI cI cZ cG ad A) A) (List.toArray [Value.ref (ad 3), Value.int a1]) s 0 0 A) (F0 m 26 ls []) := by
        intro n26
        induction n26 with
        | zero => intro x1 x2 x3 x4 w hf; cases hf
        | succ n26 ih26 =>
          intro x1 x2 x3 x4 w hf H locs ls hP hD hS hl
          rw [xf_B_factsOfLines_C26] at hf
          refine lv_iload hx hb dX0_factsOfLines_26 (lv_at hl 4 rfl) ?_
          refine lv_if_lt (tgt := 101) hx hb dX0_factsOfLines_28 (by decide) (fun h28 => ?_) (fun h28 => ?_)
          · have hf := if_t h28 hf
            obtain ⟨x2_101, ex2_101, hf⟩ := nm_x hf
            refine lv_iinc (v := x2_101) (lv' := [(2, .int x2_101), (0, .ref (ad 3)), (1, .int x1), (3, .int x3), (4, .int x4)]) hx hb dX0_factsOfLines_101 hl (k := 2) rfl (by rw [ex2_101]; rfl) (by decide) rfl (fun ls hl => ?_)
            refine lv_goto (tgt := 9) hx hb dX0_factsOfLines_104 (by decide) ?_
            exact ih9 x1 x2_101 w hf _ _ _ hP hD hS (lv_sub hl [1, 2, 0] rfl)
          · have hf := if_f h28 hf
            refine lv_aload_n hx hb dX0_factsOfLines_31 rfl (lv_at hl 0 rfl) ?_
            refine va_get (D := (dC, dI)) (ci := 0) (v := .ref (ad 5)) (C := RX0) (T := TX0) (N := 7) hx hb hts inX0 hown hK hP 3 rfl rfl 2 (by decide) (hts (.fieldLink RX0 15 "BittenBoards$Boards" "lines" "[I") (by decide +kernel)) (fun _ h9 => h9) rfl dX0_factsOfLines_32 ?_
            refine lv_iload hx hb dX0_factsOfLines_35 (lv_at hl 4 rfl) ?_
            obtain ⟨hg37, hf⟩ := gi_e hf
            refine va_iald (f := (w.2.1 5)) hx hb hK hP 5 0 rfl rfl hg37 dX0_factsOfLines_37 ?_
            refine lv_iload_n hx hb dX0_factsOfLines_38 rfl (lv_at hl 2 rfl) ?_
            refine lv_icmp_le (tgt := 95) hx hb dX0_factsOfLines_39 (by decide) (fun h39 => ?_) (fun h39 => ?_)
            · have hf := if_t h39 hf
              obtain ⟨x4_95, ex4_95, hf⟩ := nm_x hf
              refine lv_iinc (v := x4_95) (lv' := [(4, .int x4_95), (0, .ref (ad 3)), (1, .int x1), (2, .int x2), (3, .int x3)]) hx hb dX0_factsOfLines_95 hl (k := 4) rfl (by rw [ex4_95]; rfl) (by decide) rfl (fun ls hl => ?_)
              refine lv_goto (tgt := 26) hx hb dX0_factsOfLines_98 (by decide) ?_
              exact ih26 x1 x2 x3 x4_95 w hf _ _ _ hP hD hS (lv_sub hl [1, 2, 3, 4, 0] rfl)
            · have hf := if_f h39 hf
              refine lv_iload_n hx hb dX0_factsOfLines_42 rfl (lv_at hl 3 rfl) ?_
              refine lv_aload_n hx hb dX0_factsOfLines_43 rfl (lv_at hl 0 rfl) ?_
              refine va_get (D := (dC, dI)) (ci := 0) (v := .ref (ad 4)) (C := RX0) (T := TX0) (N := 7) hx hb hts inX0 hown hK hP 3 rfl rfl 1 (by decide) (hts (.fieldLink RX0 9 "BittenBoards$Boards" "lesser" "[I") (by decide +kernel)) (fun _ h9 => h9) rfl dX0_factsOfLines_44 ?_
              refine lv_bipush (v := (8 : Int32)) hx hb dX0_factsOfLines_47 (by decide) ?_
              refine lv_iload hx hb dX0_factsOfLines_49 (lv_at hl 4 rfl) ?_
              refine lv_imul hx hb dX0_factsOfLines_51 ?_
              refine lv_iload_n hx hb dX0_factsOfLines_52 rfl (lv_at hl 2 rfl) ?_
              refine lv_iadd hx hb dX0_factsOfLines_53 ?_
              obtain ⟨r_54, hc54, hf⟩ := bn_e hf
              refine x_calli hD hS hAA (va_runSN (host := "BittenBoards") (As := [.ref (ad 4), .int (((8 : Int32) * x4) + x2)]) (rest := [.int x3]) ⟨hx, hb, hml, hown, hts⟩ (k_xf_C_at l dC dI cI cZ cG ad H.size w 64 (w.2.1 4) (ad 4) 4 rfl (((8 : Int32) * x4) + x2) r_54 w hc54 rfl) ⟨va_cnB (host := "BittenBoards") 2 hts gX0_factsOfLines_X3_at_n51 rfl rfl rfl (hN (.methodLinkNest RX0 51 yX3_at "BittenBoards") (by decide +kernel)) (hts (.initialized RX3) (by decide +kernel)) (by decide +kernel) ⟨Nat.le_of_ble_eq_true rfl, Nat.le_of_ble_eq_true rfl⟩, hts (.static yX3_at) (by decide +kernel), trivial⟩ ⟨x_blind, fun U hU hW => x_pre hU hW hK hP hD hN⟩ rfl rfl hl.1 rfl (lv_room (Nat.le_of_ble_eq_true rfl)) dX0_factsOfLines_54 ⟨Nat.zero_le _, Nat.zero_le _⟩) (fun H locs hP hD hS => ?_)
              refine lv_aload_n hx hb dX0_factsOfLines_57 rfl (lv_at hl 0 rfl) ?_
              refine va_get (D := (dC, dI)) (ci := 0) (v := .ref (ad 4)) (C := RX0) (T := TX0) (N := 7) hx hb hts inX0 hown hK hP 3 rfl rfl 1 (by decide) (hts (.fieldLink RX0 9 "BittenBoards$Boards" "lesser" "[I") (by decide +kernel)) (fun _ h9 => h9) rfl dX0_factsOfLines_58 ?_
              refine lv_bipush (v := (8 : Int32)) hx hb dX0_factsOfLines_61 (by decide) ?_
              refine lv_iload hx hb dX0_factsOfLines_63 (lv_at hl 4 rfl) ?_
              refine lv_imul hx hb dX0_factsOfLines_65 ?_
              refine lv_aload_n hx hb dX0_factsOfLines_66 rfl (lv_at hl 0 rfl) ?_
              refine va_get (D := (dC, dI)) (ci := 0) (v := .ref (ad 5)) (C := RX0) (T := TX0) (N := 7) hx hb hts inX0 hown hK hP 3 rfl rfl 2 (by decide) (hts (.fieldLink RX0 15 "BittenBoards$Boards" "lines" "[I") (by decide +kernel)) (fun _ h9 => h9) rfl dX0_factsOfLines_67 ?_
              refine lv_iload hx hb dX0_factsOfLines_70 (lv_at hl 4 rfl) ?_
              obtain ⟨hg72, hf⟩ := gi_e hf
              refine va_iald (f := (w.2.1 5)) hx hb hK hP 5 0 rfl rfl hg72 dX0_factsOfLines_72 ?_
              refine lv_iadd hx hb dX0_factsOfLines_73 ?_
              obtain ⟨r_74, hc74, hf⟩ := bn_e hf
              refine x_calli hD hS hAA (va_runSN (host := "BittenBoards") (As := [.ref (ad 4), .int (((8 : Int32) * x4) + ((w.2.1 5) x4.toNatClampNeg))]) (rest := [.int r_54, .int x3]) ⟨hx, hb, hml, hown, hts⟩ (k_xf_C_at l dC dI cI cZ cG ad H.size w 64 (w.2.1 4) (ad 4) 4 rfl (((8 : Int32) * x4) + ((w.2.1 5) x4.toNatClampNeg)) r_74 w hc74 rfl) ⟨va_cnB (host := "BittenBoards") 2 hts gX0_factsOfLines_X3_at_n51 rfl rfl rfl (hN (.methodLinkNest RX0 51 yX3_at "BittenBoards") (by decide +kernel)) (hts (.initialized RX3) (by decide +kernel)) (by decide +kernel) ⟨Nat.le_of_ble_eq_true rfl, Nat.le_of_ble_eq_true rfl⟩, hts (.static yX3_at) (by decide +kernel), trivial⟩ ⟨x_blind, fun U hU hW => x_pre hU hW hK hP hD hN⟩ rfl rfl hl.1 rfl (lv_room (Nat.le_of_ble_eq_true rfl)) dX0_factsOfLines_74 ⟨Nat.zero_le _, Nat.zero_le _⟩) (fun H locs hP hD hS => ?_)
              refine lv_isub hx hb dX0_factsOfLines_77 ?_
              refine lv_iadd hx hb dX0_factsOfLines_78 ?_
              obtain ⟨x3_79, ex3_79, hf⟩ := nm_x hf
              refine W.eq (g2 := F0 m 79 ls [.int x3_79]) (by rw [ex3_79]) ?_
              refine lv_istore_n (lv' := [(3, .int x3_79), (0, .ref (ad 3)), (1, .int x1), (2, .int x2), (4, .int x4)]) hx hb dX0_factsOfLines_79 rfl hl (by decide) rfl (fun ls hl => ?_)
              refine lv_aload_n hx hb dX0_factsOfLines_80 rfl (lv_at hl 1 rfl) ?_
              refine va_get (D := (dC, dI)) (ci := 0) (v := .ref (ad 9)) (C := RX0) (T := TX0) (N := 7) hx hb hts inX0 hown hK hP 3 rfl rfl 0 (by decide) (hts (.fieldLink RX0 27 "BittenBoards$Boards" "tally" "LBittenBoards$Tally;") (by decide +kernel)) (fun _ h9 => h9) rfl dX0_factsOfLines_81 ?_
              refine lv_aload_n hx hb dX0_factsOfLines_84 rfl (lv_at hl 1 rfl) ?_
              refine va_get (D := (dC, dI)) (ci := 0) (v := .ref (ad 6)) (C := RX0) (T := TX0) (N := 7) hx hb hts inX0 hown hK hP 3 rfl rfl 3 (by decide) (hts (.fieldLink RX0 18 "BittenBoards$Boards" "facts" "[I") (by decide +kernel)) (fun _ h9 => h9) rfl dX0_factsOfLines_85 ?_
              refine lv_iload_n hx hb dX0_factsOfLines_88 rfl (lv_at hl 0 rfl) ?_
              obtain ⟨r_89, hc89, hf⟩ := bn_e hf
              refine x_calli hD hS hAA (va_runSN (host := "BittenBoards") (As := [.ref (ad 6), .int x3_79]) (rest := [.ref (ad 9)]) ⟨hx, hb, hml, hown, hts⟩ (k_xf_C_at l dC dI cI cZ cG ad H.size w 3432 (w.2.1 6) (ad 6) 6 rfl x3_79 r_89 w hc89 rfl) ⟨va_cnB (host := "BittenBoards") 2 hts gX0_factsOfLines_X3_at_n51 rfl rfl rfl (hN (.methodLinkNest RX0 51 yX3_at "BittenBoards") (by decide +kernel)) (hts (.initialized RX3) (by decide +kernel)) (by decide +kernel) ⟨Nat.le_of_ble_eq_true rfl, Nat.le_of_ble_eq_true rfl⟩, hts (.static yX3_at) (by decide +kernel), trivial⟩ ⟨x_blind, fun U hU hW => x_pre hU hW hK hP hD hN⟩ rfl rfl hl.1 rfl (lv_room (Nat.le_of_ble_eq_true rfl)) dX0_factsOfLines_89 ⟨Nat.zero_le _, Nat.zero_le _⟩) (fun H locs hP hD hS => ?_)
              obtain ⟨w_92, hc92, hf⟩ := bn_e hf
              refine x_callv hD hS hAA (va_runV (As := [.int r_89]) (rest := []) ⟨hx, hb, hml, hown, hts⟩ (k_xf_T_take l dC dI cI cZ cG ad H.size w r_89 w_92 hc92) (cwV 1 hts gX0_factsOfLines_X2_take rfl rfl rfl (by decide +kernel) ⟨Nat.le_of_ble_eq_true rfl, Nat.le_of_ble_eq_true rfl⟩) ⟨x_blind, va_recv hK hP (ci := 2) (q0 := 9) rfl rfl, fun U hU hW => x_pre hU hW hK hP hD hN⟩ rfl rfl hl.1 rfl (lv_room (Nat.le_of_ble_eq_true rfl)) dX0_factsOfLines_92 ⟨Nat.zero_le _, Nat.zero_le _⟩) (fun H locs hP hD hS => ?_)
              obtain ⟨x4_95, ex4_95, hf⟩ := nm_x hf
              refine lv_iinc (v := x4_95) (lv' := [(4, .int x4_95), (3, .int x3_79), (0, .ref (ad 3)), (1, .int x1), (2, .int x2)]) hx hb dX0_factsOfLines_95 hl (k := 4) rfl (by rw [ex4_95]; rfl) (by decide) rfl (fun ls hl => ?_)
              refine lv_goto (tgt := 26) hx hb dX0_factsOfLines_98 (by decide) ?_
              exact ih26 x1 x2 x3_79 x4_95 w_92 hf _ _ _ hP hD hS (lv_sub hl [2, 3, 4, 1, 0] rfl)
      intro x1 x2 w hf H locs ls hP hD hS hl
      rw [xf_B_factsOfLines_C9] at hf
      refine lv_iload_n hx hb dX0_factsOfLines_9 rfl (lv_at hl 2 rfl) ?_
      refine lv_bipush (v := (7 : Int32)) hx hb dX0_factsOfLines_10 (by decide) ?_
      refine lv_icmp_ge (tgt := 107) hx hb dX0_factsOfLines_12 (by decide) (fun h12 => ?_) (fun h12 => ?_)
      · have hf := if_t h12 hf
        refine lv_aload_n hx hb dX0_factsOfLines_107 rfl (lv_at hl 0 rfl) ?_
        refine va_get (D := (dC, dI)) (ci := 0) (v := .ref (ad 9)) (C := RX0) (T := TX0) (N := 7) hx hb hts inX0 hown hK hP 3 rfl rfl 0 (by decide) (hts (.fieldLink RX0 27 "BittenBoards$Boards" "tally" "LBittenBoards$Tally;") (by decide +kernel)) (fun _ h9 => h9) rfl dX0_factsOfLines_108 ?_
        obtain ⟨r_111, hc111, hf⟩ := bn_e hf
        refine x_calli hD hS hAA (va_runV (As := []) (rest := []) ⟨hx, hb, hml, hown, hts⟩ (k_xf_T_facts l dC dI cI cZ cG ad H.size w  r_111 w hc111 rfl) (cwV 0 hts gX0_factsOfLines_X2_facts rfl rfl rfl (by decide +kernel) ⟨Nat.le_of_ble_eq_true rfl, Nat.le_of_ble_eq_true rfl⟩) ⟨x_blind, va_recv hK hP (ci := 2) (q0 := 9) rfl rfl, fun U hU hW => x_pre hU hW hK hP hD hN⟩ rfl rfl hl.1 rfl (lv_room (Nat.le_of_ble_eq_true rfl)) dX0_factsOfLines_111 ⟨Nat.zero_le _, Nat.zero_le _⟩) (fun H locs hP hD hS => ?_)
        exact x_iret hx hb hr hlocks hK hP hD hS (so_2 hf) dX0_factsOfLines_114
      · have hf := if_f h12 hf
        refine lv_iload_n hx hb dX0_factsOfLines_15 rfl (lv_at hl 1 rfl) ?_
        refine lv_istore_n (lv' := [(3, .int x1), (0, .ref (ad 3)), (1, .int x1), (2, .int x2)]) hx hb dX0_factsOfLines_16 rfl hl (by decide) rfl (fun ls hl => ?_)
        refine lv_aload_n hx hb dX0_factsOfLines_17 rfl (lv_at hl 1 rfl) ?_
        refine va_get (D := (dC, dI)) (ci := 0) (v := .ref (ad 5)) (C := RX0) (T := TX0) (N := 7) hx hb hts inX0 hown hK hP 3 rfl rfl 2 (by decide) (hts (.fieldLink RX0 15 "BittenBoards$Boards" "lines" "[I") (by decide +kernel)) (fun _ h9 => h9) rfl dX0_factsOfLines_18 ?_
        refine va_alen (v := (7 : Int32)) hx hb hK hP 5 0 rfl rfl (by rfl) dX0_factsOfLines_21 ?_
        refine lv_iconst (v := (1 : Int32)) hx hb dX0_factsOfLines_22 (by decide) ?_
        refine lv_isub hx hb dX0_factsOfLines_23 ?_
        obtain ⟨x4_24, ex4_24, hf⟩ := nm_x hf
        refine W.eq (g2 := F0 m 24 ls [.int x4_24]) (by rw [ex4_24]) ?_
        refine lv_istore (lv' := [(4, .int x4_24), (3, .int x1), (0, .ref (ad 3)), (1, .int x1), (2, .int x2)]) hx hb dX0_factsOfLines_24 hl (by decide) rfl (fun ls hl => ?_)
        exact C26 fu x1 x2 x1 x4_24 w hf _ _ _ hP hD hS (lv_sub hl [2, 3, 4, 1, 0] rfl)
  have hl := lv_entry ([.ref (ad 3), .int a1]) (n := 5) (Nat.le_of_ble_eq_true rfl)
  rw [lg_entry_eq]
  generalize (lg_sl ([.ref (ad 3), .int a1]) ++ List.replicate (5 - (lg_sl ([.ref (ad 3), .int a1])).length) Slot.unset).toArray = ls at hl ⊢
  have hl : lv_has ls 5 [(0, .ref (ad 3)), (1, .int a1)] := hl
  unfold xf_B_factsOfLines at hf
  refine lv_aload_n hx hb dX0_factsOfLines_0 rfl (lv_at hl 0 rfl) ?_
  refine va_get (D := (dC, dI)) (ci := 0) (v := .ref (ad 9)) (C := RX0) (T := TX0) (N := 7) hx hb hts inX0 hown hK hP 3 rfl rfl 0 (by decide) (hts (.fieldLink RX0 27 "BittenBoards$Boards" "tally" "LBittenBoards$Tally;") (by decide +kernel)) (fun _ h9 => h9) rfl dX0_factsOfLines_1 ?_
  obtain ⟨w_4, hc4, hf⟩ := bn_e hf
  refine x_callv hD hS hAA (va_runV (As := []) (rest := []) ⟨hx, hb, hml, hown, hts⟩ (k_xf_T_begin l dC dI cI cZ cG ad s.heap.size w  w_4 hc4) (cwV 0 hts gX0_factsOfLines_X2_begin rfl rfl rfl (by decide +kernel) ⟨Nat.le_of_ble_eq_true rfl, Nat.le_of_ble_eq_true rfl⟩) ⟨x_blind, va_recv hK hP (ci := 2) (q0 := 9) rfl rfl, fun U hU hW => x_pre hU hW hK hP hD hN⟩ rfl rfl hl.1 rfl (lv_room (Nat.le_of_ble_eq_true rfl)) dX0_factsOfLines_4 ⟨Nat.zero_le _, Nat.zero_le _⟩) (fun H locs hP hD hS => ?_)
  refine lv_iconst (v := (0 : Int32)) hx hb dX0_factsOfLines_7 (by decide) ?_
  refine lv_istore_n (lv' := [(2, .int (0 : Int32)), (0, .ref (ad 3)), (1, .int a1)]) hx hb dX0_factsOfLines_8 rfl hl (by decide) rfl (fun ls hl => ?_)
  exact C9 fu a1 (0 : Int32) w_4 hf _ _ _ hP hD hS (lv_sub hl [1, 2, 0] rfl)
set_option maxHeartbeats 4000000 in
set_option maxRecDepth 100000 in
theorem k_xf_B_solve (l : Launch) (dC : Nat → ClassId) (dI : Nat → Nat → Nat) (cI cZ cG : ClassId) (ad : Nat → Nat) (sz : Nat) (w : xW) (w0 : xW) (hf : xf_B_solve w = some w0) : Met l yX0_solve wsX0_solve ({ frames := 3, cells := 0, slots := 0, locals := 68 } : Room) (va_Pc [.ref (ad 3)] (xPre dC dI cI cZ cG ad sz w)) (va_Qv (fun (u : xW) => u = w0) (xB dC dI cI cZ cG ad (xA ad sz)) (xA ad sz)) 0 0 (xA ad sz) := by
  refine Met.ofW (cc := cX0_solve) (maxL := 2) (ret := none) (by decide) rfl ?_
  intro p e s m args below meth c s₁ B hml hv
  obtain ⟨rfl, hsz, hP, hK, hD0, hN⟩ := hv
  have hx := B.exec
  have hb := B.bytes
  have hr := B.returns
  have hts := atoms_spec (ws := wsX0_solve) B.pre
  have hown : s.vm.findClass RX0 = some m.cls := findClass_of_methodNamed B.named
  have hlocks := B.notSynchronized
  have inX0 : ∀ w ∈ u_ws RX0 TX0 7, w ∈ wsX0_solve := by decide +kernel
  subst hsz
  have hD : va_D (xA ad s.heap.size) (xc cI cG ad w) := xD_self hD0
  have hAA : ∀ z q, s.heap.size ≤ z → xA ad z q → xA ad s.heap.size q := xA_mono
  generalize xA ad s.heap.size = A at hD hAA ⊢
  have hS : va_S A s.heap s.heap [] := va_S.rf
  have C10 : ∀ (n10 : Nat) (x1 : Int32) (w : xW), xf_B_solve_C10 n10 x1 w = some w0 → ∀ (H : Heap) (locs : List Loc) (ls : Array Slot), va_P (dC, dI) vwCl (xc cI cG ad w) H → va_D A (xc cI cG ad w) → va_S A s.heap H locs → lv_has ls 2 [(0, .ref (ad 3)), (1, .int x1)] → W p l e (headSpec wsX0_solve ({ frames := 3, cells := 0, slots := 0, locals := 68 } : Room)).room s m (List.toArray [Value.ref (ad 3)]) below meth c H locs 0 0 (MQ below (va_Qv (fun (u : xW) => u = w0) (xB dC dI cI cZ cG ad A) A) (List.toArray [Value.ref (ad 3)]) s 0 0 A) (F0 m 10 ls []) := by
    intro n10
    induction n10 with
    | zero => intro x1 w hf; cases hf
    | succ n10 ih10 =>
      intro x1 w hf H locs ls hP hD hS hl
      rw [xf_B_solve_C10] at hf
      refine lv_iload_n hx hb dX0_solve_10 rfl (lv_at hl 1 rfl) ?_
      refine lv_sipush (v := (3432 : Int32)) hx hb dX0_solve_11 (by decide) ?_
      refine lv_icmp_ge (tgt := 63) hx hb dX0_solve_14 (by decide) (fun h14 => ?_) (fun h14 => ?_)
      · have hf := if_t h14 hf
        refine lv_aload_n hx hb dX0_solve_63 rfl (lv_at hl 0 rfl) ?_
        refine lv_iconst (v := (1 : Int32)) hx hb dX0_solve_64 (by decide) ?_
        obtain ⟨hg65, hf⟩ := gd_e hf
        obtain ⟨w_65, ew_65, hf⟩ := nm_x hf
        refine va_put (D := (dC, dI)) (ci := 0) (v := .int (1 : Int32)) (ty := .boolean) (C := RX0) (T := TX0) (N := 7) hx hb hts inX0 tyX0 tyX0_ok nmX0 hown hK hP hD hS 3 rfl rfl 6 (by decide) (hts (.fieldLink RX0 76 "BittenBoards$Boards" "isSolved" "Z") (by decide +kernel)) (fun _ h9 => h9) rfl (by decide +kernel) (isB_nar hg65) (isB_fit hg65) (Nat.le_of_ble_eq_true rfl) dX0_solve_65 (fun H locs hP hD hS => ?_)
        have hP : va_P (dC, dI) vwCl (xc cI cG ad w_65) H := hP.eqs (by rw [ew_65]; rfl)
        have hD : va_D A (xc cI cG ad w_65) := hD.eqs (by rw [ew_65]; rfl)
        exact x_vret hx hb hr hlocks hK hP hD hS (so_1 hf) dX0_solve_68
      · have hf := if_f h14 hf
        refine lv_aload_n hx hb dX0_solve_17 rfl (lv_at hl 0 rfl) ?_
        refine lv_iload_n hx hb dX0_solve_18 rfl (lv_at hl 1 rfl) ?_
        obtain ⟨w_19, hc19, hf⟩ := bn_e hf
        refine x_callv hD hS hAA (va_runV (As := [.int x1]) (rest := []) ⟨hx, hb, hml, hown, hts⟩ (k_xf_B_lookAt l dC dI cI cZ cG ad H.size w x1 w_19 hc19) (cwV 1 hts gX0_solve_X0_lookAt rfl rfl rfl (by decide +kernel) ⟨Nat.le_of_ble_eq_true rfl, Nat.le_of_ble_eq_true rfl⟩) ⟨x_blind, va_recv hK hP (ci := 0) (q0 := 3) rfl rfl, fun U hU hW => x_pre hU hW hK hP hD hN⟩ rfl rfl hl.1 rfl (lv_room (Nat.le_of_ble_eq_true rfl)) dX0_solve_19 ⟨Nat.zero_le _, Nat.zero_le _⟩) (fun H locs hP hD hS => ?_)
        refine lv_aload_n hx hb dX0_solve_22 rfl (lv_at hl 0 rfl) ?_
        refine va_get (D := (dC, dI)) (ci := 0) (v := .ref (ad 7)) (C := RX0) (T := TX0) (N := 7) hx hb hts inX0 hown hK hP 3 rfl rfl 4 (by decide) (hts (.fieldLink RX0 21 "BittenBoards$Boards" "firsts" "[I") (by decide +kernel)) (fun _ h9 => h9) rfl dX0_solve_23 ?_
        refine lv_iload_n hx hb dX0_solve_26 rfl (lv_at hl 1 rfl) ?_
        refine lv_aload_n hx hb dX0_solve_27 rfl (lv_at hl 0 rfl) ?_
        refine va_get (D := (dC, dI)) (ci := 0) (v := .ref (ad 5)) (C := RX0) (T := TX0) (N := 7) hx hb hts inX0 hown hK hP 3 rfl rfl 2 (by decide) (hts (.fieldLink RX0 15 "BittenBoards$Boards" "lines" "[I") (by decide +kernel)) (fun _ h9 => h9) rfl dX0_solve_28 ?_
        refine lv_iconst (v := (0 : Int32)) hx hb dX0_solve_31 (by decide) ?_
        obtain ⟨r_32, hc32, hf⟩ := bn_e hf
        refine x_calli hD hS hAA (va_runSN (host := "BittenBoards") (As := [.ref (ad 5), .int (0 : Int32)]) (rest := [.int x1, .ref (ad 7)]) ⟨hx, hb, hml, hown, hts⟩ (k_xf_C_at l dC dI cI cZ cG ad H.size w_19 7 (w_19.2.1 5) (ad 5) 5 rfl (0 : Int32) r_32 w_19 hc32 rfl) ⟨va_cnB (host := "BittenBoards") 2 hts gX0_solve_X3_at_n51 rfl rfl rfl (hN (.methodLinkNest RX0 51 yX3_at "BittenBoards") (by decide +kernel)) (hts (.initialized RX3) (by decide +kernel)) (by decide +kernel) ⟨Nat.le_of_ble_eq_true rfl, Nat.le_of_ble_eq_true rfl⟩, hts (.static yX3_at) (by decide +kernel), trivial⟩ ⟨x_blind, fun U hU hW => x_pre hU hW hK hP hD hN⟩ rfl rfl hl.1 rfl (lv_room (Nat.le_of_ble_eq_true rfl)) dX0_solve_32 ⟨Nat.zero_le _, Nat.zero_le _⟩) (fun H locs hP hD hS => ?_)
        obtain ⟨hg35, hf⟩ := gi_e hf
        obtain ⟨w_35, ew_35, hf⟩ := nm_x hf
        refine va_iast (f := (w_19.2.1 7)) hx hb hK hP hD hS 7 0 rfl rfl hg35 dX0_solve_35 (fun H locs hP hD hS => ?_)
        have hP : va_P (dC, dI) vwCl (xc cI cG ad w_35) H := hP.eqs (by rw [ew_35]; rfl)
        have hD : va_D A (xc cI cG ad w_35) := hD.eqs (by rw [ew_35]; rfl)
        refine lv_aload_n hx hb dX0_solve_36 rfl (lv_at hl 0 rfl) ?_
        refine va_get (D := (dC, dI)) (ci := 0) (v := .ref (ad 8)) (C := RX0) (T := TX0) (N := 7) hx hb hts inX0 hown hK hP 3 rfl rfl 5 (by decide) (hts (.fieldLink RX0 24 "BittenBoards$Boards" "heights" "[I") (by decide +kernel)) (fun _ h9 => h9) rfl dX0_solve_37 ?_
        refine lv_iload_n hx hb dX0_solve_40 rfl (lv_at hl 1 rfl) ?_
        refine lv_aload_n hx hb dX0_solve_41 rfl (lv_at hl 0 rfl) ?_
        obtain ⟨r_42, hc42, hf⟩ := bn_e hf
        refine x_calli hD hS hAA (va_runV (As := []) (rest := [.int x1, .ref (ad 8)]) ⟨hx, hb, hml, hown, hts⟩ (k_xf_B_countFilled l dC dI cI cZ cG ad H.size w_35  r_42 w_35 hc42 rfl) (cwV 0 hts gX0_solve_X0_countFilled rfl rfl rfl (by decide +kernel) ⟨Nat.le_of_ble_eq_true rfl, Nat.le_of_ble_eq_true rfl⟩) ⟨x_blind, va_recv hK hP (ci := 0) (q0 := 3) rfl rfl, fun U hU hW => x_pre hU hW hK hP hD hN⟩ rfl rfl hl.1 rfl (lv_room (Nat.le_of_ble_eq_true rfl)) dX0_solve_42 ⟨Nat.zero_le _, Nat.zero_le _⟩) (fun H locs hP hD hS => ?_)
        obtain ⟨hg45, hf⟩ := gi_e hf
        obtain ⟨w_45, ew_45, hf⟩ := nm_x hf
        refine va_iast (f := (w_35.2.1 8)) hx hb hK hP hD hS 8 0 rfl rfl hg45 dX0_solve_45 (fun H locs hP hD hS => ?_)
        have hP : va_P (dC, dI) vwCl (xc cI cG ad w_45) H := hP.eqs (by rw [ew_45]; rfl)
        have hD : va_D A (xc cI cG ad w_45) := hD.eqs (by rw [ew_45]; rfl)
        refine lv_aload_n hx hb dX0_solve_46 rfl (lv_at hl 0 rfl) ?_
        refine va_get (D := (dC, dI)) (ci := 0) (v := .ref (ad 6)) (C := RX0) (T := TX0) (N := 7) hx hb hts inX0 hown hK hP 3 rfl rfl 3 (by decide) (hts (.fieldLink RX0 18 "BittenBoards$Boards" "facts" "[I") (by decide +kernel)) (fun _ h9 => h9) rfl dX0_solve_47 ?_
        refine lv_iload_n hx hb dX0_solve_50 rfl (lv_at hl 1 rfl) ?_
        refine lv_aload_n hx hb dX0_solve_51 rfl (lv_at hl 0 rfl) ?_
        refine lv_iload_n hx hb dX0_solve_52 rfl (lv_at hl 1 rfl) ?_
        obtain ⟨r_53, w_53, hc53, hf⟩ := bn2_e hf
        refine x_calli hD hS hAA (va_runV (As := [.int x1]) (rest := [.int x1, .ref (ad 6)]) ⟨hx, hb, hml, hown, hts⟩ (k_xf_B_factsOfLines l dC dI cI cZ cG ad H.size w_45 x1 r_53 w_53 hc53) (cwV 1 hts gX0_solve_X0_factsOfLines rfl rfl rfl (by decide +kernel) ⟨Nat.le_of_ble_eq_true rfl, Nat.le_of_ble_eq_true rfl⟩) ⟨x_blind, va_recv hK hP (ci := 0) (q0 := 3) rfl rfl, fun U hU hW => x_pre hU hW hK hP hD hN⟩ rfl rfl hl.1 rfl (lv_room (Nat.le_of_ble_eq_true rfl)) dX0_solve_53 ⟨Nat.zero_le _, Nat.zero_le _⟩) (fun H locs hP hD hS => ?_)
        obtain ⟨hg56, hf⟩ := gi_e hf
        obtain ⟨w_56, ew_56, hf⟩ := nm_x hf
        refine va_iast (f := (w_53.2.1 6)) hx hb hK hP hD hS 6 0 rfl rfl hg56 dX0_solve_56 (fun H locs hP hD hS => ?_)
        have hP : va_P (dC, dI) vwCl (xc cI cG ad w_56) H := hP.eqs (by rw [ew_56]; rfl)
        have hD : va_D A (xc cI cG ad w_56) := hD.eqs (by rw [ew_56]; rfl)
        obtain ⟨x1_57, ex1_57, hf⟩ := nm_x hf
        refine lv_iinc (v := x1_57) (lv' := [(1, .int x1_57), (0, .ref (ad 3))]) hx hb dX0_solve_57 hl (k := 1) rfl (by rw [ex1_57]; rfl) (by decide) rfl (fun ls hl => ?_)
        refine lv_goto (tgt := 10) hx hb dX0_solve_60 (by decide) ?_
        exact ih10 x1_57 w_56 hf _ _ _ hP hD hS (lv_sub hl [1, 0] rfl)
  have hl := lv_entry ([.ref (ad 3)]) (n := 2) (Nat.le_of_ble_eq_true rfl)
  rw [lg_entry_eq]
  generalize (lg_sl ([.ref (ad 3)]) ++ List.replicate (2 - (lg_sl ([.ref (ad 3)])).length) Slot.unset).toArray = ls at hl ⊢
  have hl : lv_has ls 2 [(0, .ref (ad 3))] := hl
  unfold xf_B_solve at hf
  refine lv_aload_n hx hb dX0_solve_0 rfl (lv_at hl 0 rfl) ?_
  refine va_get (D := (dC, dI)) (ci := 0) (v := .int (w.1 1)) (C := RX0) (T := TX0) (N := 7) hx hb hts inX0 hown hK hP 3 rfl rfl 6 (by decide) (hts (.fieldLink RX0 76 "BittenBoards$Boards" "isSolved" "Z") (by decide +kernel)) (fun _ h9 => h9) rfl dX0_solve_1 ?_
  refine lv_if_eq (tgt := 8) hx hb dX0_solve_4 (by decide) (fun h4 => ?_) (fun h4 => ?_)
  · have hf := if_t h4 hf
    refine lv_iconst (v := (0 : Int32)) hx hb dX0_solve_8 (by decide) ?_
    refine lv_istore_n (lv' := [(1, .int (0 : Int32)), (0, .ref (ad 3))]) hx hb dX0_solve_9 rfl hl (by decide) rfl (fun ls hl => ?_)
    exact C10 fu (0 : Int32) w hf _ _ _ hP hD hS (lv_sub hl [1, 0] rfl)
  · have hf := if_f h4 hf
    exact x_vret hx hb hr hlocks hK hP hD hS (so_1 hf) dX0_solve_7
set_option maxHeartbeats 4000000 in
set_option maxRecDepth 100000 in
theorem k_xf_G_canBeLeft (l : Launch) (dC : Nat → ClassId) (dI : Nat → Nat → Nat) (cI cZ cG : ClassId) (ad : Nat → Nat) (sz : Nat) (w : xW) (g : Nat) (hg : g < 6) (a1 : Int32) (r0 : Int32) (w0 : xW) (hf : xf_G_canBeLeft g a1 w = some r0) (hw0 : w = w0) : Met l yX1_canBeLeft wsX1_canBeLeft ({ frames := 0, cells := 0, slots := 0, locals := 0 } : Room) (va_Pc [.ref (ad (12 + 5 * g)), .int a1] (xPre dC dI cI cZ cG ad sz w)) (va_Qi (fun (r : Int32) (u : xW) => r = r0 ∧ u = w0) (xB dC dI cI cZ cG ad (xA ad sz)) (xA ad sz)) 0 0 (xA ad sz) := by
  refine Met.ofW (cc := cX1_canBeLeft) (maxL := 4) (ret := (some .boolean)) (by decide) rfl ?_
  intro p e s m args below meth c s₁ B hml hv
  obtain ⟨rfl, hsz, hP, hK, hD0, hN⟩ := hv
  have hx := B.exec
  have hb := B.bytes
  have hr := B.returns
  have hts := atoms_spec (ws := wsX1_canBeLeft) B.pre
  have hown : s.vm.findClass RX1 = some m.cls := findClass_of_methodNamed B.named
  have hlocks := B.notSynchronized
  have inX1 : ∀ w ∈ u_ws RX1 TX1 12, w ∈ wsX1_canBeLeft := by decide +kernel
  subst hsz
  have hD : va_D (xA ad s.heap.size) (xc cI cG ad w) := xD_self hD0
  have hAA : ∀ z q, s.heap.size ≤ z → xA ad z q → xA ad s.heap.size q := xA_mono
  generalize xA ad s.heap.size = A at hD hAA ⊢
  have hS : va_S A s.heap s.heap [] := va_S.rf
  have C11 : ∀ (n11 : Nat) (x1 : Int32) (x2 : Int32) (x3 : Int32), xf_G_canBeLeft_C11 g w n11 x1 x2 x3 = some r0 → ∀ (H : Heap) (locs : List Loc) (ls : Array Slot), va_P (dC, dI) vwCl (xc cI cG ad w) H → va_D A (xc cI cG ad w) → va_S A s.heap H locs → lv_has ls 4 [(0, .ref (ad (12 + 5 * g))), (1, .int x1), (2, .int x2), (3, .int x3)] → W p l e (headSpec wsX1_canBeLeft ({ frames := 0, cells := 0, slots := 0, locals := 0 } : Room)).room s m (List.toArray [Value.ref (ad (12 + 5 * g)), Value.int a1]) below meth c H locs 0 0 (MQ below (va_Qi (fun (r : Int32) (u : xW) => r = r0 ∧ u = w0) (xB dC dI cI cZ cG ad A) A) (List.toArray [Value.ref (ad (12 + 5 * g)), Value.int a1]) s 0 0 A) (F0 m 11 ls []) := by
    intro n11
    induction n11 with
    | zero => intro x1 x2 x3 hf; cases hf
    | succ n11 ih11 =>
      intro x1 x2 x3 hf H locs ls hP hD hS hl
      rw [xf_G_canBeLeft_C11] at hf
      refine lv_iload_n hx hb dX1_canBeLeft_11 rfl (lv_at hl 3 rfl) ?_
      refine lv_aload_n hx hb dX1_canBeLeft_12 rfl (lv_at hl 0 rfl) ?_
      refine va_get (D := (dC, dI)) (ci := 1) (v := .ref (ad (13 + 5 * g))) (C := RX1) (T := TX1) (N := 12) hx hb hts inX1 hown hK hP (12 + 5 * g) (xc_o hg) rfl 2 (by decide) (hts (.fieldLink RX1 9 "BittenBoards$Game" "takenBy" "[I") (by decide +kernel)) (fun _ h9 => h9) rfl dX1_canBeLeft_13 ?_
      refine va_alen (v := (15 : Int32)) hx hb hK hP (13 + 5 * g) 0 (xc_r0 hg) rfl (by rfl) dX1_canBeLeft_16 ?_
      refine lv_icmp_ge (tgt := 47) hx hb dX1_canBeLeft_17 (by decide) (fun h17 => ?_) (fun h17 => ?_)
      · have hf := if_t h17 hf
        refine lv_iconst (v := (1 : Int32)) hx hb dX1_canBeLeft_47 (by decide) ?_
        obtain ⟨hg48, hf⟩ := gd_e hf
        exact x_zret hx hb hr hlocks hg48 hK hP hD hS ⟨so_1 hf, hw0⟩ dX1_canBeLeft_48
      · have hf := if_f h17 hf
        refine lv_iload_n hx hb dX1_canBeLeft_20 rfl (lv_at hl 2 rfl) ?_
        refine lv_iload_n hx hb dX1_canBeLeft_21 rfl (lv_at hl 3 rfl) ?_
        refine lv_ishr hx hb dX1_canBeLeft_22 ?_
        refine lv_iconst (v := (1 : Int32)) hx hb dX1_canBeLeft_23 (by decide) ?_
        refine lv_iand hx hb dX1_canBeLeft_24 ?_
        refine lv_if_eq (tgt := 41) hx hb dX1_canBeLeft_25 (by decide) (fun h25 => ?_) (fun h25 => ?_)
        · have hf := if_t h25 hf
          obtain ⟨x3_41, ex3_41, hf⟩ := nm_x hf
          refine lv_iinc (v := x3_41) (lv' := [(3, .int x3_41), (0, .ref (ad (12 + 5 * g))), (1, .int x1), (2, .int x2)]) hx hb dX1_canBeLeft_41 hl (k := 3) rfl (by rw [ex3_41]; rfl) (by decide) rfl (fun ls hl => ?_)
          refine lv_goto (tgt := 11) hx hb dX1_canBeLeft_44 (by decide) ?_
          exact ih11 x1 x2 x3_41 hf _ _ _ hP hD hS (lv_sub hl [1, 2, 3, 0] rfl)
        · have hf := if_f h25 hf
          refine lv_aload_n hx hb dX1_canBeLeft_28 rfl (lv_at hl 0 rfl) ?_
          refine va_get (D := (dC, dI)) (ci := 1) (v := .ref (ad (13 + 5 * g))) (C := RX1) (T := TX1) (N := 12) hx hb hts inX1 hown hK hP (12 + 5 * g) (xc_o hg) rfl 2 (by decide) (hts (.fieldLink RX1 9 "BittenBoards$Game" "takenBy" "[I") (by decide +kernel)) (fun _ h9 => h9) rfl dX1_canBeLeft_29 ?_
          refine lv_iload_n hx hb dX1_canBeLeft_32 rfl (lv_at hl 3 rfl) ?_
          obtain ⟨hg33, hf⟩ := gi_e hf
          refine va_iald (f := (w.2.2.2.1 0 g)) hx hb hK hP (13 + 5 * g) 0 (xc_r0 hg) rfl hg33 dX1_canBeLeft_33 ?_
          refine lv_iload_n hx hb dX1_canBeLeft_34 rfl (lv_at hl 1 rfl) ?_
          refine lv_iand hx hb dX1_canBeLeft_35 ?_
          refine lv_if_eq (tgt := 41) hx hb dX1_canBeLeft_36 (by decide) (fun h36 => ?_) (fun h36 => ?_)
          · have hf := if_t h36 hf
            obtain ⟨x3_41, ex3_41, hf⟩ := nm_x hf
            refine lv_iinc (v := x3_41) (lv' := [(3, .int x3_41), (0, .ref (ad (12 + 5 * g))), (1, .int x1), (2, .int x2)]) hx hb dX1_canBeLeft_41 hl (k := 3) rfl (by rw [ex3_41]; rfl) (by decide) rfl (fun ls hl => ?_)
            refine lv_goto (tgt := 11) hx hb dX1_canBeLeft_44 (by decide) ?_
            exact ih11 x1 x2 x3_41 hf _ _ _ hP hD hS (lv_sub hl [1, 2, 3, 0] rfl)
          · have hf := if_f h36 hf
            refine lv_iconst (v := (0 : Int32)) hx hb dX1_canBeLeft_39 (by decide) ?_
            obtain ⟨hg40, hf⟩ := gd_e hf
            exact x_zret hx hb hr hlocks hg40 hK hP hD hS ⟨so_1 hf, hw0⟩ dX1_canBeLeft_40
  have hl := lv_entry ([.ref (ad (12 + 5 * g)), .int a1]) (n := 4) (Nat.le_of_ble_eq_true rfl)
  rw [lg_entry_eq]
  generalize (lg_sl ([.ref (ad (12 + 5 * g)), .int a1]) ++ List.replicate (4 - (lg_sl ([.ref (ad (12 + 5 * g)), .int a1])).length) Slot.unset).toArray = ls at hl ⊢
  have hl : lv_has ls 4 [(0, .ref (ad (12 + 5 * g))), (1, .int a1)] := hl
  unfold xf_G_canBeLeft at hf
  refine lv_aload_n hx hb dX1_canBeLeft_0 rfl (lv_at hl 0 rfl) ?_
  refine va_get (D := (dC, dI)) (ci := 1) (v := .int (w.2.2.1 2 g)) (C := RX1) (T := TX1) (N := 12) hx hb hts inX1 hown hK hP (12 + 5 * g) (xc_o hg) rfl 8 (by decide) (hts (.fieldLink RX1 40 "BittenBoards$Game" "whole" "I") (by decide +kernel)) (fun _ h9 => h9) rfl dX1_canBeLeft_1 ?_
  refine lv_iload_n hx hb dX1_canBeLeft_4 rfl (lv_at hl 1 rfl) ?_
  refine lv_iconst (v := (-1 : Int32)) hx hb dX1_canBeLeft_5 (by decide) ?_
  refine lv_ixor hx hb dX1_canBeLeft_6 ?_
  refine lv_iand hx hb dX1_canBeLeft_7 ?_
  obtain ⟨x2_8, ex2_8, hf⟩ := nm_x hf
  refine W.eq (g2 := F0 m 8 ls [.int x2_8]) (by rw [ex2_8]) ?_
  refine lv_istore_n (lv' := [(2, .int x2_8), (0, .ref (ad (12 + 5 * g))), (1, .int a1)]) hx hb dX1_canBeLeft_8 rfl hl (by decide) rfl (fun ls hl => ?_)
  refine lv_iconst (v := (0 : Int32)) hx hb dX1_canBeLeft_9 (by decide) ?_
  refine lv_istore_n (lv' := [(3, .int (0 : Int32)), (2, .int x2_8), (0, .ref (ad (12 + 5 * g))), (1, .int a1)]) hx hb dX1_canBeLeft_10 rfl hl (by decide) rfl (fun ls hl => ?_)
  exact C11 fu a1 x2_8 (0 : Int32) hf _ _ _ hP hD hS (lv_sub hl [2, 3, 1, 0] rfl)
set_option maxHeartbeats 4000000 in
set_option maxRecDepth 100000 in
theorem k_xf_G_factsOfSet (l : Launch) (dC : Nat → ClassId) (dI : Nat → Nat → Nat) (cI cZ cG : ClassId) (ad : Nat → Nat) (sz : Nat) (w : xW) (g : Nat) (hg : g < 6) (a1 : Int32) (r0 : Int32) (w0 : xW) (hf : xf_G_factsOfSet g a1 w = some (r0, w0)) : Met l yX1_factsOfSet wsX1_factsOfSet ({ frames := 2, cells := 0, slots := 0, locals := 44 } : Room) (va_Pc [.ref (ad (12 + 5 * g)), .int a1] (xPre dC dI cI cZ cG ad sz w)) (va_Qi (fun (r : Int32) (u : xW) => r = r0 ∧ u = w0) (xB dC dI cI cZ cG ad (xA ad sz)) (xA ad sz)) 0 0 (xA ad sz) := by
  refine Met.ofW (cc := cX1_factsOfSet) (maxL := 3) (ret := (some .int)) (by decide) rfl ?_
  intro p e s m args below meth c s₁ B hml hv
  obtain ⟨rfl, hsz, hP, hK, hD0, hN⟩ := hv
  have hx := B.exec
  have hb := B.bytes
  have hr := B.returns
  have hts := atoms_spec (ws := wsX1_factsOfSet) B.pre
  have hown : s.vm.findClass RX1 = some m.cls := findClass_of_methodNamed B.named
  have hlocks := B.notSynchronized
  have inX1 : ∀ w ∈ u_ws RX1 TX1 12, w ∈ wsX1_factsOfSet := by decide +kernel
  subst hsz
  have hD : va_D (xA ad s.heap.size) (xc cI cG ad w) := xD_self hD0
  have hAA : ∀ z q, s.heap.size ≤ z → xA ad z q → xA ad s.heap.size q := xA_mono
  generalize xA ad s.heap.size = A at hD hAA ⊢
  have hS : va_S A s.heap s.heap [] := va_S.rf
  have C9 : ∀ (n9 : Nat) (x1 : Int32) (x2 : Int32) (w : xW), xf_G_factsOfSet_C9 g n9 x1 x2 w = some (r0, w0) → ∀ (H : Heap) (locs : List Loc) (ls : Array Slot), va_P (dC, dI) vwCl (xc cI cG ad w) H → va_D A (xc cI cG ad w) → va_S A s.heap H locs → lv_has ls 3 [(0, .ref (ad (12 + 5 * g))), (1, .int x1), (2, .int x2)] → W p l e (headSpec wsX1_factsOfSet ({ frames := 2, cells := 0, slots := 0, locals := 44 } : Room)).room s m (List.toArray [Value.ref (ad (12 + 5 * g)), Value.int a1]) below meth c H locs 0 0 (MQ below (va_Qi (fun (r : Int32) (u : xW) => r = r0 ∧ u = w0) (xB dC dI cI cZ cG ad A) A) (List.toArray [Value.ref (ad (12 + 5 * g)), Value.int a1]) s 0 0 A) (F0 m 9 ls []) := by
    intro n9
    induction n9 with
    | zero => intro x1 x2 w hf; cases hf
    | succ n9 ih9 =>
      intro x1 x2 w hf H locs ls hP hD hS hl
      rw [xf_G_factsOfSet_C9] at hf
      refine lv_iload_n hx hb dX1_factsOfSet_9 rfl (lv_at hl 2 rfl) ?_
      refine lv_aload_n hx hb dX1_factsOfSet_10 rfl (lv_at hl 0 rfl) ?_
      refine va_get (D := (dC, dI)) (ci := 1) (v := .ref (ad (13 + 5 * g))) (C := RX1) (T := TX1) (N := 12) hx hb hts inX1 hown hK hP (12 + 5 * g) (xc_o hg) rfl 2 (by decide) (hts (.fieldLink RX1 9 "BittenBoards$Game" "takenBy" "[I") (by decide +kernel)) (fun _ h9 => h9) rfl dX1_factsOfSet_11 ?_
      refine va_alen (v := (15 : Int32)) hx hb hK hP (13 + 5 * g) 0 (xc_r0 hg) rfl (by rfl) dX1_factsOfSet_14 ?_
      refine lv_icmp_ge (tgt := 56) hx hb dX1_factsOfSet_15 (by decide) (fun h15 => ?_) (fun h15 => ?_)
      · have hf := if_t h15 hf
        refine lv_aload_n hx hb dX1_factsOfSet_56 rfl (lv_at hl 0 rfl) ?_
        refine va_get (D := (dC, dI)) (ci := 1) (v := .ref (ad 9)) (C := RX1) (T := TX1) (N := 12) hx hb hts inX1 hown hK hP (12 + 5 * g) (xc_o hg) rfl 1 (by decide) (hts (.fieldLink RX1 29 "BittenBoards$Game" "tally" "LBittenBoards$Tally;") (by decide +kernel)) (fun _ h9 => h9) rfl dX1_factsOfSet_57 ?_
        obtain ⟨r_60, hc60, hf⟩ := bn_e hf
        refine x_calli hD hS hAA (va_runV (As := []) (rest := []) ⟨hx, hb, hml, hown, hts⟩ (k_xf_T_facts l dC dI cI cZ cG ad H.size w  r_60 w hc60 rfl) (cwV 0 hts gX1_factsOfSet_X2_facts rfl rfl rfl (by decide +kernel) ⟨Nat.le_of_ble_eq_true rfl, Nat.le_of_ble_eq_true rfl⟩) ⟨x_blind, va_recv hK hP (ci := 2) (q0 := 9) rfl rfl, fun U hU hW => x_pre hU hW hK hP hD hN⟩ rfl rfl hl.1 rfl (lv_room (Nat.le_of_ble_eq_true rfl)) dX1_factsOfSet_60 ⟨Nat.zero_le _, Nat.zero_le _⟩) (fun H locs hP hD hS => ?_)
        exact x_iret hx hb hr hlocks hK hP hD hS (so_2 hf) dX1_factsOfSet_63
      · have hf := if_f h15 hf
        refine lv_iload_n hx hb dX1_factsOfSet_18 rfl (lv_at hl 1 rfl) ?_
        refine lv_iload_n hx hb dX1_factsOfSet_19 rfl (lv_at hl 2 rfl) ?_
        refine lv_ishr hx hb dX1_factsOfSet_20 ?_
        refine lv_iconst (v := (1 : Int32)) hx hb dX1_factsOfSet_21 (by decide) ?_
        refine lv_iand hx hb dX1_factsOfSet_22 ?_
        refine lv_if_eq (tgt := 50) hx hb dX1_factsOfSet_23 (by decide) (fun h23 => ?_) (fun h23 => ?_)
        · have hf := if_t h23 hf
          obtain ⟨x2_50, ex2_50, hf⟩ := nm_x hf
          refine lv_iinc (v := x2_50) (lv' := [(2, .int x2_50), (0, .ref (ad (12 + 5 * g))), (1, .int x1)]) hx hb dX1_factsOfSet_50 hl (k := 2) rfl (by rw [ex2_50]; rfl) (by decide) rfl (fun ls hl => ?_)
          refine lv_goto (tgt := 9) hx hb dX1_factsOfSet_53 (by decide) ?_
          exact ih9 x1 x2_50 w hf _ _ _ hP hD hS (lv_sub hl [1, 2, 0] rfl)
        · have hf := if_f h23 hf
          refine lv_aload_n hx hb dX1_factsOfSet_26 rfl (lv_at hl 0 rfl) ?_
          refine va_get (D := (dC, dI)) (ci := 1) (v := .ref (ad 9)) (C := RX1) (T := TX1) (N := 12) hx hb hts inX1 hown hK hP (12 + 5 * g) (xc_o hg) rfl 1 (by decide) (hts (.fieldLink RX1 29 "BittenBoards$Game" "tally" "LBittenBoards$Tally;") (by decide +kernel)) (fun _ h9 => h9) rfl dX1_factsOfSet_27 ?_
          refine lv_aload_n hx hb dX1_factsOfSet_30 rfl (lv_at hl 0 rfl) ?_
          refine va_get (D := (dC, dI)) (ci := 1) (v := .ref (ad (16 + 5 * g))) (C := RX1) (T := TX1) (N := 12) hx hb hts inX1 hown hK hP (12 + 5 * g) (xc_o hg) rfl 5 (by decide) (hts (.fieldLink RX1 22 "BittenBoards$Game" "facts" "[I") (by decide +kernel)) (fun _ h9 => h9) rfl dX1_factsOfSet_31 ?_
          refine lv_iload_n hx hb dX1_factsOfSet_34 rfl (lv_at hl 1 rfl) ?_
          refine lv_aload_n hx hb dX1_factsOfSet_35 rfl (lv_at hl 0 rfl) ?_
          refine va_get (D := (dC, dI)) (ci := 1) (v := .ref (ad (13 + 5 * g))) (C := RX1) (T := TX1) (N := 12) hx hb hts inX1 hown hK hP (12 + 5 * g) (xc_o hg) rfl 2 (by decide) (hts (.fieldLink RX1 9 "BittenBoards$Game" "takenBy" "[I") (by decide +kernel)) (fun _ h9 => h9) rfl dX1_factsOfSet_36 ?_
          refine lv_iload_n hx hb dX1_factsOfSet_39 rfl (lv_at hl 2 rfl) ?_
          obtain ⟨hg40, hf⟩ := gi_e hf
          refine va_iald (f := (w.2.2.2.1 0 g)) hx hb hK hP (13 + 5 * g) 0 (xc_r0 hg) rfl hg40 dX1_factsOfSet_40 ?_
          refine lv_iconst (v := (-1 : Int32)) hx hb dX1_factsOfSet_41 (by decide) ?_
          refine lv_ixor hx hb dX1_factsOfSet_42 ?_
          refine lv_iand hx hb dX1_factsOfSet_43 ?_
          obtain ⟨r_44, hc44, hf⟩ := bn_e hf
          refine x_calli hD hS hAA (va_runSN (host := "BittenBoards") (As := [.ref (ad (16 + 5 * g)), .int (x1 &&& (((w.2.2.2.1 0 g) x2.toNatClampNeg) ^^^ (-1 : Int32)))]) (rest := [.ref (ad 9)]) ⟨hx, hb, hml, hown, hts⟩ (k_xf_C_at l dC dI cI cZ cG ad H.size w 32768 (w.2.2.2.1 3 g) (ad (16 + 5 * g)) (16 + 5 * g) (xc_r3 hg) (x1 &&& (((w.2.2.2.1 0 g) x2.toNatClampNeg) ^^^ (-1 : Int32))) r_44 w hc44 rfl) ⟨va_cnB (host := "BittenBoards") 2 hts gX1_factsOfSet_X3_at_n60 rfl rfl rfl (hN (.methodLinkNest RX1 60 yX3_at "BittenBoards") (by decide +kernel)) (hts (.initialized RX3) (by decide +kernel)) (by decide +kernel) ⟨Nat.le_of_ble_eq_true rfl, Nat.le_of_ble_eq_true rfl⟩, hts (.static yX3_at) (by decide +kernel), trivial⟩ ⟨x_blind, fun U hU hW => x_pre hU hW hK hP hD hN⟩ rfl rfl hl.1 rfl (lv_room (Nat.le_of_ble_eq_true rfl)) dX1_factsOfSet_44 ⟨Nat.zero_le _, Nat.zero_le _⟩) (fun H locs hP hD hS => ?_)
          obtain ⟨w_47, hc47, hf⟩ := bn_e hf
          refine x_callv hD hS hAA (va_runV (As := [.int r_44]) (rest := []) ⟨hx, hb, hml, hown, hts⟩ (k_xf_T_take l dC dI cI cZ cG ad H.size w r_44 w_47 hc47) (cwV 1 hts gX1_factsOfSet_X2_take rfl rfl rfl (by decide +kernel) ⟨Nat.le_of_ble_eq_true rfl, Nat.le_of_ble_eq_true rfl⟩) ⟨x_blind, va_recv hK hP (ci := 2) (q0 := 9) rfl rfl, fun U hU hW => x_pre hU hW hK hP hD hN⟩ rfl rfl hl.1 rfl (lv_room (Nat.le_of_ble_eq_true rfl)) dX1_factsOfSet_47 ⟨Nat.zero_le _, Nat.zero_le _⟩) (fun H locs hP hD hS => ?_)
          obtain ⟨x2_50, ex2_50, hf⟩ := nm_x hf
          refine lv_iinc (v := x2_50) (lv' := [(2, .int x2_50), (0, .ref (ad (12 + 5 * g))), (1, .int x1)]) hx hb dX1_factsOfSet_50 hl (k := 2) rfl (by rw [ex2_50]; rfl) (by decide) rfl (fun ls hl => ?_)
          refine lv_goto (tgt := 9) hx hb dX1_factsOfSet_53 (by decide) ?_
          exact ih9 x1 x2_50 w_47 hf _ _ _ hP hD hS (lv_sub hl [1, 2, 0] rfl)
  have hl := lv_entry ([.ref (ad (12 + 5 * g)), .int a1]) (n := 3) (Nat.le_of_ble_eq_true rfl)
  rw [lg_entry_eq]
  generalize (lg_sl ([.ref (ad (12 + 5 * g)), .int a1]) ++ List.replicate (3 - (lg_sl ([.ref (ad (12 + 5 * g)), .int a1])).length) Slot.unset).toArray = ls at hl ⊢
  have hl : lv_has ls 3 [(0, .ref (ad (12 + 5 * g))), (1, .int a1)] := hl
  unfold xf_G_factsOfSet at hf
  refine lv_aload_n hx hb dX1_factsOfSet_0 rfl (lv_at hl 0 rfl) ?_
  refine va_get (D := (dC, dI)) (ci := 1) (v := .ref (ad 9)) (C := RX1) (T := TX1) (N := 12) hx hb hts inX1 hown hK hP (12 + 5 * g) (xc_o hg) rfl 1 (by decide) (hts (.fieldLink RX1 29 "BittenBoards$Game" "tally" "LBittenBoards$Tally;") (by decide +kernel)) (fun _ h9 => h9) rfl dX1_factsOfSet_1 ?_
  obtain ⟨w_4, hc4, hf⟩ := bn_e hf
  refine x_callv hD hS hAA (va_runV (As := []) (rest := []) ⟨hx, hb, hml, hown, hts⟩ (k_xf_T_begin l dC dI cI cZ cG ad s.heap.size w  w_4 hc4) (cwV 0 hts gX1_factsOfSet_X2_begin rfl rfl rfl (by decide +kernel) ⟨Nat.le_of_ble_eq_true rfl, Nat.le_of_ble_eq_true rfl⟩) ⟨x_blind, va_recv hK hP (ci := 2) (q0 := 9) rfl rfl, fun U hU hW => x_pre hU hW hK hP hD hN⟩ rfl rfl hl.1 rfl (lv_room (Nat.le_of_ble_eq_true rfl)) dX1_factsOfSet_4 ⟨Nat.zero_le _, Nat.zero_le _⟩) (fun H locs hP hD hS => ?_)
  refine lv_iconst (v := (0 : Int32)) hx hb dX1_factsOfSet_7 (by decide) ?_
  refine lv_istore_n (lv' := [(2, .int (0 : Int32)), (0, .ref (ad (12 + 5 * g))), (1, .int a1)]) hx hb dX1_factsOfSet_8 rfl hl (by decide) rfl (fun ls hl => ?_)
  exact C9 fu a1 (0 : Int32) w_4 hf _ _ _ hP hD hS (lv_sub hl [1, 2, 0] rfl)
set_option maxHeartbeats 4000000 in
set_option maxRecDepth 100000 in
theorem k_xf_G_solve (l : Launch) (dC : Nat → ClassId) (dI : Nat → Nat → Nat) (cI cZ cG : ClassId) (ad : Nat → Nat) (sz : Nat) (w : xW) (g : Nat) (hg : g < 6) (w0 : xW) (hf : xf_G_solve g w = some w0) : Met l yX1_solve wsX1_solve ({ frames := 3, cells := 0, slots := 0, locals := 66 } : Room) (va_Pc [.ref (ad (12 + 5 * g))] (xPre dC dI cI cZ cG ad sz w)) (va_Qv (fun (u : xW) => u = w0) (xB dC dI cI cZ cG ad (xA ad sz)) (xA ad sz)) 0 0 (xA ad sz) := by
  refine Met.ofW (cc := cX1_solve) (maxL := 2) (ret := none) (by decide) rfl ?_
  intro p e s m args below meth c s₁ B hml hv
  obtain ⟨rfl, hsz, hP, hK, hD0, hN⟩ := hv
  have hx := B.exec
  have hb := B.bytes
  have hr := B.returns
  have hts := atoms_spec (ws := wsX1_solve) B.pre
  have hown : s.vm.findClass RX1 = some m.cls := findClass_of_methodNamed B.named
  have hlocks := B.notSynchronized
  have inX1 : ∀ w ∈ u_ws RX1 TX1 12, w ∈ wsX1_solve := by decide +kernel
  subst hsz
  have hD : va_D (xA ad s.heap.size) (xc cI cG ad w) := xD_self hD0
  have hAA : ∀ z q, s.heap.size ≤ z → xA ad z q → xA ad s.heap.size q := xA_mono
  generalize xA ad s.heap.size = A at hD hAA ⊢
  have hS : va_S A s.heap s.heap [] := va_S.rf
  have C55 : ∀ (w : xW), xf_G_solve_C55 g w = some w0 → ∀ (H : Heap) (locs : List Loc) (ls : Array Slot), va_P (dC, dI) vwCl (xc cI cG ad w) H → va_D A (xc cI cG ad w) → va_S A s.heap H locs → lv_has ls 2 [(0, .ref (ad (12 + 5 * g)))] → W p l e (headSpec wsX1_solve ({ frames := 3, cells := 0, slots := 0, locals := 66 } : Room)).room s m (List.toArray [Value.ref (ad (12 + 5 * g))]) below meth c H locs 0 0 (MQ below (va_Qv (fun (u : xW) => u = w0) (xB dC dI cI cZ cG ad A) A) (List.toArray [Value.ref (ad (12 + 5 * g))]) s 0 0 A) (F0 m 55 ls []) := by
    intro w hf H locs ls hP hD hS hl
    unfold xf_G_solve_C55 at hf
    refine lv_aload_n hx hb dX1_solve_55 rfl (lv_at hl 0 rfl) ?_
    refine lv_iconst (v := (1 : Int32)) hx hb dX1_solve_56 (by decide) ?_
    obtain ⟨hg57, hf⟩ := gd_e hf
    obtain ⟨w_57, ew_57, hf⟩ := nm_x hf
    refine va_put (D := (dC, dI)) (ci := 1) (v := .int (1 : Int32)) (ty := .boolean) (C := RX1) (T := TX1) (N := 12) hx hb hts inX1 tyX1 tyX1_ok nmX1 hown hK hP hD hS (12 + 5 * g) (xc_o hg) rfl 11 (by decide) (hts (.fieldLink RX1 43 "BittenBoards$Game" "isSolved" "Z") (by decide +kernel)) (fun _ h9 => h9) rfl (by decide +kernel) (isB_nar hg57) (isB_fit hg57) (Nat.le_of_ble_eq_true rfl) dX1_solve_57 (fun H locs hP hD hS => ?_)
    have hP : va_P (dC, dI) vwCl (xc cI cG ad w_57) H := hP.eqs (by rw [ew_57]; exact xs_o5 hg _ _)
    have hD : va_D A (xc cI cG ad w_57) := hD.eqs (by rw [ew_57]; exact xs_o5 hg _ _)
    exact x_vret hx hb hr hlocks hK hP hD hS (so_1 hf) dX1_solve_60
  have C2 : ∀ (n2 : Nat) (x1 : Int32) (w : xW), xf_G_solve_C2 g n2 x1 w = some w0 → ∀ (H : Heap) (locs : List Loc) (ls : Array Slot), va_P (dC, dI) vwCl (xc cI cG ad w) H → va_D A (xc cI cG ad w) → va_S A s.heap H locs → lv_has ls 2 [(0, .ref (ad (12 + 5 * g))), (1, .int x1)] → W p l e (headSpec wsX1_solve ({ frames := 3, cells := 0, slots := 0, locals := 66 } : Room)).room s m (List.toArray [Value.ref (ad (12 + 5 * g))]) below meth c H locs 0 0 (MQ below (va_Qv (fun (u : xW) => u = w0) (xB dC dI cI cZ cG ad A) A) (List.toArray [Value.ref (ad (12 + 5 * g))]) s 0 0 A) (F0 m 2 ls []) := by
    intro n2
    induction n2 with
    | zero => intro x1 w hf; cases hf
    | succ n2 ih2 =>
      intro x1 w hf H locs ls hP hD hS hl
      rw [xf_G_solve_C2] at hf
      refine lv_iload_n hx hb dX1_solve_2 rfl (lv_at hl 1 rfl) ?_
      refine lv_aload_n hx hb dX1_solve_3 rfl (lv_at hl 0 rfl) ?_
      refine va_get (D := (dC, dI)) (ci := 1) (v := .int (w.2.2.1 2 g)) (C := RX1) (T := TX1) (N := 12) hx hb hts inX1 hown hK hP (12 + 5 * g) (xc_o hg) rfl 8 (by decide) (hts (.fieldLink RX1 40 "BittenBoards$Game" "whole" "I") (by decide +kernel)) (fun _ h9 => h9) rfl dX1_solve_4 ?_
      refine lv_icmp_gt (tgt := 55) hx hb dX1_solve_7 (by decide) (fun h7 => ?_) (fun h7 => ?_)
      · have hf := if_t h7 hf
        exact C55 w hf _ _ _ hP hD hS (lv_sub hl [0] rfl)
      · have hf := if_f h7 hf
        refine lv_iload_n hx hb dX1_solve_10 rfl (lv_at hl 1 rfl) ?_
        refine lv_aload_n hx hb dX1_solve_11 rfl (lv_at hl 0 rfl) ?_
        refine va_get (D := (dC, dI)) (ci := 1) (v := .ref (ad (16 + 5 * g))) (C := RX1) (T := TX1) (N := 12) hx hb hts inX1 hown hK hP (12 + 5 * g) (xc_o hg) rfl 5 (by decide) (hts (.fieldLink RX1 22 "BittenBoards$Game" "facts" "[I") (by decide +kernel)) (fun _ h9 => h9) rfl dX1_solve_12 ?_
        refine va_alen (v := (32768 : Int32)) hx hb hK hP (16 + 5 * g) 0 (xc_r3 hg) rfl (by rfl) dX1_solve_15 ?_
        refine lv_icmp_ge (tgt := 55) hx hb dX1_solve_16 (by decide) (fun h16 => ?_) (fun h16 => ?_)
        · have hf := if_t h16 hf
          exact C55 w hf _ _ _ hP hD hS (lv_sub hl [0] rfl)
        · have hf := if_f h16 hf
          refine lv_iload_n hx hb dX1_solve_19 rfl (lv_at hl 1 rfl) ?_
          refine lv_aload_n hx hb dX1_solve_20 rfl (lv_at hl 0 rfl) ?_
          refine va_get (D := (dC, dI)) (ci := 1) (v := .int (w.2.2.1 2 g)) (C := RX1) (T := TX1) (N := 12) hx hb hts inX1 hown hK hP (12 + 5 * g) (xc_o hg) rfl 8 (by decide) (hts (.fieldLink RX1 40 "BittenBoards$Game" "whole" "I") (by decide +kernel)) (fun _ h9 => h9) rfl dX1_solve_21 ?_
          refine lv_iconst (v := (-1 : Int32)) hx hb dX1_solve_24 (by decide) ?_
          refine lv_ixor hx hb dX1_solve_25 ?_
          refine lv_iand hx hb dX1_solve_26 ?_
          refine lv_if_ne (tgt := 49) hx hb dX1_solve_27 (by decide) (fun h27 => ?_) (fun h27 => ?_)
          · have hf := if_f h27 hf
            obtain ⟨x1_49, ex1_49, hf⟩ := nm_x hf
            refine lv_iinc (v := x1_49) (lv' := [(1, .int x1_49), (0, .ref (ad (12 + 5 * g)))]) hx hb dX1_solve_49 hl (k := 1) rfl (by rw [ex1_49]; rfl) (by decide) rfl (fun ls hl => ?_)
            refine lv_goto (tgt := 2) hx hb dX1_solve_52 (by decide) ?_
            exact ih2 x1_49 w hf _ _ _ hP hD hS (lv_sub hl [1, 0] rfl)
          · have hf := if_t h27 hf
            refine lv_aload_n hx hb dX1_solve_30 rfl (lv_at hl 0 rfl) ?_
            refine lv_iload_n hx hb dX1_solve_31 rfl (lv_at hl 1 rfl) ?_
            obtain ⟨r_32, hc32, hf⟩ := bn_e hf
            refine x_calli hD hS hAA (va_runV (As := [.int x1]) (rest := []) ⟨hx, hb, hml, hown, hts⟩ (k_xf_G_canBeLeft l dC dI cI cZ cG ad H.size w g hg x1 r_32 w hc32 rfl) (cwV 1 hts gX1_solve_X1_canBeLeft rfl rfl rfl (by decide +kernel) ⟨Nat.le_of_ble_eq_true rfl, Nat.le_of_ble_eq_true rfl⟩) ⟨x_blind, va_recv hK hP (ci := 1) (q0 := (12 + 5 * g)) rfl (xc_o hg), fun U hU hW => x_pre hU hW hK hP hD hN⟩ rfl rfl hl.1 rfl (lv_room (Nat.le_of_ble_eq_true rfl)) dX1_solve_32 ⟨Nat.zero_le _, Nat.zero_le _⟩) (fun H locs hP hD hS => ?_)
            refine lv_if_eq (tgt := 49) hx hb dX1_solve_35 (by decide) (fun h35 => ?_) (fun h35 => ?_)
            · have hf := if_t h35 hf
              obtain ⟨x1_49, ex1_49, hf⟩ := nm_x hf
              refine lv_iinc (v := x1_49) (lv' := [(1, .int x1_49), (0, .ref (ad (12 + 5 * g)))]) hx hb dX1_solve_49 hl (k := 1) rfl (by rw [ex1_49]; rfl) (by decide) rfl (fun ls hl => ?_)
              refine lv_goto (tgt := 2) hx hb dX1_solve_52 (by decide) ?_
              exact ih2 x1_49 w hf _ _ _ hP hD hS (lv_sub hl [1, 0] rfl)
            · have hf := if_f h35 hf
              refine lv_aload_n hx hb dX1_solve_38 rfl (lv_at hl 0 rfl) ?_
              refine va_get (D := (dC, dI)) (ci := 1) (v := .ref (ad (16 + 5 * g))) (C := RX1) (T := TX1) (N := 12) hx hb hts inX1 hown hK hP (12 + 5 * g) (xc_o hg) rfl 5 (by decide) (hts (.fieldLink RX1 22 "BittenBoards$Game" "facts" "[I") (by decide +kernel)) (fun _ h9 => h9) rfl dX1_solve_39 ?_
              refine lv_iload_n hx hb dX1_solve_42 rfl (lv_at hl 1 rfl) ?_
              refine lv_aload_n hx hb dX1_solve_43 rfl (lv_at hl 0 rfl) ?_
              refine lv_iload_n hx hb dX1_solve_44 rfl (lv_at hl 1 rfl) ?_
              obtain ⟨r_45, w_45, hc45, hf⟩ := bn2_e hf
              refine x_calli hD hS hAA (va_runV (As := [.int x1]) (rest := [.int x1, .ref (ad (16 + 5 * g))]) ⟨hx, hb, hml, hown, hts⟩ (k_xf_G_factsOfSet l dC dI cI cZ cG ad H.size w g hg x1 r_45 w_45 hc45) (cwV 1 hts gX1_solve_X1_factsOfSet rfl rfl rfl (by decide +kernel) ⟨Nat.le_of_ble_eq_true rfl, Nat.le_of_ble_eq_true rfl⟩) ⟨x_blind, va_recv hK hP (ci := 1) (q0 := (12 + 5 * g)) rfl (xc_o hg), fun U hU hW => x_pre hU hW hK hP hD hN⟩ rfl rfl hl.1 rfl (lv_room (Nat.le_of_ble_eq_true rfl)) dX1_solve_45 ⟨Nat.zero_le _, Nat.zero_le _⟩) (fun H locs hP hD hS => ?_)
              obtain ⟨hg48, hf⟩ := gi_e hf
              obtain ⟨w_48, ew_48, hf⟩ := nm_x hf
              refine va_iast (f := (w_45.2.2.2.1 3 g)) hx hb hK hP hD hS (16 + 5 * g) 0 (xc_r3 hg) rfl hg48 dX1_solve_48 (fun H locs hP hD hS => ?_)
              have hP : va_P (dC, dI) vwCl (xc cI cG ad w_48) H := hP.eqs (by rw [ew_48]; exact xs_r3 hg _ _)
              have hD : va_D A (xc cI cG ad w_48) := hD.eqs (by rw [ew_48]; exact xs_r3 hg _ _)
              obtain ⟨x1_49, ex1_49, hf⟩ := nm_x hf
              refine lv_iinc (v := x1_49) (lv' := [(1, .int x1_49), (0, .ref (ad (12 + 5 * g)))]) hx hb dX1_solve_49 hl (k := 1) rfl (by rw [ex1_49]; rfl) (by decide) rfl (fun ls hl => ?_)
              refine lv_goto (tgt := 2) hx hb dX1_solve_52 (by decide) ?_
              exact ih2 x1_49 w_48 hf _ _ _ hP hD hS (lv_sub hl [1, 0] rfl)
  have hl := lv_entry ([.ref (ad (12 + 5 * g))]) (n := 2) (Nat.le_of_ble_eq_true rfl)
  rw [lg_entry_eq]
  generalize (lg_sl ([.ref (ad (12 + 5 * g))]) ++ List.replicate (2 - (lg_sl ([.ref (ad (12 + 5 * g))])).length) Slot.unset).toArray = ls at hl ⊢
  have hl : lv_has ls 2 [(0, .ref (ad (12 + 5 * g)))] := hl
  unfold xf_G_solve at hf
  refine lv_iconst (v := (0 : Int32)) hx hb dX1_solve_0 (by decide) ?_
  refine lv_istore_n (lv' := [(1, .int (0 : Int32)), (0, .ref (ad (12 + 5 * g)))]) hx hb dX1_solve_1 rfl hl (by decide) rfl (fun ls hl => ?_)
  exact C2 fu (0 : Int32) w hf _ _ _ hP hD hS (lv_sub hl [1, 0] rfl)
set_option maxHeartbeats 4000000 in
set_option maxRecDepth 100000 in
theorem k_xf_G_factsOf (l : Launch) (dC : Nat → ClassId) (dI : Nat → Nat → Nat) (cI cZ cG : ClassId) (ad : Nat → Nat) (sz : Nat) (w : xW) (g : Nat) (hg : g < 6) (a1 : Int32) (r0 : Int32) (w0 : xW) (hf : xf_G_factsOf g a1 w = some (r0, w0)) : Met l yX1_factsOf wsX1_factsOf ({ frames := 4, cells := 0, slots := 0, locals := 89 } : Room) (va_Pc [.ref (ad (12 + 5 * g)), .int a1] (xPre dC dI cI cZ cG ad sz w)) (va_Qi (fun (r : Int32) (u : xW) => r = r0 ∧ u = w0) (xB dC dI cI cZ cG ad (xA ad sz)) (xA ad sz)) 0 0 (xA ad sz) := by
  refine Met.ofW (cc := cX1_factsOf) (maxL := 2) (ret := (some .int)) (by decide) rfl ?_
  intro p e s m args below meth c s₁ B hml hv
  obtain ⟨rfl, hsz, hP, hK, hD0, hN⟩ := hv
  have hx := B.exec
  have hb := B.bytes
  have hr := B.returns
  have hts := atoms_spec (ws := wsX1_factsOf) B.pre
  have hown : s.vm.findClass RX1 = some m.cls := findClass_of_methodNamed B.named
  have hlocks := B.notSynchronized
  have inX1 : ∀ w ∈ u_ws RX1 TX1 12, w ∈ wsX1_factsOf := by decide +kernel
  have inX0 : ∀ w ∈ u_ws RX0 TX0 7, w ∈ wsX1_factsOf := by decide +kernel
  subst hsz
  have hD : va_D (xA ad s.heap.size) (xc cI cG ad w) := xD_self hD0
  have hAA : ∀ z q, s.heap.size ≤ z → xA ad z q → xA ad s.heap.size q := xA_mono
  generalize xA ad s.heap.size = A at hD hAA ⊢
  have hS : va_S A s.heap s.heap [] := va_S.rf
  have C37 : ∀ (x1 : Int32) (w : xW), xf_G_factsOf_C37 g x1 w = some (r0, w0) → ∀ (H : Heap) (locs : List Loc) (ls : Array Slot), va_P (dC, dI) vwCl (xc cI cG ad w) H → va_D A (xc cI cG ad w) → va_S A s.heap H locs → lv_has ls 2 [(0, .ref (ad (12 + 5 * g))), (1, .int x1)] → W p l e (headSpec wsX1_factsOf ({ frames := 4, cells := 0, slots := 0, locals := 89 } : Room)).room s m (List.toArray [Value.ref (ad (12 + 5 * g)), Value.int a1]) below meth c H locs 0 0 (MQ below (va_Qi (fun (r : Int32) (u : xW) => r = r0 ∧ u = w0) (xB dC dI cI cZ cG ad A) A) (List.toArray [Value.ref (ad (12 + 5 * g)), Value.int a1]) s 0 0 A) (F0 m 37 ls []) := by
    intro x1 w hf H locs ls hP hD hS hl
    unfold xf_G_factsOf_C37 at hf
    refine lv_aload_n hx hb dX1_factsOf_37 rfl (lv_at hl 0 rfl) ?_
    refine va_get (D := (dC, dI)) (ci := 1) (v := .ref (ad (16 + 5 * g))) (C := RX1) (T := TX1) (N := 12) hx hb hts inX1 hown hK hP (12 + 5 * g) (xc_o hg) rfl 5 (by decide) (hts (.fieldLink RX1 22 "BittenBoards$Game" "facts" "[I") (by decide +kernel)) (fun _ h9 => h9) rfl dX1_factsOf_38 ?_
    refine lv_iload_n hx hb dX1_factsOf_41 rfl (lv_at hl 1 rfl) ?_
    obtain ⟨r_42, hc42, hf⟩ := bn_e hf
    refine x_calli hD hS hAA (va_runSN (host := "BittenBoards") (As := [.ref (ad (16 + 5 * g)), .int x1]) (rest := []) ⟨hx, hb, hml, hown, hts⟩ (k_xf_C_at l dC dI cI cZ cG ad H.size w 32768 (w.2.2.2.1 3 g) (ad (16 + 5 * g)) (16 + 5 * g) (xc_r3 hg) x1 r_42 w hc42 rfl) ⟨va_cnB (host := "BittenBoards") 2 hts gX1_factsOf_X3_at_n60 rfl rfl rfl (hN (.methodLinkNest RX1 60 yX3_at "BittenBoards") (by decide +kernel)) (hts (.initialized RX3) (by decide +kernel)) (by decide +kernel) ⟨Nat.le_of_ble_eq_true rfl, Nat.le_of_ble_eq_true rfl⟩, hts (.static yX3_at) (by decide +kernel), trivial⟩ ⟨x_blind, fun U hU hW => x_pre hU hW hK hP hD hN⟩ rfl rfl hl.1 rfl (lv_room (Nat.le_of_ble_eq_true rfl)) dX1_factsOf_42 ⟨Nat.zero_le _, Nat.zero_le _⟩) (fun H locs hP hD hS => ?_)
    exact x_iret hx hb hr hlocks hK hP hD hS (so_2 hf) dX1_factsOf_45
  have hl := lv_entry ([.ref (ad (12 + 5 * g)), .int a1]) (n := 2) (Nat.le_of_ble_eq_true rfl)
  rw [lg_entry_eq]
  generalize (lg_sl ([.ref (ad (12 + 5 * g)), .int a1]) ++ List.replicate (2 - (lg_sl ([.ref (ad (12 + 5 * g)), .int a1])).length) Slot.unset).toArray = ls at hl ⊢
  have hl : lv_has ls 2 [(0, .ref (ad (12 + 5 * g))), (1, .int a1)] := hl
  unfold xf_G_factsOf at hf
  refine lv_aload_n hx hb dX1_factsOf_0 rfl (lv_at hl 0 rfl) ?_
  refine va_get (D := (dC, dI)) (ci := 1) (v := .int (w.2.2.1 0 g)) (C := RX1) (T := TX1) (N := 12) hx hb hts inX1 hown hK hP (12 + 5 * g) (xc_o hg) rfl 6 (by decide) (hts (.fieldLink RX1 33 "BittenBoards$Game" "kind" "I") (by decide +kernel)) (fun _ h9 => h9) rfl dX1_factsOf_1 ?_
  refine lv_if_ne (tgt := 26) hx hb dX1_factsOf_4 (by decide) (fun h4 => ?_) (fun h4 => ?_)
  · have hf := if_f h4 hf
    refine lv_aload_n hx hb dX1_factsOf_26 rfl (lv_at hl 0 rfl) ?_
    refine va_get (D := (dC, dI)) (ci := 1) (v := .int (w.2.2.1 5 g)) (C := RX1) (T := TX1) (N := 12) hx hb hts inX1 hown hK hP (12 + 5 * g) (xc_o hg) rfl 11 (by decide) (hts (.fieldLink RX1 43 "BittenBoards$Game" "isSolved" "Z") (by decide +kernel)) (fun _ h9 => h9) rfl dX1_factsOf_27 ?_
    refine lv_if_ne (tgt := 37) hx hb dX1_factsOf_30 (by decide) (fun h30 => ?_) (fun h30 => ?_)
    · have hf := if_f h30 hf
      exact C37 a1 w hf _ _ _ hP hD hS (lv_sub hl [0, 1] rfl)
    · have hf := if_t h30 hf
      refine lv_aload_n hx hb dX1_factsOf_33 rfl (lv_at hl 0 rfl) ?_
      obtain ⟨w_34, hc34, hf⟩ := bn_e hf
      refine x_callv hD hS hAA (va_runV (As := []) (rest := []) ⟨hx, hb, hml, hown, hts⟩ (k_xf_G_solve l dC dI cI cZ cG ad s.heap.size w g hg w_34 hc34) (cwV 0 hts gX1_factsOf_X1_solve rfl rfl rfl (by decide +kernel) ⟨Nat.le_of_ble_eq_true rfl, Nat.le_of_ble_eq_true rfl⟩) ⟨x_blind, va_recv hK hP (ci := 1) (q0 := (12 + 5 * g)) rfl (xc_o hg), fun U hU hW => x_pre hU hW hK hP hD hN⟩ rfl rfl hl.1 rfl (lv_room (Nat.le_of_ble_eq_true rfl)) dX1_factsOf_34 ⟨Nat.zero_le _, Nat.zero_le _⟩) (fun H locs hP hD hS => ?_)
      exact C37 a1 w_34 hf _ _ _ hP hD hS (lv_sub hl [0, 1] rfl)
  · have hf := if_t h4 hf
    refine lv_aload_n hx hb dX1_factsOf_7 rfl (lv_at hl 0 rfl) ?_
    refine va_get (D := (dC, dI)) (ci := 1) (v := .ref (ad 3)) (C := RX1) (T := TX1) (N := 12) hx hb hts inX1 hown hK hP (12 + 5 * g) (xc_o hg) rfl 0 (by decide) (hts (.fieldLink RX1 25 "BittenBoards$Game" "boards" "LBittenBoards$Boards;") (by decide +kernel)) (fun _ h9 => h9) rfl dX1_factsOf_8 ?_
    obtain ⟨w_11, hc11, hf⟩ := bn_e hf
    refine x_callv hD hS hAA (va_runV (As := []) (rest := []) ⟨hx, hb, hml, hown, hts⟩ (k_xf_B_solve l dC dI cI cZ cG ad s.heap.size w  w_11 hc11) (cwV 0 hts gX1_factsOf_X0_solve rfl rfl rfl (by decide +kernel) ⟨Nat.le_of_ble_eq_true rfl, Nat.le_of_ble_eq_true rfl⟩) ⟨x_blind, va_recv hK hP (ci := 0) (q0 := 3) rfl rfl, fun U hU hW => x_pre hU hW hK hP hD hN⟩ rfl rfl hl.1 rfl (lv_room (Nat.le_of_ble_eq_true rfl)) dX1_factsOf_11 ⟨Nat.zero_le _, Nat.zero_le _⟩) (fun H locs hP hD hS => ?_)
    refine lv_aload_n hx hb dX1_factsOf_14 rfl (lv_at hl 0 rfl) ?_
    refine va_get (D := (dC, dI)) (ci := 1) (v := .ref (ad 3)) (C := RX1) (T := TX1) (N := 12) hx hb hts inX1 hown hK hP (12 + 5 * g) (xc_o hg) rfl 0 (by decide) (hts (.fieldLink RX1 25 "BittenBoards$Game" "boards" "LBittenBoards$Boards;") (by decide +kernel)) (fun _ h9 => h9) rfl dX1_factsOf_15 ?_
    refine va_getN (host := "BittenBoards") (D := (dC, dI)) (ci := 0) (v := .ref (ad 6)) (C := RX0) (T := TX0) (N := 7) hx hb hts inX0 hown hK hP 3 rfl rfl 3 (by decide) (va_Nw.use rfl (hN (.fieldLinkNest RX1 128 "BittenBoards$Boards" "facts" "[I" "BittenBoards") (by decide +kernel))) (fun _ h9 => h9) rfl dX1_factsOf_18 ?_
    refine lv_iload_n hx hb dX1_factsOf_21 rfl (lv_at hl 1 rfl) ?_
    obtain ⟨r_22, hc22, hf⟩ := bn_e hf
    refine x_calli hD hS hAA (va_runSN (host := "BittenBoards") (As := [.ref (ad 6), .int a1]) (rest := []) ⟨hx, hb, hml, hown, hts⟩ (k_xf_C_at l dC dI cI cZ cG ad H.size w_11 3432 (w_11.2.1 6) (ad 6) 6 rfl a1 r_22 w_11 hc22 rfl) ⟨va_cnB (host := "BittenBoards") 2 hts gX1_factsOf_X3_at_n60 rfl rfl rfl (hN (.methodLinkNest RX1 60 yX3_at "BittenBoards") (by decide +kernel)) (hts (.initialized RX3) (by decide +kernel)) (by decide +kernel) ⟨Nat.le_of_ble_eq_true rfl, Nat.le_of_ble_eq_true rfl⟩, hts (.static yX3_at) (by decide +kernel), trivial⟩ ⟨x_blind, fun U hU hW => x_pre hU hW hK hP hD hN⟩ rfl rfl hl.1 rfl (lv_room (Nat.le_of_ble_eq_true rfl)) dX1_factsOf_22 ⟨Nat.zero_le _, Nat.zero_le _⟩) (fun H locs hP hD hS => ?_)
    exact x_iret hx hb hr hlocks hK hP hD hS (so_2 hf) dX1_factsOf_25
set_option maxHeartbeats 4000000 in
set_option maxRecDepth 100000 in
theorem k_xf_G_isWinning (l : Launch) (dC : Nat → ClassId) (dI : Nat → Nat → Nat) (cI cZ cG : ClassId) (ad : Nat → Nat) (sz : Nat) (w : xW) (g : Nat) (hg : g < 6) (a1 : Int32) (r0 : Int32) (w0 : xW) (hf : xf_G_isWinning g a1 w = some (r0, w0)) : Met l yX1_isWinning wsX1_isWinning ({ frames := 5, cells := 0, slots := 0, locals := 115 } : Room) (va_Pc [.ref (ad (12 + 5 * g)), .int a1] (xPre dC dI cI cZ cG ad sz w)) (va_Qi (fun (r : Int32) (u : xW) => r = r0 ∧ u = w0) (xB dC dI cI cZ cG ad (xA ad sz)) (xA ad sz)) 0 0 (xA ad sz) := by
  refine Met.ofW (cc := cX1_isWinning) (maxL := 2) (ret := (some .boolean)) (by decide) rfl ?_
  intro p e s m args below meth c s₁ B hml hv
  obtain ⟨rfl, hsz, hP, hK, hD0, hN⟩ := hv
  have hx := B.exec
  have hb := B.bytes
  have hr := B.returns
  have hts := atoms_spec (ws := wsX1_isWinning) B.pre
  have hown : s.vm.findClass RX1 = some m.cls := findClass_of_methodNamed B.named
  have hlocks := B.notSynchronized
  have inX1 : ∀ w ∈ u_ws RX1 TX1 12, w ∈ wsX1_isWinning := by decide +kernel
  subst hsz
  have hD : va_D (xA ad s.heap.size) (xc cI cG ad w) := xD_self hD0
  have hAA : ∀ z q, s.heap.size ≤ z → xA ad z q → xA ad s.heap.size q := xA_mono
  generalize xA ad s.heap.size = A at hD hAA ⊢
  have hS : va_S A s.heap s.heap [] := va_S.rf
  have hl := lv_entry ([.ref (ad (12 + 5 * g)), .int a1]) (n := 2) (Nat.le_of_ble_eq_true rfl)
  rw [lg_entry_eq]
  generalize (lg_sl ([.ref (ad (12 + 5 * g)), .int a1]) ++ List.replicate (2 - (lg_sl ([.ref (ad (12 + 5 * g)), .int a1])).length) Slot.unset).toArray = ls at hl ⊢
  have hl : lv_has ls 2 [(0, .ref (ad (12 + 5 * g))), (1, .int a1)] := hl
  unfold xf_G_isWinning at hf
  refine lv_aload_n hx hb dX1_isWinning_0 rfl (lv_at hl 0 rfl) ?_
  refine lv_aload_n hx hb dX1_isWinning_1 rfl (lv_at hl 0 rfl) ?_
  refine lv_iload_n hx hb dX1_isWinning_2 rfl (lv_at hl 1 rfl) ?_
  obtain ⟨r_3, w_3, hc3, hf⟩ := bn2_e hf
  refine x_calli hD hS hAA (va_runV (As := [.int a1]) (rest := [.ref (ad (12 + 5 * g))]) ⟨hx, hb, hml, hown, hts⟩ (k_xf_G_stateAfter l dC dI cI cZ cG ad s.heap.size w g hg a1 r_3 w_3 hc3) (cwV 1 hts gX1_isWinning_X1_stateAfter rfl rfl rfl (by decide +kernel) ⟨Nat.le_of_ble_eq_true rfl, Nat.le_of_ble_eq_true rfl⟩) ⟨x_blind, va_recv hK hP (ci := 1) (q0 := (12 + 5 * g)) rfl (xc_o hg), fun U hU hW => x_pre hU hW hK hP hD hN⟩ rfl rfl hl.1 rfl (lv_room (Nat.le_of_ble_eq_true rfl)) dX1_isWinning_3 ⟨Nat.zero_le _, Nat.zero_le _⟩) (fun H locs hP hD hS => ?_)
  obtain ⟨r_6, w_6, hc6, hf⟩ := bn2_e hf
  refine x_calli hD hS hAA (va_runV (As := [.int r_3]) (rest := []) ⟨hx, hb, hml, hown, hts⟩ (k_xf_G_factsOf l dC dI cI cZ cG ad H.size w_3 g hg r_3 r_6 w_6 hc6) (cwV 1 hts gX1_isWinning_X1_factsOf rfl rfl rfl (by decide +kernel) ⟨Nat.le_of_ble_eq_true rfl, Nat.le_of_ble_eq_true rfl⟩) ⟨x_blind, va_recv hK hP (ci := 1) (q0 := (12 + 5 * g)) rfl (xc_o hg), fun U hU hW => x_pre hU hW hK hP hD hN⟩ rfl rfl hl.1 rfl (lv_room (Nat.le_of_ble_eq_true rfl)) dX1_isWinning_6 ⟨Nat.zero_le _, Nat.zero_le _⟩) (fun H locs hP hD hS => ?_)
  refine lv_aload_n hx hb dX1_isWinning_9 rfl (lv_at hl 0 rfl) ?_
  refine va_get (D := (dC, dI)) (ci := 1) (v := .int (w_6.2.2.1 1 g)) (C := RX1) (T := TX1) (N := 12) hx hb hts inX1 hown hK hP (12 + 5 * g) (xc_o hg) rfl 7 (by decide) (hts (.fieldLink RX1 37 "BittenBoards$Game" "rule" "I") (by decide +kernel)) (fun _ h9 => h9) rfl dX1_isWinning_10 ?_
  obtain ⟨r_13, hc13, hf⟩ := bn_e hf
  refine x_calli hD hS hAA (va_runSN (host := "BittenBoards") (As := [.int r_6, .int (w_6.2.2.1 1 g)]) (rest := []) ⟨hx, hb, hml, hown, hts⟩ (k_xf_C_lengthIn l dC dI cI cZ cG ad H.size w_6 r_6 (w_6.2.2.1 1 g) r_13 w_6 hc13 rfl) ⟨va_cnB (host := "BittenBoards") 2 hts gX1_isWinning_X3_lengthIn_n116 rfl rfl rfl (hN (.methodLinkNest RX1 116 yX3_lengthIn "BittenBoards") (by decide +kernel)) (hts (.initialized RX3) (by decide +kernel)) (by decide +kernel) ⟨Nat.le_of_ble_eq_true rfl, Nat.le_of_ble_eq_true rfl⟩, hts (.static yX3_lengthIn) (by decide +kernel), trivial⟩ ⟨x_blind, fun U hU hW => x_pre hU hW hK hP hD hN⟩ rfl rfl hl.1 rfl (lv_room (Nat.le_of_ble_eq_true rfl)) dX1_isWinning_13 ⟨Nat.zero_le _, Nat.zero_le _⟩) (fun H locs hP hD hS => ?_)
  refine lv_aload_n hx hb dX1_isWinning_16 rfl (lv_at hl 0 rfl) ?_
  refine va_get (D := (dC, dI)) (ci := 1) (v := .int (w_6.2.2.1 1 g)) (C := RX1) (T := TX1) (N := 12) hx hb hts inX1 hown hK hP (12 + 5 * g) (xc_o hg) rfl 7 (by decide) (hts (.fieldLink RX1 37 "BittenBoards$Game" "rule" "I") (by decide +kernel)) (fun _ h9 => h9) rfl dX1_isWinning_17 ?_
  obtain ⟨r_20, hc20, hf⟩ := bn_e hf
  refine x_calli hD hS hAA (va_runSN (host := "BittenBoards") (As := [.int r_13, .int (w_6.2.2.1 1 g)]) (rest := []) ⟨hx, hb, hml, hown, hts⟩ (k_xf_C_isWon l dC dI cI cZ cG ad H.size w_6 r_13 (w_6.2.2.1 1 g) r_20 w_6 hc20 rfl) ⟨va_cnB (host := "BittenBoards") 2 hts gX1_isWinning_X3_isWon_n119 rfl rfl rfl (hN (.methodLinkNest RX1 119 yX3_isWon "BittenBoards") (by decide +kernel)) (hts (.initialized RX3) (by decide +kernel)) (by decide +kernel) ⟨Nat.le_of_ble_eq_true rfl, Nat.le_of_ble_eq_true rfl⟩, hts (.static yX3_isWon) (by decide +kernel), trivial⟩ ⟨x_blind, fun U hU hW => x_pre hU hW hK hP hD hN⟩ rfl rfl hl.1 rfl (lv_room (Nat.le_of_ble_eq_true rfl)) dX1_isWinning_20 ⟨Nat.zero_le _, Nat.zero_le _⟩) (fun H locs hP hD hS => ?_)
  refine lv_if_ne (tgt := 30) hx hb dX1_isWinning_23 (by decide) (fun h23 => ?_) (fun h23 => ?_)
  · have hf := if_f h23 hf
    refine lv_iconst (v := (0 : Int32)) hx hb dX1_isWinning_30 (by decide) ?_
    obtain ⟨hg31, hf⟩ := gd_e hf
    exact x_zret hx hb hr hlocks hg31 hK hP hD hS (so_2 hf) dX1_isWinning_31
  · have hf := if_t h23 hf
    refine lv_iconst (v := (1 : Int32)) hx hb dX1_isWinning_26 (by decide) ?_
    refine lv_goto (tgt := 31) hx hb dX1_isWinning_27 (by decide) ?_
    obtain ⟨hg31, hf⟩ := gd_e hf
    exact x_zret hx hb hr hlocks hg31 hK hP hD hS (so_2 hf) dX1_isWinning_31
set_option maxHeartbeats 4000000 in
set_option maxRecDepth 100000 in
theorem k_xf_G_placeOfBite (l : Launch) (dC : Nat → ClassId) (dI : Nat → Nat → Nat) (cI cZ cG : ClassId) (ad : Nat → Nat) (sz : Nat) (w : xW) (g : Nat) (hg : g < 6) (a1 : Int32) (r0 : Int32) (w0 : xW) (hf : xf_G_placeOfBite g a1 w = some (r0, w0)) : Met l yX1_placeOfBite wsX1_placeOfBite ({ frames := 3, cells := 0, slots := 0, locals := 69 } : Room) (va_Pc [.ref (ad (12 + 5 * g)), .int a1] (xPre dC dI cI cZ cG ad sz w)) (va_Qi (fun (r : Int32) (u : xW) => r = r0 ∧ u = w0) (xB dC dI cI cZ cG ad (xA ad sz)) (xA ad sz)) 0 0 (xA ad sz) := by
  refine Met.ofW (cc := cX1_placeOfBite) (maxL := 3) (ret := (some .int)) (by decide) rfl ?_
  intro p e s m args below meth c s₁ B hml hv
  obtain ⟨rfl, hsz, hP, hK, hD0, hN⟩ := hv
  have hx := B.exec
  have hb := B.bytes
  have hr := B.returns
  have hts := atoms_spec (ws := wsX1_placeOfBite) B.pre
  have hown : s.vm.findClass RX1 = some m.cls := findClass_of_methodNamed B.named
  have hlocks := B.notSynchronized
  have inX1 : ∀ w ∈ u_ws RX1 TX1 12, w ∈ wsX1_placeOfBite := by decide +kernel
  subst hsz
  have hD : va_D (xA ad s.heap.size) (xc cI cG ad w) := xD_self hD0
  have hAA : ∀ z q, s.heap.size ≤ z → xA ad z q → xA ad s.heap.size q := xA_mono
  generalize xA ad s.heap.size = A at hD hAA ⊢
  have hS : va_S A s.heap s.heap [] := va_S.rf
  have hl := lv_entry ([.ref (ad (12 + 5 * g)), .int a1]) (n := 3) (Nat.le_of_ble_eq_true rfl)
  rw [lg_entry_eq]
  generalize (lg_sl ([.ref (ad (12 + 5 * g)), .int a1]) ++ List.replicate (3 - (lg_sl ([.ref (ad (12 + 5 * g)), .int a1])).length) Slot.unset).toArray = ls at hl ⊢
  have hl : lv_has ls 3 [(0, .ref (ad (12 + 5 * g))), (1, .int a1)] := hl
  unfold xf_G_placeOfBite at hf
  refine lv_aload_n hx hb dX1_placeOfBite_0 rfl (lv_at hl 0 rfl) ?_
  refine va_get (D := (dC, dI)) (ci := 1) (v := .int (w.2.2.1 0 g)) (C := RX1) (T := TX1) (N := 12) hx hb hts inX1 hown hK hP (12 + 5 * g) (xc_o hg) rfl 6 (by decide) (hts (.fieldLink RX1 33 "BittenBoards$Game" "kind" "I") (by decide +kernel)) (fun _ h9 => h9) rfl dX1_placeOfBite_1 ?_
  refine lv_if_ne (tgt := 20) hx hb dX1_placeOfBite_4 (by decide) (fun h4 => ?_) (fun h4 => ?_)
  · have hf := if_f h4 hf
    refine lv_aload_n hx hb dX1_placeOfBite_20 rfl (lv_at hl 0 rfl) ?_
    refine lv_iload_n hx hb dX1_placeOfBite_21 rfl (lv_at hl 1 rfl) ?_
    obtain ⟨r_22, hc22, hf⟩ := bn_e hf
    refine x_calli hD hS hAA (va_runV (As := [.int a1]) (rest := []) ⟨hx, hb, hml, hown, hts⟩ (k_xf_G_partOfBite l dC dI cI cZ cG ad s.heap.size w g hg a1 r_22 w hc22 rfl) (cwV 1 hts gX1_placeOfBite_X1_partOfBite rfl rfl rfl (by decide +kernel) ⟨Nat.le_of_ble_eq_true rfl, Nat.le_of_ble_eq_true rfl⟩) ⟨x_blind, va_recv hK hP (ci := 1) (q0 := (12 + 5 * g)) rfl (xc_o hg), fun U hU hW => x_pre hU hW hK hP hD hN⟩ rfl rfl hl.1 rfl (lv_room (Nat.le_of_ble_eq_true rfl)) dX1_placeOfBite_22 ⟨Nat.zero_le _, Nat.zero_le _⟩) (fun H locs hP hD hS => ?_)
    refine lv_istore_n (lv' := [(2, .int r_22), (0, .ref (ad (12 + 5 * g))), (1, .int a1)]) hx hb dX1_placeOfBite_25 rfl hl (by decide) rfl (fun ls hl => ?_)
    refine lv_aload_n hx hb dX1_placeOfBite_26 rfl (lv_at hl 1 rfl) ?_
    refine va_get (D := (dC, dI)) (ci := 1) (v := .int (w.2.2.1 0 g)) (C := RX1) (T := TX1) (N := 12) hx hb hts inX1 hown hK hP (12 + 5 * g) (xc_o hg) rfl 6 (by decide) (hts (.fieldLink RX1 33 "BittenBoards$Game" "kind" "I") (by decide +kernel)) (fun _ h9 => h9) rfl dX1_placeOfBite_27 ?_
    refine lv_iconst (v := (2 : Int32)) hx hb dX1_placeOfBite_30 (by decide) ?_
    refine lv_icmp_ne (tgt := 46) hx hb dX1_placeOfBite_31 (by decide) (fun h31 => ?_) (fun h31 => ?_)
    · have hf := if_f h31 hf
      refine lv_iload_n hx hb dX1_placeOfBite_46 rfl (lv_at hl 0 rfl) ?_
      exact x_iret hx hb hr hlocks hK hP hD hS (so_2 hf) dX1_placeOfBite_47
    · have hf := if_t h31 hf
      refine lv_iload_n hx hb dX1_placeOfBite_34 rfl (lv_at hl 0 rfl) ?_
      refine lv_bipush (v := (6 : Int32)) hx hb dX1_placeOfBite_35 (by decide) ?_
      refine lv_icmp_lt (tgt := 46) hx hb dX1_placeOfBite_37 (by decide) (fun h37 => ?_) (fun h37 => ?_)
      · have hf := if_t h37 hf
        refine lv_iload_n hx hb dX1_placeOfBite_46 rfl (lv_at hl 0 rfl) ?_
        exact x_iret hx hb hr hlocks hK hP hD hS (so_2 hf) dX1_placeOfBite_47
      · have hf := if_f h37 hf
        refine lv_iload_n hx hb dX1_placeOfBite_40 rfl (lv_at hl 0 rfl) ?_
        refine lv_iconst (v := (4 : Int32)) hx hb dX1_placeOfBite_41 (by decide) ?_
        refine lv_iadd hx hb dX1_placeOfBite_42 ?_
        refine lv_goto (tgt := 47) hx hb dX1_placeOfBite_43 (by decide) ?_
        exact x_iret hx hb hr hlocks hK hP hD hS (so_2 hf) dX1_placeOfBite_47
  · have hf := if_t h4 hf
    refine lv_aload_n hx hb dX1_placeOfBite_7 rfl (lv_at hl 0 rfl) ?_
    refine va_get (D := (dC, dI)) (ci := 1) (v := .ref (ad 3)) (C := RX1) (T := TX1) (N := 12) hx hb hts inX1 hown hK hP (12 + 5 * g) (xc_o hg) rfl 0 (by decide) (hts (.fieldLink RX1 25 "BittenBoards$Game" "boards" "LBittenBoards$Boards;") (by decide +kernel)) (fun _ h9 => h9) rfl dX1_placeOfBite_8 ?_
    refine lv_aload_n hx hb dX1_placeOfBite_11 rfl (lv_at hl 0 rfl) ?_
    refine va_get (D := (dC, dI)) (ci := 1) (v := .int (w.2.2.1 3 g)) (C := RX1) (T := TX1) (N := 12) hx hb hts inX1 hown hK hP (12 + 5 * g) (xc_o hg) rfl 9 (by decide) (hts (.fieldLink RX1 50 "BittenBoards$Game" "state" "I") (by decide +kernel)) (fun _ h9 => h9) rfl dX1_placeOfBite_12 ?_
    refine lv_iload_n hx hb dX1_placeOfBite_15 rfl (lv_at hl 1 rfl) ?_
    obtain ⟨r_16, w_16, hc16, hf⟩ := bn2_e hf
    refine x_calli hD hS hAA (va_runV (As := [.int (w.2.2.1 3 g), .int a1]) (rest := []) ⟨hx, hb, hml, hown, hts⟩ (k_xf_B_rowOfBite l dC dI cI cZ cG ad s.heap.size w (w.2.2.1 3 g) a1 r_16 w_16 hc16) (cwV 2 hts gX1_placeOfBite_X0_rowOfBite rfl rfl rfl (by decide +kernel) ⟨Nat.le_of_ble_eq_true rfl, Nat.le_of_ble_eq_true rfl⟩) ⟨x_blind, va_recv hK hP (ci := 0) (q0 := 3) rfl rfl, fun U hU hW => x_pre hU hW hK hP hD hN⟩ rfl rfl hl.1 rfl (lv_room (Nat.le_of_ble_eq_true rfl)) dX1_placeOfBite_16 ⟨Nat.zero_le _, Nat.zero_le _⟩) (fun H locs hP hD hS => ?_)
    exact x_iret hx hb hr hlocks hK hP hD hS (so_2 hf) dX1_placeOfBite_19
set_option maxHeartbeats 4000000 in
set_option maxRecDepth 100000 in
theorem k_xf_G_sizeOfBite (l : Launch) (dC : Nat → ClassId) (dI : Nat → Nat → Nat) (cI cZ cG : ClassId) (ad : Nat → Nat) (sz : Nat) (w : xW) (g : Nat) (hg : g < 6) (a1 : Int32) (r0 : Int32) (w0 : xW) (hf : xf_G_sizeOfBite g a1 w = some (r0, w0)) : Met l yX1_sizeOfBite wsX1_sizeOfBite ({ frames := 3, cells := 0, slots := 0, locals := 69 } : Room) (va_Pc [.ref (ad (12 + 5 * g)), .int a1] (xPre dC dI cI cZ cG ad sz w)) (va_Qi (fun (r : Int32) (u : xW) => r = r0 ∧ u = w0) (xB dC dI cI cZ cG ad (xA ad sz)) (xA ad sz)) 0 0 (xA ad sz) := by
  refine Met.ofW (cc := cX1_sizeOfBite) (maxL := 2) (ret := (some .int)) (by decide) rfl ?_
  intro p e s m args below meth c s₁ B hml hv
  obtain ⟨rfl, hsz, hP, hK, hD0, hN⟩ := hv
  have hx := B.exec
  have hb := B.bytes
  have hr := B.returns
  have hts := atoms_spec (ws := wsX1_sizeOfBite) B.pre
  have hown : s.vm.findClass RX1 = some m.cls := findClass_of_methodNamed B.named
  have hlocks := B.notSynchronized
  have inX1 : ∀ w ∈ u_ws RX1 TX1 12, w ∈ wsX1_sizeOfBite := by decide +kernel
  subst hsz
  have hD : va_D (xA ad s.heap.size) (xc cI cG ad w) := xD_self hD0
  have hAA : ∀ z q, s.heap.size ≤ z → xA ad z q → xA ad s.heap.size q := xA_mono
  generalize xA ad s.heap.size = A at hD hAA ⊢
  have hS : va_S A s.heap s.heap [] := va_S.rf
  have hl := lv_entry ([.ref (ad (12 + 5 * g)), .int a1]) (n := 2) (Nat.le_of_ble_eq_true rfl)
  rw [lg_entry_eq]
  generalize (lg_sl ([.ref (ad (12 + 5 * g)), .int a1]) ++ List.replicate (2 - (lg_sl ([.ref (ad (12 + 5 * g)), .int a1])).length) Slot.unset).toArray = ls at hl ⊢
  have hl : lv_has ls 2 [(0, .ref (ad (12 + 5 * g))), (1, .int a1)] := hl
  unfold xf_G_sizeOfBite at hf
  refine lv_aload_n hx hb dX1_sizeOfBite_0 rfl (lv_at hl 0 rfl) ?_
  refine va_get (D := (dC, dI)) (ci := 1) (v := .int (w.2.2.1 0 g)) (C := RX1) (T := TX1) (N := 12) hx hb hts inX1 hown hK hP (12 + 5 * g) (xc_o hg) rfl 6 (by decide) (hts (.fieldLink RX1 33 "BittenBoards$Game" "kind" "I") (by decide +kernel)) (fun _ h9 => h9) rfl dX1_sizeOfBite_1 ?_
  refine lv_if_ne (tgt := 20) hx hb dX1_sizeOfBite_4 (by decide) (fun h4 => ?_) (fun h4 => ?_)
  · have hf := if_f h4 hf
    refine lv_aload_n hx hb dX1_sizeOfBite_20 rfl (lv_at hl 0 rfl) ?_
    refine va_get (D := (dC, dI)) (ci := 1) (v := .int (w.2.2.1 3 g)) (C := RX1) (T := TX1) (N := 12) hx hb hts inX1 hown hK hP (12 + 5 * g) (xc_o hg) rfl 9 (by decide) (hts (.fieldLink RX1 50 "BittenBoards$Game" "state" "I") (by decide +kernel)) (fun _ h9 => h9) rfl dX1_sizeOfBite_21 ?_
    refine lv_aload_n hx hb dX1_sizeOfBite_24 rfl (lv_at hl 0 rfl) ?_
    refine va_get (D := (dC, dI)) (ci := 1) (v := .ref (ad (13 + 5 * g))) (C := RX1) (T := TX1) (N := 12) hx hb hts inX1 hown hK hP (12 + 5 * g) (xc_o hg) rfl 2 (by decide) (hts (.fieldLink RX1 9 "BittenBoards$Game" "takenBy" "[I") (by decide +kernel)) (fun _ h9 => h9) rfl dX1_sizeOfBite_25 ?_
    refine lv_aload_n hx hb dX1_sizeOfBite_28 rfl (lv_at hl 0 rfl) ?_
    refine lv_iload_n hx hb dX1_sizeOfBite_29 rfl (lv_at hl 1 rfl) ?_
    obtain ⟨r_30, hc30, hf⟩ := bn_e hf
    refine x_calli hD hS hAA (va_runV (As := [.int a1]) (rest := [.ref (ad (13 + 5 * g)), .int (w.2.2.1 3 g)]) ⟨hx, hb, hml, hown, hts⟩ (k_xf_G_partOfBite l dC dI cI cZ cG ad s.heap.size w g hg a1 r_30 w hc30 rfl) (cwV 1 hts gX1_sizeOfBite_X1_partOfBite rfl rfl rfl (by decide +kernel) ⟨Nat.le_of_ble_eq_true rfl, Nat.le_of_ble_eq_true rfl⟩) ⟨x_blind, va_recv hK hP (ci := 1) (q0 := (12 + 5 * g)) rfl (xc_o hg), fun U hU hW => x_pre hU hW hK hP hD hN⟩ rfl rfl hl.1 rfl (lv_room (Nat.le_of_ble_eq_true rfl)) dX1_sizeOfBite_30 ⟨Nat.zero_le _, Nat.zero_le _⟩) (fun H locs hP hD hS => ?_)
    obtain ⟨r_33, hc33, hf⟩ := bn_e hf
    refine x_calli hD hS hAA (va_runSN (host := "BittenBoards") (As := [.ref (ad (13 + 5 * g)), .int r_30]) (rest := [.int (w.2.2.1 3 g)]) ⟨hx, hb, hml, hown, hts⟩ (k_xf_C_at l dC dI cI cZ cG ad H.size w 15 (w.2.2.2.1 0 g) (ad (13 + 5 * g)) (13 + 5 * g) (xc_r0 hg) r_30 r_33 w hc33 rfl) ⟨va_cnB (host := "BittenBoards") 2 hts gX1_sizeOfBite_X3_at_n60 rfl rfl rfl (hN (.methodLinkNest RX1 60 yX3_at "BittenBoards") (by decide +kernel)) (hts (.initialized RX3) (by decide +kernel)) (by decide +kernel) ⟨Nat.le_of_ble_eq_true rfl, Nat.le_of_ble_eq_true rfl⟩, hts (.static yX3_at) (by decide +kernel), trivial⟩ ⟨x_blind, fun U hU hW => x_pre hU hW hK hP hD hN⟩ rfl rfl hl.1 rfl (lv_room (Nat.le_of_ble_eq_true rfl)) dX1_sizeOfBite_33 ⟨Nat.zero_le _, Nat.zero_le _⟩) (fun H locs hP hD hS => ?_)
    refine lv_iand hx hb dX1_sizeOfBite_36 ?_
    obtain ⟨r_37, hc37, hf⟩ := bn_e hf
    refine x_calli hD hS hAA (va_runS (As := [.int ((w.2.2.1 3 g) &&& r_33)]) (rest := []) ⟨hx, hb, hml, hown, hts⟩ (k_xf_J_bitCount l dC dI cI cZ cG ad H.size w ((w.2.2.1 3 g) &&& r_33) r_37 w hc37 rfl) (va_cwS 1 hts gX1_sizeOfBite_J6_bitCount_0f7a4 rfl rfl rfl (by decide +kernel) ⟨Nat.le_of_ble_eq_true rfl, Nat.le_of_ble_eq_true rfl⟩) ⟨x_blind, fun U hU hW => x_pre hU hW hK hP hD hN⟩ rfl rfl hl.1 rfl (lv_room (Nat.le_of_ble_eq_true rfl)) dX1_sizeOfBite_37 ⟨Nat.zero_le _, Nat.zero_le _⟩) (fun H locs hP hD hS => ?_)
    exact x_iret hx hb hr hlocks hK hP hD hS (so_2 hf) dX1_sizeOfBite_40
  · have hf := if_t h4 hf
    refine lv_aload_n hx hb dX1_sizeOfBite_7 rfl (lv_at hl 0 rfl) ?_
    refine va_get (D := (dC, dI)) (ci := 1) (v := .ref (ad 3)) (C := RX1) (T := TX1) (N := 12) hx hb hts inX1 hown hK hP (12 + 5 * g) (xc_o hg) rfl 0 (by decide) (hts (.fieldLink RX1 25 "BittenBoards$Game" "boards" "LBittenBoards$Boards;") (by decide +kernel)) (fun _ h9 => h9) rfl dX1_sizeOfBite_8 ?_
    refine lv_aload_n hx hb dX1_sizeOfBite_11 rfl (lv_at hl 0 rfl) ?_
    refine va_get (D := (dC, dI)) (ci := 1) (v := .int (w.2.2.1 3 g)) (C := RX1) (T := TX1) (N := 12) hx hb hts inX1 hown hK hP (12 + 5 * g) (xc_o hg) rfl 9 (by decide) (hts (.fieldLink RX1 50 "BittenBoards$Game" "state" "I") (by decide +kernel)) (fun _ h9 => h9) rfl dX1_sizeOfBite_12 ?_
    refine lv_iload_n hx hb dX1_sizeOfBite_15 rfl (lv_at hl 1 rfl) ?_
    obtain ⟨r_16, w_16, hc16, hf⟩ := bn2_e hf
    refine x_calli hD hS hAA (va_runV (As := [.int (w.2.2.1 3 g), .int a1]) (rest := []) ⟨hx, hb, hml, hown, hts⟩ (k_xf_B_columnOfBite l dC dI cI cZ cG ad s.heap.size w (w.2.2.1 3 g) a1 r_16 w_16 hc16) (cwV 2 hts gX1_sizeOfBite_X0_columnOfBite rfl rfl rfl (by decide +kernel) ⟨Nat.le_of_ble_eq_true rfl, Nat.le_of_ble_eq_true rfl⟩) ⟨x_blind, va_recv hK hP (ci := 0) (q0 := 3) rfl rfl, fun U hU hW => x_pre hU hW hK hP hD hN⟩ rfl rfl hl.1 rfl (lv_room (Nat.le_of_ble_eq_true rfl)) dX1_sizeOfBite_16 ⟨Nat.zero_le _, Nat.zero_le _⟩) (fun H locs hP hD hS => ?_)
    exact x_iret hx hb hr hlocks hK hP hD hS (so_2 hf) dX1_sizeOfBite_19
set_option maxHeartbeats 4000000 in
set_option maxRecDepth 100000 in
theorem k_xf_C_bite (l : Launch) (dC : Nat → ClassId) (dI : Nat → Nat → Nat) (cI cZ cG : ClassId) (ad : Nat → Nat) (sz : Nat) (w : xW) (a1 : Int32) (a2 : Int32) (a3 : Int32) (r0 : Int32) (w0 : xW) (hf : xf_C_bite a1 a2 a3 w = some (r0, w0)) : Met l yX3_bite wsX3_bite ({ frames := 6, cells := 0, slots := 0, locals := 136 } : Room) (va_Pc [.ref (ad 0), .int a1, .int a2, .int a3] (xPre dC dI cI cZ cG ad sz w)) (va_Qi (fun (r : Int32) (u : xW) => r = r0 ∧ u = w0) (xB dC dI cI cZ cG ad (xA ad sz)) (xA ad sz)) 0 0 (xA ad sz) := by
  refine Met.ofW (cc := cX3_bite) (maxL := 5) (ret := (some .int)) (by decide) rfl ?_
  intro p e s m args below meth c s₁ B hml hv
  obtain ⟨rfl, hsz, hP, hK, hD0, hN⟩ := hv
  have hx := B.exec
  have hb := B.bytes
  have hr := B.returns
  have hts := atoms_spec (ws := wsX3_bite) B.pre
  have hown : s.vm.findClass RX3 = some m.cls := findClass_of_methodNamed B.named
  have hlocks := B.notSynchronized
  subst hsz
  have hD : va_D (xA ad s.heap.size) (xc cI cG ad w) := xD_self hD0
  have hAA : ∀ z q, s.heap.size ≤ z → xA ad z q → xA ad s.heap.size q := xA_mono
  generalize xA ad s.heap.size = A at hD hAA ⊢
  have hS : va_S A s.heap s.heap [] := va_S.rf
  have hl := lv_entry ([.ref (ad 0), .int a1, .int a2, .int a3]) (n := 5) (Nat.le_of_ble_eq_true rfl)
  rw [lg_entry_eq]
  generalize (lg_sl ([.ref (ad 0), .int a1, .int a2, .int a3]) ++ List.replicate (5 - (lg_sl ([.ref (ad 0), .int a1, .int a2, .int a3])).length) Slot.unset).toArray = ls at hl ⊢
  have hl : lv_has ls 5 [(0, .ref (ad 0)), (1, .int a1), (2, .int a2), (3, .int a3)] := hl
  unfold xf_C_bite at hf
  refine lv_aload_n hx hb dX3_bite_0 rfl (lv_at hl 0 rfl) ?_
  refine lv_iload_n hx hb dX3_bite_1 rfl (lv_at hl 1 rfl) ?_
  obtain ⟨r_2, hc2, hf⟩ := bn_e hf
  refine x_callq hD hS hAA (va_runV (As := [.int a1]) (rest := []) ⟨hx, hb, hml, hown, hts⟩ (k_xf_C_gameAt l dC dI cI cZ cG ad s.heap.size w a1 r_2 w hc2 rfl) (cwV 1 hts gX3_bite_X3_gameAt rfl rfl rfl (by decide +kernel) ⟨Nat.le_of_ble_eq_true rfl, Nat.le_of_ble_eq_true rfl⟩) ⟨x_blind, va_recv hK hP (ci := 3) (q0 := 0) rfl rfl, fun U hU hW => x_pre hU hW hK hP hD hN⟩ rfl rfl hl.1 rfl (lv_room (Nat.le_of_ble_eq_true rfl)) dX3_bite_2 ⟨Nat.zero_le _, Nat.zero_le _⟩) (fun H locs hP hD hS => ?_)
  rcases r_2 with _ | g_2
  · have hf := onO_n hf
    refine W.eq (g2 := F0 m 5 ls [.null]) rfl ?_
    refine lv_astoreN (lv' := [(4, .null), (0, .ref (ad 0)), (1, .int a1), (2, .int a2), (3, .int a3)]) hx hb dX3_bite_5 hl (by decide) rfl (fun ls hl => ?_)
    refine lv_aloadN hx hb dX3_bite_7 (lv_at hl 0 rfl) ?_
    refine lv_ifnonnullN hx hb dX3_bite_9 ?_
    refine lv_sipush (v := (-1001 : Int32)) hx hb dX3_bite_12 (by decide) ?_
    exact x_iret hx hb hr hlocks hK hP hD hS (so_2 hf) dX3_bite_15
  · have hf := onO_s hf
    obtain ⟨hg_2, hf⟩ := gd_e hf
    refine W.eq (g2 := F0 m 5 ls [.ref (ad (12 + 5 * g_2))]) rfl ?_
    refine lv_astore (lv' := [(4, .ref (ad (12 + 5 * g_2))), (0, .ref (ad 0)), (1, .int a1), (2, .int a2), (3, .int a3)]) hx hb dX3_bite_5 hl (by decide) rfl (fun ls hl => ?_)
    refine lv_aload hx hb dX3_bite_7 (lv_at hl 0 rfl) ?_
    refine lv_ifnonnull (tgt := 16) hx hb dX3_bite_9 (by decide) ?_
    refine lv_iload_n hx hb dX3_bite_16 rfl (lv_at hl 4 rfl) ?_
    refine lv_iconst (v := (0 : Int32)) hx hb dX3_bite_17 (by decide) ?_
    refine lv_iconst (v := (2 : Int32)) hx hb dX3_bite_18 (by decide) ?_
    obtain ⟨r_19, hc19, hf⟩ := bn_e hf
    refine x_calli hD hS hAA (va_runS (As := [.int a3, .int (0 : Int32), .int (2 : Int32)]) (rest := []) ⟨hx, hb, hml, hown, hts⟩ (k_xf_C_isWithin l dC dI cI cZ cG ad H.size w a3 (0 : Int32) (2 : Int32) r_19 w hc19 rfl) (va_cwS 3 hts gX3_bite_X3_isWithin rfl rfl rfl (by decide +kernel) ⟨Nat.le_of_ble_eq_true rfl, Nat.le_of_ble_eq_true rfl⟩) ⟨x_blind, fun U hU hW => x_pre hU hW hK hP hD hN⟩ rfl rfl hl.1 rfl (lv_room (Nat.le_of_ble_eq_true rfl)) dX3_bite_19 ⟨Nat.zero_le _, Nat.zero_le _⟩) (fun H locs hP hD hS => ?_)
    refine lv_if_ne (tgt := 29) hx hb dX3_bite_22 (by decide) (fun h22 => ?_) (fun h22 => ?_)
    · have hf := if_f h22 hf
      refine lv_aload hx hb dX3_bite_29 (lv_at hl 0 rfl) ?_
      refine lv_iload_n hx hb dX3_bite_31 rfl (lv_at hl 3 rfl) ?_
      obtain ⟨r_32, w_32, hc32, hf⟩ := bn2_e hf
      refine x_calli hD hS hAA (va_runV (As := [.int a2]) (rest := []) ⟨hx, hb, hml, hown, hts⟩ (k_xf_G_hasBite l dC dI cI cZ cG ad H.size w g_2 hg_2 a2 r_32 w_32 hc32) (cwV 1 hts gX3_bite_X1_hasBite rfl rfl rfl (by decide +kernel) ⟨Nat.le_of_ble_eq_true rfl, Nat.le_of_ble_eq_true rfl⟩) ⟨x_blind, va_recv hK hP (ci := 1) (q0 := (12 + 5 * g_2)) rfl (xc_o hg_2), fun U hU hW => x_pre hU hW hK hP hD hN⟩ rfl rfl hl.1 rfl (lv_room (Nat.le_of_ble_eq_true rfl)) dX3_bite_32 ⟨Nat.zero_le _, Nat.zero_le _⟩) (fun H locs hP hD hS => ?_)
      refine lv_if_ne (tgt := 40) hx hb dX3_bite_35 (by decide) (fun h35 => ?_) (fun h35 => ?_)
      · have hf := if_f h35 hf
        refine lv_iload_n hx hb dX3_bite_40 rfl (lv_at hl 4 rfl) ?_
        refine lv_iconst (v := (2 : Int32)) hx hb dX3_bite_41 (by decide) ?_
        refine lv_icmp_ne (tgt := 60) hx hb dX3_bite_42 (by decide) (fun h42 => ?_) (fun h42 => ?_)
        · have hf := if_f h42 hf
          refine lv_iload_n hx hb dX3_bite_60 rfl (lv_at hl 4 rfl) ?_
          refine lv_if_ne (tgt := 73) hx hb dX3_bite_61 (by decide) (fun h61 => ?_) (fun h61 => ?_)
          · have hf := if_f h61 hf
            refine lv_aload hx hb dX3_bite_73 (lv_at hl 0 rfl) ?_
            refine lv_iload_n hx hb dX3_bite_75 rfl (lv_at hl 3 rfl) ?_
            obtain ⟨r_76, w_76, hc76, hf⟩ := bn2_e hf
            refine x_calli hD hS hAA (va_runV (As := [.int a2]) (rest := []) ⟨hx, hb, hml, hown, hts⟩ (k_xf_G_sizeOfBite l dC dI cI cZ cG ad H.size w_32 g_2 hg_2 a2 r_76 w_76 hc76) (cwV 1 hts gX3_bite_X1_sizeOfBite rfl rfl rfl (by decide +kernel) ⟨Nat.le_of_ble_eq_true rfl, Nat.le_of_ble_eq_true rfl⟩) ⟨x_blind, va_recv hK hP (ci := 1) (q0 := (12 + 5 * g_2)) rfl (xc_o hg_2), fun U hU hW => x_pre hU hW hK hP hD hN⟩ rfl rfl hl.1 rfl (lv_room (Nat.le_of_ble_eq_true rfl)) dX3_bite_76 ⟨Nat.zero_le _, Nat.zero_le _⟩) (fun H locs hP hD hS => ?_)
            exact x_iret hx hb hr hlocks hK hP hD hS (so_2 hf) dX3_bite_79
          · have hf := if_t h61 hf
            refine lv_aload hx hb dX3_bite_64 (lv_at hl 0 rfl) ?_
            refine lv_iload_n hx hb dX3_bite_66 rfl (lv_at hl 3 rfl) ?_
            obtain ⟨r_67, w_67, hc67, hf⟩ := bn2_e hf
            refine x_calli hD hS hAA (va_runV (As := [.int a2]) (rest := []) ⟨hx, hb, hml, hown, hts⟩ (k_xf_G_placeOfBite l dC dI cI cZ cG ad H.size w_32 g_2 hg_2 a2 r_67 w_67 hc67) (cwV 1 hts gX3_bite_X1_placeOfBite rfl rfl rfl (by decide +kernel) ⟨Nat.le_of_ble_eq_true rfl, Nat.le_of_ble_eq_true rfl⟩) ⟨x_blind, va_recv hK hP (ci := 1) (q0 := (12 + 5 * g_2)) rfl (xc_o hg_2), fun U hU hW => x_pre hU hW hK hP hD hN⟩ rfl rfl hl.1 rfl (lv_room (Nat.le_of_ble_eq_true rfl)) dX3_bite_67 ⟨Nat.zero_le _, Nat.zero_le _⟩) (fun H locs hP hD hS => ?_)
            refine lv_goto (tgt := 79) hx hb dX3_bite_70 (by decide) ?_
            exact x_iret hx hb hr hlocks hK hP hD hS (so_2 hf) dX3_bite_79
        · have hf := if_t h42 hf
          refine lv_aload hx hb dX3_bite_45 (lv_at hl 0 rfl) ?_
          refine lv_iload_n hx hb dX3_bite_47 rfl (lv_at hl 3 rfl) ?_
          obtain ⟨r_48, w_48, hc48, hf⟩ := bn2_e hf
          refine x_calli hD hS hAA (va_runV (As := [.int a2]) (rest := []) ⟨hx, hb, hml, hown, hts⟩ (k_xf_G_isWinning l dC dI cI cZ cG ad H.size w_32 g_2 hg_2 a2 r_48 w_48 hc48) (cwV 1 hts gX3_bite_X1_isWinning rfl rfl rfl (by decide +kernel) ⟨Nat.le_of_ble_eq_true rfl, Nat.le_of_ble_eq_true rfl⟩) ⟨x_blind, va_recv hK hP (ci := 1) (q0 := (12 + 5 * g_2)) rfl (xc_o hg_2), fun U hU hW => x_pre hU hW hK hP hD hN⟩ rfl rfl hl.1 rfl (lv_room (Nat.le_of_ble_eq_true rfl)) dX3_bite_48 ⟨Nat.zero_le _, Nat.zero_le _⟩) (fun H locs hP hD hS => ?_)
          refine lv_if_eq (tgt := 58) hx hb dX3_bite_51 (by decide) (fun h51 => ?_) (fun h51 => ?_)
          · have hf := if_t h51 hf
            refine lv_iconst (v := (0 : Int32)) hx hb dX3_bite_58 (by decide) ?_
            exact x_iret hx hb hr hlocks hK hP hD hS (so_2 hf) dX3_bite_59
          · have hf := if_f h51 hf
            refine lv_iconst (v := (1 : Int32)) hx hb dX3_bite_54 (by decide) ?_
            refine lv_goto (tgt := 59) hx hb dX3_bite_55 (by decide) ?_
            exact x_iret hx hb hr hlocks hK hP hD hS (so_2 hf) dX3_bite_59
      · have hf := if_t h35 hf
        refine lv_iconst (v := (-1 : Int32)) hx hb dX3_bite_38 (by decide) ?_
        exact x_iret hx hb hr hlocks hK hP hD hS (so_2 hf) dX3_bite_39
    · have hf := if_t h22 hf
      refine lv_sipush (v := (-1002 : Int32)) hx hb dX3_bite_25 (by decide) ?_
      exact x_iret hx hb hr hlocks hK hP hD hS (so_2 hf) dX3_bite_28
set_option maxHeartbeats 4000000 in
set_option maxRecDepth 100000 in
theorem k_xf_C_won (l : Launch) (dC : Nat → ClassId) (dI : Nat → Nat → Nat) (cI cZ cG : ClassId) (ad : Nat → Nat) (sz : Nat) (w : xW) (a1 : Int32) (r0 : Int32) (w0 : xW) (hf : xf_C_won a1 w = some (r0, w0)) : Met l yX3_won wsX3_won ({ frames := 5, cells := 0, slots := 0, locals := 110 } : Room) (va_Pc [.ref (ad 0), .int a1] (xPre dC dI cI cZ cG ad sz w)) (va_Qi (fun (r : Int32) (u : xW) => r = r0 ∧ u = w0) (xB dC dI cI cZ cG ad (xA ad sz)) (xA ad sz)) 0 0 (xA ad sz) := by
  refine Met.ofW (cc := cX3_won) (maxL := 3) (ret := (some .int)) (by decide) rfl ?_
  intro p e s m args below meth c s₁ B hml hv
  obtain ⟨rfl, hsz, hP, hK, hD0, hN⟩ := hv
  have hx := B.exec
  have hb := B.bytes
  have hr := B.returns
  have hts := atoms_spec (ws := wsX3_won) B.pre
  have hown : s.vm.findClass RX3 = some m.cls := findClass_of_methodNamed B.named
  have hlocks := B.notSynchronized
  have inX1 : ∀ w ∈ u_ws RX1 TX1 12, w ∈ wsX3_won := by decide +kernel
  subst hsz
  have hD : va_D (xA ad s.heap.size) (xc cI cG ad w) := xD_self hD0
  have hAA : ∀ z q, s.heap.size ≤ z → xA ad z q → xA ad s.heap.size q := xA_mono
  generalize xA ad s.heap.size = A at hD hAA ⊢
  have hS : va_S A s.heap s.heap [] := va_S.rf
  have hl := lv_entry ([.ref (ad 0), .int a1]) (n := 3) (Nat.le_of_ble_eq_true rfl)
  rw [lg_entry_eq]
  generalize (lg_sl ([.ref (ad 0), .int a1]) ++ List.replicate (3 - (lg_sl ([.ref (ad 0), .int a1])).length) Slot.unset).toArray = ls at hl ⊢
  have hl : lv_has ls 3 [(0, .ref (ad 0)), (1, .int a1)] := hl
  unfold xf_C_won at hf
  refine lv_aload_n hx hb dX3_won_0 rfl (lv_at hl 0 rfl) ?_
  refine lv_iload_n hx hb dX3_won_1 rfl (lv_at hl 1 rfl) ?_
  obtain ⟨r_2, hc2, hf⟩ := bn_e hf
  refine x_callq hD hS hAA (va_runV (As := [.int a1]) (rest := []) ⟨hx, hb, hml, hown, hts⟩ (k_xf_C_gameAt l dC dI cI cZ cG ad s.heap.size w a1 r_2 w hc2 rfl) (cwV 1 hts gX3_won_X3_gameAt rfl rfl rfl (by decide +kernel) ⟨Nat.le_of_ble_eq_true rfl, Nat.le_of_ble_eq_true rfl⟩) ⟨x_blind, va_recv hK hP (ci := 3) (q0 := 0) rfl rfl, fun U hU hW => x_pre hU hW hK hP hD hN⟩ rfl rfl hl.1 rfl (lv_room (Nat.le_of_ble_eq_true rfl)) dX3_won_2 ⟨Nat.zero_le _, Nat.zero_le _⟩) (fun H locs hP hD hS => ?_)
  rcases r_2 with _ | g_2
  · have hf := onO_n hf
    refine W.eq (g2 := F0 m 5 ls [.null]) rfl ?_
    refine lv_astore_nN (lv' := [(2, .null), (0, .ref (ad 0)), (1, .int a1)]) hx hb dX3_won_5 rfl hl (by decide) rfl (fun ls hl => ?_)
    refine lv_aload_nN hx hb dX3_won_6 rfl (lv_at hl 0 rfl) ?_
    refine lv_ifnonnullN hx hb dX3_won_7 ?_
    refine lv_sipush (v := (-1001 : Int32)) hx hb dX3_won_10 (by decide) ?_
    exact x_iret hx hb hr hlocks hK hP hD hS (so_2 hf) dX3_won_13
  · have hf := onO_s hf
    obtain ⟨hg_2, hf⟩ := gd_e hf
    refine W.eq (g2 := F0 m 5 ls [.ref (ad (12 + 5 * g_2))]) rfl ?_
    refine lv_astore_n (lv' := [(2, .ref (ad (12 + 5 * g_2))), (0, .ref (ad 0)), (1, .int a1)]) hx hb dX3_won_5 rfl hl (by decide) rfl (fun ls hl => ?_)
    refine lv_aload_n hx hb dX3_won_6 rfl (lv_at hl 0 rfl) ?_
    refine lv_ifnonnull (tgt := 14) hx hb dX3_won_7 (by decide) ?_
    refine lv_aload_n hx hb dX3_won_14 rfl (lv_at hl 0 rfl) ?_
    refine lv_aload_n hx hb dX3_won_15 rfl (lv_at hl 0 rfl) ?_
    refine va_getN (host := "BittenBoards") (D := (dC, dI)) (ci := 1) (v := .int (w.2.2.1 3 g_2)) (C := RX1) (T := TX1) (N := 12) hx hb hts inX1 hown hK hP (12 + 5 * g_2) (xc_o hg_2) rfl 9 (by decide) (va_Nw.use rfl (hN (.fieldLinkNest RX3 73 "BittenBoards$Game" "state" "I" "BittenBoards") (by decide +kernel))) (fun _ h9 => h9) rfl dX3_won_16 ?_
    obtain ⟨r_19, w_19, hc19, hf⟩ := bn2_e hf
    refine x_calli hD hS hAA (va_runV (As := [.int (w.2.2.1 3 g_2)]) (rest := []) ⟨hx, hb, hml, hown, hts⟩ (k_xf_G_factsOf l dC dI cI cZ cG ad H.size w g_2 hg_2 (w.2.2.1 3 g_2) r_19 w_19 hc19) (cwV 1 hts gX3_won_X1_factsOf rfl rfl rfl (by decide +kernel) ⟨Nat.le_of_ble_eq_true rfl, Nat.le_of_ble_eq_true rfl⟩) ⟨x_blind, va_recv hK hP (ci := 1) (q0 := (12 + 5 * g_2)) rfl (xc_o hg_2), fun U hU hW => x_pre hU hW hK hP hD hN⟩ rfl rfl hl.1 rfl (lv_room (Nat.le_of_ble_eq_true rfl)) dX3_won_19 ⟨Nat.zero_le _, Nat.zero_le _⟩) (fun H locs hP hD hS => ?_)
    refine lv_aload_n hx hb dX3_won_22 rfl (lv_at hl 0 rfl) ?_
    refine va_getN (host := "BittenBoards") (D := (dC, dI)) (ci := 1) (v := .int (w_19.2.2.1 1 g_2)) (C := RX1) (T := TX1) (N := 12) hx hb hts inX1 hown hK hP (12 + 5 * g_2) (xc_o hg_2) rfl 7 (by decide) (va_Nw.use rfl (hN (.fieldLinkNest RX3 124 "BittenBoards$Game" "rule" "I" "BittenBoards") (by decide +kernel))) (fun _ h9 => h9) rfl dX3_won_23 ?_
    obtain ⟨r_26, hc26, hf⟩ := bn_e hf
    refine x_calli hD hS hAA (va_runS (As := [.int r_19, .int (w_19.2.2.1 1 g_2)]) (rest := []) ⟨hx, hb, hml, hown, hts⟩ (k_xf_C_lengthIn l dC dI cI cZ cG ad H.size w_19 r_19 (w_19.2.2.1 1 g_2) r_26 w_19 hc26 rfl) (va_cwS 2 hts gX3_won_X3_lengthIn rfl rfl rfl (by decide +kernel) ⟨Nat.le_of_ble_eq_true rfl, Nat.le_of_ble_eq_true rfl⟩) ⟨x_blind, fun U hU hW => x_pre hU hW hK hP hD hN⟩ rfl rfl hl.1 rfl (lv_room (Nat.le_of_ble_eq_true rfl)) dX3_won_26 ⟨Nat.zero_le _, Nat.zero_le _⟩) (fun H locs hP hD hS => ?_)
    refine lv_aload_n hx hb dX3_won_29 rfl (lv_at hl 0 rfl) ?_
    refine va_getN (host := "BittenBoards") (D := (dC, dI)) (ci := 1) (v := .int (w_19.2.2.1 1 g_2)) (C := RX1) (T := TX1) (N := 12) hx hb hts inX1 hown hK hP (12 + 5 * g_2) (xc_o hg_2) rfl 7 (by decide) (va_Nw.use rfl (hN (.fieldLinkNest RX3 124 "BittenBoards$Game" "rule" "I" "BittenBoards") (by decide +kernel))) (fun _ h9 => h9) rfl dX3_won_30 ?_
    obtain ⟨r_33, hc33, hf⟩ := bn_e hf
    refine x_calli hD hS hAA (va_runS (As := [.int r_26, .int (w_19.2.2.1 1 g_2)]) (rest := []) ⟨hx, hb, hml, hown, hts⟩ (k_xf_C_isWon l dC dI cI cZ cG ad H.size w_19 r_26 (w_19.2.2.1 1 g_2) r_33 w_19 hc33 rfl) (va_cwS 2 hts gX3_won_X3_isWon rfl rfl rfl (by decide +kernel) ⟨Nat.le_of_ble_eq_true rfl, Nat.le_of_ble_eq_true rfl⟩) ⟨x_blind, fun U hU hW => x_pre hU hW hK hP hD hN⟩ rfl rfl hl.1 rfl (lv_room (Nat.le_of_ble_eq_true rfl)) dX3_won_33 ⟨Nat.zero_le _, Nat.zero_le _⟩) (fun H locs hP hD hS => ?_)
    refine lv_if_eq (tgt := 43) hx hb dX3_won_36 (by decide) (fun h36 => ?_) (fun h36 => ?_)
    · have hf := if_t h36 hf
      refine lv_iconst (v := (0 : Int32)) hx hb dX3_won_43 (by decide) ?_
      exact x_iret hx hb hr hlocks hK hP hD hS (so_2 hf) dX3_won_44
    · have hf := if_f h36 hf
      refine lv_iconst (v := (1 : Int32)) hx hb dX3_won_39 (by decide) ?_
      refine lv_goto (tgt := 44) hx hb dX3_won_40 (by decide) ?_
      exact x_iret hx hb hr hlocks hK hP hD hS (so_2 hf) dX3_won_44
set_option maxHeartbeats 4000000 in
set_option maxRecDepth 100000 in
theorem k_xf_C_worth (l : Launch) (dC : Nat → ClassId) (dI : Nat → Nat → Nat) (cI cZ cG : ClassId) (ad : Nat → Nat) (sz : Nat) (w : xW) (a1 : Int32) (r0 : Int32) (w0 : xW) (hf : xf_C_worth a1 w = some (r0, w0)) : Met l yX3_worth wsX3_worth ({ frames := 5, cells := 0, slots := 0, locals := 110 } : Room) (va_Pc [.ref (ad 0), .int a1] (xPre dC dI cI cZ cG ad sz w)) (va_Qi (fun (r : Int32) (u : xW) => r = r0 ∧ u = w0) (xB dC dI cI cZ cG ad (xA ad sz)) (xA ad sz)) 0 0 (xA ad sz) := by
  refine Met.ofW (cc := cX3_worth) (maxL := 3) (ret := (some .int)) (by decide) rfl ?_
  intro p e s m args below meth c s₁ B hml hv
  obtain ⟨rfl, hsz, hP, hK, hD0, hN⟩ := hv
  have hx := B.exec
  have hb := B.bytes
  have hr := B.returns
  have hts := atoms_spec (ws := wsX3_worth) B.pre
  have hown : s.vm.findClass RX3 = some m.cls := findClass_of_methodNamed B.named
  have hlocks := B.notSynchronized
  have inX1 : ∀ w ∈ u_ws RX1 TX1 12, w ∈ wsX3_worth := by decide +kernel
  subst hsz
  have hD : va_D (xA ad s.heap.size) (xc cI cG ad w) := xD_self hD0
  have hAA : ∀ z q, s.heap.size ≤ z → xA ad z q → xA ad s.heap.size q := xA_mono
  generalize xA ad s.heap.size = A at hD hAA ⊢
  have hS : va_S A s.heap s.heap [] := va_S.rf
  have hl := lv_entry ([.ref (ad 0), .int a1]) (n := 3) (Nat.le_of_ble_eq_true rfl)
  rw [lg_entry_eq]
  generalize (lg_sl ([.ref (ad 0), .int a1]) ++ List.replicate (3 - (lg_sl ([.ref (ad 0), .int a1])).length) Slot.unset).toArray = ls at hl ⊢
  have hl : lv_has ls 3 [(0, .ref (ad 0)), (1, .int a1)] := hl
  unfold xf_C_worth at hf
  refine lv_aload_n hx hb dX3_worth_0 rfl (lv_at hl 0 rfl) ?_
  refine lv_iload_n hx hb dX3_worth_1 rfl (lv_at hl 1 rfl) ?_
  obtain ⟨r_2, hc2, hf⟩ := bn_e hf
  refine x_callq hD hS hAA (va_runV (As := [.int a1]) (rest := []) ⟨hx, hb, hml, hown, hts⟩ (k_xf_C_gameAt l dC dI cI cZ cG ad s.heap.size w a1 r_2 w hc2 rfl) (cwV 1 hts gX3_worth_X3_gameAt rfl rfl rfl (by decide +kernel) ⟨Nat.le_of_ble_eq_true rfl, Nat.le_of_ble_eq_true rfl⟩) ⟨x_blind, va_recv hK hP (ci := 3) (q0 := 0) rfl rfl, fun U hU hW => x_pre hU hW hK hP hD hN⟩ rfl rfl hl.1 rfl (lv_room (Nat.le_of_ble_eq_true rfl)) dX3_worth_2 ⟨Nat.zero_le _, Nat.zero_le _⟩) (fun H locs hP hD hS => ?_)
  rcases r_2 with _ | g_2
  · have hf := onO_n hf
    refine W.eq (g2 := F0 m 5 ls [.null]) rfl ?_
    refine lv_astore_nN (lv' := [(2, .null), (0, .ref (ad 0)), (1, .int a1)]) hx hb dX3_worth_5 rfl hl (by decide) rfl (fun ls hl => ?_)
    refine lv_aload_nN hx hb dX3_worth_6 rfl (lv_at hl 0 rfl) ?_
    refine lv_ifnonnullN hx hb dX3_worth_7 ?_
    refine lv_sipush (v := (-1001 : Int32)) hx hb dX3_worth_10 (by decide) ?_
    exact x_iret hx hb hr hlocks hK hP hD hS (so_2 hf) dX3_worth_13
  · have hf := onO_s hf
    obtain ⟨hg_2, hf⟩ := gd_e hf
    refine W.eq (g2 := F0 m 5 ls [.ref (ad (12 + 5 * g_2))]) rfl ?_
    refine lv_astore_n (lv' := [(2, .ref (ad (12 + 5 * g_2))), (0, .ref (ad 0)), (1, .int a1)]) hx hb dX3_worth_5 rfl hl (by decide) rfl (fun ls hl => ?_)
    refine lv_aload_n hx hb dX3_worth_6 rfl (lv_at hl 0 rfl) ?_
    refine lv_ifnonnull (tgt := 14) hx hb dX3_worth_7 (by decide) ?_
    refine lv_aload_n hx hb dX3_worth_14 rfl (lv_at hl 0 rfl) ?_
    refine lv_aload_n hx hb dX3_worth_15 rfl (lv_at hl 0 rfl) ?_
    refine va_getN (host := "BittenBoards") (D := (dC, dI)) (ci := 1) (v := .int (w.2.2.1 3 g_2)) (C := RX1) (T := TX1) (N := 12) hx hb hts inX1 hown hK hP (12 + 5 * g_2) (xc_o hg_2) rfl 9 (by decide) (va_Nw.use rfl (hN (.fieldLinkNest RX3 73 "BittenBoards$Game" "state" "I" "BittenBoards") (by decide +kernel))) (fun _ h9 => h9) rfl dX3_worth_16 ?_
    obtain ⟨r_19, w_19, hc19, hf⟩ := bn2_e hf
    refine x_calli hD hS hAA (va_runV (As := [.int (w.2.2.1 3 g_2)]) (rest := []) ⟨hx, hb, hml, hown, hts⟩ (k_xf_G_factsOf l dC dI cI cZ cG ad H.size w g_2 hg_2 (w.2.2.1 3 g_2) r_19 w_19 hc19) (cwV 1 hts gX3_worth_X1_factsOf rfl rfl rfl (by decide +kernel) ⟨Nat.le_of_ble_eq_true rfl, Nat.le_of_ble_eq_true rfl⟩) ⟨x_blind, va_recv hK hP (ci := 1) (q0 := (12 + 5 * g_2)) rfl (xc_o hg_2), fun U hU hW => x_pre hU hW hK hP hD hN⟩ rfl rfl hl.1 rfl (lv_room (Nat.le_of_ble_eq_true rfl)) dX3_worth_19 ⟨Nat.zero_le _, Nat.zero_le _⟩) (fun H locs hP hD hS => ?_)
    obtain ⟨r_22, hc22, hf⟩ := bn_e hf
    refine x_calli hD hS hAA (va_runS (As := [.int r_19]) (rest := []) ⟨hx, hb, hml, hown, hts⟩ (k_xf_C_worthIn l dC dI cI cZ cG ad H.size w_19 r_19 r_22 w_19 hc22 rfl) (va_cwS 1 hts gX3_worth_X3_worthIn rfl rfl rfl (by decide +kernel) ⟨Nat.le_of_ble_eq_true rfl, Nat.le_of_ble_eq_true rfl⟩) ⟨x_blind, fun U hU hW => x_pre hU hW hK hP hD hN⟩ rfl rfl hl.1 rfl (lv_room (Nat.le_of_ble_eq_true rfl)) dX3_worth_22 ⟨Nat.zero_le _, Nat.zero_le _⟩) (fun H locs hP hD hS => ?_)
    exact x_iret hx hb hr hlocks hK hP hD hS (so_2 hf) dX3_worth_25
set_option maxHeartbeats 4000000 in
set_option maxRecDepth 100000 in
theorem k_xf_C_length (l : Launch) (dC : Nat → ClassId) (dI : Nat → Nat → Nat) (cI cZ cG : ClassId) (ad : Nat → Nat) (sz : Nat) (w : xW) (a1 : Int32) (r0 : Int32) (w0 : xW) (hf : xf_C_length a1 w = some (r0, w0)) : Met l yX3_length wsX3_length ({ frames := 5, cells := 0, slots := 0, locals := 110 } : Room) (va_Pc [.ref (ad 0), .int a1] (xPre dC dI cI cZ cG ad sz w)) (va_Qi (fun (r : Int32) (u : xW) => r = r0 ∧ u = w0) (xB dC dI cI cZ cG ad (xA ad sz)) (xA ad sz)) 0 0 (xA ad sz) := by
  refine Met.ofW (cc := cX3_length) (maxL := 3) (ret := (some .int)) (by decide) rfl ?_
  intro p e s m args below meth c s₁ B hml hv
  obtain ⟨rfl, hsz, hP, hK, hD0, hN⟩ := hv
  have hx := B.exec
  have hb := B.bytes
  have hr := B.returns
  have hts := atoms_spec (ws := wsX3_length) B.pre
  have hown : s.vm.findClass RX3 = some m.cls := findClass_of_methodNamed B.named
  have hlocks := B.notSynchronized
  have inX1 : ∀ w ∈ u_ws RX1 TX1 12, w ∈ wsX3_length := by decide +kernel
  subst hsz
  have hD : va_D (xA ad s.heap.size) (xc cI cG ad w) := xD_self hD0
  have hAA : ∀ z q, s.heap.size ≤ z → xA ad z q → xA ad s.heap.size q := xA_mono
  generalize xA ad s.heap.size = A at hD hAA ⊢
  have hS : va_S A s.heap s.heap [] := va_S.rf
  have hl := lv_entry ([.ref (ad 0), .int a1]) (n := 3) (Nat.le_of_ble_eq_true rfl)
  rw [lg_entry_eq]
  generalize (lg_sl ([.ref (ad 0), .int a1]) ++ List.replicate (3 - (lg_sl ([.ref (ad 0), .int a1])).length) Slot.unset).toArray = ls at hl ⊢
  have hl : lv_has ls 3 [(0, .ref (ad 0)), (1, .int a1)] := hl
  unfold xf_C_length at hf
  refine lv_aload_n hx hb dX3_length_0 rfl (lv_at hl 0 rfl) ?_
  refine lv_iload_n hx hb dX3_length_1 rfl (lv_at hl 1 rfl) ?_
  obtain ⟨r_2, hc2, hf⟩ := bn_e hf
  refine x_callq hD hS hAA (va_runV (As := [.int a1]) (rest := []) ⟨hx, hb, hml, hown, hts⟩ (k_xf_C_gameAt l dC dI cI cZ cG ad s.heap.size w a1 r_2 w hc2 rfl) (cwV 1 hts gX3_length_X3_gameAt rfl rfl rfl (by decide +kernel) ⟨Nat.le_of_ble_eq_true rfl, Nat.le_of_ble_eq_true rfl⟩) ⟨x_blind, va_recv hK hP (ci := 3) (q0 := 0) rfl rfl, fun U hU hW => x_pre hU hW hK hP hD hN⟩ rfl rfl hl.1 rfl (lv_room (Nat.le_of_ble_eq_true rfl)) dX3_length_2 ⟨Nat.zero_le _, Nat.zero_le _⟩) (fun H locs hP hD hS => ?_)
  rcases r_2 with _ | g_2
  · have hf := onO_n hf
    refine W.eq (g2 := F0 m 5 ls [.null]) rfl ?_
    refine lv_astore_nN (lv' := [(2, .null), (0, .ref (ad 0)), (1, .int a1)]) hx hb dX3_length_5 rfl hl (by decide) rfl (fun ls hl => ?_)
    refine lv_aload_nN hx hb dX3_length_6 rfl (lv_at hl 0 rfl) ?_
    refine lv_ifnonnullN hx hb dX3_length_7 ?_
    refine lv_sipush (v := (-1001 : Int32)) hx hb dX3_length_10 (by decide) ?_
    exact x_iret hx hb hr hlocks hK hP hD hS (so_2 hf) dX3_length_13
  · have hf := onO_s hf
    obtain ⟨hg_2, hf⟩ := gd_e hf
    refine W.eq (g2 := F0 m 5 ls [.ref (ad (12 + 5 * g_2))]) rfl ?_
    refine lv_astore_n (lv' := [(2, .ref (ad (12 + 5 * g_2))), (0, .ref (ad 0)), (1, .int a1)]) hx hb dX3_length_5 rfl hl (by decide) rfl (fun ls hl => ?_)
    refine lv_aload_n hx hb dX3_length_6 rfl (lv_at hl 0 rfl) ?_
    refine lv_ifnonnull (tgt := 14) hx hb dX3_length_7 (by decide) ?_
    refine lv_aload_n hx hb dX3_length_14 rfl (lv_at hl 0 rfl) ?_
    refine lv_aload_n hx hb dX3_length_15 rfl (lv_at hl 0 rfl) ?_
    refine va_getN (host := "BittenBoards") (D := (dC, dI)) (ci := 1) (v := .int (w.2.2.1 3 g_2)) (C := RX1) (T := TX1) (N := 12) hx hb hts inX1 hown hK hP (12 + 5 * g_2) (xc_o hg_2) rfl 9 (by decide) (va_Nw.use rfl (hN (.fieldLinkNest RX3 73 "BittenBoards$Game" "state" "I" "BittenBoards") (by decide +kernel))) (fun _ h9 => h9) rfl dX3_length_16 ?_
    obtain ⟨r_19, w_19, hc19, hf⟩ := bn2_e hf
    refine x_calli hD hS hAA (va_runV (As := [.int (w.2.2.1 3 g_2)]) (rest := []) ⟨hx, hb, hml, hown, hts⟩ (k_xf_G_factsOf l dC dI cI cZ cG ad H.size w g_2 hg_2 (w.2.2.1 3 g_2) r_19 w_19 hc19) (cwV 1 hts gX3_length_X1_factsOf rfl rfl rfl (by decide +kernel) ⟨Nat.le_of_ble_eq_true rfl, Nat.le_of_ble_eq_true rfl⟩) ⟨x_blind, va_recv hK hP (ci := 1) (q0 := (12 + 5 * g_2)) rfl (xc_o hg_2), fun U hU hW => x_pre hU hW hK hP hD hN⟩ rfl rfl hl.1 rfl (lv_room (Nat.le_of_ble_eq_true rfl)) dX3_length_19 ⟨Nat.zero_le _, Nat.zero_le _⟩) (fun H locs hP hD hS => ?_)
    refine lv_aload_n hx hb dX3_length_22 rfl (lv_at hl 0 rfl) ?_
    refine va_getN (host := "BittenBoards") (D := (dC, dI)) (ci := 1) (v := .int (w_19.2.2.1 1 g_2)) (C := RX1) (T := TX1) (N := 12) hx hb hts inX1 hown hK hP (12 + 5 * g_2) (xc_o hg_2) rfl 7 (by decide) (va_Nw.use rfl (hN (.fieldLinkNest RX3 124 "BittenBoards$Game" "rule" "I" "BittenBoards") (by decide +kernel))) (fun _ h9 => h9) rfl dX3_length_23 ?_
    obtain ⟨r_26, hc26, hf⟩ := bn_e hf
    refine x_calli hD hS hAA (va_runS (As := [.int r_19, .int (w_19.2.2.1 1 g_2)]) (rest := []) ⟨hx, hb, hml, hown, hts⟩ (k_xf_C_lengthIn l dC dI cI cZ cG ad H.size w_19 r_19 (w_19.2.2.1 1 g_2) r_26 w_19 hc26 rfl) (va_cwS 2 hts gX3_length_X3_lengthIn rfl rfl rfl (by decide +kernel) ⟨Nat.le_of_ble_eq_true rfl, Nat.le_of_ble_eq_true rfl⟩) ⟨x_blind, fun U hU hW => x_pre hU hW hK hP hD hN⟩ rfl rfl hl.1 rfl (lv_room (Nat.le_of_ble_eq_true rfl)) dX3_length_26 ⟨Nat.zero_le _, Nat.zero_le _⟩) (fun H locs hP hD hS => ?_)
    exact x_iret hx hb hr hlocks hK hP hD hS (so_2 hf) dX3_length_29
set_option maxHeartbeats 4000000 in
set_option maxRecDepth 100000 in
theorem k_xf_C_winning (l : Launch) (dC : Nat → ClassId) (dI : Nat → Nat → Nat) (cI cZ cG : ClassId) (ad : Nat → Nat) (sz : Nat) (w : xW) (a1 : Int32) (r0 : Int32) (w0 : xW) (hf : xf_C_winning a1 w = some (r0, w0)) : Met l yX3_winning wsX3_winning ({ frames := 6, cells := 0, slots := 0, locals := 136 } : Room) (va_Pc [.ref (ad 0), .int a1] (xPre dC dI cI cZ cG ad sz w)) (va_Qi (fun (r : Int32) (u : xW) => r = r0 ∧ u = w0) (xB dC dI cI cZ cG ad (xA ad sz)) (xA ad sz)) 0 0 (xA ad sz) := by
  refine Met.ofW (cc := cX3_winning) (maxL := 6) (ret := (some .int)) (by decide) rfl ?_
  intro p e s m args below meth c s₁ B hml hv
  obtain ⟨rfl, hsz, hP, hK, hD0, hN⟩ := hv
  have hx := B.exec
  have hb := B.bytes
  have hr := B.returns
  have hts := atoms_spec (ws := wsX3_winning) B.pre
  have hown : s.vm.findClass RX3 = some m.cls := findClass_of_methodNamed B.named
  have hlocks := B.notSynchronized
  subst hsz
  have hD : va_D (xA ad s.heap.size) (xc cI cG ad w) := xD_self hD0
  have hAA : ∀ z q, s.heap.size ≤ z → xA ad z q → xA ad s.heap.size q := xA_mono
  generalize xA ad s.heap.size = A at hD hAA ⊢
  have hS : va_S A s.heap s.heap [] := va_S.rf
  have C25 : ∀ (n25 : Nat) (g2 : Nat) (x3 : Int32) (x4 : Int32) (x5 : Int32) (w : xW), xf_C_winning_C25 n25 g2 x3 x4 x5 w = some (r0, w0) → ∀ (H : Heap) (locs : List Loc) (ls : Array Slot), va_P (dC, dI) vwCl (xc cI cG ad w) H → va_D A (xc cI cG ad w) → va_S A s.heap H locs → lv_has ls 6 [(2, .ref (ad (12 + 5 * g2))), (3, .int x3), (4, .int x4), (5, .int x5)] → W p l e (headSpec wsX3_winning ({ frames := 6, cells := 0, slots := 0, locals := 136 } : Room)).room s m (List.toArray [Value.ref (ad 0), Value.int a1]) below meth c H locs 0 0 (MQ below (va_Qi (fun (r : Int32) (u : xW) => r = r0 ∧ u = w0) (xB dC dI cI cZ cG ad A) A) (List.toArray [Value.ref (ad 0), Value.int a1]) s 0 0 A) (F0 m 25 ls []) := by
    intro n25
    induction n25 with
    | zero => intro g2 x3 x4 x5 w hf; cases hf
    | succ n25 ih25 =>
      intro g2 x3 x4 x5 w hf H locs ls hP hD hS hl
      rw [xf_C_winning_C25] at hf
      obtain ⟨hgg2, hf⟩ := gd_e hf
      refine lv_iload hx hb dX3_winning_25 (lv_at hl 3 rfl) ?_
      refine lv_iload hx hb dX3_winning_27 (lv_at hl 2 rfl) ?_
      refine lv_icmp_ge (tgt := 50) hx hb dX3_winning_29 (by decide) (fun h29 => ?_) (fun h29 => ?_)
      · have hf := if_t h29 hf
        refine lv_iload_n hx hb dX3_winning_50 rfl (lv_at hl 1 rfl) ?_
        exact x_iret hx hb hr hlocks hK hP hD hS (so_2 hf) dX3_winning_51
      · have hf := if_f h29 hf
        refine lv_aload_n hx hb dX3_winning_32 rfl (lv_at hl 0 rfl) ?_
        refine lv_iload hx hb dX3_winning_33 (lv_at hl 3 rfl) ?_
        obtain ⟨r_35, w_35, hc35, hf⟩ := bn2_e hf
        refine x_calli hD hS hAA (va_runV (As := [.int x5]) (rest := []) ⟨hx, hb, hml, hown, hts⟩ (k_xf_G_isWinning l dC dI cI cZ cG ad H.size w g2 hgg2 x5 r_35 w_35 hc35) (cwV 1 hts gX3_winning_X1_isWinning rfl rfl rfl (by decide +kernel) ⟨Nat.le_of_ble_eq_true rfl, Nat.le_of_ble_eq_true rfl⟩) ⟨x_blind, va_recv hK hP (ci := 1) (q0 := (12 + 5 * g2)) rfl (xc_o hgg2), fun U hU hW => x_pre hU hW hK hP hD hN⟩ rfl rfl hl.1 rfl (lv_room (Nat.le_of_ble_eq_true rfl)) dX3_winning_35 ⟨Nat.zero_le _, Nat.zero_le _⟩) (fun H locs hP hD hS => ?_)
        refine lv_if_eq (tgt := 44) hx hb dX3_winning_38 (by decide) (fun h38 => ?_) (fun h38 => ?_)
        · have hf := if_t h38 hf
          obtain ⟨x5_44, ex5_44, hf⟩ := nm_x hf
          refine lv_iinc (v := x5_44) (lv' := [(5, .int x5_44), (2, .ref (ad (12 + 5 * g2))), (3, .int x3), (4, .int x4)]) hx hb dX3_winning_44 hl (k := 3) rfl (by rw [ex5_44]; rfl) (by decide) rfl (fun ls hl => ?_)
          refine lv_goto (tgt := 25) hx hb dX3_winning_47 (by decide) ?_
          exact ih25 g2 x3 x4 x5_44 w_35 hf _ _ _ hP hD hS (lv_sub hl [1, 2, 3, 0] rfl)
        · have hf := if_f h38 hf
          obtain ⟨x3_41, ex3_41, hf⟩ := nm_x hf
          refine lv_iinc (v := x3_41) (lv' := [(3, .int x3_41), (2, .ref (ad (12 + 5 * g2))), (4, .int x4), (5, .int x5)]) hx hb dX3_winning_41 hl (k := 1) rfl (by rw [ex3_41]; rfl) (by decide) rfl (fun ls hl => ?_)
          obtain ⟨x5_44, ex5_44, hf⟩ := nm_x hf
          refine lv_iinc (v := x5_44) (lv' := [(5, .int x5_44), (3, .int x3_41), (2, .ref (ad (12 + 5 * g2))), (4, .int x4)]) hx hb dX3_winning_44 hl (k := 3) rfl (by rw [ex5_44]; rfl) (by decide) rfl (fun ls hl => ?_)
          refine lv_goto (tgt := 25) hx hb dX3_winning_47 (by decide) ?_
          exact ih25 g2 x3_41 x4 x5_44 w_35 hf _ _ _ hP hD hS (lv_sub hl [2, 1, 3, 0] rfl)
  have hl := lv_entry ([.ref (ad 0), .int a1]) (n := 6) (Nat.le_of_ble_eq_true rfl)
  rw [lg_entry_eq]
  generalize (lg_sl ([.ref (ad 0), .int a1]) ++ List.replicate (6 - (lg_sl ([.ref (ad 0), .int a1])).length) Slot.unset).toArray = ls at hl ⊢
  have hl : lv_has ls 6 [(0, .ref (ad 0)), (1, .int a1)] := hl
  unfold xf_C_winning at hf
  refine lv_aload_n hx hb dX3_winning_0 rfl (lv_at hl 0 rfl) ?_
  refine lv_iload_n hx hb dX3_winning_1 rfl (lv_at hl 1 rfl) ?_
  obtain ⟨r_2, hc2, hf⟩ := bn_e hf
  refine x_callq hD hS hAA (va_runV (As := [.int a1]) (rest := []) ⟨hx, hb, hml, hown, hts⟩ (k_xf_C_gameAt l dC dI cI cZ cG ad s.heap.size w a1 r_2 w hc2 rfl) (cwV 1 hts gX3_winning_X3_gameAt rfl rfl rfl (by decide +kernel) ⟨Nat.le_of_ble_eq_true rfl, Nat.le_of_ble_eq_true rfl⟩) ⟨x_blind, va_recv hK hP (ci := 3) (q0 := 0) rfl rfl, fun U hU hW => x_pre hU hW hK hP hD hN⟩ rfl rfl hl.1 rfl (lv_room (Nat.le_of_ble_eq_true rfl)) dX3_winning_2 ⟨Nat.zero_le _, Nat.zero_le _⟩) (fun H locs hP hD hS => ?_)
  rcases r_2 with _ | g_2
  · have hf := onO_n hf
    refine W.eq (g2 := F0 m 5 ls [.null]) rfl ?_
    refine lv_astore_nN (lv' := [(2, .null), (0, .ref (ad 0)), (1, .int a1)]) hx hb dX3_winning_5 rfl hl (by decide) rfl (fun ls hl => ?_)
    refine lv_aload_nN hx hb dX3_winning_6 rfl (lv_at hl 0 rfl) ?_
    refine lv_ifnonnullN hx hb dX3_winning_7 ?_
    refine lv_sipush (v := (-1001 : Int32)) hx hb dX3_winning_10 (by decide) ?_
    exact x_iret hx hb hr hlocks hK hP hD hS (so_2 hf) dX3_winning_13
  · have hf := onO_s hf
    obtain ⟨hg_2, hf⟩ := gd_e hf
    refine W.eq (g2 := F0 m 5 ls [.ref (ad (12 + 5 * g_2))]) rfl ?_
    refine lv_astore_n (lv' := [(2, .ref (ad (12 + 5 * g_2))), (0, .ref (ad 0)), (1, .int a1)]) hx hb dX3_winning_5 rfl hl (by decide) rfl (fun ls hl => ?_)
    refine lv_aload_n hx hb dX3_winning_6 rfl (lv_at hl 0 rfl) ?_
    refine lv_ifnonnull (tgt := 14) hx hb dX3_winning_7 (by decide) ?_
    refine lv_iconst (v := (0 : Int32)) hx hb dX3_winning_14 (by decide) ?_
    refine lv_istore_n (lv' := [(3, .int (0 : Int32)), (2, .ref (ad (12 + 5 * g_2))), (0, .ref (ad 0)), (1, .int a1)]) hx hb dX3_winning_15 rfl hl (by decide) rfl (fun ls hl => ?_)
    refine lv_aload_n hx hb dX3_winning_16 rfl (lv_at hl 1 rfl) ?_
    obtain ⟨r_17, w_17, hc17, hf⟩ := bn2_e hf
    refine x_calli hD hS hAA (va_runV (As := []) (rest := []) ⟨hx, hb, hml, hown, hts⟩ (k_xf_G_countBites l dC dI cI cZ cG ad H.size w g_2 hg_2 r_17 w_17 hc17) (cwV 0 hts gX3_winning_X1_countBites rfl rfl rfl (by decide +kernel) ⟨Nat.le_of_ble_eq_true rfl, Nat.le_of_ble_eq_true rfl⟩) ⟨x_blind, va_recv hK hP (ci := 1) (q0 := (12 + 5 * g_2)) rfl (xc_o hg_2), fun U hU hW => x_pre hU hW hK hP hD hN⟩ rfl rfl hl.1 rfl (lv_room (Nat.le_of_ble_eq_true rfl)) dX3_winning_17 ⟨Nat.zero_le _, Nat.zero_le _⟩) (fun H locs hP hD hS => ?_)
    refine lv_istore (lv' := [(4, .int r_17), (3, .int (0 : Int32)), (2, .ref (ad (12 + 5 * g_2))), (0, .ref (ad 0)), (1, .int a1)]) hx hb dX3_winning_20 hl (by decide) rfl (fun ls hl => ?_)
    refine lv_iconst (v := (0 : Int32)) hx hb dX3_winning_22 (by decide) ?_
    refine lv_istore (lv' := [(5, .int (0 : Int32)), (4, .int r_17), (3, .int (0 : Int32)), (2, .ref (ad (12 + 5 * g_2))), (0, .ref (ad 0)), (1, .int a1)]) hx hb dX3_winning_23 hl (by decide) rfl (fun ls hl => ?_)
    exact C25 fu g_2 (0 : Int32) r_17 (0 : Int32) w_17 hf _ _ _ hP hD hS (lv_sub hl [3, 2, 1, 0] rfl)
set_option maxHeartbeats 4000000 in
set_option maxRecDepth 100000 in
theorem k_xf_B_isInside (l : Launch) (dC : Nat → ClassId) (dI : Nat → Nat → Nat) (cI cZ cG : ClassId) (ad : Nat → Nat) (sz : Nat) (w : xW) (a1 : Int32) (a2 : Int32) (a3 : Int32) (r0 : Int32) (w0 : xW) (hf : xf_B_isInside a1 a2 a3 w = some r0) (hw0 : w = w0) : Met l yX0_isInside wsX0_isInside ({ frames := 1, cells := 0, slots := 0, locals := 21 } : Room) (va_Pc [.ref (ad 3), .int a1, .int a2, .int a3] (xPre dC dI cI cZ cG ad sz w)) (va_Qi (fun (r : Int32) (u : xW) => r = r0 ∧ u = w0) (xB dC dI cI cZ cG ad (xA ad sz)) (xA ad sz)) 0 0 (xA ad sz) := by
  refine Met.ofW (cc := cX0_isInside) (maxL := 4) (ret := (some .boolean)) (by decide) rfl ?_
  intro p e s m args below meth c s₁ B hml hv
  obtain ⟨rfl, hsz, hP, hK, hD0, hN⟩ := hv
  have hx := B.exec
  have hb := B.bytes
  have hr := B.returns
  have hts := atoms_spec (ws := wsX0_isInside) B.pre
  have hown : s.vm.findClass RX0 = some m.cls := findClass_of_methodNamed B.named
  have hlocks := B.notSynchronized
  have inX0 : ∀ w ∈ u_ws RX0 TX0 7, w ∈ wsX0_isInside := by decide +kernel
  subst hsz
  have hD : va_D (xA ad s.heap.size) (xc cI cG ad w) := xD_self hD0
  have hAA : ∀ z q, s.heap.size ≤ z → xA ad z q → xA ad s.heap.size q := xA_mono
  generalize xA ad s.heap.size = A at hD hAA ⊢
  have hS : va_S A s.heap s.heap [] := va_S.rf
  have hl := lv_entry ([.ref (ad 3), .int a1, .int a2, .int a3]) (n := 4) (Nat.le_of_ble_eq_true rfl)
  rw [lg_entry_eq]
  generalize (lg_sl ([.ref (ad 3), .int a1, .int a2, .int a3]) ++ List.replicate (4 - (lg_sl ([.ref (ad 3), .int a1, .int a2, .int a3])).length) Slot.unset).toArray = ls at hl ⊢
  have hl : lv_has ls 4 [(0, .ref (ad 3)), (1, .int a1), (2, .int a2), (3, .int a3)] := hl
  unfold xf_B_isInside at hf
  refine lv_aload_n hx hb dX0_isInside_0 rfl (lv_at hl 0 rfl) ?_
  refine va_get (D := (dC, dI)) (ci := 0) (v := .ref (ad 7)) (C := RX0) (T := TX0) (N := 7) hx hb hts inX0 hown hK hP 3 rfl rfl 4 (by decide) (hts (.fieldLink RX0 21 "BittenBoards$Boards" "firsts" "[I") (by decide +kernel)) (fun _ h9 => h9) rfl dX0_isInside_1 ?_
  refine lv_iload_n hx hb dX0_isInside_4 rfl (lv_at hl 1 rfl) ?_
  obtain ⟨r_5, hc5, hf⟩ := bn_e hf
  refine x_calli hD hS hAA (va_runSN (host := "BittenBoards") (As := [.ref (ad 7), .int a1]) (rest := []) ⟨hx, hb, hml, hown, hts⟩ (k_xf_C_at l dC dI cI cZ cG ad s.heap.size w 3432 (w.2.1 7) (ad 7) 7 rfl a1 r_5 w hc5 rfl) ⟨va_cnB (host := "BittenBoards") 2 hts gX0_isInside_X3_at_n51 rfl rfl rfl (hN (.methodLinkNest RX0 51 yX3_at "BittenBoards") (by decide +kernel)) (hts (.initialized RX3) (by decide +kernel)) (by decide +kernel) ⟨Nat.le_of_ble_eq_true rfl, Nat.le_of_ble_eq_true rfl⟩, hts (.static yX3_at) (by decide +kernel), trivial⟩ ⟨x_blind, fun U hU hW => x_pre hU hW hK hP hD hN⟩ rfl rfl hl.1 rfl (lv_room (Nat.le_of_ble_eq_true rfl)) dX0_isInside_5 ⟨Nat.zero_le _, Nat.zero_le _⟩) (fun H locs hP hD hS => ?_)
  refine lv_iload_n hx hb dX0_isInside_8 rfl (lv_at hl 3 rfl) ?_
  refine lv_icmp_gt (tgt := 28) hx hb dX0_isInside_9 (by decide) (fun h9 => ?_) (fun h9 => ?_)
  · have hf := if_t h9 hf
    refine lv_iconst (v := (0 : Int32)) hx hb dX0_isInside_28 (by decide) ?_
    obtain ⟨hg29, hf⟩ := gd_e hf
    exact x_zret hx hb hr hlocks hg29 hK hP hD hS ⟨so_1 hf, hw0⟩ dX0_isInside_29
  · have hf := if_f h9 hf
    refine lv_aload_n hx hb dX0_isInside_12 rfl (lv_at hl 0 rfl) ?_
    refine va_get (D := (dC, dI)) (ci := 0) (v := .ref (ad 8)) (C := RX0) (T := TX0) (N := 7) hx hb hts inX0 hown hK hP 3 rfl rfl 5 (by decide) (hts (.fieldLink RX0 24 "BittenBoards$Boards" "heights" "[I") (by decide +kernel)) (fun _ h9 => h9) rfl dX0_isInside_13 ?_
    refine lv_iload_n hx hb dX0_isInside_16 rfl (lv_at hl 1 rfl) ?_
    obtain ⟨r_17, hc17, hf⟩ := bn_e hf
    refine x_calli hD hS hAA (va_runSN (host := "BittenBoards") (As := [.ref (ad 8), .int a1]) (rest := []) ⟨hx, hb, hml, hown, hts⟩ (k_xf_C_at l dC dI cI cZ cG ad H.size w 3432 (w.2.1 8) (ad 8) 8 rfl a1 r_17 w hc17 rfl) ⟨va_cnB (host := "BittenBoards") 2 hts gX0_isInside_X3_at_n51 rfl rfl rfl (hN (.methodLinkNest RX0 51 yX3_at "BittenBoards") (by decide +kernel)) (hts (.initialized RX3) (by decide +kernel)) (by decide +kernel) ⟨Nat.le_of_ble_eq_true rfl, Nat.le_of_ble_eq_true rfl⟩, hts (.static yX3_at) (by decide +kernel), trivial⟩ ⟨x_blind, fun U hU hW => x_pre hU hW hK hP hD hN⟩ rfl rfl hl.1 rfl (lv_room (Nat.le_of_ble_eq_true rfl)) dX0_isInside_17 ⟨Nat.zero_le _, Nat.zero_le _⟩) (fun H locs hP hD hS => ?_)
    refine lv_iload_n hx hb dX0_isInside_20 rfl (lv_at hl 2 rfl) ?_
    refine lv_icmp_gt (tgt := 28) hx hb dX0_isInside_21 (by decide) (fun h21 => ?_) (fun h21 => ?_)
    · have hf := if_t h21 hf
      refine lv_iconst (v := (0 : Int32)) hx hb dX0_isInside_28 (by decide) ?_
      obtain ⟨hg29, hf⟩ := gd_e hf
      exact x_zret hx hb hr hlocks hg29 hK hP hD hS ⟨so_1 hf, hw0⟩ dX0_isInside_29
    · have hf := if_f h21 hf
      refine lv_iconst (v := (1 : Int32)) hx hb dX0_isInside_24 (by decide) ?_
      refine lv_goto (tgt := 29) hx hb dX0_isInside_25 (by decide) ?_
      obtain ⟨hg29, hf⟩ := gd_e hf
      exact x_zret hx hb hr hlocks hg29 hK hP hD hS ⟨so_1 hf, hw0⟩ dX0_isInside_29
