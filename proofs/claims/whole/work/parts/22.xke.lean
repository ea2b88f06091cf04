set_option maxHeartbeats 4000000 in
set_option maxRecDepth 100000 in
theorem k_xf_B_greatestWorth (l : Launch) (dC : Nat → ClassId) (dI : Nat → Nat → Nat) (cI cZ cG : ClassId) (ad : Nat → Nat) (sz : Nat) (w : xW) (a1 : Int32) (a2 : Int32) (r0 : Int32) (w0 : xW) (hf : xf_B_greatestWorth a1 a2 w = some (r0, w0)) : Met l yX0_greatestWorth wsX0_greatestWorth ({ frames := 4, cells := 0, slots := 0, locals := 89 } : Room) (va_Pc [.ref (ad 3), .int a1, .int a2] (xPre dC dI cI cZ cG ad sz w)) (va_Qi (fun (r : Int32) (u : xW) => r = r0 ∧ u = w0) (xB dC dI cI cZ cG ad (xA ad sz)) (xA ad sz)) 0 0 (xA ad sz) := by
  refine Met.ofW (cc := cX0_greatestWorth) (maxL := 5) (ret := (some .int)) (by decide) rfl ?_
  intro p e s m args below meth c s₁ B hml hv
  obtain ⟨rfl, hsz, hP, hK, hD0, hN⟩ := hv
  have hx := B.exec
  have hb := B.bytes
  have hr := B.returns
  have hts := atoms_spec (ws := wsX0_greatestWorth) B.pre
  have hown : s.vm.findClass RX0 = some m.cls := findClass_of_methodNamed B.named
  have hlocks := B.notSynchronized
  have inX0 : ∀ w ∈ u_ws RX0 TX0 7, w ∈ wsX0_greatestWorth := by decide +kernel
  subst hsz
  have hD : va_D (xA ad s.heap.size) (xc cI cG ad w) := xD_self hD0
  have hAA : ∀ z q, s.heap.size ≤ z → xA ad z q → xA ad s.heap.size q := xA_mono
  generalize xA ad s.heap.size = A at hD hAA ⊢
  have hS : va_S A s.heap s.heap [] := va_S.rf
  have C9 : ∀ (n9 : Nat) (x1 : Int32) (x2 : Int32) (x3 : Int32) (x4 : Int32) (w : xW), xf_B_greatestWorth_C9 n9 x1 x2 x3 x4 w = some (r0, w0) → ∀ (H : Heap) (locs : List Loc) (ls : Array Slot), va_P (dC, dI) vwCl (xc cI cG ad w) H → va_D A (xc cI cG ad w) → va_S A s.heap H locs → lv_has ls 5 [(0, .ref (ad 3)), (1, .int x1), (2, .int x2), (3, .int x3), (4, .int x4)] → W p l e (headSpec wsX0_greatestWorth ({ frames := 4, cells := 0, slots := 0, locals := 89 } : Room)).room s m (List.toArray [Value.ref (ad 3), Value.int a1, Value.int a2]) below meth c H locs 0 0 (MQ below (va_Qi (fun (r : Int32) (u : xW) => r = r0 ∧ u = w0) (xB dC dI cI cZ cG ad A) A) (List.toArray [Value.ref (ad 3), Value.int a1, Value.int a2]) s 0 0 A) (F0 m 9 ls []) := by
    intro n9
    induction n9 with
    | zero => intro x1 x2 x3 x4 w hf; cases hf
    | succ n9 ih9 =>
      intro x1 x2 x3 x4 w hf H locs ls hP hD hS hl
      rw [xf_B_greatestWorth_C9] at hf
      refine lv_iload hx hb dX0_greatestWorth_9 (lv_at hl 4 rfl) ?_
      refine lv_sipush (v := (3432 : Int32)) hx hb dX0_greatestWorth_11 (by decide) ?_
      refine lv_icmp_ge (tgt := 51) hx hb dX0_greatestWorth_14 (by decide) (fun h14 => ?_) (fun h14 => ?_)
      · have hf := if_t h14 hf
        refine lv_iload_n hx hb dX0_greatestWorth_51 rfl (lv_at hl 3 rfl) ?_
        exact x_iret hx hb hr hlocks hK hP hD hS (so_2 hf) dX0_greatestWorth_52
      · have hf := if_f h14 hf
        refine lv_aload_n hx hb dX0_greatestWorth_17 rfl (lv_at hl 0 rfl) ?_
        refine lv_iload hx hb dX0_greatestWorth_18 (lv_at hl 4 rfl) ?_
        refine lv_iload_n hx hb dX0_greatestWorth_20 rfl (lv_at hl 1 rfl) ?_
        refine lv_iload_n hx hb dX0_greatestWorth_21 rfl (lv_at hl 2 rfl) ?_
        obtain ⟨r_22, hc22, hf⟩ := bn_e hf
        refine x_calli hD hS hAA (va_runV (As := [.int x4, .int x1, .int x2]) (rest := []) ⟨hx, hb, hml, hown, hts⟩ (k_xf_B_isInside l dC dI cI cZ cG ad H.size w x4 x1 x2 r_22 w hc22 rfl) (cwV 3 hts gX0_greatestWorth_X0_isInside rfl rfl rfl (by decide +kernel) ⟨Nat.le_of_ble_eq_true rfl, Nat.le_of_ble_eq_true rfl⟩) ⟨x_blind, va_recv hK hP (ci := 0) (q0 := 3) rfl rfl, fun U hU hW => x_pre hU hW hK hP hD hN⟩ rfl rfl hl.1 rfl (lv_room (Nat.le_of_ble_eq_true rfl)) dX0_greatestWorth_22 ⟨Nat.zero_le _, Nat.zero_le _⟩) (fun H locs hP hD hS => ?_)
        refine lv_if_eq (tgt := 45) hx hb dX0_greatestWorth_25 (by decide) (fun h25 => ?_) (fun h25 => ?_)
        · have hf := if_t h25 hf
          obtain ⟨x4_45, ex4_45, hf⟩ := nm_x hf
          refine lv_iinc (v := x4_45) (lv' := [(4, .int x4_45), (0, .ref (ad 3)), (1, .int x1), (2, .int x2), (3, .int x3)]) hx hb dX0_greatestWorth_45 hl (k := 4) rfl (by rw [ex4_45]; rfl) (by decide) rfl (fun ls hl => ?_)
          refine lv_goto (tgt := 9) hx hb dX0_greatestWorth_48 (by decide) ?_
          exact ih9 x1 x2 x3 x4_45 w hf _ _ _ hP hD hS (lv_sub hl [1, 2, 3, 4, 0] rfl)
        · have hf := if_f h25 hf
          refine lv_iload_n hx hb dX0_greatestWorth_28 rfl (lv_at hl 3 rfl) ?_
          refine lv_aload_n hx hb dX0_greatestWorth_29 rfl (lv_at hl 0 rfl) ?_
          refine va_get (D := (dC, dI)) (ci := 0) (v := .ref (ad 6)) (C := RX0) (T := TX0) (N := 7) hx hb hts inX0 hown hK hP 3 rfl rfl 3 (by decide) (hts (.fieldLink RX0 18 "BittenBoards$Boards" "facts" "[I") (by decide +kernel)) (fun _ h9 => h9) rfl dX0_greatestWorth_30 ?_
          refine lv_iload hx hb dX0_greatestWorth_33 (lv_at hl 4 rfl) ?_
          obtain ⟨r_35, hc35, hf⟩ := bn_e hf
          refine x_calli hD hS hAA (va_runSN (host := "BittenBoards") (As := [.ref (ad 6), .int x4]) (rest := [.int x3]) ⟨hx, hb, hml, hown, hts⟩ (k_xf_C_at l dC dI cI cZ cG ad H.size w 3432 (w.2.1 6) (ad 6) 6 rfl x4 r_35 w hc35 rfl) ⟨va_cnB (host := "BittenBoards") 2 hts gX0_greatestWorth_X3_at_n51 rfl rfl rfl (hN (.methodLinkNest RX0 51 yX3_at "BittenBoards") (by decide +kernel)) (hts (.initialized RX3) (by decide +kernel)) (by decide +kernel) ⟨Nat.le_of_ble_eq_true rfl, Nat.le_of_ble_eq_true rfl⟩, hts (.static yX3_at) (by decide +kernel), trivial⟩ ⟨x_blind, fun U hU hW => x_pre hU hW hK hP hD hN⟩ rfl rfl hl.1 rfl (lv_room (Nat.le_of_ble_eq_true rfl)) dX0_greatestWorth_35 ⟨Nat.zero_le _, Nat.zero_le _⟩) (fun H locs hP hD hS => ?_)
          obtain ⟨r_38, hc38, hf⟩ := bn_e hf
          refine x_calli hD hS hAA (va_runSN (host := "BittenBoards") (As := [.int r_35]) (rest := [.int x3]) ⟨hx, hb, hml, hown, hts⟩ (k_xf_C_worthIn l dC dI cI cZ cG ad H.size w r_35 r_38 w hc38 rfl) ⟨va_cnB (host := "BittenBoards") 1 hts gX0_greatestWorth_X3_worthIn_n69 rfl rfl rfl (hN (.methodLinkNest RX0 69 yX3_worthIn "BittenBoards") (by decide +kernel)) (hts (.initialized RX3) (by decide +kernel)) (by decide +kernel) ⟨Nat.le_of_ble_eq_true rfl, Nat.le_of_ble_eq_true rfl⟩, hts (.static yX3_worthIn) (by decide +kernel), trivial⟩ ⟨x_blind, fun U hU hW => x_pre hU hW hK hP hD hN⟩ rfl rfl hl.1 rfl (lv_room (Nat.le_of_ble_eq_true rfl)) dX0_greatestWorth_38 ⟨Nat.zero_le _, Nat.zero_le _⟩) (fun H locs hP hD hS => ?_)
          obtain ⟨r_41, er_41, hf⟩ := nm_x hf
          refine va_mmax hx hb (by rw [hml]; exact hl.1.symm) hown (hts (.methodLink RX0 73 Lib.Math.max.name) (by decide +kernel)) (hts (.static Lib.Math.max.name) (by decide +kernel)) (hts (.initialized "java/lang/Math") (by decide +kernel)) (hts (.code Lib.Math.max.name Lib.Math.max.code 2 (some .int)) (by decide +kernel)) (Nat.le_of_ble_eq_true rfl) (Nat.le_of_ble_eq_true rfl) (Nat.zero_le _) (Nat.zero_le _) dX0_greatestWorth_41 ?_
          refine W.eq (g2 := F0 m 44 ls [.int r_41]) (by rw [er_41]; rfl) ?_
          refine lv_istore_n (lv' := [(3, .int r_41), (0, .ref (ad 3)), (1, .int x1), (2, .int x2), (4, .int x4)]) hx hb dX0_greatestWorth_44 rfl hl (by decide) rfl (fun ls hl => ?_)
          obtain ⟨x4_45, ex4_45, hf⟩ := nm_x hf
          refine lv_iinc (v := x4_45) (lv' := [(4, .int x4_45), (3, .int r_41), (0, .ref (ad 3)), (1, .int x1), (2, .int x2)]) hx hb dX0_greatestWorth_45 hl (k := 4) rfl (by rw [ex4_45]; rfl) (by decide) rfl (fun ls hl => ?_)
          refine lv_goto (tgt := 9) hx hb dX0_greatestWorth_48 (by decide) ?_
          exact ih9 x1 x2 r_41 x4_45 w hf _ _ _ hP hD hS (lv_sub hl [2, 3, 4, 1, 0] rfl)
  have hl := lv_entry ([.ref (ad 3), .int a1, .int a2]) (n := 5) (Nat.le_of_ble_eq_true rfl)
  rw [lg_entry_eq]
  generalize (lg_sl ([.ref (ad 3), .int a1, .int a2]) ++ List.replicate (5 - (lg_sl ([.ref (ad 3), .int a1, .int a2])).length) Slot.unset).toArray = ls at hl ⊢
  have hl : lv_has ls 5 [(0, .ref (ad 3)), (1, .int a1), (2, .int a2)] := hl
  unfold xf_B_greatestWorth at hf
  refine lv_aload_n hx hb dX0_greatestWorth_0 rfl (lv_at hl 0 rfl) ?_
  obtain ⟨w_1, hc1, hf⟩ := bn_e hf
  refine x_callv hD hS hAA (va_runV (As := []) (rest := []) ⟨hx, hb, hml, hown, hts⟩ (k_xf_B_solve l dC dI cI cZ cG ad s.heap.size w  w_1 hc1) (cwV 0 hts gX0_greatestWorth_X0_solve rfl rfl rfl (by decide +kernel) ⟨Nat.le_of_ble_eq_true rfl, Nat.le_of_ble_eq_true rfl⟩) ⟨x_blind, va_recv hK hP (ci := 0) (q0 := 3) rfl rfl, fun U hU hW => x_pre hU hW hK hP hD hN⟩ rfl rfl hl.1 rfl (lv_room (Nat.le_of_ble_eq_true rfl)) dX0_greatestWorth_1 ⟨Nat.zero_le _, Nat.zero_le _⟩) (fun H locs hP hD hS => ?_)
  refine lv_iconst (v := (0 : Int32)) hx hb dX0_greatestWorth_4 (by decide) ?_
  refine lv_istore_n (lv' := [(3, .int (0 : Int32)), (0, .ref (ad 3)), (1, .int a1), (2, .int a2)]) hx hb dX0_greatestWorth_5 rfl hl (by decide) rfl (fun ls hl => ?_)
  refine lv_iconst (v := (0 : Int32)) hx hb dX0_greatestWorth_6 (by decide) ?_
  refine lv_istore (lv' := [(4, .int (0 : Int32)), (3, .int (0 : Int32)), (0, .ref (ad 3)), (1, .int a1), (2, .int a2)]) hx hb dX0_greatestWorth_7 hl (by decide) rfl (fun ls hl => ?_)
  exact C9 fu a1 a2 (0 : Int32) (0 : Int32) w_1 hf _ _ _ hP hD hS (lv_sub hl [2, 3, 4, 1, 0] rfl)
set_option maxHeartbeats 4000000 in
set_option maxRecDepth 100000 in
theorem k_xf_B_countWithin (l : Launch) (dC : Nat → ClassId) (dI : Nat → Nat → Nat) (cI cZ cG : ClassId) (ad : Nat → Nat) (sz : Nat) (w : xW) (a1 : Int32) (a2 : Int32) (a3 : Int32) (r0 : Int32) (w0 : xW) (hf : xf_B_countWithin a1 a2 a3 w = some (r0, w0)) : Met l yX0_countWithin wsX0_countWithin ({ frames := 4, cells := 0, slots := 0, locals := 89 } : Room) (va_Pc [.ref (ad 3), .int a1, .int a2, .int a3] (xPre dC dI cI cZ cG ad sz w)) (va_Qi (fun (r : Int32) (u : xW) => r = r0 ∧ u = w0) (xB dC dI cI cZ cG ad (xA ad sz)) (xA ad sz)) 0 0 (xA ad sz) := by
  refine Met.ofW (cc := cX0_countWithin) (maxL := 7) (ret := (some .int)) (by decide) rfl ?_
  intro p e s m args below meth c s₁ B hml hv
  obtain ⟨rfl, hsz, hP, hK, hD0, hN⟩ := hv
  have hx := B.exec
  have hb := B.bytes
  have hr := B.returns
  have hts := atoms_spec (ws := wsX0_countWithin) B.pre
  have hown : s.vm.findClass RX0 = some m.cls := findClass_of_methodNamed B.named
  have hlocks := B.notSynchronized
  have inX0 : ∀ w ∈ u_ws RX0 TX0 7, w ∈ wsX0_countWithin := by decide +kernel
  subst hsz
  have hD : va_D (xA ad s.heap.size) (xc cI cG ad w) := xD_self hD0
  have hAA : ∀ z q, s.heap.size ≤ z → xA ad z q → xA ad s.heap.size q := xA_mono
  generalize xA ad s.heap.size = A at hD hAA ⊢
  have hS : va_S A s.heap s.heap [] := va_S.rf
  have C10 : ∀ (n10 : Nat) (x1 : Int32) (x2 : Int32) (x3 : Int32) (x4 : Int32) (x5 : Int32) (w : xW), xf_B_countWithin_C10 n10 x1 x2 x3 x4 x5 w = some (r0, w0) → ∀ (H : Heap) (locs : List Loc) (ls : Array Slot), va_P (dC, dI) vwCl (xc cI cG ad w) H → va_D A (xc cI cG ad w) → va_S A s.heap H locs → lv_has ls 7 [(0, .ref (ad 3)), (1, .int x1), (2, .int x2), (3, .int x3), (4, .int x4), (5, .int x5)] → W p l e (headSpec wsX0_countWithin ({ frames := 4, cells := 0, slots := 0, locals := 89 } : Room)).room s m (List.toArray [Value.ref (ad 3), Value.int a1, Value.int a2, Value.int a3]) below meth c H locs 0 0 (MQ below (va_Qi (fun (r : Int32) (u : xW) => r = r0 ∧ u = w0) (xB dC dI cI cZ cG ad A) A) (List.toArray [Value.ref (ad 3), Value.int a1, Value.int a2, Value.int a3]) s 0 0 A) (F0 m 10 ls []) := by
    intro n10
    induction n10 with
    | zero => intro x1 x2 x3 x4 x5 w hf; cases hf
    | succ n10 ih10 =>
      have C43 : ∀ (x1 : Int32) (x2 : Int32) (x3 : Int32) (x4 : Int32) (x5 : Int32) (t0 : Int32) (w : xW), xf_B_countWithin_C43 (xf_B_countWithin_C10 n10) x1 x2 x3 x4 x5 t0 w = some (r0, w0) → ∀ (H : Heap) (locs : List Loc) (ls : Array Slot), va_P (dC, dI) vwCl (xc cI cG ad w) H → va_D A (xc cI cG ad w) → va_S A s.heap H locs → lv_has ls 7 [(0, .ref (ad 3)), (1, .int x1), (2, .int x2), (3, .int x3), (4, .int x4), (5, .int x5)] → W p l e (headSpec wsX0_countWithin ({ frames := 4, cells := 0, slots := 0, locals := 89 } : Room)).room s m (List.toArray [Value.ref (ad 3), Value.int a1, Value.int a2, Value.int a3]) below meth c H locs 0 0 (MQ below (va_Qi (fun (r : Int32) (u : xW) => r = r0 ∧ u = w0) (xB dC dI cI cZ cG ad A) A) (List.toArray [Value.ref (ad 3), Value.int a1, Value.int a2, Value.int a3]) s 0 0 A) (F0 m 43 ls [.int t0]) := by
        intro x1 x2 x3 x4 x5 t0 w hf H locs ls hP hD hS hl
        unfold xf_B_countWithin_C43 at hf
        refine lv_istore (lv' := [(6, .int t0), (0, .ref (ad 3)), (1, .int x1), (2, .int x2), (3, .int x3), (4, .int x4), (5, .int x5)]) hx hb dX0_countWithin_43 hl (by decide) rfl (fun ls hl => ?_)
        refine lv_aload_n hx hb dX0_countWithin_45 rfl (lv_at hl 1 rfl) ?_
        refine lv_iload hx hb dX0_countWithin_46 (lv_at hl 6 rfl) ?_
        refine lv_iload_n hx hb dX0_countWithin_48 rfl (lv_at hl 2 rfl) ?_
        refine lv_iload_n hx hb dX0_countWithin_49 rfl (lv_at hl 3 rfl) ?_
        obtain ⟨r_50, hc50, hf⟩ := bn_e hf
        refine x_calli hD hS hAA (va_runV (As := [.int x5, .int x1, .int x2]) (rest := []) ⟨hx, hb, hml, hown, hts⟩ (k_xf_B_isInside l dC dI cI cZ cG ad H.size w x5 x1 x2 r_50 w hc50 rfl) (cwV 3 hts gX0_countWithin_X0_isInside rfl rfl rfl (by decide +kernel) ⟨Nat.le_of_ble_eq_true rfl, Nat.le_of_ble_eq_true rfl⟩) ⟨x_blind, va_recv hK hP (ci := 0) (q0 := 3) rfl rfl, fun U hU hW => x_pre hU hW hK hP hD hN⟩ rfl rfl hl.1 rfl (lv_room (Nat.le_of_ble_eq_true rfl)) dX0_countWithin_50 ⟨Nat.zero_le _, Nat.zero_le _⟩) (fun H locs hP hD hS => ?_)
        refine lv_if_eq (tgt := 68) hx hb dX0_countWithin_53 (by decide) (fun h53 => ?_) (fun h53 => ?_)
        · have hf := if_t h53 hf
          obtain ⟨x5_68, ex5_68, hf⟩ := nm_x hf
          refine lv_iinc (v := x5_68) (lv' := [(5, .int x5_68), (6, .int t0), (0, .ref (ad 3)), (1, .int x1), (2, .int x2), (3, .int x3), (4, .int x4)]) hx hb dX0_countWithin_68 hl (k := 6) rfl (by rw [ex5_68]; rfl) (by decide) rfl (fun ls hl => ?_)
          refine lv_goto (tgt := 10) hx hb dX0_countWithin_71 (by decide) ?_
          exact ih10 x1 x2 x3 x4 x5_68 w hf _ _ _ hP hD hS (lv_sub hl [2, 3, 4, 5, 6, 0] rfl)
        · have hf := if_f h53 hf
          refine lv_iload hx hb dX0_countWithin_56 (lv_at hl 0 rfl) ?_
          refine lv_if_ne (tgt := 65) hx hb dX0_countWithin_58 (by decide) (fun h58 => ?_) (fun h58 => ?_)
          · have hf := if_f h58 hf
            obtain ⟨x4_65, ex4_65, hf⟩ := nm_x hf
            refine lv_iinc (v := x4_65) (lv' := [(4, .int x4_65), (6, .int t0), (0, .ref (ad 3)), (1, .int x1), (2, .int x2), (3, .int x3), (5, .int x5)]) hx hb dX0_countWithin_65 hl (k := 5) rfl (by rw [ex4_65]; rfl) (by decide) rfl (fun ls hl => ?_)
            obtain ⟨x5_68, ex5_68, hf⟩ := nm_x hf
            refine lv_iinc (v := x5_68) (lv' := [(5, .int x5_68), (4, .int x4_65), (6, .int t0), (0, .ref (ad 3)), (1, .int x1), (2, .int x2), (3, .int x3)]) hx hb dX0_countWithin_68 hl (k := 6) rfl (by rw [ex5_68]; rfl) (by decide) rfl (fun ls hl => ?_)
            refine lv_goto (tgt := 10) hx hb dX0_countWithin_71 (by decide) ?_
            exact ih10 x1 x2 x3 x4_65 x5_68 w hf _ _ _ hP hD hS (lv_sub hl [3, 4, 5, 6, 1, 0] rfl)
          · have hf := if_t h58 hf
            refine lv_iload_n hx hb dX0_countWithin_61 rfl (lv_at hl 4 rfl) ?_
            refine lv_if_ne (tgt := 68) hx hb dX0_countWithin_62 (by decide) (fun h62 => ?_) (fun h62 => ?_)
            · have hf := if_f h62 hf
              obtain ⟨x5_68, ex5_68, hf⟩ := nm_x hf
              refine lv_iinc (v := x5_68) (lv' := [(5, .int x5_68), (6, .int t0), (0, .ref (ad 3)), (1, .int x1), (2, .int x2), (3, .int x3), (4, .int x4)]) hx hb dX0_countWithin_68 hl (k := 6) rfl (by rw [ex5_68]; rfl) (by decide) rfl (fun ls hl => ?_)
              refine lv_goto (tgt := 10) hx hb dX0_countWithin_71 (by decide) ?_
              exact ih10 x1 x2 x3 x4 x5_68 w hf _ _ _ hP hD hS (lv_sub hl [2, 3, 4, 5, 6, 0] rfl)
            · have hf := if_t h62 hf
              obtain ⟨x4_65, ex4_65, hf⟩ := nm_x hf
              refine lv_iinc (v := x4_65) (lv' := [(4, .int x4_65), (6, .int t0), (0, .ref (ad 3)), (1, .int x1), (2, .int x2), (3, .int x3), (5, .int x5)]) hx hb dX0_countWithin_65 hl (k := 5) rfl (by rw [ex4_65]; rfl) (by decide) rfl (fun ls hl => ?_)
              obtain ⟨x5_68, ex5_68, hf⟩ := nm_x hf
              refine lv_iinc (v := x5_68) (lv' := [(5, .int x5_68), (4, .int x4_65), (6, .int t0), (0, .ref (ad 3)), (1, .int x1), (2, .int x2), (3, .int x3)]) hx hb dX0_countWithin_68 hl (k := 6) rfl (by rw [ex5_68]; rfl) (by decide) rfl (fun ls hl => ?_)
              refine lv_goto (tgt := 10) hx hb dX0_countWithin_71 (by decide) ?_
              exact ih10 x1 x2 x3 x4_65 x5_68 w hf _ _ _ hP hD hS (lv_sub hl [3, 4, 5, 6, 1, 0] rfl)
      intro x1 x2 x3 x4 x5 w hf H locs ls hP hD hS hl
      rw [xf_B_countWithin_C10] at hf
      refine lv_iload hx hb dX0_countWithin_10 (lv_at hl 5 rfl) ?_
      refine lv_sipush (v := (3432 : Int32)) hx hb dX0_countWithin_12 (by decide) ?_
      refine lv_icmp_ge (tgt := 74) hx hb dX0_countWithin_15 (by decide) (fun h15 => ?_) (fun h15 => ?_)
      · have hf := if_t h15 hf
        refine lv_iload hx hb dX0_countWithin_74 (lv_at hl 4 rfl) ?_
        exact x_iret hx hb hr hlocks hK hP hD hS (so_2 hf) dX0_countWithin_76
      · have hf := if_f h15 hf
        refine lv_aload_n hx hb dX0_countWithin_18 rfl (lv_at hl 0 rfl) ?_
        refine va_get (D := (dC, dI)) (ci := 0) (v := .ref (ad 6)) (C := RX0) (T := TX0) (N := 7) hx hb hts inX0 hown hK hP 3 rfl rfl 3 (by decide) (hts (.fieldLink RX0 18 "BittenBoards$Boards" "facts" "[I") (by decide +kernel)) (fun _ h9 => h9) rfl dX0_countWithin_19 ?_
        refine lv_iload hx hb dX0_countWithin_22 (lv_at hl 5 rfl) ?_
        obtain ⟨r_24, hc24, hf⟩ := bn_e hf
        refine x_calli hD hS hAA (va_runSN (host := "BittenBoards") (As := [.ref (ad 6), .int x5]) (rest := []) ⟨hx, hb, hml, hown, hts⟩ (k_xf_C_at l dC dI cI cZ cG ad H.size w 3432 (w.2.1 6) (ad 6) 6 rfl x5 r_24 w hc24 rfl) ⟨va_cnB (host := "BittenBoards") 2 hts gX0_countWithin_X3_at_n51 rfl rfl rfl (hN (.methodLinkNest RX0 51 yX3_at "BittenBoards") (by decide +kernel)) (hts (.initialized RX3) (by decide +kernel)) (by decide +kernel) ⟨Nat.le_of_ble_eq_true rfl, Nat.le_of_ble_eq_true rfl⟩, hts (.static yX3_at) (by decide +kernel), trivial⟩ ⟨x_blind, fun U hU hW => x_pre hU hW hK hP hD hN⟩ rfl rfl hl.1 rfl (lv_room (Nat.le_of_ble_eq_true rfl)) dX0_countWithin_24 ⟨Nat.zero_le _, Nat.zero_le _⟩) (fun H locs hP hD hS => ?_)
        refine lv_iconst (v := (0 : Int32)) hx hb dX0_countWithin_27 (by decide) ?_
        obtain ⟨r_28, hc28, hf⟩ := bn_e hf
        refine x_calli hD hS hAA (va_runSN (host := "BittenBoards") (As := [.int r_24, .int (0 : Int32)]) (rest := []) ⟨hx, hb, hml, hown, hts⟩ (k_xf_C_lengthIn l dC dI cI cZ cG ad H.size w r_24 (0 : Int32) r_28 w hc28 rfl) ⟨va_cnB (host := "BittenBoards") 2 hts gX0_countWithin_X3_lengthIn_n58 rfl rfl rfl (hN (.methodLinkNest RX0 58 yX3_lengthIn "BittenBoards") (by decide +kernel)) (hts (.initialized RX3) (by decide +kernel)) (by decide +kernel) ⟨Nat.le_of_ble_eq_true rfl, Nat.le_of_ble_eq_true rfl⟩, hts (.static yX3_lengthIn) (by decide +kernel), trivial⟩ ⟨x_blind, fun U hU hW => x_pre hU hW hK hP hD hN⟩ rfl rfl hl.1 rfl (lv_room (Nat.le_of_ble_eq_true rfl)) dX0_countWithin_28 ⟨Nat.zero_le _, Nat.zero_le _⟩) (fun H locs hP hD hS => ?_)
        refine lv_iconst (v := (0 : Int32)) hx hb dX0_countWithin_31 (by decide) ?_
        obtain ⟨r_32, hc32, hf⟩ := bn_e hf
        refine x_calli hD hS hAA (va_runSN (host := "BittenBoards") (As := [.int r_28, .int (0 : Int32)]) (rest := []) ⟨hx, hb, hml, hown, hts⟩ (k_xf_C_isWon l dC dI cI cZ cG ad H.size w r_28 (0 : Int32) r_32 w hc32 rfl) ⟨va_cnB (host := "BittenBoards") 2 hts gX0_countWithin_X3_isWon_n61 rfl rfl rfl (hN (.methodLinkNest RX0 61 yX3_isWon "BittenBoards") (by decide +kernel)) (hts (.initialized RX3) (by decide +kernel)) (by decide +kernel) ⟨Nat.le_of_ble_eq_true rfl, Nat.le_of_ble_eq_true rfl⟩, hts (.static yX3_isWon) (by decide +kernel), trivial⟩ ⟨x_blind, fun U hU hW => x_pre hU hW hK hP hD hN⟩ rfl rfl hl.1 rfl (lv_room (Nat.le_of_ble_eq_true rfl)) dX0_countWithin_32 ⟨Nat.zero_le _, Nat.zero_le _⟩) (fun H locs hP hD hS => ?_)
        refine lv_if_ne (tgt := 42) hx hb dX0_countWithin_35 (by decide) (fun h35 => ?_) (fun h35 => ?_)
        · have hf := if_f h35 hf
          refine lv_iconst (v := (0 : Int32)) hx hb dX0_countWithin_42 (by decide) ?_
          exact C43 x1 x2 x3 x4 x5 (0 : Int32) w hf _ _ _ hP hD hS (lv_sub hl [0, 1, 2, 3, 4, 5] rfl)
        · have hf := if_t h35 hf
          refine lv_iconst (v := (1 : Int32)) hx hb dX0_countWithin_38 (by decide) ?_
          refine lv_goto (tgt := 43) hx hb dX0_countWithin_39 (by decide) ?_
          exact C43 x1 x2 x3 x4 x5 (1 : Int32) w hf _ _ _ hP hD hS (lv_sub hl [0, 1, 2, 3, 4, 5] rfl)
  have hl := lv_entry ([.ref (ad 3), .int a1, .int a2, .int a3]) (n := 7) (Nat.le_of_ble_eq_true rfl)
  rw [lg_entry_eq]
  generalize (lg_sl ([.ref (ad 3), .int a1, .int a2, .int a3]) ++ List.replicate (7 - (lg_sl ([.ref (ad 3), .int a1, .int a2, .int a3])).length) Slot.unset).toArray = ls at hl ⊢
  have hl : lv_has ls 7 [(0, .ref (ad 3)), (1, .int a1), (2, .int a2), (3, .int a3)] := hl
  unfold xf_B_countWithin at hf
  refine lv_aload_n hx hb dX0_countWithin_0 rfl (lv_at hl 0 rfl) ?_
  obtain ⟨w_1, hc1, hf⟩ := bn_e hf
  refine x_callv hD hS hAA (va_runV (As := []) (rest := []) ⟨hx, hb, hml, hown, hts⟩ (k_xf_B_solve l dC dI cI cZ cG ad s.heap.size w  w_1 hc1) (cwV 0 hts gX0_countWithin_X0_solve rfl rfl rfl (by decide +kernel) ⟨Nat.le_of_ble_eq_true rfl, Nat.le_of_ble_eq_true rfl⟩) ⟨x_blind, va_recv hK hP (ci := 0) (q0 := 3) rfl rfl, fun U hU hW => x_pre hU hW hK hP hD hN⟩ rfl rfl hl.1 rfl (lv_room (Nat.le_of_ble_eq_true rfl)) dX0_countWithin_1 ⟨Nat.zero_le _, Nat.zero_le _⟩) (fun H locs hP hD hS => ?_)
  refine lv_iconst (v := (0 : Int32)) hx hb dX0_countWithin_4 (by decide) ?_
  refine lv_istore (lv' := [(4, .int (0 : Int32)), (0, .ref (ad 3)), (1, .int a1), (2, .int a2), (3, .int a3)]) hx hb dX0_countWithin_5 hl (by decide) rfl (fun ls hl => ?_)
  refine lv_iconst (v := (0 : Int32)) hx hb dX0_countWithin_7 (by decide) ?_
  refine lv_istore (lv' := [(5, .int (0 : Int32)), (4, .int (0 : Int32)), (0, .ref (ad 3)), (1, .int a1), (2, .int a2), (3, .int a3)]) hx hb dX0_countWithin_8 hl (by decide) rfl (fun ls hl => ?_)
  exact C10 fu a1 a2 a3 (0 : Int32) (0 : Int32) w_1 hf _ _ _ hP hD hS (lv_sub hl [2, 3, 4, 5, 1, 0] rfl)
set_option maxHeartbeats 4000000 in
set_option maxRecDepth 100000 in
theorem k_xf_C_boards (l : Launch) (dC : Nat → ClassId) (dI : Nat → Nat → Nat) (cI cZ cG : ClassId) (ad : Nat → Nat) (sz : Nat) (w : xW) (a1 : Int32) (a2 : Int32) (a3 : Int32) (r0 : Int32) (w0 : xW) (hf : xf_C_boards a1 a2 a3 w = some (r0, w0)) : Met l yX3_boards wsX3_boards ({ frames := 5, cells := 0, slots := 0, locals := 115 } : Room) (va_Pc [.ref (ad 0), .int a1, .int a2, .int a3] (xPre dC dI cI cZ cG ad sz w)) (va_Qi (fun (r : Int32) (u : xW) => r = r0 ∧ u = w0) (xB dC dI cI cZ cG ad (xA ad sz)) (xA ad sz)) 0 0 (xA ad sz) := by
  refine Met.ofW (cc := cX3_boards) (maxL := 4) (ret := (some .int)) (by decide) rfl ?_
  intro p e s m args below meth c s₁ B hml hv
  obtain ⟨rfl, hsz, hP, hK, hD0, hN⟩ := hv
  have hx := B.exec
  have hb := B.bytes
  have hr := B.returns
  have hts := atoms_spec (ws := wsX3_boards) B.pre
  have hown : s.vm.findClass RX3 = some m.cls := findClass_of_methodNamed B.named
  have hlocks := B.notSynchronized
  have inX3 : ∀ w ∈ u_ws RX3 TX3 4, w ∈ wsX3_boards := by decide +kernel
  subst hsz
  have hD : va_D (xA ad s.heap.size) (xc cI cG ad w) := xD_self hD0
  have hAA : ∀ z q, s.heap.size ≤ z → xA ad z q → xA ad s.heap.size q := xA_mono
  generalize xA ad s.heap.size = A at hD hAA ⊢
  have hS : va_S A s.heap s.heap [] := va_S.rf
  have C66 : ∀ (t1 : Int32) (t2 : Int32) (t3 : Int32) (w : xW), xf_C_boards_C66 t1 t2 t3 w = some (r0, w0) → ∀ (H : Heap) (locs : List Loc) (ls : Array Slot), va_P (dC, dI) vwCl (xc cI cG ad w) H → va_D A (xc cI cG ad w) → va_S A s.heap H locs → lv_has ls 4 [] → W p l e (headSpec wsX3_boards ({ frames := 5, cells := 0, slots := 0, locals := 115 } : Room)).room s m (List.toArray [Value.ref (ad 0), Value.int a1, Value.int a2, Value.int a3]) below meth c H locs 0 0 (MQ below (va_Qi (fun (r : Int32) (u : xW) => r = r0 ∧ u = w0) (xB dC dI cI cZ cG ad A) A) (List.toArray [Value.ref (ad 0), Value.int a1, Value.int a2, Value.int a3]) s 0 0 A) (F0 m 66 ls [.int t3, .int t2, .int t1, .ref (ad 3)]) := by
    intro t1 t2 t3 w hf H locs ls hP hD hS hl
    unfold xf_C_boards_C66 at hf
    obtain ⟨r_66, w_66, hc66, hf⟩ := bn2_e hf
    refine x_calli hD hS hAA (va_runV (As := [.int t1, .int t2, .int t3]) (rest := []) ⟨hx, hb, hml, hown, hts⟩ (k_xf_B_countWithin l dC dI cI cZ cG ad H.size w t1 t2 t3 r_66 w_66 hc66) (cwV 3 hts gX3_boards_X0_countWithin rfl rfl rfl (by decide +kernel) ⟨Nat.le_of_ble_eq_true rfl, Nat.le_of_ble_eq_true rfl⟩) ⟨x_blind, va_recv hK hP (ci := 0) (q0 := 3) rfl rfl, fun U hU hW => x_pre hU hW hK hP hD hN⟩ rfl rfl hl.1 rfl (lv_room (Nat.le_of_ble_eq_true rfl)) dX3_boards_66 ⟨Nat.zero_le _, Nat.zero_le _⟩) (fun H locs hP hD hS => ?_)
    exact x_iret hx hb hr hlocks hK hP hD hS (so_2 hf) dX3_boards_69
  have hl := lv_entry ([.ref (ad 0), .int a1, .int a2, .int a3]) (n := 4) (Nat.le_of_ble_eq_true rfl)
  rw [lg_entry_eq]
  generalize (lg_sl ([.ref (ad 0), .int a1, .int a2, .int a3]) ++ List.replicate (4 - (lg_sl ([.ref (ad 0), .int a1, .int a2, .int a3])).length) Slot.unset).toArray = ls at hl ⊢
  have hl : lv_has ls 4 [(0, .ref (ad 0)), (1, .int a1), (2, .int a2), (3, .int a3)] := hl
  unfold xf_C_boards at hf
  refine lv_iload_n hx hb dX3_boards_0 rfl (lv_at hl 1 rfl) ?_
  refine lv_iconst (v := (0 : Int32)) hx hb dX3_boards_1 (by decide) ?_
  refine lv_bipush (v := (7 : Int32)) hx hb dX3_boards_2 (by decide) ?_
  obtain ⟨r_4, hc4, hf⟩ := bn_e hf
  refine x_calli hD hS hAA (va_runS (As := [.int a1, .int (0 : Int32), .int (7 : Int32)]) (rest := []) ⟨hx, hb, hml, hown, hts⟩ (k_xf_C_isWithin l dC dI cI cZ cG ad s.heap.size w a1 (0 : Int32) (7 : Int32) r_4 w hc4 rfl) (va_cwS 3 hts gX3_boards_X3_isWithin rfl rfl rfl (by decide +kernel) ⟨Nat.le_of_ble_eq_true rfl, Nat.le_of_ble_eq_true rfl⟩) ⟨x_blind, fun U hU hW => x_pre hU hW hK hP hD hN⟩ rfl rfl hl.1 rfl (lv_room (Nat.le_of_ble_eq_true rfl)) dX3_boards_4 ⟨Nat.zero_le _, Nat.zero_le _⟩) (fun H locs hP hD hS => ?_)
  refine lv_if_eq (tgt := 29) hx hb dX3_boards_7 (by decide) (fun h7 => ?_) (fun h7 => ?_)
  · have hf := if_t h7 hf
    refine lv_sipush (v := (-1002 : Int32)) hx hb dX3_boards_29 (by decide) ?_
    exact x_iret hx hb hr hlocks hK hP hD hS (so_2 hf) dX3_boards_32
  · have hf := if_f h7 hf
    refine lv_iload_n hx hb dX3_boards_10 rfl (lv_at hl 2 rfl) ?_
    refine lv_iconst (v := (0 : Int32)) hx hb dX3_boards_11 (by decide) ?_
    refine lv_bipush (v := (7 : Int32)) hx hb dX3_boards_12 (by decide) ?_
    obtain ⟨r_14, hc14, hf⟩ := bn_e hf
    refine x_calli hD hS hAA (va_runS (As := [.int a2, .int (0 : Int32), .int (7 : Int32)]) (rest := []) ⟨hx, hb, hml, hown, hts⟩ (k_xf_C_isWithin l dC dI cI cZ cG ad H.size w a2 (0 : Int32) (7 : Int32) r_14 w hc14 rfl) (va_cwS 3 hts gX3_boards_X3_isWithin rfl rfl rfl (by decide +kernel) ⟨Nat.le_of_ble_eq_true rfl, Nat.le_of_ble_eq_true rfl⟩) ⟨x_blind, fun U hU hW => x_pre hU hW hK hP hD hN⟩ rfl rfl hl.1 rfl (lv_room (Nat.le_of_ble_eq_true rfl)) dX3_boards_14 ⟨Nat.zero_le _, Nat.zero_le _⟩) (fun H locs hP hD hS => ?_)
    refine lv_if_eq (tgt := 29) hx hb dX3_boards_17 (by decide) (fun h17 => ?_) (fun h17 => ?_)
    · have hf := if_t h17 hf
      refine lv_sipush (v := (-1002 : Int32)) hx hb dX3_boards_29 (by decide) ?_
      exact x_iret hx hb hr hlocks hK hP hD hS (so_2 hf) dX3_boards_32
    · have hf := if_f h17 hf
      refine lv_iload_n hx hb dX3_boards_20 rfl (lv_at hl 3 rfl) ?_
      refine lv_iconst (v := (0 : Int32)) hx hb dX3_boards_21 (by decide) ?_
      refine lv_iconst (v := (2 : Int32)) hx hb dX3_boards_22 (by decide) ?_
      obtain ⟨r_23, hc23, hf⟩ := bn_e hf
      refine x_calli hD hS hAA (va_runS (As := [.int a3, .int (0 : Int32), .int (2 : Int32)]) (rest := []) ⟨hx, hb, hml, hown, hts⟩ (k_xf_C_isWithin l dC dI cI cZ cG ad H.size w a3 (0 : Int32) (2 : Int32) r_23 w hc23 rfl) (va_cwS 3 hts gX3_boards_X3_isWithin rfl rfl rfl (by decide +kernel) ⟨Nat.le_of_ble_eq_true rfl, Nat.le_of_ble_eq_true rfl⟩) ⟨x_blind, fun U hU hW => x_pre hU hW hK hP hD hN⟩ rfl rfl hl.1 rfl (lv_room (Nat.le_of_ble_eq_true rfl)) dX3_boards_23 ⟨Nat.zero_le _, Nat.zero_le _⟩) (fun H locs hP hD hS => ?_)
      refine lv_if_ne (tgt := 33) hx hb dX3_boards_26 (by decide) (fun h26 => ?_) (fun h26 => ?_)
      · have hf := if_f h26 hf
        refine lv_iload_n hx hb dX3_boards_33 rfl (lv_at hl 3 rfl) ?_
        refine lv_iconst (v := (2 : Int32)) hx hb dX3_boards_34 (by decide) ?_
        refine lv_icmp_ne (tgt := 50) hx hb dX3_boards_35 (by decide) (fun h35 => ?_) (fun h35 => ?_)
        · have hf := if_f h35 hf
          refine lv_aload_n hx hb dX3_boards_50 rfl (lv_at hl 0 rfl) ?_
          refine va_get (D := (dC, dI)) (ci := 3) (v := .ref (ad 3)) (C := RX3) (T := TX3) (N := 4) hx hb hts inX3 hown hK hP 0 rfl rfl 0 (by decide) (hts (.fieldLink RX3 27 "BittenBoards" "boards" "LBittenBoards$Boards;") (by decide +kernel)) (fun _ h9 => h9) rfl dX3_boards_51 ?_
          refine lv_iload_n hx hb dX3_boards_54 rfl (lv_at hl 1 rfl) ?_
          refine lv_iload_n hx hb dX3_boards_55 rfl (lv_at hl 2 rfl) ?_
          refine lv_iload_n hx hb dX3_boards_56 rfl (lv_at hl 3 rfl) ?_
          refine lv_iconst (v := (1 : Int32)) hx hb dX3_boards_57 (by decide) ?_
          refine lv_icmp_ne (tgt := 65) hx hb dX3_boards_58 (by decide) (fun h58 => ?_) (fun h58 => ?_)
          · have hf := if_f h58 hf
            refine lv_iconst (v := (0 : Int32)) hx hb dX3_boards_65 (by decide) ?_
            exact C66 a1 a2 (0 : Int32) w hf _ _ _ hP hD hS (lv_sub hl [] rfl)
          · have hf := if_t h58 hf
            refine lv_iconst (v := (1 : Int32)) hx hb dX3_boards_61 (by decide) ?_
            refine lv_goto (tgt := 66) hx hb dX3_boards_62 (by decide) ?_
            exact C66 a1 a2 (1 : Int32) w hf _ _ _ hP hD hS (lv_sub hl [] rfl)
        · have hf := if_t h35 hf
          refine lv_aload_n hx hb dX3_boards_38 rfl (lv_at hl 0 rfl) ?_
          refine va_get (D := (dC, dI)) (ci := 3) (v := .ref (ad 3)) (C := RX3) (T := TX3) (N := 4) hx hb hts inX3 hown hK hP 0 rfl rfl 0 (by decide) (hts (.fieldLink RX3 27 "BittenBoards" "boards" "LBittenBoards$Boards;") (by decide +kernel)) (fun _ h9 => h9) rfl dX3_boards_39 ?_
          refine lv_iload_n hx hb dX3_boards_42 rfl (lv_at hl 1 rfl) ?_
          refine lv_iload_n hx hb dX3_boards_43 rfl (lv_at hl 2 rfl) ?_
          obtain ⟨r_44, w_44, hc44, hf⟩ := bn2_e hf
          refine x_calli hD hS hAA (va_runV (As := [.int a1, .int a2]) (rest := []) ⟨hx, hb, hml, hown, hts⟩ (k_xf_B_greatestWorth l dC dI cI cZ cG ad H.size w a1 a2 r_44 w_44 hc44) (cwV 2 hts gX3_boards_X0_greatestWorth rfl rfl rfl (by decide +kernel) ⟨Nat.le_of_ble_eq_true rfl, Nat.le_of_ble_eq_true rfl⟩) ⟨x_blind, va_recv hK hP (ci := 0) (q0 := 3) rfl rfl, fun U hU hW => x_pre hU hW hK hP hD hN⟩ rfl rfl hl.1 rfl (lv_room (Nat.le_of_ble_eq_true rfl)) dX3_boards_44 ⟨Nat.zero_le _, Nat.zero_le _⟩) (fun H locs hP hD hS => ?_)
          refine lv_goto (tgt := 69) hx hb dX3_boards_47 (by decide) ?_
          exact x_iret hx hb hr hlocks hK hP hD hS (so_2 hf) dX3_boards_69
      · have hf := if_t h26 hf
        refine lv_sipush (v := (-1002 : Int32)) hx hb dX3_boards_29 (by decide) ?_
        exact x_iret hx hb hr hlocks hK hP hD hS (so_2 hf) dX3_boards_32
set_option maxHeartbeats 4000000 in
set_option maxRecDepth 100000 in
theorem k_xf_C_ranked (l : Launch) (dC : Nat → ClassId) (dI : Nat → Nat → Nat) (cI cZ cG : ClassId) (ad : Nat → Nat) (sz : Nat) (w : xW) (a1 : Int32) (a2 : Int32) (r0 : Int32) (w0 : xW) (hf : xf_C_ranked a1 a2 w = some (r0, w0)) : Met l yX3_ranked wsX3_ranked ({ frames := 3, cells := 0, slots := 0, locals := 67 } : Room) (va_Pc [.ref (ad 0), .int a1, .int a2] (xPre dC dI cI cZ cG ad sz w)) (va_Qi (fun (r : Int32) (u : xW) => r = r0 ∧ u = w0) (xB dC dI cI cZ cG ad (xA ad sz)) (xA ad sz)) 0 0 (xA ad sz) := by
  refine Met.ofW (cc := cX3_ranked) (maxL := 3) (ret := (some .int)) (by decide) rfl ?_
  intro p e s m args below meth c s₁ B hml hv
  obtain ⟨rfl, hsz, hP, hK, hD0, hN⟩ := hv
  have hx := B.exec
  have hb := B.bytes
  have hr := B.returns
  have hts := atoms_spec (ws := wsX3_ranked) B.pre
  have hown : s.vm.findClass RX3 = some m.cls := findClass_of_methodNamed B.named
  have hlocks := B.notSynchronized
  have inX3 : ∀ w ∈ u_ws RX3 TX3 4, w ∈ wsX3_ranked := by decide +kernel
  subst hsz
  have hD : va_D (xA ad s.heap.size) (xc cI cG ad w) := xD_self hD0
  have hAA : ∀ z q, s.heap.size ≤ z → xA ad z q → xA ad s.heap.size q := xA_mono
  generalize xA ad s.heap.size = A at hD hAA ⊢
  have hS : va_S A s.heap s.heap [] := va_S.rf
  have hl := lv_entry ([.ref (ad 0), .int a1, .int a2]) (n := 3) (Nat.le_of_ble_eq_true rfl)
  rw [lg_entry_eq]
  generalize (lg_sl ([.ref (ad 0), .int a1, .int a2]) ++ List.replicate (3 - (lg_sl ([.ref (ad 0), .int a1, .int a2])).length) Slot.unset).toArray = ls at hl ⊢
  have hl : lv_has ls 3 [(0, .ref (ad 0)), (1, .int a1), (2, .int a2)] := hl
  unfold xf_C_ranked at hf
  refine lv_iload_n hx hb dX3_ranked_0 rfl (lv_at hl 1 rfl) ?_
  refine lv_iconst (v := (0 : Int32)) hx hb dX3_ranked_1 (by decide) ?_
  refine lv_sipush (v := (3431 : Int32)) hx hb dX3_ranked_2 (by decide) ?_
  obtain ⟨r_5, hc5, hf⟩ := bn_e hf
  refine x_calli hD hS hAA (va_runS (As := [.int a1, .int (0 : Int32), .int (3431 : Int32)]) (rest := []) ⟨hx, hb, hml, hown, hts⟩ (k_xf_C_isWithin l dC dI cI cZ cG ad s.heap.size w a1 (0 : Int32) (3431 : Int32) r_5 w hc5 rfl) (va_cwS 3 hts gX3_ranked_X3_isWithin rfl rfl rfl (by decide +kernel) ⟨Nat.le_of_ble_eq_true rfl, Nat.le_of_ble_eq_true rfl⟩) ⟨x_blind, fun U hU hW => x_pre hU hW hK hP hD hN⟩ rfl rfl hl.1 rfl (lv_room (Nat.le_of_ble_eq_true rfl)) dX3_ranked_5 ⟨Nat.zero_le _, Nat.zero_le _⟩) (fun H locs hP hD hS => ?_)
  refine lv_if_eq (tgt := 21) hx hb dX3_ranked_8 (by decide) (fun h8 => ?_) (fun h8 => ?_)
  · have hf := if_t h8 hf
    refine lv_sipush (v := (-1002 : Int32)) hx hb dX3_ranked_21 (by decide) ?_
    exact x_iret hx hb hr hlocks hK hP hD hS (so_2 hf) dX3_ranked_24
  · have hf := if_f h8 hf
    refine lv_iload_n hx hb dX3_ranked_11 rfl (lv_at hl 2 rfl) ?_
    refine lv_iconst (v := (0 : Int32)) hx hb dX3_ranked_12 (by decide) ?_
    refine lv_bipush (v := (6 : Int32)) hx hb dX3_ranked_13 (by decide) ?_
    obtain ⟨r_15, hc15, hf⟩ := bn_e hf
    refine x_calli hD hS hAA (va_runS (As := [.int a2, .int (0 : Int32), .int (6 : Int32)]) (rest := []) ⟨hx, hb, hml, hown, hts⟩ (k_xf_C_isWithin l dC dI cI cZ cG ad H.size w a2 (0 : Int32) (6 : Int32) r_15 w hc15 rfl) (va_cwS 3 hts gX3_ranked_X3_isWithin rfl rfl rfl (by decide +kernel) ⟨Nat.le_of_ble_eq_true rfl, Nat.le_of_ble_eq_true rfl⟩) ⟨x_blind, fun U hU hW => x_pre hU hW hK hP hD hN⟩ rfl rfl hl.1 rfl (lv_room (Nat.le_of_ble_eq_true rfl)) dX3_ranked_15 ⟨Nat.zero_le _, Nat.zero_le _⟩) (fun H locs hP hD hS => ?_)
    refine lv_if_ne (tgt := 25) hx hb dX3_ranked_18 (by decide) (fun h18 => ?_) (fun h18 => ?_)
    · have hf := if_f h18 hf
      refine lv_aload_n hx hb dX3_ranked_25 rfl (lv_at hl 0 rfl) ?_
      refine va_get (D := (dC, dI)) (ci := 3) (v := .ref (ad 3)) (C := RX3) (T := TX3) (N := 4) hx hb hts inX3 hown hK hP 0 rfl rfl 0 (by decide) (hts (.fieldLink RX3 27 "BittenBoards" "boards" "LBittenBoards$Boards;") (by decide +kernel)) (fun _ h9 => h9) rfl dX3_ranked_26 ?_
      refine lv_iload_n hx hb dX3_ranked_29 rfl (lv_at hl 1 rfl) ?_
      refine lv_iload_n hx hb dX3_ranked_30 rfl (lv_at hl 2 rfl) ?_
      obtain ⟨r_31, w_31, hc31, hf⟩ := bn2_e hf
      refine x_calli hD hS hAA (va_runV (As := [.int a1, .int a2]) (rest := []) ⟨hx, hb, hml, hown, hts⟩ (k_xf_B_rowOf l dC dI cI cZ cG ad H.size w a1 a2 r_31 w_31 hc31) (cwV 2 hts gX3_ranked_X0_rowOf rfl rfl rfl (by decide +kernel) ⟨Nat.le_of_ble_eq_true rfl, Nat.le_of_ble_eq_true rfl⟩) ⟨x_blind, va_recv hK hP (ci := 0) (q0 := 3) rfl rfl, fun U hU hW => x_pre hU hW hK hP hD hN⟩ rfl rfl hl.1 rfl (lv_room (Nat.le_of_ble_eq_true rfl)) dX3_ranked_31 ⟨Nat.zero_le _, Nat.zero_le _⟩) (fun H locs hP hD hS => ?_)
      exact x_iret hx hb hr hlocks hK hP hD hS (so_2 hf) dX3_ranked_34
    · have hf := if_t h18 hf
      refine lv_sipush (v := (-1002 : Int32)) hx hb dX3_ranked_21 (by decide) ?_
      exact x_iret hx hb hr hlocks hK hP hD hS (so_2 hf) dX3_ranked_24
set_option maxHeartbeats 4000000 in
set_option maxRecDepth 100000 in
theorem k_xf_G_doBite (l : Launch) (dC : Nat → ClassId) (dI : Nat → Nat → Nat) (cI cZ cG : ClassId) (ad : Nat → Nat) (sz : Nat) (w : xW) (g : Nat) (hg : g < 6) (a1 : Int32) (w0 : xW) (hf : xf_G_doBite g a1 w = some w0) : Met l yX1_doBite wsX1_doBite ({ frames := 5, cells := 0, slots := 0, locals := 115 } : Room) (va_Pc [.ref (ad (12 + 5 * g)), .int a1] (xPre dC dI cI cZ cG ad sz w)) (va_Qv (fun (u : xW) => u = w0) (xB dC dI cI cZ cG ad (xA ad sz)) (xA ad sz)) 0 0 (xA ad sz) := by
  refine Met.ofW (cc := cX1_doBite) (maxL := 2) (ret := none) (by decide) rfl ?_
  intro p e s m args below meth c s₁ B hml hv
  obtain ⟨rfl, hsz, hP, hK, hD0, hN⟩ := hv
  have hx := B.exec
  have hb := B.bytes
  have hr := B.returns
  have hts := atoms_spec (ws := wsX1_doBite) B.pre
  have hown : s.vm.findClass RX1 = some m.cls := findClass_of_methodNamed B.named
  have hlocks := B.notSynchronized
  have inX1 : ∀ w ∈ u_ws RX1 TX1 12, w ∈ wsX1_doBite := by decide +kernel
  subst hsz
  have hD : va_D (xA ad s.heap.size) (xc cI cG ad w) := xD_self hD0
  have hAA : ∀ z q, s.heap.size ≤ z → xA ad z q → xA ad s.heap.size q := xA_mono
  generalize xA ad s.heap.size = A at hD hAA ⊢
  have hS : va_S A s.heap s.heap [] := va_S.rf
  have hl := lv_entry ([.ref (ad (12 + 5 * g)), .int a1]) (n := 2) (Nat.le_of_ble_eq_true rfl)
  rw [lg_entry_eq]
  generalize (lg_sl ([.ref (ad (12 + 5 * g)), .int a1]) ++ List.replicate (2 - (lg_sl ([.ref (ad (12 + 5 * g)), .int a1])).length) Slot.unset).toArray = ls at hl ⊢
  have hl : lv_has ls 2 [(0, .ref (ad (12 + 5 * g))), (1, .int a1)] := hl
  unfold xf_G_doBite at hf
  refine lv_aload_n hx hb dX1_doBite_0 rfl (lv_at hl 0 rfl) ?_
  refine va_get (D := (dC, dI)) (ci := 1) (v := .int (w.2.2.1 4 g)) (C := RX1) (T := TX1) (N := 12) hx hb hts inX1 hown hK hP (12 + 5 * g) (xc_o hg) rfl 10 (by decide) (hts (.fieldLink RX1 53 "BittenBoards$Game" "noted" "I") (by decide +kernel)) (fun _ h9 => h9) rfl dX1_doBite_1 ?_
  refine lv_if_lt (tgt := 73) hx hb dX1_doBite_4 (by decide) (fun h4 => ?_) (fun h4 => ?_)
  · have hf := if_t h4 hf
    exact x_vret hx hb hr hlocks hK hP hD hS (so_1 hf) dX1_doBite_73
  · have hf := if_f h4 hf
    refine lv_aload_n hx hb dX1_doBite_7 rfl (lv_at hl 0 rfl) ?_
    refine va_get (D := (dC, dI)) (ci := 1) (v := .int (w.2.2.1 4 g)) (C := RX1) (T := TX1) (N := 12) hx hb hts inX1 hown hK hP (12 + 5 * g) (xc_o hg) rfl 10 (by decide) (hts (.fieldLink RX1 53 "BittenBoards$Game" "noted" "I") (by decide +kernel)) (fun _ h9 => h9) rfl dX1_doBite_8 ?_
    refine lv_aload_n hx hb dX1_doBite_11 rfl (lv_at hl 0 rfl) ?_
    refine va_get (D := (dC, dI)) (ci := 1) (v := .ref (ad (14 + 5 * g))) (C := RX1) (T := TX1) (N := 12) hx hb hts inX1 hown hK hP (12 + 5 * g) (xc_o hg) rfl 3 (by decide) (hts (.fieldLink RX1 15 "BittenBoards$Game" "bites" "[I") (by decide +kernel)) (fun _ h9 => h9) rfl dX1_doBite_12 ?_
    refine va_alen (v := (100 : Int32)) hx hb hK hP (14 + 5 * g) 0 (xc_r1 hg) rfl (by rfl) dX1_doBite_15 ?_
    refine lv_icmp_ge (tgt := 73) hx hb dX1_doBite_16 (by decide) (fun h16 => ?_) (fun h16 => ?_)
    · have hf := if_t h16 hf
      exact x_vret hx hb hr hlocks hK hP hD hS (so_1 hf) dX1_doBite_73
    · have hf := if_f h16 hf
      refine lv_aload_n hx hb dX1_doBite_19 rfl (lv_at hl 0 rfl) ?_
      refine va_get (D := (dC, dI)) (ci := 1) (v := .int (w.2.2.1 4 g)) (C := RX1) (T := TX1) (N := 12) hx hb hts inX1 hown hK hP (12 + 5 * g) (xc_o hg) rfl 10 (by decide) (hts (.fieldLink RX1 53 "BittenBoards$Game" "noted" "I") (by decide +kernel)) (fun _ h9 => h9) rfl dX1_doBite_20 ?_
      refine lv_aload_n hx hb dX1_doBite_23 rfl (lv_at hl 0 rfl) ?_
      refine va_get (D := (dC, dI)) (ci := 1) (v := .ref (ad (15 + 5 * g))) (C := RX1) (T := TX1) (N := 12) hx hb hts inX1 hown hK hP (12 + 5 * g) (xc_o hg) rfl 4 (by decide) (hts (.fieldLink RX1 18 "BittenBoards$Game" "before" "[I") (by decide +kernel)) (fun _ h9 => h9) rfl dX1_doBite_24 ?_
      refine va_alen (v := (100 : Int32)) hx hb hK hP (15 + 5 * g) 0 (xc_r2 hg) rfl (by rfl) dX1_doBite_27 ?_
      refine lv_icmp_ge (tgt := 73) hx hb dX1_doBite_28 (by decide) (fun h28 => ?_) (fun h28 => ?_)
      · have hf := if_t h28 hf
        exact x_vret hx hb hr hlocks hK hP hD hS (so_1 hf) dX1_doBite_73
      · have hf := if_f h28 hf
        refine lv_aload_n hx hb dX1_doBite_31 rfl (lv_at hl 0 rfl) ?_
        refine va_get (D := (dC, dI)) (ci := 1) (v := .ref (ad (14 + 5 * g))) (C := RX1) (T := TX1) (N := 12) hx hb hts inX1 hown hK hP (12 + 5 * g) (xc_o hg) rfl 3 (by decide) (hts (.fieldLink RX1 15 "BittenBoards$Game" "bites" "[I") (by decide +kernel)) (fun _ h9 => h9) rfl dX1_doBite_32 ?_
        refine lv_aload_n hx hb dX1_doBite_35 rfl (lv_at hl 0 rfl) ?_
        refine va_get (D := (dC, dI)) (ci := 1) (v := .int (w.2.2.1 4 g)) (C := RX1) (T := TX1) (N := 12) hx hb hts inX1 hown hK hP (12 + 5 * g) (xc_o hg) rfl 10 (by decide) (hts (.fieldLink RX1 53 "BittenBoards$Game" "noted" "I") (by decide +kernel)) (fun _ h9 => h9) rfl dX1_doBite_36 ?_
        refine lv_iload_n hx hb dX1_doBite_39 rfl (lv_at hl 1 rfl) ?_
        obtain ⟨hg40, hf⟩ := gi_e hf
        obtain ⟨w_40, ew_40, hf⟩ := nm_x hf
        refine va_iast (f := (w.2.2.2.1 1 g)) hx hb hK hP hD hS (14 + 5 * g) 0 (xc_r1 hg) rfl hg40 dX1_doBite_40 (fun H locs hP hD hS => ?_)
        have hP : va_P (dC, dI) vwCl (xc cI cG ad w_40) H := hP.eqs (by rw [ew_40]; exact xs_r1 hg _ _)
        have hD : va_D A (xc cI cG ad w_40) := hD.eqs (by rw [ew_40]; exact xs_r1 hg _ _)
        refine lv_aload_n hx hb dX1_doBite_41 rfl (lv_at hl 0 rfl) ?_
        refine va_get (D := (dC, dI)) (ci := 1) (v := .ref (ad (15 + 5 * g))) (C := RX1) (T := TX1) (N := 12) hx hb hts inX1 hown hK hP (12 + 5 * g) (xc_o hg) rfl 4 (by decide) (hts (.fieldLink RX1 18 "BittenBoards$Game" "before" "[I") (by decide +kernel)) (fun _ h9 => h9) rfl dX1_doBite_42 ?_
        refine lv_aload_n hx hb dX1_doBite_45 rfl (lv_at hl 0 rfl) ?_
        refine va_get (D := (dC, dI)) (ci := 1) (v := .int (w_40.2.2.1 4 g)) (C := RX1) (T := TX1) (N := 12) hx hb hts inX1 hown hK hP (12 + 5 * g) (xc_o hg) rfl 10 (by decide) (hts (.fieldLink RX1 53 "BittenBoards$Game" "noted" "I") (by decide +kernel)) (fun _ h9 => h9) rfl dX1_doBite_46 ?_
        refine lv_aload_n hx hb dX1_doBite_49 rfl (lv_at hl 0 rfl) ?_
        refine va_get (D := (dC, dI)) (ci := 1) (v := .int (w_40.2.2.1 3 g)) (C := RX1) (T := TX1) (N := 12) hx hb hts inX1 hown hK hP (12 + 5 * g) (xc_o hg) rfl 9 (by decide) (hts (.fieldLink RX1 50 "BittenBoards$Game" "state" "I") (by decide +kernel)) (fun _ h9 => h9) rfl dX1_doBite_50 ?_
        obtain ⟨hg53, hf⟩ := gi_e hf
        obtain ⟨w_53, ew_53, hf⟩ := nm_x hf
        refine va_iast (f := (w_40.2.2.2.1 2 g)) hx hb hK hP hD hS (15 + 5 * g) 0 (xc_r2 hg) rfl hg53 dX1_doBite_53 (fun H locs hP hD hS => ?_)
        have hP : va_P (dC, dI) vwCl (xc cI cG ad w_53) H := hP.eqs (by rw [ew_53]; exact xs_r2 hg _ _)
        have hD : va_D A (xc cI cG ad w_53) := hD.eqs (by rw [ew_53]; exact xs_r2 hg _ _)
        refine lv_aload_n hx hb dX1_doBite_54 rfl (lv_at hl 0 rfl) ?_
        refine lv_dup hx hb dX1_doBite_55 rfl ?_
        refine va_get (D := (dC, dI)) (ci := 1) (v := .int (w_53.2.2.1 4 g)) (C := RX1) (T := TX1) (N := 12) hx hb hts inX1 hown hK hP (12 + 5 * g) (xc_o hg) rfl 10 (by decide) (hts (.fieldLink RX1 53 "BittenBoards$Game" "noted" "I") (by decide +kernel)) (fun _ h9 => h9) rfl dX1_doBite_56 ?_
        refine lv_iconst (v := (1 : Int32)) hx hb dX1_doBite_59 (by decide) ?_
        refine lv_iadd hx hb dX1_doBite_60 ?_
        obtain ⟨w_61, ew_61, hf⟩ := nm_x hf
        refine va_put (D := (dC, dI)) (ci := 1) (v := .int ((w_53.2.2.1 4 g) + (1 : Int32))) (ty := .int) (C := RX1) (T := TX1) (N := 12) hx hb hts inX1 tyX1 tyX1_ok nmX1 hown hK hP hD hS (12 + 5 * g) (xc_o hg) rfl 10 (by decide) (hts (.fieldLink RX1 53 "BittenBoards$Game" "noted" "I") (by decide +kernel)) (fun _ h9 => h9) rfl (by decide +kernel) rfl rfl (Nat.le_of_ble_eq_true rfl) dX1_doBite_61 (fun H locs hP hD hS => ?_)
        have hP : va_P (dC, dI) vwCl (xc cI cG ad w_61) H := hP.eqs (by rw [ew_61]; exact xs_o4 hg _ _)
        have hD : va_D A (xc cI cG ad w_61) := hD.eqs (by rw [ew_61]; exact xs_o4 hg _ _)
        refine lv_aload_n hx hb dX1_doBite_64 rfl (lv_at hl 0 rfl) ?_
        refine lv_aload_n hx hb dX1_doBite_65 rfl (lv_at hl 0 rfl) ?_
        refine lv_iload_n hx hb dX1_doBite_66 rfl (lv_at hl 1 rfl) ?_
        obtain ⟨r_67, w_67, hc67, hf⟩ := bn2_e hf
        refine x_calli hD hS hAA (va_runV (As := [.int a1]) (rest := [.ref (ad (12 + 5 * g))]) ⟨hx, hb, hml, hown, hts⟩ (k_xf_G_stateAfter l dC dI cI cZ cG ad H.size w_61 g hg a1 r_67 w_67 hc67) (cwV 1 hts gX1_doBite_X1_stateAfter rfl rfl rfl (by decide +kernel) ⟨Nat.le_of_ble_eq_true rfl, Nat.le_of_ble_eq_true rfl⟩) ⟨x_blind, va_recv hK hP (ci := 1) (q0 := (12 + 5 * g)) rfl (xc_o hg), fun U hU hW => x_pre hU hW hK hP hD hN⟩ rfl rfl hl.1 rfl (lv_room (Nat.le_of_ble_eq_true rfl)) dX1_doBite_67 ⟨Nat.zero_le _, Nat.zero_le _⟩) (fun H locs hP hD hS => ?_)
        obtain ⟨w_70, ew_70, hf⟩ := nm_x hf
        refine va_put (D := (dC, dI)) (ci := 1) (v := .int r_67) (ty := .int) (C := RX1) (T := TX1) (N := 12) hx hb hts inX1 tyX1 tyX1_ok nmX1 hown hK hP hD hS (12 + 5 * g) (xc_o hg) rfl 9 (by decide) (hts (.fieldLink RX1 50 "BittenBoards$Game" "state" "I") (by decide +kernel)) (fun _ h9 => h9) rfl (by decide +kernel) rfl rfl (Nat.le_of_ble_eq_true rfl) dX1_doBite_70 (fun H locs hP hD hS => ?_)
        have hP : va_P (dC, dI) vwCl (xc cI cG ad w_70) H := hP.eqs (by rw [ew_70]; exact xs_o3 hg _ _)
        have hD : va_D A (xc cI cG ad w_70) := hD.eqs (by rw [ew_70]; exact xs_o3 hg _ _)
        exact x_vret hx hb hr hlocks hK hP hD hS (so_1 hf) dX1_doBite_73
set_option maxHeartbeats 4000000 in
set_option maxRecDepth 100000 in
theorem k_xf_C_play (l : Launch) (dC : Nat → ClassId) (dI : Nat → Nat → Nat) (cI cZ cG : ClassId) (ad : Nat → Nat) (sz : Nat) (w : xW) (a1 : Int32) (a2 : Int32) (r0 : Int32) (w0 : xW) (hf : xf_C_play a1 a2 w = some (r0, w0)) : Met l yX3_play wsX3_play ({ frames := 6, cells := 0, slots := 0, locals := 136 } : Room) (va_Pc [.ref (ad 0), .int a1, .int a2] (xPre dC dI cI cZ cG ad sz w)) (va_Qi (fun (r : Int32) (u : xW) => r = r0 ∧ u = w0) (xB dC dI cI cZ cG ad (xA ad sz)) (xA ad sz)) 0 0 (xA ad sz) := by
  refine Met.ofW (cc := cX3_play) (maxL := 4) (ret := (some .int)) (by decide) rfl ?_
  intro p e s m args below meth c s₁ B hml hv
  obtain ⟨rfl, hsz, hP, hK, hD0, hN⟩ := hv
  have hx := B.exec
  have hb := B.bytes
  have hr := B.returns
  have hts := atoms_spec (ws := wsX3_play) B.pre
  have hown : s.vm.findClass RX3 = some m.cls := findClass_of_methodNamed B.named
  have hlocks := B.notSynchronized
  have inX1 : ∀ w ∈ u_ws RX1 TX1 12, w ∈ wsX3_play := by decide +kernel
  subst hsz
  have hD : va_D (xA ad s.heap.size) (xc cI cG ad w) := xD_self hD0
  have hAA : ∀ z q, s.heap.size ≤ z → xA ad z q → xA ad s.heap.size q := xA_mono
  generalize xA ad s.heap.size = A at hD hAA ⊢
  have hS : va_S A s.heap s.heap [] := va_S.rf
  have hl := lv_entry ([.ref (ad 0), .int a1, .int a2]) (n := 4) (Nat.le_of_ble_eq_true rfl)
  rw [lg_entry_eq]
  generalize (lg_sl ([.ref (ad 0), .int a1, .int a2]) ++ List.replicate (4 - (lg_sl ([.ref (ad 0), .int a1, .int a2])).length) Slot.unset).toArray = ls at hl ⊢
  have hl : lv_has ls 4 [(0, .ref (ad 0)), (1, .int a1), (2, .int a2)] := hl
  unfold xf_C_play at hf
  refine lv_aload_n hx hb dX3_play_0 rfl (lv_at hl 0 rfl) ?_
  refine lv_iload_n hx hb dX3_play_1 rfl (lv_at hl 1 rfl) ?_
  obtain ⟨r_2, hc2, hf⟩ := bn_e hf
  refine x_callq hD hS hAA (va_runV (As := [.int a1]) (rest := []) ⟨hx, hb, hml, hown, hts⟩ (k_xf_C_gameAt l dC dI cI cZ cG ad s.heap.size w a1 r_2 w hc2 rfl) (cwV 1 hts gX3_play_X3_gameAt rfl rfl rfl (by decide +kernel) ⟨Nat.le_of_ble_eq_true rfl, Nat.le_of_ble_eq_true rfl⟩) ⟨x_blind, va_recv hK hP (ci := 3) (q0 := 0) rfl rfl, fun U hU hW => x_pre hU hW hK hP hD hN⟩ rfl rfl hl.1 rfl (lv_room (Nat.le_of_ble_eq_true rfl)) dX3_play_2 ⟨Nat.zero_le _, Nat.zero_le _⟩) (fun H locs hP hD hS => ?_)
  rcases r_2 with _ | g_2
  · have hf := onO_n hf
    refine W.eq (g2 := F0 m 5 ls [.null]) rfl ?_
    refine lv_astore_nN (lv' := [(3, .null), (0, .ref (ad 0)), (1, .int a1), (2, .int a2)]) hx hb dX3_play_5 rfl hl (by decide) rfl (fun ls hl => ?_)
    refine lv_aload_nN hx hb dX3_play_6 rfl (lv_at hl 0 rfl) ?_
    refine lv_ifnonnullN hx hb dX3_play_7 ?_
    refine lv_sipush (v := (-1001 : Int32)) hx hb dX3_play_10 (by decide) ?_
    exact x_iret hx hb hr hlocks hK hP hD hS (so_2 hf) dX3_play_13
  · have hf := onO_s hf
    obtain ⟨hg_2, hf⟩ := gd_e hf
    refine W.eq (g2 := F0 m 5 ls [.ref (ad (12 + 5 * g_2))]) rfl ?_
    refine lv_astore_n (lv' := [(3, .ref (ad (12 + 5 * g_2))), (0, .ref (ad 0)), (1, .int a1), (2, .int a2)]) hx hb dX3_play_5 rfl hl (by decide) rfl (fun ls hl => ?_)
    refine lv_aload_n hx hb dX3_play_6 rfl (lv_at hl 0 rfl) ?_
    refine lv_ifnonnull (tgt := 14) hx hb dX3_play_7 (by decide) ?_
    refine lv_aload_n hx hb dX3_play_14 rfl (lv_at hl 0 rfl) ?_
    refine lv_iload_n hx hb dX3_play_15 rfl (lv_at hl 3 rfl) ?_
    obtain ⟨r_16, w_16, hc16, hf⟩ := bn2_e hf
    refine x_calli hD hS hAA (va_runV (As := [.int a2]) (rest := []) ⟨hx, hb, hml, hown, hts⟩ (k_xf_G_hasBite l dC dI cI cZ cG ad H.size w g_2 hg_2 a2 r_16 w_16 hc16) (cwV 1 hts gX3_play_X1_hasBite rfl rfl rfl (by decide +kernel) ⟨Nat.le_of_ble_eq_true rfl, Nat.le_of_ble_eq_true rfl⟩) ⟨x_blind, va_recv hK hP (ci := 1) (q0 := (12 + 5 * g_2)) rfl (xc_o hg_2), fun U hU hW => x_pre hU hW hK hP hD hN⟩ rfl rfl hl.1 rfl (lv_room (Nat.le_of_ble_eq_true rfl)) dX3_play_16 ⟨Nat.zero_le _, Nat.zero_le _⟩) (fun H locs hP hD hS => ?_)
    refine lv_if_ne (tgt := 26) hx hb dX3_play_19 (by decide) (fun h19 => ?_) (fun h19 => ?_)
    · have hf := if_f h19 hf
      refine lv_aload_n hx hb dX3_play_26 rfl (lv_at hl 0 rfl) ?_
      refine va_getN (host := "BittenBoards") (D := (dC, dI)) (ci := 1) (v := .int (w_16.2.2.1 4 g_2)) (C := RX1) (T := TX1) (N := 12) hx hb hts inX1 hown hK hP (12 + 5 * g_2) (xc_o hg_2) rfl 10 (by decide) (va_Nw.use rfl (hN (.fieldLinkNest RX3 130 "BittenBoards$Game" "noted" "I" "BittenBoards") (by decide +kernel))) (fun _ h9 => h9) rfl dX3_play_27 ?_
      refine lv_bipush (v := (100 : Int32)) hx hb dX3_play_30 (by decide) ?_
      refine lv_icmp_lt (tgt := 39) hx hb dX3_play_32 (by decide) (fun h32 => ?_) (fun h32 => ?_)
      · have hf := if_t h32 hf
        refine lv_aload_n hx hb dX3_play_39 rfl (lv_at hl 0 rfl) ?_
        refine lv_iload_n hx hb dX3_play_40 rfl (lv_at hl 3 rfl) ?_
        obtain ⟨w_41, hc41, hf⟩ := bn_e hf
        refine x_callv hD hS hAA (va_runV (As := [.int a2]) (rest := []) ⟨hx, hb, hml, hown, hts⟩ (k_xf_G_doBite l dC dI cI cZ cG ad H.size w_16 g_2 hg_2 a2 w_41 hc41) (cwV 1 hts gX3_play_X1_doBite rfl rfl rfl (by decide +kernel) ⟨Nat.le_of_ble_eq_true rfl, Nat.le_of_ble_eq_true rfl⟩) ⟨x_blind, va_recv hK hP (ci := 1) (q0 := (12 + 5 * g_2)) rfl (xc_o hg_2), fun U hU hW => x_pre hU hW hK hP hD hN⟩ rfl rfl hl.1 rfl (lv_room (Nat.le_of_ble_eq_true rfl)) dX3_play_41 ⟨Nat.zero_le _, Nat.zero_le _⟩) (fun H locs hP hD hS => ?_)
        refine lv_aload_n hx hb dX3_play_44 rfl (lv_at hl 0 rfl) ?_
        refine va_getN (host := "BittenBoards") (D := (dC, dI)) (ci := 1) (v := .int (w_41.2.2.1 3 g_2)) (C := RX1) (T := TX1) (N := 12) hx hb hts inX1 hown hK hP (12 + 5 * g_2) (xc_o hg_2) rfl 9 (by decide) (va_Nw.use rfl (hN (.fieldLinkNest RX3 73 "BittenBoards$Game" "state" "I" "BittenBoards") (by decide +kernel))) (fun _ h9 => h9) rfl dX3_play_45 ?_
        exact x_iret hx hb hr hlocks hK hP hD hS (so_2 hf) dX3_play_48
      · have hf := if_f h32 hf
        refine lv_sipush (v := (-1004 : Int32)) hx hb dX3_play_35 (by decide) ?_
        exact x_iret hx hb hr hlocks hK hP hD hS (so_2 hf) dX3_play_38
    · have hf := if_t h19 hf
      refine lv_sipush (v := (-1003 : Int32)) hx hb dX3_play_22 (by decide) ?_
      exact x_iret hx hb hr hlocks hK hP hD hS (so_2 hf) dX3_play_25
set_option maxHeartbeats 4000000 in
set_option maxRecDepth 100000 in
theorem k_xf_G_findAnswer (l : Launch) (dC : Nat → ClassId) (dI : Nat → Nat → Nat) (cI cZ cG : ClassId) (ad : Nat → Nat) (sz : Nat) (w : xW) (g : Nat) (hg : g < 6) (r0 : Int32) (w0 : xW) (hf : xf_G_findAnswer g w = some (r0, w0)) : Met l yX1_findAnswer wsX1_findAnswer ({ frames := 5, cells := 0, slots := 0, locals := 115 } : Room) (va_Pc [.ref (ad (12 + 5 * g))] (xPre dC dI cI cZ cG ad sz w)) (va_Qi (fun (r : Int32) (u : xW) => r = r0 ∧ u = w0) (xB dC dI cI cZ cG ad (xA ad sz)) (xA ad sz)) 0 0 (xA ad sz) := by
  refine Met.ofW (cc := cX1_findAnswer) (maxL := 6) (ret := (some .int)) (by decide) rfl ?_
  intro p e s m args below meth c s₁ B hml hv
  obtain ⟨rfl, hsz, hP, hK, hD0, hN⟩ := hv
  have hx := B.exec
  have hb := B.bytes
  have hr := B.returns
  have hts := atoms_spec (ws := wsX1_findAnswer) B.pre
  have hown : s.vm.findClass RX1 = some m.cls := findClass_of_methodNamed B.named
  have hlocks := B.notSynchronized
  have inX1 : ∀ w ∈ u_ws RX1 TX1 12, w ∈ wsX1_findAnswer := by decide +kernel
  subst hsz
  have hD : va_D (xA ad s.heap.size) (xc cI cG ad w) := xD_self hD0
  have hAA : ∀ z q, s.heap.size ≤ z → xA ad z q → xA ad s.heap.size q := xA_mono
  generalize xA ad s.heap.size = A at hD hAA ⊢
  have hS : va_S A s.heap s.heap [] := va_S.rf
  have C12 : ∀ (n12 : Nat) (x1 : Int32) (x2 : Int32) (x3 : Int32) (x4 : Int32) (w : xW), xf_G_findAnswer_C12 g n12 x1 x2 x3 x4 w = some (r0, w0) → ∀ (H : Heap) (locs : List Loc) (ls : Array Slot), va_P (dC, dI) vwCl (xc cI cG ad w) H → va_D A (xc cI cG ad w) → va_S A s.heap H locs → lv_has ls 6 [(0, .ref (ad (12 + 5 * g))), (1, .int x1), (2, .int x2), (3, .int x3), (4, .int x4)] → W p l e (headSpec wsX1_findAnswer ({ frames := 5, cells := 0, slots := 0, locals := 115 } : Room)).room s m (List.toArray [Value.ref (ad (12 + 5 * g))]) below meth c H locs 0 0 (MQ below (va_Qi (fun (r : Int32) (u : xW) => r = r0 ∧ u = w0) (xB dC dI cI cZ cG ad A) A) (List.toArray [Value.ref (ad (12 + 5 * g))]) s 0 0 A) (F0 m 12 ls []) := by
    intro n12
    induction n12 with
    | zero => intro x1 x2 x3 x4 w hf; cases hf
    | succ n12 ih12 =>
      intro x1 x2 x3 x4 w hf H locs ls hP hD hS hl
      rw [xf_G_findAnswer_C12] at hf
      refine lv_iload hx hb dX1_findAnswer_12 (lv_at hl 4 rfl) ?_
      refine lv_iload_n hx hb dX1_findAnswer_14 rfl (lv_at hl 3 rfl) ?_
      refine lv_icmp_ge (tgt := 70) hx hb dX1_findAnswer_15 (by decide) (fun h15 => ?_) (fun h15 => ?_)
      · have hf := if_t h15 hf
        refine lv_iload_n hx hb dX1_findAnswer_70 rfl (lv_at hl 1 rfl) ?_
        exact x_iret hx hb hr hlocks hK hP hD hS (so_2 hf) dX1_findAnswer_71
      · have hf := if_f h15 hf
        refine lv_aload_n hx hb dX1_findAnswer_18 rfl (lv_at hl 0 rfl) ?_
        refine lv_aload_n hx hb dX1_findAnswer_19 rfl (lv_at hl 0 rfl) ?_
        refine lv_iload hx hb dX1_findAnswer_20 (lv_at hl 4 rfl) ?_
        obtain ⟨r_22, w_22, hc22, hf⟩ := bn2_e hf
        refine x_calli hD hS hAA (va_runV (As := [.int x4]) (rest := [.ref (ad (12 + 5 * g))]) ⟨hx, hb, hml, hown, hts⟩ (k_xf_G_stateAfter l dC dI cI cZ cG ad H.size w g hg x4 r_22 w_22 hc22) (cwV 1 hts gX1_findAnswer_X1_stateAfter rfl rfl rfl (by decide +kernel) ⟨Nat.le_of_ble_eq_true rfl, Nat.le_of_ble_eq_true rfl⟩) ⟨x_blind, va_recv hK hP (ci := 1) (q0 := (12 + 5 * g)) rfl (xc_o hg), fun U hU hW => x_pre hU hW hK hP hD hN⟩ rfl rfl hl.1 rfl (lv_room (Nat.le_of_ble_eq_true rfl)) dX1_findAnswer_22 ⟨Nat.zero_le _, Nat.zero_le _⟩) (fun H locs hP hD hS => ?_)
        obtain ⟨r_25, w_25, hc25, hf⟩ := bn2_e hf
        refine x_calli hD hS hAA (va_runV (As := [.int r_22]) (rest := []) ⟨hx, hb, hml, hown, hts⟩ (k_xf_G_factsOf l dC dI cI cZ cG ad H.size w_22 g hg r_22 r_25 w_25 hc25) (cwV 1 hts gX1_findAnswer_X1_factsOf rfl rfl rfl (by decide +kernel) ⟨Nat.le_of_ble_eq_true rfl, Nat.le_of_ble_eq_true rfl⟩) ⟨x_blind, va_recv hK hP (ci := 1) (q0 := (12 + 5 * g)) rfl (xc_o hg), fun U hU hW => x_pre hU hW hK hP hD hN⟩ rfl rfl hl.1 rfl (lv_room (Nat.le_of_ble_eq_true rfl)) dX1_findAnswer_25 ⟨Nat.zero_le _, Nat.zero_le _⟩) (fun H locs hP hD hS => ?_)
        refine lv_aload_n hx hb dX1_findAnswer_28 rfl (lv_at hl 0 rfl) ?_
        refine va_get (D := (dC, dI)) (ci := 1) (v := .int (w_25.2.2.1 1 g)) (C := RX1) (T := TX1) (N := 12) hx hb hts inX1 hown hK hP (12 + 5 * g) (xc_o hg) rfl 7 (by decide) (hts (.fieldLink RX1 37 "BittenBoards$Game" "rule" "I") (by decide +kernel)) (fun _ h9 => h9) rfl dX1_findAnswer_29 ?_
        obtain ⟨r_32, hc32, hf⟩ := bn_e hf
        refine x_calli hD hS hAA (va_runSN (host := "BittenBoards") (As := [.int r_25, .int (w_25.2.2.1 1 g)]) (rest := []) ⟨hx, hb, hml, hown, hts⟩ (k_xf_C_lengthIn l dC dI cI cZ cG ad H.size w_25 r_25 (w_25.2.2.1 1 g) r_32 w_25 hc32 rfl) ⟨va_cnB (host := "BittenBoards") 2 hts gX1_findAnswer_X3_lengthIn_n116 rfl rfl rfl (hN (.methodLinkNest RX1 116 yX3_lengthIn "BittenBoards") (by decide +kernel)) (hts (.initialized RX3) (by decide +kernel)) (by decide +kernel) ⟨Nat.le_of_ble_eq_true rfl, Nat.le_of_ble_eq_true rfl⟩, hts (.static yX3_lengthIn) (by decide +kernel), trivial⟩ ⟨x_blind, fun U hU hW => x_pre hU hW hK hP hD hN⟩ rfl rfl hl.1 rfl (lv_room (Nat.le_of_ble_eq_true rfl)) dX1_findAnswer_32 ⟨Nat.zero_le _, Nat.zero_le _⟩) (fun H locs hP hD hS => ?_)
        refine lv_istore (lv' := [(5, .int r_32), (0, .ref (ad (12 + 5 * g))), (1, .int x1), (2, .int x2), (3, .int x3), (4, .int x4)]) hx hb dX1_findAnswer_35 hl (by decide) rfl (fun ls hl => ?_)
        refine lv_iload hx hb dX1_findAnswer_37 (lv_at hl 0 rfl) ?_
        refine lv_aload_n hx hb dX1_findAnswer_39 rfl (lv_at hl 1 rfl) ?_
        refine va_get (D := (dC, dI)) (ci := 1) (v := .int (w_25.2.2.1 1 g)) (C := RX1) (T := TX1) (N := 12) hx hb hts inX1 hown hK hP (12 + 5 * g) (xc_o hg) rfl 7 (by decide) (hts (.fieldLink RX1 37 "BittenBoards$Game" "rule" "I") (by decide +kernel)) (fun _ h9 => h9) rfl dX1_findAnswer_40 ?_
        obtain ⟨r_43, hc43, hf⟩ := bn_e hf
        refine x_calli hD hS hAA (va_runSN (host := "BittenBoards") (As := [.int r_32, .int (w_25.2.2.1 1 g)]) (rest := []) ⟨hx, hb, hml, hown, hts⟩ (k_xf_C_isWon l dC dI cI cZ cG ad H.size w_25 r_32 (w_25.2.2.1 1 g) r_43 w_25 hc43 rfl) ⟨va_cnB (host := "BittenBoards") 2 hts gX1_findAnswer_X3_isWon_n119 rfl rfl rfl (hN (.methodLinkNest RX1 119 yX3_isWon "BittenBoards") (by decide +kernel)) (hts (.initialized RX3) (by decide +kernel)) (by decide +kernel) ⟨Nat.le_of_ble_eq_true rfl, Nat.le_of_ble_eq_true rfl⟩, hts (.static yX3_isWon) (by decide +kernel), trivial⟩ ⟨x_blind, fun U hU hW => x_pre hU hW hK hP hD hN⟩ rfl rfl hl.1 rfl (lv_room (Nat.le_of_ble_eq_true rfl)) dX1_findAnswer_43 ⟨Nat.zero_le _, Nat.zero_le _⟩) (fun H locs hP hD hS => ?_)
        refine lv_if_ne (tgt := 52) hx hb dX1_findAnswer_46 (by decide) (fun h46 => ?_) (fun h46 => ?_)
        · have hf := if_f h46 hf
          refine lv_iload hx hb dX1_findAnswer_52 (lv_at hl 0 rfl) ?_
          refine lv_iload_n hx hb dX1_findAnswer_54 rfl (lv_at hl 3 rfl) ?_
          refine lv_icmp_le (tgt := 64) hx hb dX1_findAnswer_55 (by decide) (fun h55 => ?_) (fun h55 => ?_)
          · have hf := if_t h55 hf
            obtain ⟨x4_64, ex4_64, hf⟩ := nm_x hf
            refine lv_iinc (v := x4_64) (lv' := [(4, .int x4_64), (5, .int r_32), (0, .ref (ad (12 + 5 * g))), (1, .int x1), (2, .int x2), (3, .int x3)]) hx hb dX1_findAnswer_64 hl (k := 5) rfl (by rw [ex4_64]; rfl) (by decide) rfl (fun ls hl => ?_)
            refine lv_goto (tgt := 12) hx hb dX1_findAnswer_67 (by decide) ?_
            exact ih12 x1 x2 x3 x4_64 w_25 hf _ _ _ hP hD hS (lv_sub hl [2, 3, 4, 5, 0] rfl)
          · have hf := if_f h55 hf
            refine lv_iload hx hb dX1_findAnswer_58 (lv_at hl 0 rfl) ?_
            refine lv_istore_n (lv' := [(2, .int r_32), (5, .int r_32), (0, .ref (ad (12 + 5 * g))), (1, .int x1), (3, .int x3), (4, .int x4)]) hx hb dX1_findAnswer_60 rfl hl (by decide) rfl (fun ls hl => ?_)
            refine lv_iload hx hb dX1_findAnswer_61 (lv_at hl 5 rfl) ?_
            refine lv_istore_n (lv' := [(1, .int x4), (2, .int r_32), (5, .int r_32), (0, .ref (ad (12 + 5 * g))), (3, .int x3), (4, .int x4)]) hx hb dX1_findAnswer_63 rfl hl (by decide) rfl (fun ls hl => ?_)
            obtain ⟨x4_64, ex4_64, hf⟩ := nm_x hf
            refine lv_iinc (v := x4_64) (lv' := [(4, .int x4_64), (1, .int x4), (2, .int r_32), (5, .int r_32), (0, .ref (ad (12 + 5 * g))), (3, .int x3)]) hx hb dX1_findAnswer_64 hl (k := 5) rfl (by rw [ex4_64]; rfl) (by decide) rfl (fun ls hl => ?_)
            refine lv_goto (tgt := 12) hx hb dX1_findAnswer_67 (by decide) ?_
            exact ih12 x4 r_32 x3 x4_64 w_25 hf _ _ _ hP hD hS (lv_sub hl [4, 1, 2, 5, 0] rfl)
        · have hf := if_t h46 hf
          refine lv_iload hx hb dX1_findAnswer_49 (lv_at hl 5 rfl) ?_
          exact x_iret hx hb hr hlocks hK hP hD hS (so_2 hf) dX1_findAnswer_51
  have hl := lv_entry ([.ref (ad (12 + 5 * g))]) (n := 6) (Nat.le_of_ble_eq_true rfl)
  rw [lg_entry_eq]
  generalize (lg_sl ([.ref (ad (12 + 5 * g))]) ++ List.replicate (6 - (lg_sl ([.ref (ad (12 + 5 * g))])).length) Slot.unset).toArray = ls at hl ⊢
  have hl : lv_has ls 6 [(0, .ref (ad (12 + 5 * g)))] := hl
  unfold xf_G_findAnswer at hf
  refine lv_iconst (v := (-1 : Int32)) hx hb dX1_findAnswer_0 (by decide) ?_
  refine lv_istore_n (lv' := [(1, .int (-1 : Int32)), (0, .ref (ad (12 + 5 * g)))]) hx hb dX1_findAnswer_1 rfl hl (by decide) rfl (fun ls hl => ?_)
  refine lv_iconst (v := (-1 : Int32)) hx hb dX1_findAnswer_2 (by decide) ?_
  refine lv_istore_n (lv' := [(2, .int (-1 : Int32)), (1, .int (-1 : Int32)), (0, .ref (ad (12 + 5 * g)))]) hx hb dX1_findAnswer_3 rfl hl (by decide) rfl (fun ls hl => ?_)
  refine lv_aload_n hx hb dX1_findAnswer_4 rfl (lv_at hl 2 rfl) ?_
  obtain ⟨r_5, w_5, hc5, hf⟩ := bn2_e hf
  refine x_calli hD hS hAA (va_runV (As := []) (rest := []) ⟨hx, hb, hml, hown, hts⟩ (k_xf_G_countBites l dC dI cI cZ cG ad s.heap.size w g hg r_5 w_5 hc5) (cwV 0 hts gX1_findAnswer_X1_countBites rfl rfl rfl (by decide +kernel) ⟨Nat.le_of_ble_eq_true rfl, Nat.le_of_ble_eq_true rfl⟩) ⟨x_blind, va_recv hK hP (ci := 1) (q0 := (12 + 5 * g)) rfl (xc_o hg), fun U hU hW => x_pre hU hW hK hP hD hN⟩ rfl rfl hl.1 rfl (lv_room (Nat.le_of_ble_eq_true rfl)) dX1_findAnswer_5 ⟨Nat.zero_le _, Nat.zero_le _⟩) (fun H locs hP hD hS => ?_)
  refine lv_istore_n (lv' := [(3, .int r_5), (2, .int (-1 : Int32)), (1, .int (-1 : Int32)), (0, .ref (ad (12 + 5 * g)))]) hx hb dX1_findAnswer_8 rfl hl (by decide) rfl (fun ls hl => ?_)
  refine lv_iconst (v := (0 : Int32)) hx hb dX1_findAnswer_9 (by decide) ?_
  refine lv_istore (lv' := [(4, .int (0 : Int32)), (3, .int r_5), (2, .int (-1 : Int32)), (1, .int (-1 : Int32)), (0, .ref (ad (12 + 5 * g)))]) hx hb dX1_findAnswer_10 hl (by decide) rfl (fun ls hl => ?_)
  exact C12 fu (-1 : Int32) (-1 : Int32) r_5 (0 : Int32) w_5 hf _ _ _ hP hD hS (lv_sub hl [4, 3, 2, 1, 0] rfl)
set_option maxHeartbeats 4000000 in
set_option maxRecDepth 100000 in
theorem k_xf_C_answer (l : Launch) (dC : Nat → ClassId) (dI : Nat → Nat → Nat) (cI cZ cG : ClassId) (ad : Nat → Nat) (sz : Nat) (w : xW) (a1 : Int32) (r0 : Int32) (w0 : xW) (hf : xf_C_answer a1 w = some (r0, w0)) : Met l yX3_answer wsX3_answer ({ frames := 6, cells := 0, slots := 0, locals := 140 } : Room) (va_Pc [.ref (ad 0), .int a1] (xPre dC dI cI cZ cG ad sz w)) (va_Qi (fun (r : Int32) (u : xW) => r = r0 ∧ u = w0) (xB dC dI cI cZ cG ad (xA ad sz)) (xA ad sz)) 0 0 (xA ad sz) := by
  refine Met.ofW (cc := cX3_answer) (maxL := 4) (ret := (some .int)) (by decide) rfl ?_
  intro p e s m args below meth c s₁ B hml hv
  obtain ⟨rfl, hsz, hP, hK, hD0, hN⟩ := hv
  have hx := B.exec
  have hb := B.bytes
  have hr := B.returns
  have hts := atoms_spec (ws := wsX3_answer) B.pre
  have hown : s.vm.findClass RX3 = some m.cls := findClass_of_methodNamed B.named
  have hlocks := B.notSynchronized
  have inX1 : ∀ w ∈ u_ws RX1 TX1 12, w ∈ wsX3_answer := by decide +kernel
  subst hsz
  have hD : va_D (xA ad s.heap.size) (xc cI cG ad w) := xD_self hD0
  have hAA : ∀ z q, s.heap.size ≤ z → xA ad z q → xA ad s.heap.size q := xA_mono
  generalize xA ad s.heap.size = A at hD hAA ⊢
  have hS : va_S A s.heap s.heap [] := va_S.rf
  have hl := lv_entry ([.ref (ad 0), .int a1]) (n := 4) (Nat.le_of_ble_eq_true rfl)
  rw [lg_entry_eq]
  generalize (lg_sl ([.ref (ad 0), .int a1]) ++ List.replicate (4 - (lg_sl ([.ref (ad 0), .int a1])).length) Slot.unset).toArray = ls at hl ⊢
  have hl : lv_has ls 4 [(0, .ref (ad 0)), (1, .int a1)] := hl
  unfold xf_C_answer at hf
  refine lv_aload_n hx hb dX3_answer_0 rfl (lv_at hl 0 rfl) ?_
  refine lv_iload_n hx hb dX3_answer_1 rfl (lv_at hl 1 rfl) ?_
  obtain ⟨r_2, hc2, hf⟩ := bn_e hf
  refine x_callq hD hS hAA (va_runV (As := [.int a1]) (rest := []) ⟨hx, hb, hml, hown, hts⟩ (k_xf_C_gameAt l dC dI cI cZ cG ad s.heap.size w a1 r_2 w hc2 rfl) (cwV 1 hts gX3_answer_X3_gameAt rfl rfl rfl (by decide +kernel) ⟨Nat.le_of_ble_eq_true rfl, Nat.le_of_ble_eq_true rfl⟩) ⟨x_blind, va_recv hK hP (ci := 3) (q0 := 0) rfl rfl, fun U hU hW => x_pre hU hW hK hP hD hN⟩ rfl rfl hl.1 rfl (lv_room (Nat.le_of_ble_eq_true rfl)) dX3_answer_2 ⟨Nat.zero_le _, Nat.zero_le _⟩) (fun H locs hP hD hS => ?_)
  rcases r_2 with _ | g_2
  · have hf := onO_n hf
    refine W.eq (g2 := F0 m 5 ls [.null]) rfl ?_
    refine lv_astore_nN (lv' := [(2, .null), (0, .ref (ad 0)), (1, .int a1)]) hx hb dX3_answer_5 rfl hl (by decide) rfl (fun ls hl => ?_)
    refine lv_aload_nN hx hb dX3_answer_6 rfl (lv_at hl 0 rfl) ?_
    refine lv_ifnonnullN hx hb dX3_answer_7 ?_
    refine lv_sipush (v := (-1001 : Int32)) hx hb dX3_answer_10 (by decide) ?_
    exact x_iret hx hb hr hlocks hK hP hD hS (so_2 hf) dX3_answer_13
  · have hf := onO_s hf
    obtain ⟨hg_2, hf⟩ := gd_e hf
    refine W.eq (g2 := F0 m 5 ls [.ref (ad (12 + 5 * g_2))]) rfl ?_
    refine lv_astore_n (lv' := [(2, .ref (ad (12 + 5 * g_2))), (0, .ref (ad 0)), (1, .int a1)]) hx hb dX3_answer_5 rfl hl (by decide) rfl (fun ls hl => ?_)
    refine lv_aload_n hx hb dX3_answer_6 rfl (lv_at hl 0 rfl) ?_
    refine lv_ifnonnull (tgt := 14) hx hb dX3_answer_7 (by decide) ?_
    refine lv_aload_n hx hb dX3_answer_14 rfl (lv_at hl 0 rfl) ?_
    refine lv_iconst (v := (0 : Int32)) hx hb dX3_answer_15 (by decide) ?_
    obtain ⟨r_16, w_16, hc16, hf⟩ := bn2_e hf
    refine x_calli hD hS hAA (va_runV (As := [.int (0 : Int32)]) (rest := []) ⟨hx, hb, hml, hown, hts⟩ (k_xf_G_hasBite l dC dI cI cZ cG ad H.size w g_2 hg_2 (0 : Int32) r_16 w_16 hc16) (cwV 1 hts gX3_answer_X1_hasBite rfl rfl rfl (by decide +kernel) ⟨Nat.le_of_ble_eq_true rfl, Nat.le_of_ble_eq_true rfl⟩) ⟨x_blind, va_recv hK hP (ci := 1) (q0 := (12 + 5 * g_2)) rfl (xc_o hg_2), fun U hU hW => x_pre hU hW hK hP hD hN⟩ rfl rfl hl.1 rfl (lv_room (Nat.le_of_ble_eq_true rfl)) dX3_answer_16 ⟨Nat.zero_le _, Nat.zero_le _⟩) (fun H locs hP hD hS => ?_)
    refine lv_if_ne (tgt := 26) hx hb dX3_answer_19 (by decide) (fun h19 => ?_) (fun h19 => ?_)
    · have hf := if_f h19 hf
      refine lv_aload_n hx hb dX3_answer_26 rfl (lv_at hl 0 rfl) ?_
      refine va_getN (host := "BittenBoards") (D := (dC, dI)) (ci := 1) (v := .int (w_16.2.2.1 4 g_2)) (C := RX1) (T := TX1) (N := 12) hx hb hts inX1 hown hK hP (12 + 5 * g_2) (xc_o hg_2) rfl 10 (by decide) (va_Nw.use rfl (hN (.fieldLinkNest RX3 130 "BittenBoards$Game" "noted" "I" "BittenBoards") (by decide +kernel))) (fun _ h9 => h9) rfl dX3_answer_27 ?_
      refine lv_bipush (v := (100 : Int32)) hx hb dX3_answer_30 (by decide) ?_
      refine lv_icmp_lt (tgt := 39) hx hb dX3_answer_32 (by decide) (fun h32 => ?_) (fun h32 => ?_)
      · have hf := if_t h32 hf
        refine lv_aload_n hx hb dX3_answer_39 rfl (lv_at hl 0 rfl) ?_
        obtain ⟨r_40, w_40, hc40, hf⟩ := bn2_e hf
        refine x_calli hD hS hAA (va_runV (As := []) (rest := []) ⟨hx, hb, hml, hown, hts⟩ (k_xf_G_findAnswer l dC dI cI cZ cG ad H.size w_16 g_2 hg_2 r_40 w_40 hc40) (cwV 0 hts gX3_answer_X1_findAnswer rfl rfl rfl (by decide +kernel) ⟨Nat.le_of_ble_eq_true rfl, Nat.le_of_ble_eq_true rfl⟩) ⟨x_blind, va_recv hK hP (ci := 1) (q0 := (12 + 5 * g_2)) rfl (xc_o hg_2), fun U hU hW => x_pre hU hW hK hP hD hN⟩ rfl rfl hl.1 rfl (lv_room (Nat.le_of_ble_eq_true rfl)) dX3_answer_40 ⟨Nat.zero_le _, Nat.zero_le _⟩) (fun H locs hP hD hS => ?_)
        refine lv_istore_n (lv' := [(3, .int r_40), (2, .ref (ad (12 + 5 * g_2))), (0, .ref (ad 0)), (1, .int a1)]) hx hb dX3_answer_43 rfl hl (by decide) rfl (fun ls hl => ?_)
        refine lv_aload_n hx hb dX3_answer_44 rfl (lv_at hl 1 rfl) ?_
        refine lv_iload_n hx hb dX3_answer_45 rfl (lv_at hl 0 rfl) ?_
        obtain ⟨w_46, hc46, hf⟩ := bn_e hf
        refine x_callv hD hS hAA (va_runV (As := [.int r_40]) (rest := []) ⟨hx, hb, hml, hown, hts⟩ (k_xf_G_doBite l dC dI cI cZ cG ad H.size w_40 g_2 hg_2 r_40 w_46 hc46) (cwV 1 hts gX3_answer_X1_doBite rfl rfl rfl (by decide +kernel) ⟨Nat.le_of_ble_eq_true rfl, Nat.le_of_ble_eq_true rfl⟩) ⟨x_blind, va_recv hK hP (ci := 1) (q0 := (12 + 5 * g_2)) rfl (xc_o hg_2), fun U hU hW => x_pre hU hW hK hP hD hN⟩ rfl rfl hl.1 rfl (lv_room (Nat.le_of_ble_eq_true rfl)) dX3_answer_46 ⟨Nat.zero_le _, Nat.zero_le _⟩) (fun H locs hP hD hS => ?_)
        refine lv_iload_n hx hb dX3_answer_49 rfl (lv_at hl 0 rfl) ?_
        exact x_iret hx hb hr hlocks hK hP hD hS (so_2 hf) dX3_answer_50
      · have hf := if_f h32 hf
        refine lv_sipush (v := (-1004 : Int32)) hx hb dX3_answer_35 (by decide) ?_
        exact x_iret hx hb hr hlocks hK hP hD hS (so_2 hf) dX3_answer_38
    · have hf := if_t h19 hf
      refine lv_sipush (v := (-1003 : Int32)) hx hb dX3_answer_22 (by decide) ?_
      exact x_iret hx hb hr hlocks hK hP hD hS (so_2 hf) dX3_answer_25
set_option maxHeartbeats 4000000 in
set_option maxRecDepth 100000 in
theorem k_xf_G_undoBite (l : Launch) (dC : Nat → ClassId) (dI : Nat → Nat → Nat) (cI cZ cG : ClassId) (ad : Nat → Nat) (sz : Nat) (w : xW) (g : Nat) (hg : g < 6) (w0 : xW) (hf : xf_G_undoBite g w = some w0) : Met l yX1_undoBite wsX1_undoBite ({ frames := 1, cells := 0, slots := 0, locals := 21 } : Room) (va_Pc [.ref (ad (12 + 5 * g))] (xPre dC dI cI cZ cG ad sz w)) (va_Qv (fun (u : xW) => u = w0) (xB dC dI cI cZ cG ad (xA ad sz)) (xA ad sz)) 0 0 (xA ad sz) := by
  refine Met.ofW (cc := cX1_undoBite) (maxL := 1) (ret := none) (by decide) rfl ?_
  intro p e s m args below meth c s₁ B hml hv
  obtain ⟨rfl, hsz, hP, hK, hD0, hN⟩ := hv
  have hx := B.exec
  have hb := B.bytes
  have hr := B.returns
  have hts := atoms_spec (ws := wsX1_undoBite) B.pre
  have hown : s.vm.findClass RX1 = some m.cls := findClass_of_methodNamed B.named
  have hlocks := B.notSynchronized
  have inX1 : ∀ w ∈ u_ws RX1 TX1 12, w ∈ wsX1_undoBite := by decide +kernel
  subst hsz
  have hD : va_D (xA ad s.heap.size) (xc cI cG ad w) := xD_self hD0
  have hAA : ∀ z q, s.heap.size ≤ z → xA ad z q → xA ad s.heap.size q := xA_mono
  generalize xA ad s.heap.size = A at hD hAA ⊢
  have hS : va_S A s.heap s.heap [] := va_S.rf
  have hl := lv_entry ([.ref (ad (12 + 5 * g))]) (n := 1) (Nat.le_of_ble_eq_true rfl)
  rw [lg_entry_eq]
  generalize (lg_sl ([.ref (ad (12 + 5 * g))]) ++ List.replicate (1 - (lg_sl ([.ref (ad (12 + 5 * g))])).length) Slot.unset).toArray = ls at hl ⊢
  have hl : lv_has ls 1 [(0, .ref (ad (12 + 5 * g)))] := hl
  unfold xf_G_undoBite at hf
  refine lv_aload_n hx hb dX1_undoBite_0 rfl (lv_at hl 0 rfl) ?_
  refine va_get (D := (dC, dI)) (ci := 1) (v := .int (w.2.2.1 4 g)) (C := RX1) (T := TX1) (N := 12) hx hb hts inX1 hown hK hP (12 + 5 * g) (xc_o hg) rfl 10 (by decide) (hts (.fieldLink RX1 53 "BittenBoards$Game" "noted" "I") (by decide +kernel)) (fun _ h9 => h9) rfl dX1_undoBite_1 ?_
  refine lv_if_le (tgt := 32) hx hb dX1_undoBite_4 (by decide) (fun h4 => ?_) (fun h4 => ?_)
  · have hf := if_t h4 hf
    exact x_vret hx hb hr hlocks hK hP hD hS (so_1 hf) dX1_undoBite_32
  · have hf := if_f h4 hf
    refine lv_aload_n hx hb dX1_undoBite_7 rfl (lv_at hl 0 rfl) ?_
    refine lv_dup hx hb dX1_undoBite_8 rfl ?_
    refine va_get (D := (dC, dI)) (ci := 1) (v := .int (w.2.2.1 4 g)) (C := RX1) (T := TX1) (N := 12) hx hb hts inX1 hown hK hP (12 + 5 * g) (xc_o hg) rfl 10 (by decide) (hts (.fieldLink RX1 53 "BittenBoards$Game" "noted" "I") (by decide +kernel)) (fun _ h9 => h9) rfl dX1_undoBite_9 ?_
    refine lv_iconst (v := (1 : Int32)) hx hb dX1_undoBite_12 (by decide) ?_
    refine lv_isub hx hb dX1_undoBite_13 ?_
    obtain ⟨w_14, ew_14, hf⟩ := nm_x hf
    refine va_put (D := (dC, dI)) (ci := 1) (v := .int ((w.2.2.1 4 g) - (1 : Int32))) (ty := .int) (C := RX1) (T := TX1) (N := 12) hx hb hts inX1 tyX1 tyX1_ok nmX1 hown hK hP hD hS (12 + 5 * g) (xc_o hg) rfl 10 (by decide) (hts (.fieldLink RX1 53 "BittenBoards$Game" "noted" "I") (by decide +kernel)) (fun _ h9 => h9) rfl (by decide +kernel) rfl rfl (Nat.le_of_ble_eq_true rfl) dX1_undoBite_14 (fun H locs hP hD hS => ?_)
    have hP : va_P (dC, dI) vwCl (xc cI cG ad w_14) H := hP.eqs (by rw [ew_14]; exact xs_o4 hg _ _)
    have hD : va_D A (xc cI cG ad w_14) := hD.eqs (by rw [ew_14]; exact xs_o4 hg _ _)
    refine lv_aload_n hx hb dX1_undoBite_17 rfl (lv_at hl 0 rfl) ?_
    refine lv_aload_n hx hb dX1_undoBite_18 rfl (lv_at hl 0 rfl) ?_
    refine va_get (D := (dC, dI)) (ci := 1) (v := .ref (ad (15 + 5 * g))) (C := RX1) (T := TX1) (N := 12) hx hb hts inX1 hown hK hP (12 + 5 * g) (xc_o hg) rfl 4 (by decide) (hts (.fieldLink RX1 18 "BittenBoards$Game" "before" "[I") (by decide +kernel)) (fun _ h9 => h9) rfl dX1_undoBite_19 ?_
    refine lv_aload_n hx hb dX1_undoBite_22 rfl (lv_at hl 0 rfl) ?_
    refine va_get (D := (dC, dI)) (ci := 1) (v := .int (w_14.2.2.1 4 g)) (C := RX1) (T := TX1) (N := 12) hx hb hts inX1 hown hK hP (12 + 5 * g) (xc_o hg) rfl 10 (by decide) (hts (.fieldLink RX1 53 "BittenBoards$Game" "noted" "I") (by decide +kernel)) (fun _ h9 => h9) rfl dX1_undoBite_23 ?_
    obtain ⟨r_26, hc26, hf⟩ := bn_e hf
    refine x_calli hD hS hAA (va_runSN (host := "BittenBoards") (As := [.ref (ad (15 + 5 * g)), .int (w_14.2.2.1 4 g)]) (rest := [.ref (ad (12 + 5 * g))]) ⟨hx, hb, hml, hown, hts⟩ (k_xf_C_at l dC dI cI cZ cG ad H.size w_14 100 (w_14.2.2.2.1 2 g) (ad (15 + 5 * g)) (15 + 5 * g) (xc_r2 hg) (w_14.2.2.1 4 g) r_26 w_14 hc26 rfl) ⟨va_cnB (host := "BittenBoards") 2 hts gX1_undoBite_X3_at_n60 rfl rfl rfl (hN (.methodLinkNest RX1 60 yX3_at "BittenBoards") (by decide +kernel)) (hts (.initialized RX3) (by decide +kernel)) (by decide +kernel) ⟨Nat.le_of_ble_eq_true rfl, Nat.le_of_ble_eq_true rfl⟩, hts (.static yX3_at) (by decide +kernel), trivial⟩ ⟨x_blind, fun U hU hW => x_pre hU hW hK hP hD hN⟩ rfl rfl hl.1 rfl (lv_room (Nat.le_of_ble_eq_true rfl)) dX1_undoBite_26 ⟨Nat.zero_le _, Nat.zero_le _⟩) (fun H locs hP hD hS => ?_)
    obtain ⟨w_29, ew_29, hf⟩ := nm_x hf
    refine va_put (D := (dC, dI)) (ci := 1) (v := .int r_26) (ty := .int) (C := RX1) (T := TX1) (N := 12) hx hb hts inX1 tyX1 tyX1_ok nmX1 hown hK hP hD hS (12 + 5 * g) (xc_o hg) rfl 9 (by decide) (hts (.fieldLink RX1 50 "BittenBoards$Game" "state" "I") (by decide +kernel)) (fun _ h9 => h9) rfl (by decide +kernel) rfl rfl (Nat.le_of_ble_eq_true rfl) dX1_undoBite_29 (fun H locs hP hD hS => ?_)
    have hP : va_P (dC, dI) vwCl (xc cI cG ad w_29) H := hP.eqs (by rw [ew_29]; exact xs_o3 hg _ _)
    have hD : va_D A (xc cI cG ad w_29) := hD.eqs (by rw [ew_29]; exact xs_o3 hg _ _)
    exact x_vret hx hb hr hlocks hK hP hD hS (so_1 hf) dX1_undoBite_32
set_option maxHeartbeats 4000000 in
set_option maxRecDepth 100000 in
theorem k_xf_C_back (l : Launch) (dC : Nat → ClassId) (dI : Nat → Nat → Nat) (cI cZ cG : ClassId) (ad : Nat → Nat) (sz : Nat) (w : xW) (a1 : Int32) (r0 : Int32) (w0 : xW) (hf : xf_C_back a1 w = some (r0, w0)) : Met l yX3_back wsX3_back ({ frames := 2, cells := 0, slots := 0, locals := 41 } : Room) (va_Pc [.ref (ad 0), .int a1] (xPre dC dI cI cZ cG ad sz w)) (va_Qi (fun (r : Int32) (u : xW) => r = r0 ∧ u = w0) (xB dC dI cI cZ cG ad (xA ad sz)) (xA ad sz)) 0 0 (xA ad sz) := by
  refine Met.ofW (cc := cX3_back) (maxL := 3) (ret := (some .int)) (by decide) rfl ?_
  intro p e s m args below meth c s₁ B hml hv
  obtain ⟨rfl, hsz, hP, hK, hD0, hN⟩ := hv
  have hx := B.exec
  have hb := B.bytes
  have hr := B.returns
  have hts := atoms_spec (ws := wsX3_back) B.pre
  have hown : s.vm.findClass RX3 = some m.cls := findClass_of_methodNamed B.named
  have hlocks := B.notSynchronized
  have inX1 : ∀ w ∈ u_ws RX1 TX1 12, w ∈ wsX3_back := by decide +kernel
  subst hsz
  have hD : va_D (xA ad s.heap.size) (xc cI cG ad w) := xD_self hD0
  have hAA : ∀ z q, s.heap.size ≤ z → xA ad z q → xA ad s.heap.size q := xA_mono
  generalize xA ad s.heap.size = A at hD hAA ⊢
  have hS : va_S A s.heap s.heap [] := va_S.rf
  have hl := lv_entry ([.ref (ad 0), .int a1]) (n := 3) (Nat.le_of_ble_eq_true rfl)
  rw [lg_entry_eq]
  generalize (lg_sl ([.ref (ad 0), .int a1]) ++ List.replicate (3 - (lg_sl ([.ref (ad 0), .int a1])).length) Slot.unset).toArray = ls at hl ⊢
  have hl : lv_has ls 3 [(0, .ref (ad 0)), (1, .int a1)] := hl
  unfold xf_C_back at hf
  refine lv_aload_n hx hb dX3_back_0 rfl (lv_at hl 0 rfl) ?_
  refine lv_iload_n hx hb dX3_back_1 rfl (lv_at hl 1 rfl) ?_
  obtain ⟨r_2, hc2, hf⟩ := bn_e hf
  refine x_callq hD hS hAA (va_runV (As := [.int a1]) (rest := []) ⟨hx, hb, hml, hown, hts⟩ (k_xf_C_gameAt l dC dI cI cZ cG ad s.heap.size w a1 r_2 w hc2 rfl) (cwV 1 hts gX3_back_X3_gameAt rfl rfl rfl (by decide +kernel) ⟨Nat.le_of_ble_eq_true rfl, Nat.le_of_ble_eq_true rfl⟩) ⟨x_blind, va_recv hK hP (ci := 3) (q0 := 0) rfl rfl, fun U hU hW => x_pre hU hW hK hP hD hN⟩ rfl rfl hl.1 rfl (lv_room (Nat.le_of_ble_eq_true rfl)) dX3_back_2 ⟨Nat.zero_le _, Nat.zero_le _⟩) (fun H locs hP hD hS => ?_)
  rcases r_2 with _ | g_2
  · have hf := onO_n hf
    refine W.eq (g2 := F0 m 5 ls [.null]) rfl ?_
    refine lv_astore_nN (lv' := [(2, .null), (0, .ref (ad 0)), (1, .int a1)]) hx hb dX3_back_5 rfl hl (by decide) rfl (fun ls hl => ?_)
    refine lv_aload_nN hx hb dX3_back_6 rfl (lv_at hl 0 rfl) ?_
    refine lv_ifnonnullN hx hb dX3_back_7 ?_
    refine lv_sipush (v := (-1001 : Int32)) hx hb dX3_back_10 (by decide) ?_
    exact x_iret hx hb hr hlocks hK hP hD hS (so_2 hf) dX3_back_13
  · have hf := onO_s hf
    obtain ⟨hg_2, hf⟩ := gd_e hf
    refine W.eq (g2 := F0 m 5 ls [.ref (ad (12 + 5 * g_2))]) rfl ?_
    refine lv_astore_n (lv' := [(2, .ref (ad (12 + 5 * g_2))), (0, .ref (ad 0)), (1, .int a1)]) hx hb dX3_back_5 rfl hl (by decide) rfl (fun ls hl => ?_)
    refine lv_aload_n hx hb dX3_back_6 rfl (lv_at hl 0 rfl) ?_
    refine lv_ifnonnull (tgt := 14) hx hb dX3_back_7 (by decide) ?_
    refine lv_aload_n hx hb dX3_back_14 rfl (lv_at hl 0 rfl) ?_
    refine va_getN (host := "BittenBoards") (D := (dC, dI)) (ci := 1) (v := .int (w.2.2.1 4 g_2)) (C := RX1) (T := TX1) (N := 12) hx hb hts inX1 hown hK hP (12 + 5 * g_2) (xc_o hg_2) rfl 10 (by decide) (va_Nw.use rfl (hN (.fieldLinkNest RX3 130 "BittenBoards$Game" "noted" "I" "BittenBoards") (by decide +kernel))) (fun _ h9 => h9) rfl dX3_back_15 ?_
    refine lv_if_ne (tgt := 25) hx hb dX3_back_18 (by decide) (fun h18 => ?_) (fun h18 => ?_)
    · have hf := if_f h18 hf
      refine lv_aload_n hx hb dX3_back_25 rfl (lv_at hl 0 rfl) ?_
      obtain ⟨w_26, hc26, hf⟩ := bn_e hf
      refine x_callv hD hS hAA (va_runV (As := []) (rest := []) ⟨hx, hb, hml, hown, hts⟩ (k_xf_G_undoBite l dC dI cI cZ cG ad H.size w g_2 hg_2 w_26 hc26) (cwV 0 hts gX3_back_X1_undoBite rfl rfl rfl (by decide +kernel) ⟨Nat.le_of_ble_eq_true rfl, Nat.le_of_ble_eq_true rfl⟩) ⟨x_blind, va_recv hK hP (ci := 1) (q0 := (12 + 5 * g_2)) rfl (xc_o hg_2), fun U hU hW => x_pre hU hW hK hP hD hN⟩ rfl rfl hl.1 rfl (lv_room (Nat.le_of_ble_eq_true rfl)) dX3_back_26 ⟨Nat.zero_le _, Nat.zero_le _⟩) (fun H locs hP hD hS => ?_)
      refine lv_aload_n hx hb dX3_back_29 rfl (lv_at hl 0 rfl) ?_
      refine va_getN (host := "BittenBoards") (D := (dC, dI)) (ci := 1) (v := .int (w_26.2.2.1 4 g_2)) (C := RX1) (T := TX1) (N := 12) hx hb hts inX1 hown hK hP (12 + 5 * g_2) (xc_o hg_2) rfl 10 (by decide) (va_Nw.use rfl (hN (.fieldLinkNest RX3 130 "BittenBoards$Game" "noted" "I" "BittenBoards") (by decide +kernel))) (fun _ h9 => h9) rfl dX3_back_30 ?_
      exact x_iret hx hb hr hlocks hK hP hD hS (so_2 hf) dX3_back_33
    · have hf := if_t h18 hf
      refine lv_sipush (v := (-1003 : Int32)) hx hb dX3_back_21 (by decide) ?_
      exact x_iret hx hb hr hlocks hK hP hD hS (so_2 hf) dX3_back_24
set_option maxHeartbeats 4000000 in
set_option maxRecDepth 100000 in
theorem k_xf_C_noted (l : Launch) (dC : Nat → ClassId) (dI : Nat → Nat → Nat) (cI cZ cG : ClassId) (ad : Nat → Nat) (sz : Nat) (w : xW) (a1 : Int32) (a2 : Int32) (r0 : Int32) (w0 : xW) (hf : xf_C_noted a1 a2 w = some r0) (hw0 : w = w0) : Met l yX3_noted wsX3_noted ({ frames := 1, cells := 0, slots := 0, locals := 22 } : Room) (va_Pc [.ref (ad 0), .int a1, .int a2] (xPre dC dI cI cZ cG ad sz w)) (va_Qi (fun (r : Int32) (u : xW) => r = r0 ∧ u = w0) (xB dC dI cI cZ cG ad (xA ad sz)) (xA ad sz)) 0 0 (xA ad sz) := by
  refine Met.ofW (cc := cX3_noted) (maxL := 4) (ret := (some .int)) (by decide) rfl ?_
  intro p e s m args below meth c s₁ B hml hv
  obtain ⟨rfl, hsz, hP, hK, hD0, hN⟩ := hv
  have hx := B.exec
  have hb := B.bytes
  have hr := B.returns
  have hts := atoms_spec (ws := wsX3_noted) B.pre
  have hown : s.vm.findClass RX3 = some m.cls := findClass_of_methodNamed B.named
  have hlocks := B.notSynchronized
  have inX1 : ∀ w ∈ u_ws RX1 TX1 12, w ∈ wsX3_noted := by decide +kernel
  subst hsz
  have hD : va_D (xA ad s.heap.size) (xc cI cG ad w) := xD_self hD0
  have hAA : ∀ z q, s.heap.size ≤ z → xA ad z q → xA ad s.heap.size q := xA_mono
  generalize xA ad s.heap.size = A at hD hAA ⊢
  have hS : va_S A s.heap s.heap [] := va_S.rf
  have hl := lv_entry ([.ref (ad 0), .int a1, .int a2]) (n := 4) (Nat.le_of_ble_eq_true rfl)
  rw [lg_entry_eq]
  generalize (lg_sl ([.ref (ad 0), .int a1, .int a2]) ++ List.replicate (4 - (lg_sl ([.ref (ad 0), .int a1, .int a2])).length) Slot.unset).toArray = ls at hl ⊢
  have hl : lv_has ls 4 [(0, .ref (ad 0)), (1, .int a1), (2, .int a2)] := hl
  unfold xf_C_noted at hf
  refine lv_aload_n hx hb dX3_noted_0 rfl (lv_at hl 0 rfl) ?_
  refine lv_iload_n hx hb dX3_noted_1 rfl (lv_at hl 1 rfl) ?_
  obtain ⟨r_2, hc2, hf⟩ := bn_e hf
  refine x_callq hD hS hAA (va_runV (As := [.int a1]) (rest := []) ⟨hx, hb, hml, hown, hts⟩ (k_xf_C_gameAt l dC dI cI cZ cG ad s.heap.size w a1 r_2 w hc2 rfl) (cwV 1 hts gX3_noted_X3_gameAt rfl rfl rfl (by decide +kernel) ⟨Nat.le_of_ble_eq_true rfl, Nat.le_of_ble_eq_true rfl⟩) ⟨x_blind, va_recv hK hP (ci := 3) (q0 := 0) rfl rfl, fun U hU hW => x_pre hU hW hK hP hD hN⟩ rfl rfl hl.1 rfl (lv_room (Nat.le_of_ble_eq_true rfl)) dX3_noted_2 ⟨Nat.zero_le _, Nat.zero_le _⟩) (fun H locs hP hD hS => ?_)
  rcases r_2 with _ | g_2
  · have hf := onO_n hf
    refine W.eq (g2 := F0 m 5 ls [.null]) rfl ?_
    refine lv_astore_nN (lv' := [(3, .null), (0, .ref (ad 0)), (1, .int a1), (2, .int a2)]) hx hb dX3_noted_5 rfl hl (by decide) rfl (fun ls hl => ?_)
    refine lv_aload_nN hx hb dX3_noted_6 rfl (lv_at hl 0 rfl) ?_
    refine lv_ifnonnullN hx hb dX3_noted_7 ?_
    refine lv_sipush (v := (-1001 : Int32)) hx hb dX3_noted_10 (by decide) ?_
    exact x_iret hx hb hr hlocks hK hP hD hS ⟨so_1 hf, hw0⟩ dX3_noted_13
  · have hf := onO_s hf
    obtain ⟨hg_2, hf⟩ := gd_e hf
    refine W.eq (g2 := F0 m 5 ls [.ref (ad (12 + 5 * g_2))]) rfl ?_
    refine lv_astore_n (lv' := [(3, .ref (ad (12 + 5 * g_2))), (0, .ref (ad 0)), (1, .int a1), (2, .int a2)]) hx hb dX3_noted_5 rfl hl (by decide) rfl (fun ls hl => ?_)
    refine lv_aload_n hx hb dX3_noted_6 rfl (lv_at hl 0 rfl) ?_
    refine lv_ifnonnull (tgt := 14) hx hb dX3_noted_7 (by decide) ?_
    refine lv_iload_n hx hb dX3_noted_14 rfl (lv_at hl 3 rfl) ?_
    refine lv_iconst (v := (0 : Int32)) hx hb dX3_noted_15 (by decide) ?_
    refine lv_aload_n hx hb dX3_noted_16 rfl (lv_at hl 0 rfl) ?_
    refine va_getN (host := "BittenBoards") (D := (dC, dI)) (ci := 1) (v := .int (w.2.2.1 4 g_2)) (C := RX1) (T := TX1) (N := 12) hx hb hts inX1 hown hK hP (12 + 5 * g_2) (xc_o hg_2) rfl 10 (by decide) (va_Nw.use rfl (hN (.fieldLinkNest RX3 130 "BittenBoards$Game" "noted" "I" "BittenBoards") (by decide +kernel))) (fun _ h9 => h9) rfl dX3_noted_17 ?_
    refine lv_iconst (v := (1 : Int32)) hx hb dX3_noted_20 (by decide) ?_
    refine lv_isub hx hb dX3_noted_21 ?_
    obtain ⟨r_22, hc22, hf⟩ := bn_e hf
    refine x_calli hD hS hAA (va_runS (As := [.int a2, .int (0 : Int32), .int ((w.2.2.1 4 g_2) - (1 : Int32))]) (rest := []) ⟨hx, hb, hml, hown, hts⟩ (k_xf_C_isWithin l dC dI cI cZ cG ad H.size w a2 (0 : Int32) ((w.2.2.1 4 g_2) - (1 : Int32)) r_22 w hc22 rfl) (va_cwS 3 hts gX3_noted_X3_isWithin rfl rfl rfl (by decide +kernel) ⟨Nat.le_of_ble_eq_true rfl, Nat.le_of_ble_eq_true rfl⟩) ⟨x_blind, fun U hU hW => x_pre hU hW hK hP hD hN⟩ rfl rfl hl.1 rfl (lv_room (Nat.le_of_ble_eq_true rfl)) dX3_noted_22 ⟨Nat.zero_le _, Nat.zero_le _⟩) (fun H locs hP hD hS => ?_)
    refine lv_if_eq (tgt := 39) hx hb dX3_noted_25 (by decide) (fun h25 => ?_) (fun h25 => ?_)
    · have hf := if_t h25 hf
      refine lv_iconst (v := (-1 : Int32)) hx hb dX3_noted_39 (by decide) ?_
      exact x_iret hx hb hr hlocks hK hP hD hS ⟨so_1 hf, hw0⟩ dX3_noted_40
    · have hf := if_f h25 hf
      refine lv_aload_n hx hb dX3_noted_28 rfl (lv_at hl 0 rfl) ?_
      refine va_getN (host := "BittenBoards") (D := (dC, dI)) (ci := 1) (v := .ref (ad (14 + 5 * g_2))) (C := RX1) (T := TX1) (N := 12) hx hb hts inX1 hown hK hP (12 + 5 * g_2) (xc_o hg_2) rfl 3 (by decide) (va_Nw.use rfl (hN (.fieldLinkNest RX3 173 "BittenBoards$Game" "bites" "[I" "BittenBoards") (by decide +kernel))) (fun _ h9 => h9) rfl dX3_noted_29 ?_
      refine lv_iload_n hx hb dX3_noted_32 rfl (lv_at hl 3 rfl) ?_
      obtain ⟨r_33, hc33, hf⟩ := bn_e hf
      refine x_calli hD hS hAA (va_runS (As := [.ref (ad (14 + 5 * g_2)), .int a2]) (rest := []) ⟨hx, hb, hml, hown, hts⟩ (k_xf_C_at l dC dI cI cZ cG ad H.size w 100 (w.2.2.2.1 1 g_2) (ad (14 + 5 * g_2)) (14 + 5 * g_2) (xc_r1 hg_2) a2 r_33 w hc33 rfl) (va_cwS 2 hts gX3_noted_X3_at rfl rfl rfl (by decide +kernel) ⟨Nat.le_of_ble_eq_true rfl, Nat.le_of_ble_eq_true rfl⟩) ⟨x_blind, fun U hU hW => x_pre hU hW hK hP hD hN⟩ rfl rfl hl.1 rfl (lv_room (Nat.le_of_ble_eq_true rfl)) dX3_noted_33 ⟨Nat.zero_le _, Nat.zero_le _⟩) (fun H locs hP hD hS => ?_)
      refine lv_goto (tgt := 40) hx hb dX3_noted_36 (by decide) ?_
      exact x_iret hx hb hr hlocks hK hP hD hS ⟨so_1 hf, hw0⟩ dX3_noted_40
set_option maxHeartbeats 4000000 in
set_option maxRecDepth 100000 in
theorem k_xf_C_isSum (l : Launch) (dC : Nat → ClassId) (dI : Nat → Nat → Nat) (cI cZ cG : ClassId) (ad : Nat → Nat) (sz : Nat) (w : xW) (a1 : Int32) (r0 : Int32) (w0 : xW) (hf : xf_C_isSum a1 w = some r0) (hw0 : w = w0) : Met l yX3_isSum wsX3_isSum ({ frames := 1, cells := 0, slots := 0, locals := 22 } : Room) (va_Pc [.ref (ad 0), .int a1] (xPre dC dI cI cZ cG ad sz w)) (va_Qi (fun (r : Int32) (u : xW) => r = r0 ∧ u = w0) (xB dC dI cI cZ cG ad (xA ad sz)) (xA ad sz)) 0 0 (xA ad sz) := by
  refine Met.ofW (cc := cX3_isSum) (maxL := 2) (ret := (some .boolean)) (by decide) rfl ?_
  intro p e s m args below meth c s₁ B hml hv
  obtain ⟨rfl, hsz, hP, hK, hD0, hN⟩ := hv
  have hx := B.exec
  have hb := B.bytes
  have hr := B.returns
  have hts := atoms_spec (ws := wsX3_isSum) B.pre
  have hown : s.vm.findClass RX3 = some m.cls := findClass_of_methodNamed B.named
  have hlocks := B.notSynchronized
  have inX3 : ∀ w ∈ u_ws RX3 TX3 4, w ∈ wsX3_isSum := by decide +kernel
  subst hsz
  have hD : va_D (xA ad s.heap.size) (xc cI cG ad w) := xD_self hD0
  have hAA : ∀ z q, s.heap.size ≤ z → xA ad z q → xA ad s.heap.size q := xA_mono
  generalize xA ad s.heap.size = A at hD hAA ⊢
  have hS : va_S A s.heap s.heap [] := va_S.rf
  have hl := lv_entry ([.ref (ad 0), .int a1]) (n := 2) (Nat.le_of_ble_eq_true rfl)
  rw [lg_entry_eq]
  generalize (lg_sl ([.ref (ad 0), .int a1]) ++ List.replicate (2 - (lg_sl ([.ref (ad 0), .int a1])).length) Slot.unset).toArray = ls at hl ⊢
  have hl : lv_has ls 2 [(0, .ref (ad 0)), (1, .int a1)] := hl
  unfold xf_C_isSum at hf
  refine lv_iload_n hx hb dX3_isSum_0 rfl (lv_at hl 1 rfl) ?_
  refine lv_iconst (v := (1 : Int32)) hx hb dX3_isSum_1 (by decide) ?_
  refine lv_iconst (v := (1 : Int32)) hx hb dX3_isSum_2 (by decide) ?_
  refine lv_aload_n hx hb dX3_isSum_3 rfl (lv_at hl 0 rfl) ?_
  refine va_get (D := (dC, dI)) (ci := 3) (v := .int (w.1 0)) (C := RX3) (T := TX3) (N := 4) hx hb hts inX3 hown hK hP 0 rfl rfl 3 (by decide) (hts (.fieldLink RX3 54 "BittenBoards" "count" "I") (by decide +kernel)) (fun _ h9 => h9) rfl dX3_isSum_4 ?_
  refine lv_ishl hx hb dX3_isSum_7 ?_
  refine lv_iconst (v := (1 : Int32)) hx hb dX3_isSum_8 (by decide) ?_
  refine lv_isub hx hb dX3_isSum_9 ?_
  obtain ⟨r_10, hc10, hf⟩ := bn_e hf
  refine x_calli hD hS hAA (va_runS (As := [.int a1, .int (1 : Int32), .int (((1 : Int32) <<< ((w.1 0) &&& 31)) - (1 : Int32))]) (rest := []) ⟨hx, hb, hml, hown, hts⟩ (k_xf_C_isWithin l dC dI cI cZ cG ad s.heap.size w a1 (1 : Int32) (((1 : Int32) <<< ((w.1 0) &&& 31)) - (1 : Int32)) r_10 w hc10 rfl) (va_cwS 3 hts gX3_isSum_X3_isWithin rfl rfl rfl (by decide +kernel) ⟨Nat.le_of_ble_eq_true rfl, Nat.le_of_ble_eq_true rfl⟩) ⟨x_blind, fun U hU hW => x_pre hU hW hK hP hD hN⟩ rfl rfl hl.1 rfl (lv_room (Nat.le_of_ble_eq_true rfl)) dX3_isSum_10 ⟨Nat.zero_le _, Nat.zero_le _⟩) (fun H locs hP hD hS => ?_)
  obtain ⟨hg13, hf⟩ := gd_e hf
  exact x_zret hx hb hr hlocks hg13 hK hP hD hS ⟨so_1 hf, hw0⟩ dX3_isSum_13
set_option maxHeartbeats 4000000 in
set_option maxRecDepth 100000 in
theorem k_xf_C_worthOfSum (l : Launch) (dC : Nat → ClassId) (dI : Nat → Nat → Nat) (cI cZ cG : ClassId) (ad : Nat → Nat) (sz : Nat) (w : xW) (a1 : Int32) (r0 : Int32) (w0 : xW) (hf : xf_C_worthOfSum a1 w = some (r0, w0)) : Met l yX3_worthOfSum wsX3_worthOfSum ({ frames := 5, cells := 0, slots := 0, locals := 110 } : Room) (va_Pc [.ref (ad 0), .int a1] (xPre dC dI cI cZ cG ad sz w)) (va_Qi (fun (r : Int32) (u : xW) => r = r0 ∧ u = w0) (xB dC dI cI cZ cG ad (xA ad sz)) (xA ad sz)) 0 0 (xA ad sz) := by
  refine Met.ofW (cc := cX3_worthOfSum) (maxL := 5) (ret := (some .int)) (by decide) rfl ?_
  intro p e s m args below meth c s₁ B hml hv
  obtain ⟨rfl, hsz, hP, hK, hD0, hN⟩ := hv
  have hx := B.exec
  have hb := B.bytes
  have hr := B.returns
  have hts := atoms_spec (ws := wsX3_worthOfSum) B.pre
  have hown : s.vm.findClass RX3 = some m.cls := findClass_of_methodNamed B.named
  have hlocks := B.notSynchronized
  have inX3 : ∀ w ∈ u_ws RX3 TX3 4, w ∈ wsX3_worthOfSum := by decide +kernel
  have inX1 : ∀ w ∈ u_ws RX1 TX1 12, w ∈ wsX3_worthOfSum := by decide +kernel
  subst hsz
  have hD : va_D (xA ad s.heap.size) (xc cI cG ad w) := xD_self hD0
  have hAA : ∀ z q, s.heap.size ≤ z → xA ad z q → xA ad s.heap.size q := xA_mono
  generalize xA ad s.heap.size = A at hD hAA ⊢
  have hS : va_S A s.heap s.heap [] := va_S.rf
  have C4 : ∀ (n4 : Nat) (x1 : Int32) (x2 : Int32) (x3 : Int32) (w : xW), xf_C_worthOfSum_C4 n4 x1 x2 x3 w = some (r0, w0) → ∀ (H : Heap) (locs : List Loc) (ls : Array Slot), va_P (dC, dI) vwCl (xc cI cG ad w) H → va_D A (xc cI cG ad w) → va_S A s.heap H locs → lv_has ls 5 [(0, .ref (ad 0)), (1, .int x1), (2, .int x2), (3, .int x3)] → W p l e (headSpec wsX3_worthOfSum ({ frames := 5, cells := 0, slots := 0, locals := 110 } : Room)).room s m (List.toArray [Value.ref (ad 0), Value.int a1]) below meth c H locs 0 0 (MQ below (va_Qi (fun (r : Int32) (u : xW) => r = r0 ∧ u = w0) (xB dC dI cI cZ cG ad A) A) (List.toArray [Value.ref (ad 0), Value.int a1]) s 0 0 A) (F0 m 4 ls []) := by
    intro n4
    induction n4 with
    | zero => intro x1 x2 x3 w hf; cases hf
    | succ n4 ih4 =>
      intro x1 x2 x3 w hf H locs ls hP hD hS hl
      rw [xf_C_worthOfSum_C4] at hf
      refine lv_iload_n hx hb dX3_worthOfSum_4 rfl (lv_at hl 3 rfl) ?_
      refine lv_aload_n hx hb dX3_worthOfSum_5 rfl (lv_at hl 0 rfl) ?_
      refine va_get (D := (dC, dI)) (ci := 3) (v := .int (w.1 0)) (C := RX3) (T := TX3) (N := 4) hx hb hts inX3 hown hK hP 0 rfl rfl 3 (by decide) (hts (.fieldLink RX3 54 "BittenBoards" "count" "I") (by decide +kernel)) (fun _ h9 => h9) rfl dX3_worthOfSum_6 ?_
      refine lv_icmp_ge (tgt := 64) hx hb dX3_worthOfSum_9 (by decide) (fun h9 => ?_) (fun h9 => ?_)
      · have hf := if_t h9 hf
        refine lv_iload_n hx hb dX3_worthOfSum_64 rfl (lv_at hl 2 rfl) ?_
        exact x_iret hx hb hr hlocks hK hP hD hS (so_2 hf) dX3_worthOfSum_65
      · have hf := if_f h9 hf
        refine lv_iload_n hx hb dX3_worthOfSum_12 rfl (lv_at hl 3 rfl) ?_
        refine lv_aload_n hx hb dX3_worthOfSum_13 rfl (lv_at hl 0 rfl) ?_
        refine va_get (D := (dC, dI)) (ci := 3) (v := .ref (ad 1)) (C := RX3) (T := TX3) (N := 4) hx hb hts inX3 hown hK hP 0 rfl rfl 1 (by decide) (hts (.fieldLink RX3 11 "BittenBoards" "games" "[LBittenBoards$Game;") (by decide +kernel)) (fun _ h9 => h9) rfl dX3_worthOfSum_14 ?_
        refine va_alen (v := (6 : Int32)) hx hb hK hP 1 2 rfl rfl (by rfl) dX3_worthOfSum_17 ?_
        refine lv_icmp_ge (tgt := 64) hx hb dX3_worthOfSum_18 (by decide) (fun h18 => ?_) (fun h18 => ?_)
        · have hf := if_t h18 hf
          refine lv_iload_n hx hb dX3_worthOfSum_64 rfl (lv_at hl 2 rfl) ?_
          exact x_iret hx hb hr hlocks hK hP hD hS (so_2 hf) dX3_worthOfSum_65
        · have hf := if_f h18 hf
          refine lv_aload_n hx hb dX3_worthOfSum_21 rfl (lv_at hl 0 rfl) ?_
          refine va_get (D := (dC, dI)) (ci := 3) (v := .ref (ad 1)) (C := RX3) (T := TX3) (N := 4) hx hb hts inX3 hown hK hP 0 rfl rfl 1 (by decide) (hts (.fieldLink RX3 11 "BittenBoards" "games" "[LBittenBoards$Game;") (by decide +kernel)) (fun _ h9 => h9) rfl dX3_worthOfSum_22 ?_
          refine lv_iload_n hx hb dX3_worthOfSum_25 rfl (lv_at hl 3 rfl) ?_
          obtain ⟨hg26, hf⟩ := gi_e hf
          obtain ⟨g_26, eg_26, hf⟩ := nm_x hf
          have hg_26 : g_26 < 6 := by rw [eg_26]; exact vp_lt hg26
          refine va_aldq (f := fun j => some (ad (12 + 5 * j))) hx hb hK hP 1 2 rfl rfl hg26 dX3_worthOfSum_26 ?_
          refine W.eq (g2 := F0 m 27 ls [.ref (ad (12 + 5 * g_26))]) (by rw [eg_26]; rfl) ?_
          refine lv_astore (lv' := [(4, .ref (ad (12 + 5 * g_26))), (0, .ref (ad 0)), (1, .int x1), (2, .int x2), (3, .int x3)]) hx hb dX3_worthOfSum_27 hl (by decide) rfl (fun ls hl => ?_)
          refine lv_aload hx hb dX3_worthOfSum_29 (lv_at hl 0 rfl) ?_
          refine lv_ifnull hx hb dX3_worthOfSum_31 ?_
          refine lv_iload_n hx hb dX3_worthOfSum_34 rfl (lv_at hl 2 rfl) ?_
          refine lv_iload_n hx hb dX3_worthOfSum_35 rfl (lv_at hl 4 rfl) ?_
          refine lv_ishr hx hb dX3_worthOfSum_36 ?_
          refine lv_iconst (v := (1 : Int32)) hx hb dX3_worthOfSum_37 (by decide) ?_
          refine lv_iand hx hb dX3_worthOfSum_38 ?_
          refine lv_if_eq (tgt := 58) hx hb dX3_worthOfSum_39 (by decide) (fun h39 => ?_) (fun h39 => ?_)
          · have hf := if_t h39 hf
            obtain ⟨x3_58, ex3_58, hf⟩ := nm_x hf
            refine lv_iinc (v := x3_58) (lv' := [(3, .int x3_58), (4, .ref (ad (12 + 5 * g_26))), (0, .ref (ad 0)), (1, .int x1), (2, .int x2)]) hx hb dX3_worthOfSum_58 hl (k := 4) rfl (by rw [ex3_58]; rfl) (by decide) rfl (fun ls hl => ?_)
            refine lv_goto (tgt := 4) hx hb dX3_worthOfSum_61 (by decide) ?_
            exact ih4 x1 x2 x3_58 w hf _ _ _ hP hD hS (lv_sub hl [2, 3, 4, 0] rfl)
          · have hf := if_f h39 hf
            refine lv_iload_n hx hb dX3_worthOfSum_42 rfl (lv_at hl 3 rfl) ?_
            refine lv_aload hx hb dX3_worthOfSum_43 (lv_at hl 0 rfl) ?_
            refine lv_aload hx hb dX3_worthOfSum_45 (lv_at hl 0 rfl) ?_
            refine va_getN (host := "BittenBoards") (D := (dC, dI)) (ci := 1) (v := .int (w.2.2.1 3 g_26)) (C := RX1) (T := TX1) (N := 12) hx hb hts inX1 hown hK hP (12 + 5 * g_26) (xc_o hg_26) rfl 9 (by decide) (va_Nw.use rfl (hN (.fieldLinkNest RX3 73 "BittenBoards$Game" "state" "I" "BittenBoards") (by decide +kernel))) (fun _ h9 => h9) rfl dX3_worthOfSum_47 ?_
            obtain ⟨r_50, w_50, hc50, hf⟩ := bn2_e hf
            refine x_calli hD hS hAA (va_runV (As := [.int (w.2.2.1 3 g_26)]) (rest := [.int x2]) ⟨hx, hb, hml, hown, hts⟩ (k_xf_G_factsOf l dC dI cI cZ cG ad H.size w g_26 hg_26 (w.2.2.1 3 g_26) r_50 w_50 hc50) (cwV 1 hts gX3_worthOfSum_X1_factsOf rfl rfl rfl (by decide +kernel) ⟨Nat.le_of_ble_eq_true rfl, Nat.le_of_ble_eq_true rfl⟩) ⟨x_blind, va_recv hK hP (ci := 1) (q0 := (12 + 5 * g_26)) rfl (xc_o hg_26), fun U hU hW => x_pre hU hW hK hP hD hN⟩ rfl rfl hl.1 rfl (lv_room (Nat.le_of_ble_eq_true rfl)) dX3_worthOfSum_50 ⟨Nat.zero_le _, Nat.zero_le _⟩) (fun H locs hP hD hS => ?_)
            obtain ⟨r_53, hc53, hf⟩ := bn_e hf
            refine x_calli hD hS hAA (va_runS (As := [.int r_50]) (rest := [.int x2]) ⟨hx, hb, hml, hown, hts⟩ (k_xf_C_worthIn l dC dI cI cZ cG ad H.size w_50 r_50 r_53 w_50 hc53 rfl) (va_cwS 1 hts gX3_worthOfSum_X3_worthIn rfl rfl rfl (by decide +kernel) ⟨Nat.le_of_ble_eq_true rfl, Nat.le_of_ble_eq_true rfl⟩) ⟨x_blind, fun U hU hW => x_pre hU hW hK hP hD hN⟩ rfl rfl hl.1 rfl (lv_room (Nat.le_of_ble_eq_true rfl)) dX3_worthOfSum_53 ⟨Nat.zero_le _, Nat.zero_le _⟩) (fun H locs hP hD hS => ?_)
            refine lv_ixor hx hb dX3_worthOfSum_56 ?_
            obtain ⟨x2_57, ex2_57, hf⟩ := nm_x hf
            refine W.eq (g2 := F0 m 57 ls [.int x2_57]) (by rw [ex2_57]) ?_
            refine lv_istore_n (lv' := [(2, .int x2_57), (4, .ref (ad (12 + 5 * g_26))), (0, .ref (ad 0)), (1, .int x1), (3, .int x3)]) hx hb dX3_worthOfSum_57 rfl hl (by decide) rfl (fun ls hl => ?_)
            obtain ⟨x3_58, ex3_58, hf⟩ := nm_x hf
            refine lv_iinc (v := x3_58) (lv' := [(3, .int x3_58), (2, .int x2_57), (4, .ref (ad (12 + 5 * g_26))), (0, .ref (ad 0)), (1, .int x1)]) hx hb dX3_worthOfSum_58 hl (k := 4) rfl (by rw [ex3_58]; rfl) (by decide) rfl (fun ls hl => ?_)
            refine lv_goto (tgt := 4) hx hb dX3_worthOfSum_61 (by decide) ?_
            exact ih4 x1 x2_57 x3_58 w_50 hf _ _ _ hP hD hS (lv_sub hl [3, 4, 1, 0] rfl)
  have hl := lv_entry ([.ref (ad 0), .int a1]) (n := 5) (Nat.le_of_ble_eq_true rfl)
  rw [lg_entry_eq]
  generalize (lg_sl ([.ref (ad 0), .int a1]) ++ List.replicate (5 - (lg_sl ([.ref (ad 0), .int a1])).length) Slot.unset).toArray = ls at hl ⊢
  have hl : lv_has ls 5 [(0, .ref (ad 0)), (1, .int a1)] := hl
  unfold xf_C_worthOfSum at hf
  refine lv_iconst (v := (0 : Int32)) hx hb dX3_worthOfSum_0 (by decide) ?_
  refine lv_istore_n (lv' := [(2, .int (0 : Int32)), (0, .ref (ad 0)), (1, .int a1)]) hx hb dX3_worthOfSum_1 rfl hl (by decide) rfl (fun ls hl => ?_)
  refine lv_iconst (v := (0 : Int32)) hx hb dX3_worthOfSum_2 (by decide) ?_
  refine lv_istore_n (lv' := [(3, .int (0 : Int32)), (2, .int (0 : Int32)), (0, .ref (ad 0)), (1, .int a1)]) hx hb dX3_worthOfSum_3 rfl hl (by decide) rfl (fun ls hl => ?_)
  exact C4 fu a1 (0 : Int32) (0 : Int32) w hf _ _ _ hP hD hS (lv_sub hl [2, 3, 1, 0] rfl)
set_option maxHeartbeats 4000000 in
set_option maxRecDepth 100000 in
theorem k_xf_C_sum (l : Launch) (dC : Nat → ClassId) (dI : Nat → Nat → Nat) (cI cZ cG : ClassId) (ad : Nat → Nat) (sz : Nat) (w : xW) (a1 : Int32) (r0 : Int32) (w0 : xW) (hf : xf_C_sum a1 w = some (r0, w0)) : Met l yX3_sum wsX3_sum ({ frames := 6, cells := 0, slots := 0, locals := 134 } : Room) (va_Pc [.ref (ad 0), .int a1] (xPre dC dI cI cZ cG ad sz w)) (va_Qi (fun (r : Int32) (u : xW) => r = r0 ∧ u = w0) (xB dC dI cI cZ cG ad (xA ad sz)) (xA ad sz)) 0 0 (xA ad sz) := by
  refine Met.ofW (cc := cX3_sum) (maxL := 2) (ret := (some .int)) (by decide) rfl ?_
  intro p e s m args below meth c s₁ B hml hv
  obtain ⟨rfl, hsz, hP, hK, hD0, hN⟩ := hv
  have hx := B.exec
  have hb := B.bytes
  have hr := B.returns
  have hts := atoms_spec (ws := wsX3_sum) B.pre
  have hown : s.vm.findClass RX3 = some m.cls := findClass_of_methodNamed B.named
  have hlocks := B.notSynchronized
  subst hsz
  have hD : va_D (xA ad s.heap.size) (xc cI cG ad w) := xD_self hD0
  have hAA : ∀ z q, s.heap.size ≤ z → xA ad z q → xA ad s.heap.size q := xA_mono
  generalize xA ad s.heap.size = A at hD hAA ⊢
  have hS : va_S A s.heap s.heap [] := va_S.rf
  have hl := lv_entry ([.ref (ad 0), .int a1]) (n := 2) (Nat.le_of_ble_eq_true rfl)
  rw [lg_entry_eq]
  generalize (lg_sl ([.ref (ad 0), .int a1]) ++ List.replicate (2 - (lg_sl ([.ref (ad 0), .int a1])).length) Slot.unset).toArray = ls at hl ⊢
  have hl : lv_has ls 2 [(0, .ref (ad 0)), (1, .int a1)] := hl
  unfold xf_C_sum at hf
  refine lv_aload_n hx hb dX3_sum_0 rfl (lv_at hl 0 rfl) ?_
  refine lv_iload_n hx hb dX3_sum_1 rfl (lv_at hl 1 rfl) ?_
  obtain ⟨r_2, hc2, hf⟩ := bn_e hf
  refine x_calli hD hS hAA (va_runV (As := [.int a1]) (rest := []) ⟨hx, hb, hml, hown, hts⟩ (k_xf_C_isSum l dC dI cI cZ cG ad s.heap.size w a1 r_2 w hc2 rfl) (cwV 1 hts gX3_sum_X3_isSum rfl rfl rfl (by decide +kernel) ⟨Nat.le_of_ble_eq_true rfl, Nat.le_of_ble_eq_true rfl⟩) ⟨x_blind, va_recv hK hP (ci := 3) (q0 := 0) rfl rfl, fun U hU hW => x_pre hU hW hK hP hD hN⟩ rfl rfl hl.1 rfl (lv_room (Nat.le_of_ble_eq_true rfl)) dX3_sum_2 ⟨Nat.zero_le _, Nat.zero_le _⟩) (fun H locs hP hD hS => ?_)
  refine lv_if_eq (tgt := 16) hx hb dX3_sum_5 (by decide) (fun h5 => ?_) (fun h5 => ?_)
  · have hf := if_t h5 hf
    refine lv_sipush (v := (-1002 : Int32)) hx hb dX3_sum_16 (by decide) ?_
    exact x_iret hx hb hr hlocks hK hP hD hS (so_2 hf) dX3_sum_19
  · have hf := if_f h5 hf
    refine lv_aload_n hx hb dX3_sum_8 rfl (lv_at hl 0 rfl) ?_
    refine lv_iload_n hx hb dX3_sum_9 rfl (lv_at hl 1 rfl) ?_
    obtain ⟨r_10, w_10, hc10, hf⟩ := bn2_e hf
    refine x_calli hD hS hAA (va_runV (As := [.int a1]) (rest := []) ⟨hx, hb, hml, hown, hts⟩ (k_xf_C_worthOfSum l dC dI cI cZ cG ad H.size w a1 r_10 w_10 hc10) (cwV 1 hts gX3_sum_X3_worthOfSum rfl rfl rfl (by decide +kernel) ⟨Nat.le_of_ble_eq_true rfl, Nat.le_of_ble_eq_true rfl⟩) ⟨x_blind, va_recv hK hP (ci := 3) (q0 := 0) rfl rfl, fun U hU hW => x_pre hU hW hK hP hD hN⟩ rfl rfl hl.1 rfl (lv_room (Nat.le_of_ble_eq_true rfl)) dX3_sum_10 ⟨Nat.zero_le _, Nat.zero_le _⟩) (fun H locs hP hD hS => ?_)
    refine lv_goto (tgt := 19) hx hb dX3_sum_13 (by decide) ?_
    exact x_iret hx hb hr hlocks hK hP hD hS (so_2 hf) dX3_sum_19
set_option maxHeartbeats 4000000 in
set_option maxRecDepth 100000 in
theorem k_xf_G_findBiteTo (l : Launch) (dC : Nat → ClassId) (dI : Nat → Nat → Nat) (cI cZ cG : ClassId) (ad : Nat → Nat) (sz : Nat) (w : xW) (g : Nat) (hg : g < 6) (a1 : Int32) (r0 : Int32) (w0 : xW) (hf : xf_G_findBiteTo g a1 w = some (r0, w0)) : Met l yX1_findBiteTo wsX1_findBiteTo ({ frames := 5, cells := 0, slots := 0, locals := 115 } : Room) (va_Pc [.ref (ad (12 + 5 * g)), .int a1] (xPre dC dI cI cZ cG ad sz w)) (va_Qi (fun (r : Int32) (u : xW) => r = r0 ∧ u = w0) (xB dC dI cI cZ cG ad (xA ad sz)) (xA ad sz)) 0 0 (xA ad sz) := by
  refine Met.ofW (cc := cX1_findBiteTo) (maxL := 4) (ret := (some .int)) (by decide) rfl ?_
  intro p e s m args below meth c s₁ B hml hv
  obtain ⟨rfl, hsz, hP, hK, hD0, hN⟩ := hv
  have hx := B.exec
  have hb := B.bytes
  have hr := B.returns
  have hts := atoms_spec (ws := wsX1_findBiteTo) B.pre
  have hown : s.vm.findClass RX1 = some m.cls := findClass_of_methodNamed B.named
  have hlocks := B.notSynchronized
  subst hsz
  have hD : va_D (xA ad s.heap.size) (xc cI cG ad w) := xD_self hD0
  have hAA : ∀ z q, s.heap.size ≤ z → xA ad z q → xA ad s.heap.size q := xA_mono
  generalize xA ad s.heap.size = A at hD hAA ⊢
  have hS : va_S A s.heap s.heap [] := va_S.rf
  have C7 : ∀ (n7 : Nat) (x1 : Int32) (x2 : Int32) (x3 : Int32) (w : xW), xf_G_findBiteTo_C7 g n7 x1 x2 x3 w = some (r0, w0) → ∀ (H : Heap) (locs : List Loc) (ls : Array Slot), va_P (dC, dI) vwCl (xc cI cG ad w) H → va_D A (xc cI cG ad w) → va_S A s.heap H locs → lv_has ls 4 [(0, .ref (ad (12 + 5 * g))), (1, .int x1), (2, .int x2), (3, .int x3)] → W p l e (headSpec wsX1_findBiteTo ({ frames := 5, cells := 0, slots := 0, locals := 115 } : Room)).room s m (List.toArray [Value.ref (ad (12 + 5 * g)), Value.int a1]) below meth c H locs 0 0 (MQ below (va_Qi (fun (r : Int32) (u : xW) => r = r0 ∧ u = w0) (xB dC dI cI cZ cG ad A) A) (List.toArray [Value.ref (ad (12 + 5 * g)), Value.int a1]) s 0 0 A) (F0 m 7 ls []) := by
    intro n7
    induction n7 with
    | zero => intro x1 x2 x3 w hf; cases hf
    | succ n7 ih7 =>
      intro x1 x2 x3 w hf H locs ls hP hD hS hl
      rw [xf_G_findBiteTo_C7] at hf
      refine lv_iload_n hx hb dX1_findBiteTo_7 rfl (lv_at hl 3 rfl) ?_
      refine lv_iload_n hx hb dX1_findBiteTo_8 rfl (lv_at hl 2 rfl) ?_
      refine lv_icmp_ge (tgt := 36) hx hb dX1_findBiteTo_9 (by decide) (fun h9 => ?_) (fun h9 => ?_)
      · have hf := if_t h9 hf
        refine lv_iconst (v := (-1 : Int32)) hx hb dX1_findBiteTo_36 (by decide) ?_
        exact x_iret hx hb hr hlocks hK hP hD hS (so_2 hf) dX1_findBiteTo_37
      · have hf := if_f h9 hf
        refine lv_aload_n hx hb dX1_findBiteTo_12 rfl (lv_at hl 0 rfl) ?_
        refine lv_aload_n hx hb dX1_findBiteTo_13 rfl (lv_at hl 0 rfl) ?_
        refine lv_iload_n hx hb dX1_findBiteTo_14 rfl (lv_at hl 3 rfl) ?_
        obtain ⟨r_15, w_15, hc15, hf⟩ := bn2_e hf
        refine x_calli hD hS hAA (va_runV (As := [.int x3]) (rest := [.ref (ad (12 + 5 * g))]) ⟨hx, hb, hml, hown, hts⟩ (k_xf_G_stateAfter l dC dI cI cZ cG ad H.size w g hg x3 r_15 w_15 hc15) (cwV 1 hts gX1_findBiteTo_X1_stateAfter rfl rfl rfl (by decide +kernel) ⟨Nat.le_of_ble_eq_true rfl, Nat.le_of_ble_eq_true rfl⟩) ⟨x_blind, va_recv hK hP (ci := 1) (q0 := (12 + 5 * g)) rfl (xc_o hg), fun U hU hW => x_pre hU hW hK hP hD hN⟩ rfl rfl hl.1 rfl (lv_room (Nat.le_of_ble_eq_true rfl)) dX1_findBiteTo_15 ⟨Nat.zero_le _, Nat.zero_le _⟩) (fun H locs hP hD hS => ?_)
        obtain ⟨r_18, w_18, hc18, hf⟩ := bn2_e hf
        refine x_calli hD hS hAA (va_runV (As := [.int r_15]) (rest := []) ⟨hx, hb, hml, hown, hts⟩ (k_xf_G_factsOf l dC dI cI cZ cG ad H.size w_15 g hg r_15 r_18 w_18 hc18) (cwV 1 hts gX1_findBiteTo_X1_factsOf rfl rfl rfl (by decide +kernel) ⟨Nat.le_of_ble_eq_true rfl, Nat.le_of_ble_eq_true rfl⟩) ⟨x_blind, va_recv hK hP (ci := 1) (q0 := (12 + 5 * g)) rfl (xc_o hg), fun U hU hW => x_pre hU hW hK hP hD hN⟩ rfl rfl hl.1 rfl (lv_room (Nat.le_of_ble_eq_true rfl)) dX1_findBiteTo_18 ⟨Nat.zero_le _, Nat.zero_le _⟩) (fun H locs hP hD hS => ?_)
        obtain ⟨r_21, hc21, hf⟩ := bn_e hf
        refine x_calli hD hS hAA (va_runSN (host := "BittenBoards") (As := [.int r_18]) (rest := []) ⟨hx, hb, hml, hown, hts⟩ (k_xf_C_worthIn l dC dI cI cZ cG ad H.size w_18 r_18 r_21 w_18 hc21 rfl) ⟨va_cnB (host := "BittenBoards") 1 hts gX1_findBiteTo_X3_worthIn_n122 rfl rfl rfl (hN (.methodLinkNest RX1 122 yX3_worthIn "BittenBoards") (by decide +kernel)) (hts (.initialized RX3) (by decide +kernel)) (by decide +kernel) ⟨Nat.le_of_ble_eq_true rfl, Nat.le_of_ble_eq_true rfl⟩, hts (.static yX3_worthIn) (by decide +kernel), trivial⟩ ⟨x_blind, fun U hU hW => x_pre hU hW hK hP hD hN⟩ rfl rfl hl.1 rfl (lv_room (Nat.le_of_ble_eq_true rfl)) dX1_findBiteTo_21 ⟨Nat.zero_le _, Nat.zero_le _⟩) (fun H locs hP hD hS => ?_)
        refine lv_iload_n hx hb dX1_findBiteTo_24 rfl (lv_at hl 1 rfl) ?_
        refine lv_icmp_ne (tgt := 30) hx hb dX1_findBiteTo_25 (by decide) (fun h25 => ?_) (fun h25 => ?_)
        · have hf := if_f h25 hf
          obtain ⟨x3_30, ex3_30, hf⟩ := nm_x hf
          refine lv_iinc (v := x3_30) (lv' := [(3, .int x3_30), (0, .ref (ad (12 + 5 * g))), (1, .int x1), (2, .int x2)]) hx hb dX1_findBiteTo_30 hl (k := 3) rfl (by rw [ex3_30]; rfl) (by decide) rfl (fun ls hl => ?_)
          refine lv_goto (tgt := 7) hx hb dX1_findBiteTo_33 (by decide) ?_
          exact ih7 x1 x2 x3_30 w_18 hf _ _ _ hP hD hS (lv_sub hl [1, 2, 3, 0] rfl)
        · have hf := if_t h25 hf
          refine lv_iload_n hx hb dX1_findBiteTo_28 rfl (lv_at hl 3 rfl) ?_
          exact x_iret hx hb hr hlocks hK hP hD hS (so_2 hf) dX1_findBiteTo_29
  have hl := lv_entry ([.ref (ad (12 + 5 * g)), .int a1]) (n := 4) (Nat.le_of_ble_eq_true rfl)
  rw [lg_entry_eq]
  generalize (lg_sl ([.ref (ad (12 + 5 * g)), .int a1]) ++ List.replicate (4 - (lg_sl ([.ref (ad (12 + 5 * g)), .int a1])).length) Slot.unset).toArray = ls at hl ⊢
  have hl : lv_has ls 4 [(0, .ref (ad (12 + 5 * g))), (1, .int a1)] := hl
  unfold xf_G_findBiteTo at hf
  refine lv_aload_n hx hb dX1_findBiteTo_0 rfl (lv_at hl 0 rfl) ?_
  obtain ⟨r_1, w_1, hc1, hf⟩ := bn2_e hf
  refine x_calli hD hS hAA (va_runV (As := []) (rest := []) ⟨hx, hb, hml, hown, hts⟩ (k_xf_G_countBites l dC dI cI cZ cG ad s.heap.size w g hg r_1 w_1 hc1) (cwV 0 hts gX1_findBiteTo_X1_countBites rfl rfl rfl (by decide +kernel) ⟨Nat.le_of_ble_eq_true rfl, Nat.le_of_ble_eq_true rfl⟩) ⟨x_blind, va_recv hK hP (ci := 1) (q0 := (12 + 5 * g)) rfl (xc_o hg), fun U hU hW => x_pre hU hW hK hP hD hN⟩ rfl rfl hl.1 rfl (lv_room (Nat.le_of_ble_eq_true rfl)) dX1_findBiteTo_1 ⟨Nat.zero_le _, Nat.zero_le _⟩) (fun H locs hP hD hS => ?_)
  refine lv_istore_n (lv' := [(2, .int r_1), (0, .ref (ad (12 + 5 * g))), (1, .int a1)]) hx hb dX1_findBiteTo_4 rfl hl (by decide) rfl (fun ls hl => ?_)
  refine lv_iconst (v := (0 : Int32)) hx hb dX1_findBiteTo_5 (by decide) ?_
  refine lv_istore_n (lv' := [(3, .int (0 : Int32)), (2, .int r_1), (0, .ref (ad (12 + 5 * g))), (1, .int a1)]) hx hb dX1_findBiteTo_6 rfl hl (by decide) rfl (fun ls hl => ?_)
  exact C7 fu a1 r_1 (0 : Int32) w_1 hf _ _ _ hP hD hS (lv_sub hl [2, 3, 1, 0] rfl)
set_option maxHeartbeats 4000000 in
set_option maxRecDepth 100000 in
theorem k_xf_C_inSum (l : Launch) (dC : Nat → ClassId) (dI : Nat → Nat → Nat) (cI cZ cG : ClassId) (ad : Nat → Nat) (sz : Nat) (w : xW) (a1 : Int32) (a2 : Int32) (r0 : Int32) (w0 : xW) (hf : xf_C_inSum a1 a2 w = some (r0, w0)) : Met l yX3_inSum wsX3_inSum ({ frames := 6, cells := 0, slots := 0, locals := 138 } : Room) (va_Pc [.ref (ad 0), .int a1, .int a2] (xPre dC dI cI cZ cG ad sz w)) (va_Qi (fun (r : Int32) (u : xW) => r = r0 ∧ u = w0) (xB dC dI cI cZ cG ad (xA ad sz)) (xA ad sz)) 0 0 (xA ad sz) := by
  refine Met.ofW (cc := cX3_inSum) (maxL := 7) (ret := (some .int)) (by decide) rfl ?_
  intro p e s m args below meth c s₁ B hml hv
  obtain ⟨rfl, hsz, hP, hK, hD0, hN⟩ := hv
  have hx := B.exec
  have hb := B.bytes
  have hr := B.returns
  have hts := atoms_spec (ws := wsX3_inSum) B.pre
  have hown : s.vm.findClass RX3 = some m.cls := findClass_of_methodNamed B.named
  have hlocks := B.notSynchronized
  have inX3 : ∀ w ∈ u_ws RX3 TX3 4, w ∈ wsX3_inSum := by decide +kernel
  have inX1 : ∀ w ∈ u_ws RX1 TX1 12, w ∈ wsX3_inSum := by decide +kernel
  subst hsz
  have hD : va_D (xA ad s.heap.size) (xc cI cG ad w) := xD_self hD0
  have hAA : ∀ z q, s.heap.size ≤ z → xA ad z q → xA ad s.heap.size q := xA_mono
  generalize xA ad s.heap.size = A at hD hAA ⊢
  have hS : va_S A s.heap s.heap [] := va_S.rf
  have C30 : ∀ (n30 : Nat) (x1 : Int32) (x2 : Int32) (x3 : Int32) (x4 : Int32) (w : xW), xf_C_inSum_C30 n30 x1 x2 x3 x4 w = some (r0, w0) → ∀ (H : Heap) (locs : List Loc) (ls : Array Slot), va_P (dC, dI) vwCl (xc cI cG ad w) H → va_D A (xc cI cG ad w) → va_S A s.heap H locs → lv_has ls 7 [(0, .ref (ad 0)), (1, .int x1), (2, .int x2), (3, .int x3), (4, .int x4)] → W p l e (headSpec wsX3_inSum ({ frames := 6, cells := 0, slots := 0, locals := 138 } : Room)).room s m (List.toArray [Value.ref (ad 0), Value.int a1, Value.int a2]) below meth c H locs 0 0 (MQ below (va_Qi (fun (r : Int32) (u : xW) => r = r0 ∧ u = w0) (xB dC dI cI cZ cG ad A) A) (List.toArray [Value.ref (ad 0), Value.int a1, Value.int a2]) s 0 0 A) (F0 m 30 ls []) := by
    intro n30
    induction n30 with
    | zero => intro x1 x2 x3 x4 w hf; cases hf
    | succ n30 ih30 =>
      intro x1 x2 x3 x4 w hf H locs ls hP hD hS hl
      rw [xf_C_inSum_C30] at hf
      refine lv_iload hx hb dX3_inSum_30 (lv_at hl 4 rfl) ?_
      refine lv_aload_n hx hb dX3_inSum_32 rfl (lv_at hl 0 rfl) ?_
      refine va_get (D := (dC, dI)) (ci := 3) (v := .int (w.1 0)) (C := RX3) (T := TX3) (N := 4) hx hb hts inX3 hown hK hP 0 rfl rfl 3 (by decide) (hts (.fieldLink RX3 54 "BittenBoards" "count" "I") (by decide +kernel)) (fun _ h9 => h9) rfl dX3_inSum_33 ?_
      refine lv_icmp_ge (tgt := 121) hx hb dX3_inSum_36 (by decide) (fun h36 => ?_) (fun h36 => ?_)
      · have hf := if_t h36 hf
        refine lv_iconst (v := (-1 : Int32)) hx hb dX3_inSum_121 (by decide) ?_
        exact x_iret hx hb hr hlocks hK hP hD hS (so_2 hf) dX3_inSum_122
      · have hf := if_f h36 hf
        refine lv_iload hx hb dX3_inSum_39 (lv_at hl 4 rfl) ?_
        refine lv_aload_n hx hb dX3_inSum_41 rfl (lv_at hl 0 rfl) ?_
        refine va_get (D := (dC, dI)) (ci := 3) (v := .ref (ad 1)) (C := RX3) (T := TX3) (N := 4) hx hb hts inX3 hown hK hP 0 rfl rfl 1 (by decide) (hts (.fieldLink RX3 11 "BittenBoards" "games" "[LBittenBoards$Game;") (by decide +kernel)) (fun _ h9 => h9) rfl dX3_inSum_42 ?_
        refine va_alen (v := (6 : Int32)) hx hb hK hP 1 2 rfl rfl (by rfl) dX3_inSum_45 ?_
        refine lv_icmp_ge (tgt := 121) hx hb dX3_inSum_46 (by decide) (fun h46 => ?_) (fun h46 => ?_)
        · have hf := if_t h46 hf
          refine lv_iconst (v := (-1 : Int32)) hx hb dX3_inSum_121 (by decide) ?_
          exact x_iret hx hb hr hlocks hK hP hD hS (so_2 hf) dX3_inSum_122
        · have hf := if_f h46 hf
          refine lv_aload_n hx hb dX3_inSum_49 rfl (lv_at hl 0 rfl) ?_
          refine va_get (D := (dC, dI)) (ci := 3) (v := .ref (ad 1)) (C := RX3) (T := TX3) (N := 4) hx hb hts inX3 hown hK hP 0 rfl rfl 1 (by decide) (hts (.fieldLink RX3 11 "BittenBoards" "games" "[LBittenBoards$Game;") (by decide +kernel)) (fun _ h9 => h9) rfl dX3_inSum_50 ?_
          refine lv_iload hx hb dX3_inSum_53 (lv_at hl 4 rfl) ?_
          obtain ⟨hg55, hf⟩ := gi_e hf
          obtain ⟨g_55, eg_55, hf⟩ := nm_x hf
          have hg_55 : g_55 < 6 := by rw [eg_55]; exact vp_lt hg55
          refine va_aldq (f := fun j => some (ad (12 + 5 * j))) hx hb hK hP 1 2 rfl rfl hg55 dX3_inSum_55 ?_
          refine W.eq (g2 := F0 m 56 ls [.ref (ad (12 + 5 * g_55))]) (by rw [eg_55]; rfl) ?_
          refine lv_astore (lv' := [(5, .ref (ad (12 + 5 * g_55))), (0, .ref (ad 0)), (1, .int x1), (2, .int x2), (3, .int x3), (4, .int x4)]) hx hb dX3_inSum_56 hl (by decide) rfl (fun ls hl => ?_)
          refine lv_aload hx hb dX3_inSum_58 (lv_at hl 0 rfl) ?_
          refine lv_ifnull hx hb dX3_inSum_60 ?_
          refine lv_iload_n hx hb dX3_inSum_63 rfl (lv_at hl 2 rfl) ?_
          refine lv_iload hx hb dX3_inSum_64 (lv_at hl 5 rfl) ?_
          refine lv_ishr hx hb dX3_inSum_66 ?_
          refine lv_iconst (v := (1 : Int32)) hx hb dX3_inSum_67 (by decide) ?_
          refine lv_iand hx hb dX3_inSum_68 ?_
          refine lv_if_ne (tgt := 75) hx hb dX3_inSum_69 (by decide) (fun h69 => ?_) (fun h69 => ?_)
          · have hf := if_f h69 hf
            refine lv_aload hx hb dX3_inSum_75 (lv_at hl 0 rfl) ?_
            refine lv_iload_n hx hb dX3_inSum_77 rfl (lv_at hl 4 rfl) ?_
            refine lv_aload hx hb dX3_inSum_78 (lv_at hl 0 rfl) ?_
            refine lv_aload hx hb dX3_inSum_80 (lv_at hl 0 rfl) ?_
            refine va_getN (host := "BittenBoards") (D := (dC, dI)) (ci := 1) (v := .int (w.2.2.1 3 g_55)) (C := RX1) (T := TX1) (N := 12) hx hb hts inX1 hown hK hP (12 + 5 * g_55) (xc_o hg_55) rfl 9 (by decide) (va_Nw.use rfl (hN (.fieldLinkNest RX3 73 "BittenBoards$Game" "state" "I" "BittenBoards") (by decide +kernel))) (fun _ h9 => h9) rfl dX3_inSum_82 ?_
            obtain ⟨r_85, w_85, hc85, hf⟩ := bn2_e hf
            refine x_calli hD hS hAA (va_runV (As := [.int (w.2.2.1 3 g_55)]) (rest := [.int x3, .ref (ad (12 + 5 * g_55))]) ⟨hx, hb, hml, hown, hts⟩ (k_xf_G_factsOf l dC dI cI cZ cG ad H.size w g_55 hg_55 (w.2.2.1 3 g_55) r_85 w_85 hc85) (cwV 1 hts gX3_inSum_X1_factsOf rfl rfl rfl (by decide +kernel) ⟨Nat.le_of_ble_eq_true rfl, Nat.le_of_ble_eq_true rfl⟩) ⟨x_blind, va_recv hK hP (ci := 1) (q0 := (12 + 5 * g_55)) rfl (xc_o hg_55), fun U hU hW => x_pre hU hW hK hP hD hN⟩ rfl rfl hl.1 rfl (lv_room (Nat.le_of_ble_eq_true rfl)) dX3_inSum_85 ⟨Nat.zero_le _, Nat.zero_le _⟩) (fun H locs hP hD hS => ?_)
            obtain ⟨r_88, hc88, hf⟩ := bn_e hf
            refine x_calli hD hS hAA (va_runS (As := [.int r_85]) (rest := [.int x3, .ref (ad (12 + 5 * g_55))]) ⟨hx, hb, hml, hown, hts⟩ (k_xf_C_worthIn l dC dI cI cZ cG ad H.size w_85 r_85 r_88 w_85 hc88 rfl) (va_cwS 1 hts gX3_inSum_X3_worthIn rfl rfl rfl (by decide +kernel) ⟨Nat.le_of_ble_eq_true rfl, Nat.le_of_ble_eq_true rfl⟩) ⟨x_blind, fun U hU hW => x_pre hU hW hK hP hD hN⟩ rfl rfl hl.1 rfl (lv_room (Nat.le_of_ble_eq_true rfl)) dX3_inSum_88 ⟨Nat.zero_le _, Nat.zero_le _⟩) (fun H locs hP hD hS => ?_)
            refine lv_ixor hx hb dX3_inSum_91 ?_
            obtain ⟨r_92, w_92, hc92, hf⟩ := bn2_e hf
            refine x_calli hD hS hAA (va_runV (As := [.int (x3 ^^^ r_88)]) (rest := []) ⟨hx, hb, hml, hown, hts⟩ (k_xf_G_findBiteTo l dC dI cI cZ cG ad H.size w_85 g_55 hg_55 (x3 ^^^ r_88) r_92 w_92 hc92) (cwV 1 hts gX3_inSum_X1_findBiteTo rfl rfl rfl (by decide +kernel) ⟨Nat.le_of_ble_eq_true rfl, Nat.le_of_ble_eq_true rfl⟩) ⟨x_blind, va_recv hK hP (ci := 1) (q0 := (12 + 5 * g_55)) rfl (xc_o hg_55), fun U hU hW => x_pre hU hW hK hP hD hN⟩ rfl rfl hl.1 rfl (lv_room (Nat.le_of_ble_eq_true rfl)) dX3_inSum_92 ⟨Nat.zero_le _, Nat.zero_le _⟩) (fun H locs hP hD hS => ?_)
            refine lv_istore (lv' := [(6, .int r_92), (5, .ref (ad (12 + 5 * g_55))), (0, .ref (ad 0)), (1, .int x1), (2, .int x2), (3, .int x3), (4, .int x4)]) hx hb dX3_inSum_95 hl (by decide) rfl (fun ls hl => ?_)
            refine lv_iload hx hb dX3_inSum_97 (lv_at hl 0 rfl) ?_
            refine lv_iconst (v := (-1 : Int32)) hx hb dX3_inSum_99 (by decide) ?_
            refine lv_icmp_eq (tgt := 115) hx hb dX3_inSum_100 (by decide) (fun h100 => ?_) (fun h100 => ?_)
            · have hf := if_t h100 hf
              obtain ⟨x4_115, ex4_115, hf⟩ := nm_x hf
              refine lv_iinc (v := x4_115) (lv' := [(4, .int x4_115), (6, .int r_92), (5, .ref (ad (12 + 5 * g_55))), (0, .ref (ad 0)), (1, .int x1), (2, .int x2), (3, .int x3)]) hx hb dX3_inSum_115 hl (k := 6) rfl (by rw [ex4_115]; rfl) (by decide) rfl (fun ls hl => ?_)
              refine lv_goto (tgt := 30) hx hb dX3_inSum_118 (by decide) ?_
              exact ih30 x1 x2 x3 x4_115 w_92 hf _ _ _ hP hD hS (lv_sub hl [3, 4, 5, 6, 0] rfl)
            · have hf := if_f h100 hf
              refine lv_iload_n hx hb dX3_inSum_103 rfl (lv_at hl 4 rfl) ?_
              refine lv_if_ne (tgt := 112) hx hb dX3_inSum_104 (by decide) (fun h104 => ?_) (fun h104 => ?_)
              · have hf := if_f h104 hf
                refine lv_iload hx hb dX3_inSum_112 (lv_at hl 0 rfl) ?_
                exact x_iret hx hb hr hlocks hK hP hD hS (so_2 hf) dX3_inSum_114
              · have hf := if_t h104 hf
                refine lv_iload hx hb dX3_inSum_107 (lv_at hl 6 rfl) ?_
                refine lv_goto (tgt := 114) hx hb dX3_inSum_109 (by decide) ?_
                exact x_iret hx hb hr hlocks hK hP hD hS (so_2 hf) dX3_inSum_114
          · have hf := if_t h69 hf
            refine lv_goto (tgt := 115) hx hb dX3_inSum_72 (by decide) ?_
            obtain ⟨x4_115, ex4_115, hf⟩ := nm_x hf
            refine lv_iinc (v := x4_115) (lv' := [(4, .int x4_115), (5, .ref (ad (12 + 5 * g_55))), (0, .ref (ad 0)), (1, .int x1), (2, .int x2), (3, .int x3)]) hx hb dX3_inSum_115 hl (k := 5) rfl (by rw [ex4_115]; rfl) (by decide) rfl (fun ls hl => ?_)
            refine lv_goto (tgt := 30) hx hb dX3_inSum_118 (by decide) ?_
            exact ih30 x1 x2 x3 x4_115 w hf _ _ _ hP hD hS (lv_sub hl [2, 3, 4, 5, 0] rfl)
  have hl := lv_entry ([.ref (ad 0), .int a1, .int a2]) (n := 7) (Nat.le_of_ble_eq_true rfl)
  rw [lg_entry_eq]
  generalize (lg_sl ([.ref (ad 0), .int a1, .int a2]) ++ List.replicate (7 - (lg_sl ([.ref (ad 0), .int a1, .int a2])).length) Slot.unset).toArray = ls at hl ⊢
  have hl : lv_has ls 7 [(0, .ref (ad 0)), (1, .int a1), (2, .int a2)] := hl
  unfold xf_C_inSum at hf
  refine lv_aload_n hx hb dX3_inSum_0 rfl (lv_at hl 0 rfl) ?_
  refine lv_iload_n hx hb dX3_inSum_1 rfl (lv_at hl 1 rfl) ?_
  obtain ⟨r_2, hc2, hf⟩ := bn_e hf
  refine x_calli hD hS hAA (va_runV (As := [.int a1]) (rest := []) ⟨hx, hb, hml, hown, hts⟩ (k_xf_C_isSum l dC dI cI cZ cG ad s.heap.size w a1 r_2 w hc2 rfl) (cwV 1 hts gX3_inSum_X3_isSum rfl rfl rfl (by decide +kernel) ⟨Nat.le_of_ble_eq_true rfl, Nat.le_of_ble_eq_true rfl⟩) ⟨x_blind, va_recv hK hP (ci := 3) (q0 := 0) rfl rfl, fun U hU hW => x_pre hU hW hK hP hD hN⟩ rfl rfl hl.1 rfl (lv_room (Nat.le_of_ble_eq_true rfl)) dX3_inSum_2 ⟨Nat.zero_le _, Nat.zero_le _⟩) (fun H locs hP hD hS => ?_)
  refine lv_if_eq (tgt := 17) hx hb dX3_inSum_5 (by decide) (fun h5 => ?_) (fun h5 => ?_)
  · have hf := if_t h5 hf
    refine lv_sipush (v := (-1002 : Int32)) hx hb dX3_inSum_17 (by decide) ?_
    exact x_iret hx hb hr hlocks hK hP hD hS (so_2 hf) dX3_inSum_20
  · have hf := if_f h5 hf
    refine lv_iload_n hx hb dX3_inSum_8 rfl (lv_at hl 2 rfl) ?_
    refine lv_iconst (v := (0 : Int32)) hx hb dX3_inSum_9 (by decide) ?_
    refine lv_iconst (v := (1 : Int32)) hx hb dX3_inSum_10 (by decide) ?_
    obtain ⟨r_11, hc11, hf⟩ := bn_e hf
    refine x_calli hD hS hAA (va_runS (As := [.int a2, .int (0 : Int32), .int (1 : Int32)]) (rest := []) ⟨hx, hb, hml, hown, hts⟩ (k_xf_C_isWithin l dC dI cI cZ cG ad H.size w a2 (0 : Int32) (1 : Int32) r_11 w hc11 rfl) (va_cwS 3 hts gX3_inSum_X3_isWithin rfl rfl rfl (by decide +kernel) ⟨Nat.le_of_ble_eq_true rfl, Nat.le_of_ble_eq_true rfl⟩) ⟨x_blind, fun U hU hW => x_pre hU hW hK hP hD hN⟩ rfl rfl hl.1 rfl (lv_room (Nat.le_of_ble_eq_true rfl)) dX3_inSum_11 ⟨Nat.zero_le _, Nat.zero_le _⟩) (fun H locs hP hD hS => ?_)
    refine lv_if_ne (tgt := 21) hx hb dX3_inSum_14 (by decide) (fun h14 => ?_) (fun h14 => ?_)
    · have hf := if_f h14 hf
      refine lv_aload_n hx hb dX3_inSum_21 rfl (lv_at hl 0 rfl) ?_
      refine lv_iload_n hx hb dX3_inSum_22 rfl (lv_at hl 1 rfl) ?_
      obtain ⟨r_23, w_23, hc23, hf⟩ := bn2_e hf
      refine x_calli hD hS hAA (va_runV (As := [.int a1]) (rest := []) ⟨hx, hb, hml, hown, hts⟩ (k_xf_C_worthOfSum l dC dI cI cZ cG ad H.size w a1 r_23 w_23 hc23) (cwV 1 hts gX3_inSum_X3_worthOfSum rfl rfl rfl (by decide +kernel) ⟨Nat.le_of_ble_eq_true rfl, Nat.le_of_ble_eq_true rfl⟩) ⟨x_blind, va_recv hK hP (ci := 3) (q0 := 0) rfl rfl, fun U hU hW => x_pre hU hW hK hP hD hN⟩ rfl rfl hl.1 rfl (lv_room (Nat.le_of_ble_eq_true rfl)) dX3_inSum_23 ⟨Nat.zero_le _, Nat.zero_le _⟩) (fun H locs hP hD hS => ?_)
      refine lv_istore_n (lv' := [(3, .int r_23), (0, .ref (ad 0)), (1, .int a1), (2, .int a2)]) hx hb dX3_inSum_26 rfl hl (by decide) rfl (fun ls hl => ?_)
      refine lv_iconst (v := (0 : Int32)) hx hb dX3_inSum_27 (by decide) ?_
      refine lv_istore (lv' := [(4, .int (0 : Int32)), (3, .int r_23), (0, .ref (ad 0)), (1, .int a1), (2, .int a2)]) hx hb dX3_inSum_28 hl (by decide) rfl (fun ls hl => ?_)
      exact C30 fu a1 a2 r_23 (0 : Int32) w_23 hf _ _ _ hP hD hS (lv_sub hl [2, 3, 4, 1, 0] rfl)
    · have hf := if_t h14 hf
      refine lv_sipush (v := (-1002 : Int32)) hx hb dX3_inSum_17 (by decide) ?_
      exact x_iret hx hb hr hlocks hK hP hD hS (so_2 hf) dX3_inSum_20
