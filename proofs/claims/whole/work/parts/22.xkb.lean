set_option maxHeartbeats 4000000 in
set_option maxRecDepth 100000 in
theorem k_xf_G_putBelow (l : Launch) (dC : Nat → ClassId) (dI : Nat → Nat → Nat) (cI cZ cG : ClassId) (ad : Nat → Nat) (sz : Nat) (w : xW) (g : Nat) (hg : g < 6) (a1 : Int32) (a2 : Int32) (w0 : xW) (hf : xf_G_putBelow g a1 a2 w = some w0) : Met l yX1_putBelow wsX1_putBelow ({ frames := 3, cells := 0, slots := 0, locals := 61 } : Room) (va_Pc [.ref (ad (12 + 5 * g)), .int a1, .int a2] (xPre dC dI cI cZ cG ad sz w)) (va_Qv (fun (u : xW) => u = w0) (xB dC dI cI cZ cG ad (xA ad sz)) (xA ad sz)) 0 0 (xA ad sz) := by
  refine Met.ofW (cc := cX1_putBelow) (maxL := 5) (ret := none) (by decide) rfl ?_
  intro p e s m args below meth c s₁ B hml hv
  obtain ⟨rfl, hsz, hP, hK, hD0, hN⟩ := hv
  have hx := B.exec
  have hb := B.bytes
  have hr := B.returns
  have hts := atoms_spec (ws := wsX1_putBelow) B.pre
  have hown : s.vm.findClass RX1 = some m.cls := findClass_of_methodNamed B.named
  have hlocks := B.notSynchronized
  have inX1 : ∀ w ∈ u_ws RX1 TX1 12, w ∈ wsX1_putBelow := by decide +kernel
  subst hsz
  have hD : va_D (xA ad s.heap.size) (xc cI cG ad w) := xD_self hD0
  have hAA : ∀ z q, s.heap.size ≤ z → xA ad z q → xA ad s.heap.size q := xA_mono
  generalize xA ad s.heap.size = A at hD hAA ⊢
  have hS : va_S A s.heap s.heap [] := va_S.rf
  have C65 : ∀ (w : xW), xf_G_putBelow_C65 g w = some w0 → ∀ (H : Heap) (locs : List Loc) (ls : Array Slot), va_P (dC, dI) vwCl (xc cI cG ad w) H → va_D A (xc cI cG ad w) → va_S A s.heap H locs → lv_has ls 5 [(0, .ref (ad (12 + 5 * g)))] → W p l e (headSpec wsX1_putBelow ({ frames := 3, cells := 0, slots := 0, locals := 61 } : Room)).room s m (List.toArray [Value.ref (ad (12 + 5 * g)), Value.int a1, Value.int a2]) below meth c H locs 0 0 (MQ below (va_Qv (fun (u : xW) => u = w0) (xB dC dI cI cZ cG ad A) A) (List.toArray [Value.ref (ad (12 + 5 * g)), Value.int a1, Value.int a2]) s 0 0 A) (F0 m 65 ls []) := by
    intro w hf H locs ls hP hD hS hl
    unfold xf_G_putBelow_C65 at hf
    refine lv_aload_n hx hb dX1_putBelow_65 rfl (lv_at hl 0 rfl) ?_
    obtain ⟨w_66, hc66, hf⟩ := bn_e hf
    refine x_callv hD hS hAA (va_runV (As := []) (rest := []) ⟨hx, hb, hml, hown, hts⟩ (k_xf_G_restart l dC dI cI cZ cG ad H.size w g hg w_66 hc66) (cwV 0 hts gX1_putBelow_X1_restart rfl rfl rfl (by decide +kernel) ⟨Nat.le_of_ble_eq_true rfl, Nat.le_of_ble_eq_true rfl⟩) ⟨x_blind, va_recv hK hP (ci := 1) (q0 := (12 + 5 * g)) rfl (xc_o hg), fun U hU hW => x_pre hU hW hK hP hD hN⟩ rfl rfl hl.1 rfl (lv_room (Nat.le_of_ble_eq_true rfl)) dX1_putBelow_66 ⟨Nat.zero_le _, Nat.zero_le _⟩) (fun H locs hP hD hS => ?_)
    exact x_vret hx hb hr hlocks hK hP hD hS (so_1 hf) dX1_putBelow_69
  have C21 : ∀ (n21 : Nat) (x1 : Int32) (x3 : Int32) (x4 : Int32) (w : xW), xf_G_putBelow_C21 g n21 x1 x3 x4 w = some w0 → ∀ (H : Heap) (locs : List Loc) (ls : Array Slot), va_P (dC, dI) vwCl (xc cI cG ad w) H → va_D A (xc cI cG ad w) → va_S A s.heap H locs → lv_has ls 5 [(0, .ref (ad (12 + 5 * g))), (1, .int x1), (3, .int x3), (4, .int x4)] → W p l e (headSpec wsX1_putBelow ({ frames := 3, cells := 0, slots := 0, locals := 61 } : Room)).room s m (List.toArray [Value.ref (ad (12 + 5 * g)), Value.int a1, Value.int a2]) below meth c H locs 0 0 (MQ below (va_Qv (fun (u : xW) => u = w0) (xB dC dI cI cZ cG ad A) A) (List.toArray [Value.ref (ad (12 + 5 * g)), Value.int a1, Value.int a2]) s 0 0 A) (F0 m 21 ls []) := by
    intro n21
    induction n21 with
    | zero => intro x1 x3 x4 w hf; cases hf
    | succ n21 ih21 =>
      intro x1 x3 x4 w hf H locs ls hP hD hS hl
      rw [xf_G_putBelow_C21] at hf
      refine lv_iload hx hb dX1_putBelow_21 (lv_at hl 3 rfl) ?_
      refine lv_bipush (v := (12 : Int32)) hx hb dX1_putBelow_23 (by decide) ?_
      refine lv_icmp_ge (tgt := 60) hx hb dX1_putBelow_25 (by decide) (fun h25 => ?_) (fun h25 => ?_)
      · have hf := if_t h25 hf
        refine lv_aload_n hx hb dX1_putBelow_60 rfl (lv_at hl 0 rfl) ?_
        refine lv_iconst (v := (0 : Int32)) hx hb dX1_putBelow_61 (by decide) ?_
        obtain ⟨hg62, hf⟩ := gd_e hf
        obtain ⟨w_62, ew_62, hf⟩ := nm_x hf
        refine va_put (D := (dC, dI)) (ci := 1) (v := .int (0 : Int32)) (ty := .boolean) (C := RX1) (T := TX1) (N := 12) hx hb hts inX1 tyX1 tyX1_ok nmX1 hown hK hP hD hS (12 + 5 * g) (xc_o hg) rfl 11 (by decide) (hts (.fieldLink RX1 43 "BittenBoards$Game" "isSolved" "Z") (by decide +kernel)) (fun _ h9 => h9) rfl (by decide +kernel) (isB_nar hg62) (isB_fit hg62) (Nat.le_of_ble_eq_true rfl) dX1_putBelow_62 (fun H locs hP hD hS => ?_)
        have hP : va_P (dC, dI) vwCl (xc cI cG ad w_62) H := hP.eqs (by rw [ew_62]; exact xs_o5 hg _ _)
        have hD : va_D A (xc cI cG ad w_62) := hD.eqs (by rw [ew_62]; exact xs_o5 hg _ _)
        exact C65 w_62 hf _ _ _ hP hD hS (lv_sub hl [0] rfl)
      · have hf := if_f h25 hf
        refine lv_aload_n hx hb dX1_putBelow_28 rfl (lv_at hl 0 rfl) ?_
        refine lv_iload hx hb dX1_putBelow_29 (lv_at hl 3 rfl) ?_
        obtain ⟨r_31, hc31, hf⟩ := bn_e hf
        refine x_calli hD hS hAA (va_runV (As := [.int x4]) (rest := []) ⟨hx, hb, hml, hown, hts⟩ (k_xf_G_hasThing l dC dI cI cZ cG ad H.size w g hg x4 r_31 w hc31 rfl) (cwV 1 hts gX1_putBelow_X1_hasThing rfl rfl rfl (by decide +kernel) ⟨Nat.le_of_ble_eq_true rfl, Nat.le_of_ble_eq_true rfl⟩) ⟨x_blind, va_recv hK hP (ci := 1) (q0 := (12 + 5 * g)) rfl (xc_o hg), fun U hU hW => x_pre hU hW hK hP hD hN⟩ rfl rfl hl.1 rfl (lv_room (Nat.le_of_ble_eq_true rfl)) dX1_putBelow_31 ⟨Nat.zero_le _, Nat.zero_le _⟩) (fun H locs hP hD hS => ?_)
        refine lv_if_eq (tgt := 54) hx hb dX1_putBelow_34 (by decide) (fun h34 => ?_) (fun h34 => ?_)
        · have hf := if_t h34 hf
          obtain ⟨x4_54, ex4_54, hf⟩ := nm_x hf
          refine lv_iinc (v := x4_54) (lv' := [(4, .int x4_54), (0, .ref (ad (12 + 5 * g))), (1, .int x1), (3, .int x3)]) hx hb dX1_putBelow_54 hl (k := 3) rfl (by rw [ex4_54]; rfl) (by decide) rfl (fun ls hl => ?_)
          refine lv_goto (tgt := 21) hx hb dX1_putBelow_57 (by decide) ?_
          exact ih21 x1 x3 x4_54 w hf _ _ _ hP hD hS (lv_sub hl [1, 2, 3, 0] rfl)
        · have hf := if_f h34 hf
          refine lv_aload_n hx hb dX1_putBelow_37 rfl (lv_at hl 0 rfl) ?_
          refine lv_iload hx hb dX1_putBelow_38 (lv_at hl 3 rfl) ?_
          refine lv_iload_n hx hb dX1_putBelow_40 rfl (lv_at hl 1 rfl) ?_
          obtain ⟨r_41, hc41, hf⟩ := bn_e hf
          refine x_calli hD hS hAA (va_runV (As := [.int x4, .int x1]) (rest := []) ⟨hx, hb, hml, hown, hts⟩ (k_xf_G_takesAlong l dC dI cI cZ cG ad H.size w g hg x4 x1 r_41 w hc41 rfl) (cwV 2 hts gX1_putBelow_X1_takesAlong rfl rfl rfl (by decide +kernel) ⟨Nat.le_of_ble_eq_true rfl, Nat.le_of_ble_eq_true rfl⟩) ⟨x_blind, va_recv hK hP (ci := 1) (q0 := (12 + 5 * g)) rfl (xc_o hg), fun U hU hW => x_pre hU hW hK hP hD hN⟩ rfl rfl hl.1 rfl (lv_room (Nat.le_of_ble_eq_true rfl)) dX1_putBelow_41 ⟨Nat.zero_le _, Nat.zero_le _⟩) (fun H locs hP hD hS => ?_)
          refine lv_if_eq (tgt := 54) hx hb dX1_putBelow_44 (by decide) (fun h44 => ?_) (fun h44 => ?_)
          · have hf := if_t h44 hf
            obtain ⟨x4_54, ex4_54, hf⟩ := nm_x hf
            refine lv_iinc (v := x4_54) (lv' := [(4, .int x4_54), (0, .ref (ad (12 + 5 * g))), (1, .int x1), (3, .int x3)]) hx hb dX1_putBelow_54 hl (k := 3) rfl (by rw [ex4_54]; rfl) (by decide) rfl (fun ls hl => ?_)
            refine lv_goto (tgt := 21) hx hb dX1_putBelow_57 (by decide) ?_
            exact ih21 x1 x3 x4_54 w hf _ _ _ hP hD hS (lv_sub hl [1, 2, 3, 0] rfl)
          · have hf := if_f h44 hf
            refine lv_aload_n hx hb dX1_putBelow_47 rfl (lv_at hl 0 rfl) ?_
            refine lv_iload hx hb dX1_putBelow_48 (lv_at hl 3 rfl) ?_
            refine lv_iload_n hx hb dX1_putBelow_50 rfl (lv_at hl 2 rfl) ?_
            obtain ⟨w_51, hc51, hf⟩ := bn_e hf
            refine x_callv hD hS hAA (va_runV (As := [.int x4, .int x3]) (rest := []) ⟨hx, hb, hml, hown, hts⟩ (k_xf_G_takeAlong l dC dI cI cZ cG ad H.size w g hg x4 x3 w_51 hc51) (cwV 2 hts gX1_putBelow_X1_takeAlong rfl rfl rfl (by decide +kernel) ⟨Nat.le_of_ble_eq_true rfl, Nat.le_of_ble_eq_true rfl⟩) ⟨x_blind, va_recv hK hP (ci := 1) (q0 := (12 + 5 * g)) rfl (xc_o hg), fun U hU hW => x_pre hU hW hK hP hD hN⟩ rfl rfl hl.1 rfl (lv_room (Nat.le_of_ble_eq_true rfl)) dX1_putBelow_51 ⟨Nat.zero_le _, Nat.zero_le _⟩) (fun H locs hP hD hS => ?_)
            obtain ⟨x4_54, ex4_54, hf⟩ := nm_x hf
            refine lv_iinc (v := x4_54) (lv' := [(4, .int x4_54), (0, .ref (ad (12 + 5 * g))), (1, .int x1), (3, .int x3)]) hx hb dX1_putBelow_54 hl (k := 3) rfl (by rw [ex4_54]; rfl) (by decide) rfl (fun ls hl => ?_)
            refine lv_goto (tgt := 21) hx hb dX1_putBelow_57 (by decide) ?_
            exact ih21 x1 x3 x4_54 w_51 hf _ _ _ hP hD hS (lv_sub hl [1, 2, 3, 0] rfl)
  have hl := lv_entry ([.ref (ad (12 + 5 * g)), .int a1, .int a2]) (n := 5) (Nat.le_of_ble_eq_true rfl)
  rw [lg_entry_eq]
  generalize (lg_sl ([.ref (ad (12 + 5 * g)), .int a1, .int a2]) ++ List.replicate (5 - (lg_sl ([.ref (ad (12 + 5 * g)), .int a1, .int a2])).length) Slot.unset).toArray = ls at hl ⊢
  have hl : lv_has ls 5 [(0, .ref (ad (12 + 5 * g))), (1, .int a1), (2, .int a2)] := hl
  unfold xf_G_putBelow at hf
  refine lv_aload_n hx hb dX1_putBelow_0 rfl (lv_at hl 0 rfl) ?_
  refine va_get (D := (dC, dI)) (ci := 1) (v := .ref (ad (13 + 5 * g))) (C := RX1) (T := TX1) (N := 12) hx hb hts inX1 hown hK hP (12 + 5 * g) (xc_o hg) rfl 2 (by decide) (hts (.fieldLink RX1 9 "BittenBoards$Game" "takenBy" "[I") (by decide +kernel)) (fun _ h9 => h9) rfl dX1_putBelow_1 ?_
  refine lv_iload_n hx hb dX1_putBelow_4 rfl (lv_at hl 2 rfl) ?_
  obtain ⟨r_5, hc5, hf⟩ := bn_e hf
  refine x_calli hD hS hAA (va_runSN (host := "BittenBoards") (As := [.ref (ad (13 + 5 * g)), .int a2]) (rest := []) ⟨hx, hb, hml, hown, hts⟩ (k_xf_C_at l dC dI cI cZ cG ad s.heap.size w 15 (w.2.2.2.1 0 g) (ad (13 + 5 * g)) (13 + 5 * g) (xc_r0 hg) a2 r_5 w hc5 rfl) ⟨va_cnB (host := "BittenBoards") 2 hts gX1_putBelow_X3_at_n60 rfl rfl rfl (hN (.methodLinkNest RX1 60 yX3_at "BittenBoards") (by decide +kernel)) (hts (.initialized RX3) (by decide +kernel)) (by decide +kernel) ⟨Nat.le_of_ble_eq_true rfl, Nat.le_of_ble_eq_true rfl⟩, hts (.static yX3_at) (by decide +kernel), trivial⟩ ⟨x_blind, fun U hU hW => x_pre hU hW hK hP hD hN⟩ rfl rfl hl.1 rfl (lv_room (Nat.le_of_ble_eq_true rfl)) dX1_putBelow_5 ⟨Nat.zero_le _, Nat.zero_le _⟩) (fun H locs hP hD hS => ?_)
  refine lv_istore_n (lv' := [(3, .int r_5), (0, .ref (ad (12 + 5 * g))), (1, .int a1), (2, .int a2)]) hx hb dX1_putBelow_8 rfl hl (by decide) rfl (fun ls hl => ?_)
  refine lv_aload_n hx hb dX1_putBelow_9 rfl (lv_at hl 1 rfl) ?_
  refine lv_iload_n hx hb dX1_putBelow_10 rfl (lv_at hl 2 rfl) ?_
  refine lv_iload_n hx hb dX1_putBelow_11 rfl (lv_at hl 3 rfl) ?_
  obtain ⟨r_12, hc12, hf⟩ := bn_e hf
  refine x_calli hD hS hAA (va_runV (As := [.int a1, .int a2]) (rest := []) ⟨hx, hb, hml, hown, hts⟩ (k_xf_G_takesAlong l dC dI cI cZ cG ad H.size w g hg a1 a2 r_12 w hc12 rfl) (cwV 2 hts gX1_putBelow_X1_takesAlong rfl rfl rfl (by decide +kernel) ⟨Nat.le_of_ble_eq_true rfl, Nat.le_of_ble_eq_true rfl⟩) ⟨x_blind, va_recv hK hP (ci := 1) (q0 := (12 + 5 * g)) rfl (xc_o hg), fun U hU hW => x_pre hU hW hK hP hD hN⟩ rfl rfl hl.1 rfl (lv_room (Nat.le_of_ble_eq_true rfl)) dX1_putBelow_12 ⟨Nat.zero_le _, Nat.zero_le _⟩) (fun H locs hP hD hS => ?_)
  refine lv_if_ne (tgt := 65) hx hb dX1_putBelow_15 (by decide) (fun h15 => ?_) (fun h15 => ?_)
  · have hf := if_f h15 hf
    exact C65 w hf _ _ _ hP hD hS (lv_sub hl [1] rfl)
  · have hf := if_t h15 hf
    refine lv_iconst (v := (0 : Int32)) hx hb dX1_putBelow_18 (by decide) ?_
    refine lv_istore (lv' := [(4, .int (0 : Int32)), (3, .int r_5), (0, .ref (ad (12 + 5 * g))), (1, .int a1), (2, .int a2)]) hx hb dX1_putBelow_19 hl (by decide) rfl (fun ls hl => ?_)
    exact C21 fu a1 r_5 (0 : Int32) w hf _ _ _ hP hD hS (lv_sub hl [2, 3, 1, 0] rfl)
set_option maxHeartbeats 4000000 in
set_option maxRecDepth 100000 in
theorem k_xf_G_putMultiples (l : Launch) (dC : Nat → ClassId) (dI : Nat → Nat → Nat) (cI cZ cG : ClassId) (ad : Nat → Nat) (sz : Nat) (w : xW) (g : Nat) (hg : g < 6) (a2 : Int32) (w0 : xW) (hf : xf_G_putMultiples g a2 w = some w0) : Met l yX1_putMultiples wsX1_putMultiples ({ frames := 4, cells := 0, slots := 0, locals := 85 } : Room) (va_Pc [.ref (ad (12 + 5 * g)), .ref (ad 2), .int a2] (xPre dC dI cI cZ cG ad sz w)) (va_Qv (fun (u : xW) => u = w0) (xB dC dI cI cZ cG ad (xA ad sz)) (xA ad sz)) 0 0 (xA ad sz) := by
  refine Met.ofW (cc := cX1_putMultiples) (maxL := 6) (ret := none) (by decide) rfl ?_
  intro p e s m args below meth c s₁ B hml hv
  obtain ⟨rfl, hsz, hP, hK, hD0, hN⟩ := hv
  have hx := B.exec
  have hb := B.bytes
  have hr := B.returns
  have hts := atoms_spec (ws := wsX1_putMultiples) B.pre
  have hown : s.vm.findClass RX1 = some m.cls := findClass_of_methodNamed B.named
  have hlocks := B.notSynchronized
  subst hsz
  have hD : va_D (xA ad s.heap.size) (xc cI cG ad w) := xD_self hD0
  have hAA : ∀ z q, s.heap.size ≤ z → xA ad z q → xA ad s.heap.size q := xA_mono
  generalize xA ad s.heap.size = A at hD hAA ⊢
  have hS : va_S A s.heap s.heap [] := va_S.rf
  have C20 : ∀ (n20 : Nat) (x2 : Int32) (x3 : Int32) (w : xW), xf_G_putMultiples_C20 g n20 x2 x3 w = some w0 → ∀ (H : Heap) (locs : List Loc) (ls : Array Slot), va_P (dC, dI) vwCl (xc cI cG ad w) H → va_D A (xc cI cG ad w) → va_S A s.heap H locs → lv_has ls 6 [(0, .ref (ad (12 + 5 * g))), (1, .ref (ad 2)), (2, .int x2), (3, .int x3)] → W p l e (headSpec wsX1_putMultiples ({ frames := 4, cells := 0, slots := 0, locals := 85 } : Room)).room s m (List.toArray [Value.ref (ad (12 + 5 * g)), Value.ref (ad 2), Value.int a2]) below meth c H locs 0 0 (MQ below (va_Qv (fun (u : xW) => u = w0) (xB dC dI cI cZ cG ad A) A) (List.toArray [Value.ref (ad (12 + 5 * g)), Value.ref (ad 2), Value.int a2]) s 0 0 A) (F0 m 20 ls []) := by
    intro n20
    induction n20 with
    | zero => intro x2 x3 w hf; cases hf
    | succ n20 ih20 =>
      have C30 : ∀ (n30 : Nat) (x2 : Int32) (x3 : Int32) (x4 : Int32) (w : xW), xf_G_putMultiples_C30 g (xf_G_putMultiples_C20 g n20) n30 x2 x3 x4 w = some w0 → ∀ (H : Heap) (locs : List Loc) (ls : Array Slot), va_P (dC, dI) vwCl (xc cI cG ad w) H → va_D A (xc cI cG ad w) → va_S A s.heap H locs → lv_has ls 6 [(0, .ref (ad (12 + 5 * g))), (1, .ref (ad 2)), (2, .int x2), (3, .int x3), (4, .int x4)] → W p l e (headSpec wsX1_putMultiples ({ frames := 4, cells := 0, slots := 0, locals := 85 } : Room)).room s m (List.toArray [Value.ref (ad (12 + 5 * g)), Value.ref (ad 2), Value.int a2]) below meth c H locs 0 0 (MQ below (va_Qv (fun (u : xW) => u = w0) (xB dC dI cI cZ cG ad A) A) (List.toArray [Value.ref (ad (12 + 5 * g)), Value.ref (ad 2), Value.int a2]) s 0 0 A) (F0 m 30 ls []) := by
        intro n30
        induction n30 with
        | zero => intro x2 x3 x4 w hf; cases hf
        | succ n30 ih30 =>
          intro x2 x3 x4 w hf H locs ls hP hD hS hl
          rw [xf_G_putMultiples_C30] at hf
          refine lv_iload hx hb dX1_putMultiples_30 (lv_at hl 4 rfl) ?_
          refine lv_iload_n hx hb dX1_putMultiples_32 rfl (lv_at hl 2 rfl) ?_
          refine lv_icmp_ge (tgt := 73) hx hb dX1_putMultiples_33 (by decide) (fun h33 => ?_) (fun h33 => ?_)
          · have hf := if_t h33 hf
            obtain ⟨x3_73, ex3_73, hf⟩ := nm_x hf
            refine lv_iinc (v := x3_73) (lv' := [(3, .int x3_73), (0, .ref (ad (12 + 5 * g))), (1, .ref (ad 2)), (2, .int x2), (4, .int x4)]) hx hb dX1_putMultiples_73 hl (k := 3) rfl (by rw [ex3_73]; rfl) (by decide) rfl (fun ls hl => ?_)
            refine lv_goto (tgt := 20) hx hb dX1_putMultiples_76 (by decide) ?_
            exact ih20 x2 x3_73 w hf _ _ _ hP hD hS (lv_sub hl [1, 2, 3, 0] rfl)
          · have hf := if_f h33 hf
            refine lv_aload_n hx hb dX1_putMultiples_36 rfl (lv_at hl 1 rfl) ?_
            refine lv_iload_n hx hb dX1_putMultiples_37 rfl (lv_at hl 3 rfl) ?_
            obtain ⟨r_38, hc38, hf⟩ := bn_e hf
            refine x_calli hD hS hAA (va_runSN (host := "BittenBoards") (As := [.ref (ad 2), .int x3]) (rest := []) ⟨hx, hb, hml, hown, hts⟩ (k_xf_C_at l dC dI cI cZ cG ad H.size w 12 (w.2.1 2) (ad 2) 2 rfl x3 r_38 w hc38 rfl) ⟨va_cnB (host := "BittenBoards") 2 hts gX1_putMultiples_X3_at_n60 rfl rfl rfl (hN (.methodLinkNest RX1 60 yX3_at "BittenBoards") (by decide +kernel)) (hts (.initialized RX3) (by decide +kernel)) (by decide +kernel) ⟨Nat.le_of_ble_eq_true rfl, Nat.le_of_ble_eq_true rfl⟩, hts (.static yX3_at) (by decide +kernel), trivial⟩ ⟨x_blind, fun U hU hW => x_pre hU hW hK hP hD hN⟩ rfl rfl hl.1 rfl (lv_room (Nat.le_of_ble_eq_true rfl)) dX1_putMultiples_38 ⟨Nat.zero_le _, Nat.zero_le _⟩) (fun H locs hP hD hS => ?_)
            refine lv_istore (lv' := [(5, .int r_38), (0, .ref (ad (12 + 5 * g))), (1, .ref (ad 2)), (2, .int x2), (3, .int x3), (4, .int x4)]) hx hb dX1_putMultiples_41 hl (by decide) rfl (fun ls hl => ?_)
            refine lv_iload hx hb dX1_putMultiples_43 (lv_at hl 0 rfl) ?_
            refine lv_if_le (tgt := 67) hx hb dX1_putMultiples_45 (by decide) (fun h45 => ?_) (fun h45 => ?_)
            · have hf := if_t h45 hf
              obtain ⟨x4_67, ex4_67, hf⟩ := nm_x hf
              refine lv_iinc (v := x4_67) (lv' := [(4, .int x4_67), (5, .int r_38), (0, .ref (ad (12 + 5 * g))), (1, .ref (ad 2)), (2, .int x2), (3, .int x3)]) hx hb dX1_putMultiples_67 hl (k := 5) rfl (by rw [ex4_67]; rfl) (by decide) rfl (fun ls hl => ?_)
              refine lv_goto (tgt := 30) hx hb dX1_putMultiples_70 (by decide) ?_
              exact ih30 x2 x3 x4_67 w hf _ _ _ hP hD hS (lv_sub hl [2, 3, 4, 5, 0] rfl)
            · have hf := if_f h45 hf
              refine lv_aload_n hx hb dX1_putMultiples_48 rfl (lv_at hl 2 rfl) ?_
              refine lv_iload hx hb dX1_putMultiples_49 (lv_at hl 5 rfl) ?_
              obtain ⟨r_51, hc51, hf⟩ := bn_e hf
              refine x_calli hD hS hAA (va_runSN (host := "BittenBoards") (As := [.ref (ad 2), .int x4]) (rest := []) ⟨hx, hb, hml, hown, hts⟩ (k_xf_C_at l dC dI cI cZ cG ad H.size w 12 (w.2.1 2) (ad 2) 2 rfl x4 r_51 w hc51 rfl) ⟨va_cnB (host := "BittenBoards") 2 hts gX1_putMultiples_X3_at_n60 rfl rfl rfl (hN (.methodLinkNest RX1 60 yX3_at "BittenBoards") (by decide +kernel)) (hts (.initialized RX3) (by decide +kernel)) (by decide +kernel) ⟨Nat.le_of_ble_eq_true rfl, Nat.le_of_ble_eq_true rfl⟩, hts (.static yX3_at) (by decide +kernel), trivial⟩ ⟨x_blind, fun U hU hW => x_pre hU hW hK hP hD hN⟩ rfl rfl hl.1 rfl (lv_room (Nat.le_of_ble_eq_true rfl)) dX1_putMultiples_51 ⟨Nat.zero_le _, Nat.zero_le _⟩) (fun H locs hP hD hS => ?_)
              refine lv_iload hx hb dX1_putMultiples_54 (lv_at hl 0 rfl) ?_
              obtain ⟨hg56, hf⟩ := gd_e hf
              refine lv_irem hx hb dX1_putMultiples_56 hg56 ?_
              refine lv_if_ne (tgt := 67) hx hb dX1_putMultiples_57 (by decide) (fun h57 => ?_) (fun h57 => ?_)
              · have hf := if_f h57 hf
                obtain ⟨x4_67, ex4_67, hf⟩ := nm_x hf
                refine lv_iinc (v := x4_67) (lv' := [(4, .int x4_67), (5, .int r_38), (0, .ref (ad (12 + 5 * g))), (1, .ref (ad 2)), (2, .int x2), (3, .int x3)]) hx hb dX1_putMultiples_67 hl (k := 5) rfl (by rw [ex4_67]; rfl) (by decide) rfl (fun ls hl => ?_)
                refine lv_goto (tgt := 30) hx hb dX1_putMultiples_70 (by decide) ?_
                exact ih30 x2 x3 x4_67 w hf _ _ _ hP hD hS (lv_sub hl [2, 3, 4, 5, 0] rfl)
              · have hf := if_t h57 hf
                refine lv_aload_n hx hb dX1_putMultiples_60 rfl (lv_at hl 1 rfl) ?_
                refine lv_iload_n hx hb dX1_putMultiples_61 rfl (lv_at hl 4 rfl) ?_
                refine lv_iload hx hb dX1_putMultiples_62 (lv_at hl 5 rfl) ?_
                obtain ⟨w_64, hc64, hf⟩ := bn_e hf
                refine x_callv hD hS hAA (va_runV (As := [.int x3, .int x4]) (rest := []) ⟨hx, hb, hml, hown, hts⟩ (k_xf_G_putBelow l dC dI cI cZ cG ad H.size w g hg x3 x4 w_64 hc64) (cwV 2 hts gX1_putMultiples_X1_putBelow rfl rfl rfl (by decide +kernel) ⟨Nat.le_of_ble_eq_true rfl, Nat.le_of_ble_eq_true rfl⟩) ⟨x_blind, va_recv hK hP (ci := 1) (q0 := (12 + 5 * g)) rfl (xc_o hg), fun U hU hW => x_pre hU hW hK hP hD hN⟩ rfl rfl hl.1 rfl (lv_room (Nat.le_of_ble_eq_true rfl)) dX1_putMultiples_64 ⟨Nat.zero_le _, Nat.zero_le _⟩) (fun H locs hP hD hS => ?_)
                obtain ⟨x4_67, ex4_67, hf⟩ := nm_x hf
                refine lv_iinc (v := x4_67) (lv' := [(4, .int x4_67), (5, .int r_38), (0, .ref (ad (12 + 5 * g))), (1, .ref (ad 2)), (2, .int x2), (3, .int x3)]) hx hb dX1_putMultiples_67 hl (k := 5) rfl (by rw [ex4_67]; rfl) (by decide) rfl (fun ls hl => ?_)
                refine lv_goto (tgt := 30) hx hb dX1_putMultiples_70 (by decide) ?_
                exact ih30 x2 x3 x4_67 w_64 hf _ _ _ hP hD hS (lv_sub hl [2, 3, 4, 5, 0] rfl)
      intro x2 x3 w hf H locs ls hP hD hS hl
      rw [xf_G_putMultiples_C20] at hf
      refine lv_iload_n hx hb dX1_putMultiples_20 rfl (lv_at hl 3 rfl) ?_
      refine lv_iload_n hx hb dX1_putMultiples_21 rfl (lv_at hl 2 rfl) ?_
      refine lv_icmp_ge (tgt := 79) hx hb dX1_putMultiples_22 (by decide) (fun h22 => ?_) (fun h22 => ?_)
      · have hf := if_t h22 hf
        exact x_vret hx hb hr hlocks hK hP hD hS (so_1 hf) dX1_putMultiples_79
      · have hf := if_f h22 hf
        refine lv_iload_n hx hb dX1_putMultiples_25 rfl (lv_at hl 3 rfl) ?_
        refine lv_iconst (v := (1 : Int32)) hx hb dX1_putMultiples_26 (by decide) ?_
        refine lv_iadd hx hb dX1_putMultiples_27 ?_
        obtain ⟨x4_28, ex4_28, hf⟩ := nm_x hf
        refine W.eq (g2 := F0 m 28 ls [.int x4_28]) (by rw [ex4_28]) ?_
        refine lv_istore (lv' := [(4, .int x4_28), (0, .ref (ad (12 + 5 * g))), (1, .ref (ad 2)), (2, .int x2), (3, .int x3)]) hx hb dX1_putMultiples_28 hl (by decide) rfl (fun ls hl => ?_)
        exact C30 fu x2 x3 x4_28 w hf _ _ _ hP hD hS (lv_sub hl [1, 2, 3, 4, 0] rfl)
  have C2 : ∀ (n2 : Nat) (x2 : Int32) (x3 : Int32) (w : xW), xf_G_putMultiples_C2 g n2 x2 x3 w = some w0 → ∀ (H : Heap) (locs : List Loc) (ls : Array Slot), va_P (dC, dI) vwCl (xc cI cG ad w) H → va_D A (xc cI cG ad w) → va_S A s.heap H locs → lv_has ls 6 [(0, .ref (ad (12 + 5 * g))), (1, .ref (ad 2)), (2, .int x2), (3, .int x3)] → W p l e (headSpec wsX1_putMultiples ({ frames := 4, cells := 0, slots := 0, locals := 85 } : Room)).room s m (List.toArray [Value.ref (ad (12 + 5 * g)), Value.ref (ad 2), Value.int a2]) below meth c H locs 0 0 (MQ below (va_Qv (fun (u : xW) => u = w0) (xB dC dI cI cZ cG ad A) A) (List.toArray [Value.ref (ad (12 + 5 * g)), Value.ref (ad 2), Value.int a2]) s 0 0 A) (F0 m 2 ls []) := by
    intro n2
    induction n2 with
    | zero => intro x2 x3 w hf; cases hf
    | succ n2 ih2 =>
      intro x2 x3 w hf H locs ls hP hD hS hl
      rw [xf_G_putMultiples_C2] at hf
      refine lv_iload_n hx hb dX1_putMultiples_2 rfl (lv_at hl 3 rfl) ?_
      refine lv_iload_n hx hb dX1_putMultiples_3 rfl (lv_at hl 2 rfl) ?_
      refine lv_icmp_ge (tgt := 18) hx hb dX1_putMultiples_4 (by decide) (fun h4 => ?_) (fun h4 => ?_)
      · have hf := if_t h4 hf
        refine lv_iconst (v := (0 : Int32)) hx hb dX1_putMultiples_18 (by decide) ?_
        refine lv_istore_n (lv' := [(3, .int (0 : Int32)), (0, .ref (ad (12 + 5 * g))), (1, .ref (ad 2)), (2, .int x2)]) hx hb dX1_putMultiples_19 rfl hl (by decide) rfl (fun ls hl => ?_)
        exact C20 fu x2 (0 : Int32) w hf _ _ _ hP hD hS (lv_sub hl [1, 2, 3, 0] rfl)
      · have hf := if_f h4 hf
        refine lv_aload_n hx hb dX1_putMultiples_7 rfl (lv_at hl 0 rfl) ?_
        refine lv_iload_n hx hb dX1_putMultiples_8 rfl (lv_at hl 3 rfl) ?_
        obtain ⟨w_9, hc9, hf⟩ := bn_e hf
        refine x_callv hD hS hAA (va_runV (As := [.int x3]) (rest := []) ⟨hx, hb, hml, hown, hts⟩ (k_xf_G_addPart l dC dI cI cZ cG ad H.size w g hg x3 w_9 hc9) (cwV 1 hts gX1_putMultiples_X1_addPart rfl rfl rfl (by decide +kernel) ⟨Nat.le_of_ble_eq_true rfl, Nat.le_of_ble_eq_true rfl⟩) ⟨x_blind, va_recv hK hP (ci := 1) (q0 := (12 + 5 * g)) rfl (xc_o hg), fun U hU hW => x_pre hU hW hK hP hD hN⟩ rfl rfl hl.1 rfl (lv_room (Nat.le_of_ble_eq_true rfl)) dX1_putMultiples_9 ⟨Nat.zero_le _, Nat.zero_le _⟩) (fun H locs hP hD hS => ?_)
        obtain ⟨x3_12, ex3_12, hf⟩ := nm_x hf
        refine lv_iinc (v := x3_12) (lv' := [(3, .int x3_12), (0, .ref (ad (12 + 5 * g))), (1, .ref (ad 2)), (2, .int x2)]) hx hb dX1_putMultiples_12 hl (k := 3) rfl (by rw [ex3_12]; rfl) (by decide) rfl (fun ls hl => ?_)
        refine lv_goto (tgt := 2) hx hb dX1_putMultiples_15 (by decide) ?_
        exact ih2 x2 x3_12 w_9 hf _ _ _ hP hD hS (lv_sub hl [1, 2, 3, 0] rfl)
  have hl := lv_entry ([.ref (ad (12 + 5 * g)), .ref (ad 2), .int a2]) (n := 6) (Nat.le_of_ble_eq_true rfl)
  rw [lg_entry_eq]
  generalize (lg_sl ([.ref (ad (12 + 5 * g)), .ref (ad 2), .int a2]) ++ List.replicate (6 - (lg_sl ([.ref (ad (12 + 5 * g)), .ref (ad 2), .int a2])).length) Slot.unset).toArray = ls at hl ⊢
  have hl : lv_has ls 6 [(0, .ref (ad (12 + 5 * g))), (1, .ref (ad 2)), (2, .int a2)] := hl
  unfold xf_G_putMultiples at hf
  refine lv_iconst (v := (0 : Int32)) hx hb dX1_putMultiples_0 (by decide) ?_
  refine lv_istore_n (lv' := [(3, .int (0 : Int32)), (0, .ref (ad (12 + 5 * g))), (1, .ref (ad 2)), (2, .int a2)]) hx hb dX1_putMultiples_1 rfl hl (by decide) rfl (fun ls hl => ?_)
  exact C2 fu a2 (0 : Int32) w hf _ _ _ hP hD hS (lv_sub hl [1, 2, 3, 0] rfl)
set_option maxHeartbeats 4000000 in
set_option maxRecDepth 100000 in
theorem k_xf_C_divisors (l : Launch) (dC : Nat → ClassId) (dI : Nat → Nat → Nat) (cI cZ cG : ClassId) (ad : Nat → Nat) (sz : Nat) (w : xW) (a1 : Int32) (a2 : Int32) (r0 : Int32) (w0 : xW) (hf : xf_C_divisors a1 a2 w = some (r0, w0)) : Met l yX3_divisors wsX3_divisors ({ frames := 5, cells := 0, slots := 0, locals := 110 } : Room) (va_Pc [.ref (ad 0), .int a1, .int a2] (xPre dC dI cI cZ cG ad sz w)) (va_Qi (fun (r : Int32) (u : xW) => r = r0 ∧ u = w0) (xB dC dI cI cZ cG ad (xA ad sz)) (xA ad sz)) 0 0 (xA ad sz) := by
  refine Met.ofW (cc := cX3_divisors) (maxL := 5) (ret := (some .int)) (by decide) rfl ?_
  intro p e s m args below meth c s₁ B hml hv
  obtain ⟨rfl, hsz, hP, hK, hD0, hN⟩ := hv
  have hx := B.exec
  have hb := B.bytes
  have hr := B.returns
  have hts := atoms_spec (ws := wsX3_divisors) B.pre
  have hown : s.vm.findClass RX3 = some m.cls := findClass_of_methodNamed B.named
  have hlocks := B.notSynchronized
  have inX3 : ∀ w ∈ u_ws RX3 TX3 4, w ∈ wsX3_divisors := by decide +kernel
  subst hsz
  have hD : va_D (xA ad s.heap.size) (xc cI cG ad w) := xD_self hD0
  have hAA : ∀ z q, s.heap.size ≤ z → xA ad z q → xA ad s.heap.size q := xA_mono
  generalize xA ad s.heap.size = A at hD hAA ⊢
  have hS : va_S A s.heap s.heap [] := va_S.rf
  have hl := lv_entry ([.ref (ad 0), .int a1, .int a2]) (n := 5) (Nat.le_of_ble_eq_true rfl)
  rw [lg_entry_eq]
  generalize (lg_sl ([.ref (ad 0), .int a1, .int a2]) ++ List.replicate (5 - (lg_sl ([.ref (ad 0), .int a1, .int a2])).length) Slot.unset).toArray = ls at hl ⊢
  have hl : lv_has ls 5 [(0, .ref (ad 0)), (1, .int a1), (2, .int a2)] := hl
  unfold xf_C_divisors at hf
  refine lv_iload_n hx hb dX3_divisors_0 rfl (lv_at hl 1 rfl) ?_
  refine lv_iconst (v := (1 : Int32)) hx hb dX3_divisors_1 (by decide) ?_
  refine lv_sipush (v := (10000 : Int32)) hx hb dX3_divisors_2 (by decide) ?_
  obtain ⟨r_5, hc5, hf⟩ := bn_e hf
  refine x_calli hD hS hAA (va_runS (As := [.int a1, .int (1 : Int32), .int (10000 : Int32)]) (rest := []) ⟨hx, hb, hml, hown, hts⟩ (k_xf_C_isWithin l dC dI cI cZ cG ad s.heap.size w a1 (1 : Int32) (10000 : Int32) r_5 w hc5 rfl) (va_cwS 3 hts gX3_divisors_X3_isWithin rfl rfl rfl (by decide +kernel) ⟨Nat.le_of_ble_eq_true rfl, Nat.le_of_ble_eq_true rfl⟩) ⟨x_blind, fun U hU hW => x_pre hU hW hK hP hD hN⟩ rfl rfl hl.1 rfl (lv_room (Nat.le_of_ble_eq_true rfl)) dX3_divisors_5 ⟨Nat.zero_le _, Nat.zero_le _⟩) (fun H locs hP hD hS => ?_)
  refine lv_if_eq (tgt := 20) hx hb dX3_divisors_8 (by decide) (fun h8 => ?_) (fun h8 => ?_)
  · have hf := if_t h8 hf
    refine lv_sipush (v := (-1002 : Int32)) hx hb dX3_divisors_20 (by decide) ?_
    exact x_iret hx hb hr hlocks hK hP hD hS (so_2 hf) dX3_divisors_23
  · have hf := if_f h8 hf
    refine lv_iload_n hx hb dX3_divisors_11 rfl (lv_at hl 2 rfl) ?_
    refine lv_iconst (v := (0 : Int32)) hx hb dX3_divisors_12 (by decide) ?_
    refine lv_iconst (v := (1 : Int32)) hx hb dX3_divisors_13 (by decide) ?_
    obtain ⟨r_14, hc14, hf⟩ := bn_e hf
    refine x_calli hD hS hAA (va_runS (As := [.int a2, .int (0 : Int32), .int (1 : Int32)]) (rest := []) ⟨hx, hb, hml, hown, hts⟩ (k_xf_C_isWithin l dC dI cI cZ cG ad H.size w a2 (0 : Int32) (1 : Int32) r_14 w hc14 rfl) (va_cwS 3 hts gX3_divisors_X3_isWithin rfl rfl rfl (by decide +kernel) ⟨Nat.le_of_ble_eq_true rfl, Nat.le_of_ble_eq_true rfl⟩) ⟨x_blind, fun U hU hW => x_pre hU hW hK hP hD hN⟩ rfl rfl hl.1 rfl (lv_room (Nat.le_of_ble_eq_true rfl)) dX3_divisors_14 ⟨Nat.zero_le _, Nat.zero_le _⟩) (fun H locs hP hD hS => ?_)
    refine lv_if_ne (tgt := 24) hx hb dX3_divisors_17 (by decide) (fun h17 => ?_) (fun h17 => ?_)
    · have hf := if_f h17 hf
      refine lv_aload_n hx hb dX3_divisors_24 rfl (lv_at hl 0 rfl) ?_
      refine lv_iload_n hx hb dX3_divisors_25 rfl (lv_at hl 1 rfl) ?_
      obtain ⟨r_26, w_26, hc26, hf⟩ := bn2_e hf
      refine x_calli hD hS hAA (va_runV (As := [.int a1]) (rest := []) ⟨hx, hb, hml, hown, hts⟩ (k_xf_C_listDivisors l dC dI cI cZ cG ad H.size w a1 r_26 w_26 hc26) (cwV 1 hts gX3_divisors_X3_listDivisors rfl rfl rfl (by decide +kernel) ⟨Nat.le_of_ble_eq_true rfl, Nat.le_of_ble_eq_true rfl⟩) ⟨x_blind, va_recv hK hP (ci := 3) (q0 := 0) rfl rfl, fun U hU hW => x_pre hU hW hK hP hD hN⟩ rfl rfl hl.1 rfl (lv_room (Nat.le_of_ble_eq_true rfl)) dX3_divisors_26 ⟨Nat.zero_le _, Nat.zero_le _⟩) (fun H locs hP hD hS => ?_)
      refine lv_istore_n (lv' := [(3, .int r_26), (0, .ref (ad 0)), (1, .int a1), (2, .int a2)]) hx hb dX3_divisors_29 rfl hl (by decide) rfl (fun ls hl => ?_)
      refine lv_iload_n hx hb dX3_divisors_30 rfl (lv_at hl 0 rfl) ?_
      refine lv_bipush (v := (12 : Int32)) hx hb dX3_divisors_31 (by decide) ?_
      refine lv_icmp_le (tgt := 40) hx hb dX3_divisors_33 (by decide) (fun h33 => ?_) (fun h33 => ?_)
      · have hf := if_t h33 hf
        refine lv_aload_n hx hb dX3_divisors_40 rfl (lv_at hl 1 rfl) ?_
        obtain ⟨r_41, hc41, hf⟩ := bn_e hf
        refine x_callq hD hS hAA (va_runV (As := []) (rest := []) ⟨hx, hb, hml, hown, hts⟩ (k_xf_C_nextGame l dC dI cI cZ cG ad H.size w_26  r_41 w_26 hc41 rfl) (cwV 0 hts gX3_divisors_X3_nextGame rfl rfl rfl (by decide +kernel) ⟨Nat.le_of_ble_eq_true rfl, Nat.le_of_ble_eq_true rfl⟩) ⟨x_blind, va_recv hK hP (ci := 3) (q0 := 0) rfl rfl, fun U hU hW => x_pre hU hW hK hP hD hN⟩ rfl rfl hl.1 rfl (lv_room (Nat.le_of_ble_eq_true rfl)) dX3_divisors_41 ⟨Nat.zero_le _, Nat.zero_le _⟩) (fun H locs hP hD hS => ?_)
        rcases r_41 with _ | g_41
        · have hf := onO_n hf
          refine W.eq (g2 := F0 m 44 ls [.null]) rfl ?_
          refine lv_astoreN (lv' := [(4, .null), (3, .int r_26), (0, .ref (ad 0)), (1, .int a1), (2, .int a2)]) hx hb dX3_divisors_44 hl (by decide) rfl (fun ls hl => ?_)
          refine lv_aloadN hx hb dX3_divisors_46 (lv_at hl 0 rfl) ?_
          refine lv_ifnonnullN hx hb dX3_divisors_48 ?_
          refine lv_sipush (v := (-1004 : Int32)) hx hb dX3_divisors_51 (by decide) ?_
          exact x_iret hx hb hr hlocks hK hP hD hS (so_2 hf) dX3_divisors_54
        · have hf := onO_s hf
          obtain ⟨hg_41, hf⟩ := gd_e hf
          refine W.eq (g2 := F0 m 44 ls [.ref (ad (12 + 5 * g_41))]) rfl ?_
          refine lv_astore (lv' := [(4, .ref (ad (12 + 5 * g_41))), (3, .int r_26), (0, .ref (ad 0)), (1, .int a1), (2, .int a2)]) hx hb dX3_divisors_44 hl (by decide) rfl (fun ls hl => ?_)
          refine lv_aload hx hb dX3_divisors_46 (lv_at hl 0 rfl) ?_
          refine lv_ifnonnull (tgt := 55) hx hb dX3_divisors_48 (by decide) ?_
          refine lv_aload hx hb dX3_divisors_55 (lv_at hl 0 rfl) ?_
          refine lv_iconst (v := (1 : Int32)) hx hb dX3_divisors_57 (by decide) ?_
          refine lv_iload_n hx hb dX3_divisors_58 rfl (lv_at hl 4 rfl) ?_
          obtain ⟨w_59, hc59, hf⟩ := bn_e hf
          refine x_callv hD hS hAA (va_runV (As := [.int (1 : Int32), .int a2]) (rest := []) ⟨hx, hb, hml, hown, hts⟩ (k_xf_G_begin l dC dI cI cZ cG ad H.size w_26 g_41 hg_41 (1 : Int32) a2 w_59 hc59) (cwV 2 hts gX3_divisors_X1_begin rfl rfl rfl (by decide +kernel) ⟨Nat.le_of_ble_eq_true rfl, Nat.le_of_ble_eq_true rfl⟩) ⟨x_blind, va_recv hK hP (ci := 1) (q0 := (12 + 5 * g_41)) rfl (xc_o hg_41), fun U hU hW => x_pre hU hW hK hP hD hN⟩ rfl rfl hl.1 rfl (lv_room (Nat.le_of_ble_eq_true rfl)) dX3_divisors_59 ⟨Nat.zero_le _, Nat.zero_le _⟩) (fun H locs hP hD hS => ?_)
          refine lv_aload hx hb dX3_divisors_62 (lv_at hl 0 rfl) ?_
          refine lv_aload_n hx hb dX3_divisors_64 rfl (lv_at hl 2 rfl) ?_
          refine va_get (D := (dC, dI)) (ci := 3) (v := .ref (ad 2)) (C := RX3) (T := TX3) (N := 4) hx hb hts inX3 hown hK hP 0 rfl rfl 2 (by decide) (hts (.fieldLink RX3 15 "BittenBoards" "divisorRow" "[I") (by decide +kernel)) (fun _ h9 => h9) rfl dX3_divisors_65 ?_
          refine lv_iload_n hx hb dX3_divisors_68 rfl (lv_at hl 1 rfl) ?_
          obtain ⟨w_69, hc69, hf⟩ := bn_e hf
          refine x_callv hD hS hAA (va_runV (As := [.ref (ad 2), .int r_26]) (rest := []) ⟨hx, hb, hml, hown, hts⟩ (k_xf_G_putMultiples l dC dI cI cZ cG ad H.size w_59 g_41 hg_41 r_26 w_69 hc69) (cwV 2 hts gX3_divisors_X1_putMultiples rfl rfl rfl (by decide +kernel) ⟨Nat.le_of_ble_eq_true rfl, Nat.le_of_ble_eq_true rfl⟩) ⟨x_blind, va_recv hK hP (ci := 1) (q0 := (12 + 5 * g_41)) rfl (xc_o hg_41), fun U hU hW => x_pre hU hW hK hP hD hN⟩ rfl rfl hl.1 rfl (lv_room (Nat.le_of_ble_eq_true rfl)) dX3_divisors_69 ⟨Nat.zero_le _, Nat.zero_le _⟩) (fun H locs hP hD hS => ?_)
          refine lv_aload_n hx hb dX3_divisors_72 rfl (lv_at hl 2 rfl) ?_
          refine lv_dup hx hb dX3_divisors_73 rfl ?_
          refine va_get (D := (dC, dI)) (ci := 3) (v := .int (w_69.1 0)) (C := RX3) (T := TX3) (N := 4) hx hb hts inX3 hown hK hP 0 rfl rfl 3 (by decide) (hts (.fieldLink RX3 54 "BittenBoards" "count" "I") (by decide +kernel)) (fun _ h9 => h9) rfl dX3_divisors_74 ?_
          refine lv_dup_x1 hx hb dX3_divisors_77 rfl rfl ?_
          refine lv_iconst (v := (1 : Int32)) hx hb dX3_divisors_78 (by decide) ?_
          refine lv_iadd hx hb dX3_divisors_79 ?_
          obtain ⟨w_80, ew_80, hf⟩ := nm_x hf
          refine va_put (D := (dC, dI)) (ci := 3) (v := .int ((w_69.1 0) + (1 : Int32))) (ty := .int) (C := RX3) (T := TX3) (N := 4) hx hb hts inX3 tyX3 tyX3_ok nmX3 hown hK hP hD hS 0 rfl rfl 3 (by decide) (hts (.fieldLink RX3 54 "BittenBoards" "count" "I") (by decide +kernel)) (fun _ h9 => h9) rfl (by decide +kernel) rfl rfl (Nat.le_of_ble_eq_true rfl) dX3_divisors_80 (fun H locs hP hD hS => ?_)
          have hP : va_P (dC, dI) vwCl (xc cI cG ad w_80) H := hP.eqs (by rw [ew_80]; rfl)
          have hD : va_D A (xc cI cG ad w_80) := hD.eqs (by rw [ew_80]; rfl)
          exact x_iret hx hb hr hlocks hK hP hD hS (so_2 hf) dX3_divisors_83
      · have hf := if_f h33 hf
        refine lv_sipush (v := (-1002 : Int32)) hx hb dX3_divisors_36 (by decide) ?_
        exact x_iret hx hb hr hlocks hK hP hD hS (so_2 hf) dX3_divisors_39
    · have hf := if_t h17 hf
      refine lv_sipush (v := (-1002 : Int32)) hx hb dX3_divisors_20 (by decide) ?_
      exact x_iret hx hb hr hlocks hK hP hD hS (so_2 hf) dX3_divisors_23
set_option maxHeartbeats 4000000 in
set_option maxRecDepth 100000 in
theorem k_xf_C_net (l : Launch) (dC : Nat → ClassId) (dI : Nat → Nat → Nat) (cI cZ cG : ClassId) (ad : Nat → Nat) (sz : Nat) (w : xW) (a1 : Int32) (r0 : Int32) (w0 : xW) (hf : xf_C_net a1 w = some (r0, w0)) : Met l yX3_net wsX3_net ({ frames := 3, cells := 0, slots := 0, locals := 65 } : Room) (va_Pc [.ref (ad 0), .int a1] (xPre dC dI cI cZ cG ad sz w)) (va_Qi (fun (r : Int32) (u : xW) => r = r0 ∧ u = w0) (xB dC dI cI cZ cG ad (xA ad sz)) (xA ad sz)) 0 0 (xA ad sz) := by
  refine Met.ofW (cc := cX3_net) (maxL := 2) (ret := (some .int)) (by decide) rfl ?_
  intro p e s m args below meth c s₁ B hml hv
  obtain ⟨rfl, hsz, hP, hK, hD0, hN⟩ := hv
  have hx := B.exec
  have hb := B.bytes
  have hr := B.returns
  have hts := atoms_spec (ws := wsX3_net) B.pre
  have hown : s.vm.findClass RX3 = some m.cls := findClass_of_methodNamed B.named
  have hlocks := B.notSynchronized
  subst hsz
  have hD : va_D (xA ad s.heap.size) (xc cI cG ad w) := xD_self hD0
  have hAA : ∀ z q, s.heap.size ≤ z → xA ad z q → xA ad s.heap.size q := xA_mono
  generalize xA ad s.heap.size = A at hD hAA ⊢
  have hS : va_S A s.heap s.heap [] := va_S.rf
  have hl := lv_entry ([.ref (ad 0), .int a1]) (n := 2) (Nat.le_of_ble_eq_true rfl)
  rw [lg_entry_eq]
  generalize (lg_sl ([.ref (ad 0), .int a1]) ++ List.replicate (2 - (lg_sl ([.ref (ad 0), .int a1])).length) Slot.unset).toArray = ls at hl ⊢
  have hl : lv_has ls 2 [(0, .ref (ad 0)), (1, .int a1)] := hl
  unfold xf_C_net at hf
  refine lv_aload_n hx hb dX3_net_0 rfl (lv_at hl 0 rfl) ?_
  refine lv_iconst (v := (2 : Int32)) hx hb dX3_net_1 (by decide) ?_
  refine lv_iload_n hx hb dX3_net_2 rfl (lv_at hl 1 rfl) ?_
  obtain ⟨r_3, w_3, hc3, hf⟩ := bn2_e hf
  refine x_calli hD hS hAA (va_runV (As := [.int (2 : Int32), .int a1]) (rest := []) ⟨hx, hb, hml, hown, hts⟩ (k_xf_C_beginEmpty l dC dI cI cZ cG ad s.heap.size w (2 : Int32) a1 r_3 w_3 hc3) (cwV 2 hts gX3_net_X3_beginEmpty rfl rfl rfl (by decide +kernel) ⟨Nat.le_of_ble_eq_true rfl, Nat.le_of_ble_eq_true rfl⟩) ⟨x_blind, va_recv hK hP (ci := 3) (q0 := 0) rfl rfl, fun U hU hW => x_pre hU hW hK hP hD hN⟩ rfl rfl hl.1 rfl (lv_room (Nat.le_of_ble_eq_true rfl)) dX3_net_3 ⟨Nat.zero_le _, Nat.zero_le _⟩) (fun H locs hP hD hS => ?_)
  exact x_iret hx hb hr hlocks hK hP hD hS (so_2 hf) dX3_net_6
set_option maxHeartbeats 4000000 in
set_option maxRecDepth 100000 in
theorem k_xf_C_clear (l : Launch) (dC : Nat → ClassId) (dI : Nat → Nat → Nat) (cI cZ cG : ClassId) (ad : Nat → Nat) (sz : Nat) (w : xW) (r0 : Int32) (w0 : xW) (hf : xf_C_clear w = some (r0, w0)) : Met l yX3_clear wsX3_clear ({ frames := 0, cells := 0, slots := 0, locals := 0 } : Room) (va_Pc [.ref (ad 0)] (xPre dC dI cI cZ cG ad sz w)) (va_Qi (fun (r : Int32) (u : xW) => r = r0 ∧ u = w0) (xB dC dI cI cZ cG ad (xA ad sz)) (xA ad sz)) 0 0 (xA ad sz) := by
  refine Met.ofW (cc := cX3_clear) (maxL := 2) (ret := (some .int)) (by decide) rfl ?_
  intro p e s m args below meth c s₁ B hml hv
  obtain ⟨rfl, hsz, hP, hK, hD0, hN⟩ := hv
  have hx := B.exec
  have hb := B.bytes
  have hr := B.returns
  have hts := atoms_spec (ws := wsX3_clear) B.pre
  have hown : s.vm.findClass RX3 = some m.cls := findClass_of_methodNamed B.named
  have hlocks := B.notSynchronized
  have inX3 : ∀ w ∈ u_ws RX3 TX3 4, w ∈ wsX3_clear := by decide +kernel
  subst hsz
  have hD : va_D (xA ad s.heap.size) (xc cI cG ad w) := xD_self hD0
  have hAA : ∀ z q, s.heap.size ≤ z → xA ad z q → xA ad s.heap.size q := xA_mono
  generalize xA ad s.heap.size = A at hD hAA ⊢
  have hS : va_S A s.heap s.heap [] := va_S.rf
  have hl := lv_entry ([.ref (ad 0)]) (n := 2) (Nat.le_of_ble_eq_true rfl)
  rw [lg_entry_eq]
  generalize (lg_sl ([.ref (ad 0)]) ++ List.replicate (2 - (lg_sl ([.ref (ad 0)])).length) Slot.unset).toArray = ls at hl ⊢
  have hl : lv_has ls 2 [(0, .ref (ad 0))] := hl
  unfold xf_C_clear at hf
  refine lv_aload_n hx hb dX3_clear_0 rfl (lv_at hl 0 rfl) ?_
  refine va_get (D := (dC, dI)) (ci := 3) (v := .int (w.1 0)) (C := RX3) (T := TX3) (N := 4) hx hb hts inX3 hown hK hP 0 rfl rfl 3 (by decide) (hts (.fieldLink RX3 54 "BittenBoards" "count" "I") (by decide +kernel)) (fun _ h9 => h9) rfl dX3_clear_1 ?_
  obtain ⟨x1_4, ex1_4, hf⟩ := nm_x hf
  refine W.eq (g2 := F0 m 4 ls [.int x1_4]) (by rw [ex1_4]) ?_
  refine lv_istore_n (lv' := [(1, .int x1_4), (0, .ref (ad 0))]) hx hb dX3_clear_4 rfl hl (by decide) rfl (fun ls hl => ?_)
  refine lv_aload_n hx hb dX3_clear_5 rfl (lv_at hl 1 rfl) ?_
  refine lv_iconst (v := (0 : Int32)) hx hb dX3_clear_6 (by decide) ?_
  obtain ⟨w_7, ew_7, hf⟩ := nm_x hf
  refine va_put (D := (dC, dI)) (ci := 3) (v := .int (0 : Int32)) (ty := .int) (C := RX3) (T := TX3) (N := 4) hx hb hts inX3 tyX3 tyX3_ok nmX3 hown hK hP hD hS 0 rfl rfl 3 (by decide) (hts (.fieldLink RX3 54 "BittenBoards" "count" "I") (by decide +kernel)) (fun _ h9 => h9) rfl (by decide +kernel) rfl rfl (Nat.le_of_ble_eq_true rfl) dX3_clear_7 (fun H locs hP hD hS => ?_)
  have hP : va_P (dC, dI) vwCl (xc cI cG ad w_7) H := hP.eqs (by rw [ew_7]; rfl)
  have hD : va_D A (xc cI cG ad w_7) := hD.eqs (by rw [ew_7]; rfl)
  refine lv_iload_n hx hb dX3_clear_10 rfl (lv_at hl 0 rfl) ?_
  exact x_iret hx hb hr hlocks hK hP hD hS (so_2 hf) dX3_clear_11
set_option maxHeartbeats 4000000 in
set_option maxRecDepth 100000 in
theorem k_xf_C_gameAt (l : Launch) (dC : Nat → ClassId) (dI : Nat → Nat → Nat) (cI cZ cG : ClassId) (ad : Nat → Nat) (sz : Nat) (w : xW) (a1 : Int32) (r0 : Option Nat) (w0 : xW) (hf : xf_C_gameAt a1 w = some r0) (hw0 : w = w0) : Met l yX3_gameAt wsX3_gameAt ({ frames := 0, cells := 0, slots := 0, locals := 0 } : Room) (va_Pc [.ref (ad 0), .int a1] (xPre dC dI cI cZ cG ad sz w)) (va_Qq (fun (r : Option Nat) (u : xW) => r = gO ad r0 ∧ u = w0) (xB dC dI cI cZ cG ad (xA ad sz)) (xA ad sz)) 0 0 (xA ad sz) := by
  refine Met.ofW (cc := cX3_gameAt) (maxL := 2) (ret := (some (.object "BittenBoards$Game"))) (by decide) rfl ?_
  intro p e s m args below meth c s₁ B hml hv
  obtain ⟨rfl, hsz, hP, hK, hD0, hN⟩ := hv
  have hx := B.exec
  have hb := B.bytes
  have hr := B.returns
  have hts := atoms_spec (ws := wsX3_gameAt) B.pre
  have hown : s.vm.findClass RX3 = some m.cls := findClass_of_methodNamed B.named
  have hlocks := B.notSynchronized
  have inX3 : ∀ w ∈ u_ws RX3 TX3 4, w ∈ wsX3_gameAt := by decide +kernel
  subst hsz
  have hD : va_D (xA ad s.heap.size) (xc cI cG ad w) := xD_self hD0
  have hAA : ∀ z q, s.heap.size ≤ z → xA ad z q → xA ad s.heap.size q := xA_mono
  generalize xA ad s.heap.size = A at hD hAA ⊢
  have hS : va_S A s.heap s.heap [] := va_S.rf
  have hl := lv_entry ([.ref (ad 0), .int a1]) (n := 2) (Nat.le_of_ble_eq_true rfl)
  rw [lg_entry_eq]
  generalize (lg_sl ([.ref (ad 0), .int a1]) ++ List.replicate (2 - (lg_sl ([.ref (ad 0), .int a1])).length) Slot.unset).toArray = ls at hl ⊢
  have hl : lv_has ls 2 [(0, .ref (ad 0)), (1, .int a1)] := hl
  unfold xf_C_gameAt at hf
  refine lv_iload_n hx hb dX3_gameAt_0 rfl (lv_at hl 1 rfl) ?_
  refine lv_if_lt (tgt := 30) hx hb dX3_gameAt_1 (by decide) (fun h1 => ?_) (fun h1 => ?_)
  · have hf := if_t h1 hf
    refine lv_null hx hb dX3_gameAt_30 ?_
    exact x_qret (r := none) hx hb hr hlocks hK hP hD hS ⟨by rw [← so_1 hf]; rfl, hw0⟩ dX3_gameAt_31
  · have hf := if_f h1 hf
    refine lv_iload_n hx hb dX3_gameAt_4 rfl (lv_at hl 1 rfl) ?_
    refine lv_aload_n hx hb dX3_gameAt_5 rfl (lv_at hl 0 rfl) ?_
    refine va_get (D := (dC, dI)) (ci := 3) (v := .int (w.1 0)) (C := RX3) (T := TX3) (N := 4) hx hb hts inX3 hown hK hP 0 rfl rfl 3 (by decide) (hts (.fieldLink RX3 54 "BittenBoards" "count" "I") (by decide +kernel)) (fun _ h9 => h9) rfl dX3_gameAt_6 ?_
    refine lv_icmp_ge (tgt := 30) hx hb dX3_gameAt_9 (by decide) (fun h9 => ?_) (fun h9 => ?_)
    · have hf := if_t h9 hf
      refine lv_null hx hb dX3_gameAt_30 ?_
      exact x_qret (r := none) hx hb hr hlocks hK hP hD hS ⟨by rw [← so_1 hf]; rfl, hw0⟩ dX3_gameAt_31
    · have hf := if_f h9 hf
      refine lv_iload_n hx hb dX3_gameAt_12 rfl (lv_at hl 1 rfl) ?_
      refine lv_aload_n hx hb dX3_gameAt_13 rfl (lv_at hl 0 rfl) ?_
      refine va_get (D := (dC, dI)) (ci := 3) (v := .ref (ad 1)) (C := RX3) (T := TX3) (N := 4) hx hb hts inX3 hown hK hP 0 rfl rfl 1 (by decide) (hts (.fieldLink RX3 11 "BittenBoards" "games" "[LBittenBoards$Game;") (by decide +kernel)) (fun _ h9 => h9) rfl dX3_gameAt_14 ?_
      refine va_alen (v := (6 : Int32)) hx hb hK hP 1 2 rfl rfl (by rfl) dX3_gameAt_17 ?_
      refine lv_icmp_ge (tgt := 30) hx hb dX3_gameAt_18 (by decide) (fun h18 => ?_) (fun h18 => ?_)
      · have hf := if_t h18 hf
        refine lv_null hx hb dX3_gameAt_30 ?_
        exact x_qret (r := none) hx hb hr hlocks hK hP hD hS ⟨by rw [← so_1 hf]; rfl, hw0⟩ dX3_gameAt_31
      · have hf := if_f h18 hf
        refine lv_aload_n hx hb dX3_gameAt_21 rfl (lv_at hl 0 rfl) ?_
        refine va_get (D := (dC, dI)) (ci := 3) (v := .ref (ad 1)) (C := RX3) (T := TX3) (N := 4) hx hb hts inX3 hown hK hP 0 rfl rfl 1 (by decide) (hts (.fieldLink RX3 11 "BittenBoards" "games" "[LBittenBoards$Game;") (by decide +kernel)) (fun _ h9 => h9) rfl dX3_gameAt_22 ?_
        refine lv_iload_n hx hb dX3_gameAt_25 rfl (lv_at hl 1 rfl) ?_
        obtain ⟨hg26, hf⟩ := gi_e hf
        obtain ⟨g_26, eg_26, hf⟩ := nm_x hf
        have hg_26 : g_26 < 6 := by rw [eg_26]; exact vp_lt hg26
        refine va_aldq (f := fun j => some (ad (12 + 5 * j))) hx hb hK hP 1 2 rfl rfl hg26 dX3_gameAt_26 ?_
        refine W.eq (g2 := F0 m 27 ls [.ref (ad (12 + 5 * g_26))]) (by rw [eg_26]; rfl) ?_
        refine lv_goto (tgt := 31) hx hb dX3_gameAt_27 (by decide) ?_
        exact x_qret (r := some (ad (12 + 5 * g_26))) hx hb hr hlocks hK hP hD hS ⟨by rw [← so_1 hf]; rfl, hw0⟩ dX3_gameAt_31
set_option maxHeartbeats 4000000 in
set_option maxRecDepth 100000 in
theorem k_xf_C_gameOf (l : Launch) (dC : Nat → ClassId) (dI : Nat → Nat → Nat) (cI cZ cG : ClassId) (ad : Nat → Nat) (sz : Nat) (w : xW) (a1 : Int32) (a2 : Int32) (r0 : Option Nat) (w0 : xW) (hf : xf_C_gameOf a1 a2 w = some r0) (hw0 : w = w0) : Met l yX3_gameOf wsX3_gameOf ({ frames := 1, cells := 0, slots := 0, locals := 21 } : Room) (va_Pc [.ref (ad 0), .int a1, .int a2] (xPre dC dI cI cZ cG ad sz w)) (va_Qq (fun (r : Option Nat) (u : xW) => r = gO ad r0 ∧ u = w0) (xB dC dI cI cZ cG ad (xA ad sz)) (xA ad sz)) 0 0 (xA ad sz) := by
  refine Met.ofW (cc := cX3_gameOf) (maxL := 4) (ret := (some (.object "BittenBoards$Game"))) (by decide) rfl ?_
  intro p e s m args below meth c s₁ B hml hv
  obtain ⟨rfl, hsz, hP, hK, hD0, hN⟩ := hv
  have hx := B.exec
  have hb := B.bytes
  have hr := B.returns
  have hts := atoms_spec (ws := wsX3_gameOf) B.pre
  have hown : s.vm.findClass RX3 = some m.cls := findClass_of_methodNamed B.named
  have hlocks := B.notSynchronized
  have inX1 : ∀ w ∈ u_ws RX1 TX1 12, w ∈ wsX3_gameOf := by decide +kernel
  subst hsz
  have hD : va_D (xA ad s.heap.size) (xc cI cG ad w) := xD_self hD0
  have hAA : ∀ z q, s.heap.size ≤ z → xA ad z q → xA ad s.heap.size q := xA_mono
  generalize xA ad s.heap.size = A at hD hAA ⊢
  have hS : va_S A s.heap s.heap [] := va_S.rf
  have hl := lv_entry ([.ref (ad 0), .int a1, .int a2]) (n := 4) (Nat.le_of_ble_eq_true rfl)
  rw [lg_entry_eq]
  generalize (lg_sl ([.ref (ad 0), .int a1, .int a2]) ++ List.replicate (4 - (lg_sl ([.ref (ad 0), .int a1, .int a2])).length) Slot.unset).toArray = ls at hl ⊢
  have hl : lv_has ls 4 [(0, .ref (ad 0)), (1, .int a1), (2, .int a2)] := hl
  unfold xf_C_gameOf at hf
  refine lv_aload_n hx hb dX3_gameOf_0 rfl (lv_at hl 0 rfl) ?_
  refine lv_iload_n hx hb dX3_gameOf_1 rfl (lv_at hl 1 rfl) ?_
  obtain ⟨r_2, hc2, hf⟩ := bn_e hf
  refine x_callq hD hS hAA (va_runV (As := [.int a1]) (rest := []) ⟨hx, hb, hml, hown, hts⟩ (k_xf_C_gameAt l dC dI cI cZ cG ad s.heap.size w a1 r_2 w hc2 rfl) (cwV 1 hts gX3_gameOf_X3_gameAt rfl rfl rfl (by decide +kernel) ⟨Nat.le_of_ble_eq_true rfl, Nat.le_of_ble_eq_true rfl⟩) ⟨x_blind, va_recv hK hP (ci := 3) (q0 := 0) rfl rfl, fun U hU hW => x_pre hU hW hK hP hD hN⟩ rfl rfl hl.1 rfl (lv_room (Nat.le_of_ble_eq_true rfl)) dX3_gameOf_2 ⟨Nat.zero_le _, Nat.zero_le _⟩) (fun H locs hP hD hS => ?_)
  rcases r_2 with _ | g_2
  · have hf := onO_n hf
    refine W.eq (g2 := F0 m 5 ls [.null]) rfl ?_
    refine lv_astore_nN (lv' := [(3, .null), (0, .ref (ad 0)), (1, .int a1), (2, .int a2)]) hx hb dX3_gameOf_5 rfl hl (by decide) rfl (fun ls hl => ?_)
    refine lv_aload_nN hx hb dX3_gameOf_6 rfl (lv_at hl 0 rfl) ?_
    refine lv_ifnullN (tgt := 22) hx hb dX3_gameOf_7 (by decide) ?_
    refine lv_null hx hb dX3_gameOf_22 ?_
    exact x_qret (r := none) hx hb hr hlocks hK hP hD hS ⟨by rw [← so_1 hf]; rfl, hw0⟩ dX3_gameOf_23
  · have hf := onO_s hf
    obtain ⟨hg_2, hf⟩ := gd_e hf
    refine W.eq (g2 := F0 m 5 ls [.ref (ad (12 + 5 * g_2))]) rfl ?_
    refine lv_astore_n (lv' := [(3, .ref (ad (12 + 5 * g_2))), (0, .ref (ad 0)), (1, .int a1), (2, .int a2)]) hx hb dX3_gameOf_5 rfl hl (by decide) rfl (fun ls hl => ?_)
    refine lv_aload_n hx hb dX3_gameOf_6 rfl (lv_at hl 0 rfl) ?_
    refine lv_ifnull hx hb dX3_gameOf_7 ?_
    refine lv_aload_n hx hb dX3_gameOf_10 rfl (lv_at hl 0 rfl) ?_
    refine va_getN (host := "BittenBoards") (D := (dC, dI)) (ci := 1) (v := .int (w.2.2.1 0 g_2)) (C := RX1) (T := TX1) (N := 12) hx hb hts inX1 hown hK hP (12 + 5 * g_2) (xc_o hg_2) rfl 6 (by decide) (va_Nw.use rfl (hN (.fieldLinkNest RX3 127 "BittenBoards$Game" "kind" "I" "BittenBoards") (by decide +kernel))) (fun _ h9 => h9) rfl dX3_gameOf_11 ?_
    refine lv_iload_n hx hb dX3_gameOf_14 rfl (lv_at hl 3 rfl) ?_
    refine lv_icmp_ne (tgt := 22) hx hb dX3_gameOf_15 (by decide) (fun h15 => ?_) (fun h15 => ?_)
    · have hf := if_f h15 hf
      refine lv_null hx hb dX3_gameOf_22 ?_
      exact x_qret (r := none) hx hb hr hlocks hK hP hD hS ⟨by rw [← so_1 hf]; rfl, hw0⟩ dX3_gameOf_23
    · have hf := if_t h15 hf
      refine lv_aload_n hx hb dX3_gameOf_18 rfl (lv_at hl 0 rfl) ?_
      refine lv_goto (tgt := 23) hx hb dX3_gameOf_19 (by decide) ?_
      exact x_qret (r := some (ad (12 + 5 * g_2))) hx hb hr hlocks hK hP hD hS ⟨by rw [← so_1 hf]; rfl, hw0⟩ dX3_gameOf_23
set_option maxHeartbeats 4000000 in
set_option maxRecDepth 100000 in
theorem k_xf_B_lookAt (l : Launch) (dC : Nat → ClassId) (dI : Nat → Nat → Nat) (cI cZ cG : ClassId) (ad : Nat → Nat) (sz : Nat) (w : xW) (a1 : Int32) (w0 : xW) (hf : xf_B_lookAt a1 w = some w0) : Met l yX0_lookAt wsX0_lookAt ({ frames := 1, cells := 0, slots := 0, locals := 21 } : Room) (va_Pc [.ref (ad 3), .int a1] (xPre dC dI cI cZ cG ad sz w)) (va_Qv (fun (u : xW) => u = w0) (xB dC dI cI cZ cG ad (xA ad sz)) (xA ad sz)) 0 0 (xA ad sz) := by
  refine Met.ofW (cc := cX0_lookAt) (maxL := 5) (ret := none) (by decide) rfl ?_
  intro p e s m args below meth c s₁ B hml hv
  obtain ⟨rfl, hsz, hP, hK, hD0, hN⟩ := hv
  have hx := B.exec
  have hb := B.bytes
  have hr := B.returns
  have hts := atoms_spec (ws := wsX0_lookAt) B.pre
  have hown : s.vm.findClass RX0 = some m.cls := findClass_of_methodNamed B.named
  have hlocks := B.notSynchronized
  have inX0 : ∀ w ∈ u_ws RX0 TX0 7, w ∈ wsX0_lookAt := by decide +kernel
  subst hsz
  have hD : va_D (xA ad s.heap.size) (xc cI cG ad w) := xD_self hD0
  have hAA : ∀ z q, s.heap.size ≤ z → xA ad z q → xA ad s.heap.size q := xA_mono
  generalize xA ad s.heap.size = A at hD hAA ⊢
  have hS : va_S A s.heap s.heap [] := va_S.rf
  have C4 : ∀ (n4 : Nat) (x2 : Int32) (x3 : Int32) (w : xW), xf_B_lookAt_C4 n4 x2 x3 w = some w0 → ∀ (H : Heap) (locs : List Loc) (ls : Array Slot), va_P (dC, dI) vwCl (xc cI cG ad w) H → va_D A (xc cI cG ad w) → va_S A s.heap H locs → lv_has ls 5 [(0, .ref (ad 3)), (2, .int x2), (3, .int x3)] → W p l e (headSpec wsX0_lookAt ({ frames := 1, cells := 0, slots := 0, locals := 21 } : Room)).room s m (List.toArray [Value.ref (ad 3), Value.int a1]) below meth c H locs 0 0 (MQ below (va_Qv (fun (u : xW) => u = w0) (xB dC dI cI cZ cG ad A) A) (List.toArray [Value.ref (ad 3), Value.int a1]) s 0 0 A) (F0 m 4 ls []) := by
    intro n4
    induction n4 with
    | zero => intro x2 x3 w hf; cases hf
    | succ n4 ih4 =>
      have C46 : ∀ (x2 : Int32) (x3 : Int32) (x4 : Int32) (w : xW), xf_B_lookAt_C46 (xf_B_lookAt_C4 n4) x2 x3 x4 w = some w0 → ∀ (H : Heap) (locs : List Loc) (ls : Array Slot), va_P (dC, dI) vwCl (xc cI cG ad w) H → va_D A (xc cI cG ad w) → va_S A s.heap H locs → lv_has ls 5 [(0, .ref (ad 3)), (2, .int x2), (3, .int x3), (4, .int x4)] → W p l e (headSpec wsX0_lookAt ({ frames := 1, cells := 0, slots := 0, locals := 21 } : Room)).room s m (List.toArray [Value.ref (ad 3), Value.int a1]) below meth c H locs 0 0 (MQ below (va_Qv (fun (u : xW) => u = w0) (xB dC dI cI cZ cG ad A) A) (List.toArray [Value.ref (ad 3), Value.int a1]) s 0 0 A) (F0 m 46 ls []) := by
        intro x2 x3 x4 w hf H locs ls hP hD hS hl
        unfold xf_B_lookAt_C46 at hf
        refine lv_aload_n hx hb dX0_lookAt_46 rfl (lv_at hl 0 rfl) ?_
        refine va_get (D := (dC, dI)) (ci := 0) (v := .ref (ad 5)) (C := RX0) (T := TX0) (N := 7) hx hb hts inX0 hown hK hP 3 rfl rfl 2 (by decide) (hts (.fieldLink RX0 15 "BittenBoards$Boards" "lines" "[I") (by decide +kernel)) (fun _ h9 => h9) rfl dX0_lookAt_47 ?_
        refine lv_iload_n hx hb dX0_lookAt_50 rfl (lv_at hl 2 rfl) ?_
        refine lv_iload hx hb dX0_lookAt_51 (lv_at hl 3 rfl) ?_
        obtain ⟨hg53, hf⟩ := gi_e hf
        obtain ⟨w_53, ew_53, hf⟩ := nm_x hf
        refine va_iast (f := (w.2.1 5)) hx hb hK hP hD hS 5 0 rfl rfl hg53 dX0_lookAt_53 (fun H locs hP hD hS => ?_)
        have hP : va_P (dC, dI) vwCl (xc cI cG ad w_53) H := hP.eqs (by rw [ew_53]; rfl)
        have hD : va_D A (xc cI cG ad w_53) := hD.eqs (by rw [ew_53]; rfl)
        refine lv_iload_n hx hb dX0_lookAt_54 rfl (lv_at hl 1 rfl) ?_
        refine lv_aload_n hx hb dX0_lookAt_55 rfl (lv_at hl 0 rfl) ?_
        refine va_get (D := (dC, dI)) (ci := 0) (v := .ref (ad 4)) (C := RX0) (T := TX0) (N := 7) hx hb hts inX0 hown hK hP 3 rfl rfl 1 (by decide) (hts (.fieldLink RX0 9 "BittenBoards$Boards" "lesser" "[I") (by decide +kernel)) (fun _ h9 => h9) rfl dX0_lookAt_56 ?_
        refine lv_bipush (v := (8 : Int32)) hx hb dX0_lookAt_59 (by decide) ?_
        refine lv_iload_n hx hb dX0_lookAt_61 rfl (lv_at hl 2 rfl) ?_
        refine lv_imul hx hb dX0_lookAt_62 ?_
        refine lv_iload hx hb dX0_lookAt_63 (lv_at hl 3 rfl) ?_
        refine lv_iadd hx hb dX0_lookAt_65 ?_
        obtain ⟨r_66, hc66, hf⟩ := bn_e hf
        refine x_calli hD hS hAA (va_runSN (host := "BittenBoards") (As := [.ref (ad 4), .int (((8 : Int32) * x3) + x4)]) (rest := [.int x2]) ⟨hx, hb, hml, hown, hts⟩ (k_xf_C_at l dC dI cI cZ cG ad H.size w_53 64 (w_53.2.1 4) (ad 4) 4 rfl (((8 : Int32) * x3) + x4) r_66 w_53 hc66 rfl) ⟨va_cnB (host := "BittenBoards") 2 hts gX0_lookAt_X3_at_n51 rfl rfl rfl (hN (.methodLinkNest RX0 51 yX3_at "BittenBoards") (by decide +kernel)) (hts (.initialized RX3) (by decide +kernel)) (by decide +kernel) ⟨Nat.le_of_ble_eq_true rfl, Nat.le_of_ble_eq_true rfl⟩, hts (.static yX3_at) (by decide +kernel), trivial⟩ ⟨x_blind, fun U hU hW => x_pre hU hW hK hP hD hN⟩ rfl rfl hl.1 rfl (lv_room (Nat.le_of_ble_eq_true rfl)) dX0_lookAt_66 ⟨Nat.zero_le _, Nat.zero_le _⟩) (fun H locs hP hD hS => ?_)
        refine lv_isub hx hb dX0_lookAt_69 ?_
        obtain ⟨x2_70, ex2_70, hf⟩ := nm_x hf
        refine W.eq (g2 := F0 m 70 ls [.int x2_70]) (by rw [ex2_70]) ?_
        refine lv_istore_n (lv' := [(2, .int x2_70), (0, .ref (ad 3)), (3, .int x3), (4, .int x4)]) hx hb dX0_lookAt_70 rfl hl (by decide) rfl (fun ls hl => ?_)
        obtain ⟨x3_71, ex3_71, hf⟩ := nm_x hf
        refine lv_iinc (v := x3_71) (lv' := [(3, .int x3_71), (2, .int x2_70), (0, .ref (ad 3)), (4, .int x4)]) hx hb dX0_lookAt_71 hl (k := 2) rfl (by rw [ex3_71]; rfl) (by decide) rfl (fun ls hl => ?_)
        refine lv_goto (tgt := 4) hx hb dX0_lookAt_74 (by decide) ?_
        exact ih4 x2_70 x3_71 w_53 hf _ _ _ hP hD hS (lv_sub hl [2, 1, 0] rfl)
      have C17 : ∀ (n17 : Nat) (x2 : Int32) (x3 : Int32) (x4 : Int32) (w : xW), xf_B_lookAt_C17 (xf_B_lookAt_C4 n4) n17 x2 x3 x4 w = some w0 → ∀ (H : Heap) (locs : List Loc) (ls : Array Slot), va_P (dC, dI) vwCl (xc cI cG ad w) H → va_D A (xc cI cG ad w) → va_S A s.heap H locs → lv_has ls 5 [(0, .ref (ad 3)), (2, .int x2), (3, .int x3), (4, .int x4)] → W p l e (headSpec wsX0_lookAt ({ frames := 1, cells := 0, slots := 0, locals := 21 } : Room)).room s m (List.toArray [Value.ref (ad 3), Value.int a1]) below meth c H locs 0 0 (MQ below (va_Qv (fun (u : xW) => u = w0) (xB dC dI cI cZ cG ad A) A) (List.toArray [Value.ref (ad 3), Value.int a1]) s 0 0 A) (F0 m 17 ls []) := by
        intro n17
        induction n17 with
        | zero => intro x2 x3 x4 w hf; cases hf
        | succ n17 ih17 =>
          intro x2 x3 x4 w hf H locs ls hP hD hS hl
          rw [xf_B_lookAt_C17] at hf
          refine lv_iload hx hb dX0_lookAt_17 (lv_at hl 3 rfl) ?_
          refine lv_if_le (tgt := 46) hx hb dX0_lookAt_19 (by decide) (fun h19 => ?_) (fun h19 => ?_)
          · have hf := if_t h19 hf
            exact C46 x2 x3 x4 w hf _ _ _ hP hD hS (lv_sub hl [0, 1, 2, 3] rfl)
          · have hf := if_f h19 hf
            refine lv_aload_n hx hb dX0_lookAt_22 rfl (lv_at hl 0 rfl) ?_
            refine va_get (D := (dC, dI)) (ci := 0) (v := .ref (ad 4)) (C := RX0) (T := TX0) (N := 7) hx hb hts inX0 hown hK hP 3 rfl rfl 1 (by decide) (hts (.fieldLink RX0 9 "BittenBoards$Boards" "lesser" "[I") (by decide +kernel)) (fun _ h9 => h9) rfl dX0_lookAt_23 ?_
            refine lv_bipush (v := (8 : Int32)) hx hb dX0_lookAt_26 (by decide) ?_
            refine lv_iload_n hx hb dX0_lookAt_28 rfl (lv_at hl 2 rfl) ?_
            refine lv_imul hx hb dX0_lookAt_29 ?_
            refine lv_iload hx hb dX0_lookAt_30 (lv_at hl 3 rfl) ?_
            refine lv_iadd hx hb dX0_lookAt_32 ?_
            obtain ⟨r_33, hc33, hf⟩ := bn_e hf
            refine x_calli hD hS hAA (va_runSN (host := "BittenBoards") (As := [.ref (ad 4), .int (((8 : Int32) * x3) + x4)]) (rest := []) ⟨hx, hb, hml, hown, hts⟩ (k_xf_C_at l dC dI cI cZ cG ad H.size w 64 (w.2.1 4) (ad 4) 4 rfl (((8 : Int32) * x3) + x4) r_33 w hc33 rfl) ⟨va_cnB (host := "BittenBoards") 2 hts gX0_lookAt_X3_at_n51 rfl rfl rfl (hN (.methodLinkNest RX0 51 yX3_at "BittenBoards") (by decide +kernel)) (hts (.initialized RX3) (by decide +kernel)) (by decide +kernel) ⟨Nat.le_of_ble_eq_true rfl, Nat.le_of_ble_eq_true rfl⟩, hts (.static yX3_at) (by decide +kernel), trivial⟩ ⟨x_blind, fun U hU hW => x_pre hU hW hK hP hD hN⟩ rfl rfl hl.1 rfl (lv_room (Nat.le_of_ble_eq_true rfl)) dX0_lookAt_33 ⟨Nat.zero_le _, Nat.zero_le _⟩) (fun H locs hP hD hS => ?_)
            refine lv_iload_n hx hb dX0_lookAt_36 rfl (lv_at hl 1 rfl) ?_
            refine lv_icmp_le (tgt := 46) hx hb dX0_lookAt_37 (by decide) (fun h37 => ?_) (fun h37 => ?_)
            · have hf := if_t h37 hf
              exact C46 x2 x3 x4 w hf _ _ _ hP hD hS (lv_sub hl [0, 1, 2, 3] rfl)
            · have hf := if_f h37 hf
              obtain ⟨x4_40, ex4_40, hf⟩ := nm_x hf
              refine lv_iinc (v := x4_40) (lv' := [(4, .int x4_40), (0, .ref (ad 3)), (2, .int x2), (3, .int x3)]) hx hb dX0_lookAt_40 hl (k := 3) rfl (by rw [ex4_40]; rfl) (by decide) rfl (fun ls hl => ?_)
              refine lv_goto (tgt := 17) hx hb dX0_lookAt_43 (by decide) ?_
              exact ih17 x2 x3 x4_40 w hf _ _ _ hP hD hS (lv_sub hl [1, 2, 3, 0] rfl)
      intro x2 x3 w hf H locs ls hP hD hS hl
      rw [xf_B_lookAt_C4] at hf
      refine lv_iload_n hx hb dX0_lookAt_4 rfl (lv_at hl 2 rfl) ?_
      refine lv_aload_n hx hb dX0_lookAt_5 rfl (lv_at hl 0 rfl) ?_
      refine va_get (D := (dC, dI)) (ci := 0) (v := .ref (ad 5)) (C := RX0) (T := TX0) (N := 7) hx hb hts inX0 hown hK hP 3 rfl rfl 2 (by decide) (hts (.fieldLink RX0 15 "BittenBoards$Boards" "lines" "[I") (by decide +kernel)) (fun _ h9 => h9) rfl dX0_lookAt_6 ?_
      refine va_alen (v := (7 : Int32)) hx hb hK hP 5 0 rfl rfl (by rfl) dX0_lookAt_9 ?_
      refine lv_icmp_ge (tgt := 77) hx hb dX0_lookAt_10 (by decide) (fun h10 => ?_) (fun h10 => ?_)
      · have hf := if_t h10 hf
        exact x_vret hx hb hr hlocks hK hP hD hS (so_1 hf) dX0_lookAt_77
      · have hf := if_f h10 hf
        refine lv_bipush (v := (7 : Int32)) hx hb dX0_lookAt_13 (by decide) ?_
        refine lv_istore (lv' := [(4, .int (7 : Int32)), (0, .ref (ad 3)), (2, .int x2), (3, .int x3)]) hx hb dX0_lookAt_15 hl (by decide) rfl (fun ls hl => ?_)
        exact C17 fu x2 x3 (7 : Int32) w hf _ _ _ hP hD hS (lv_sub hl [1, 2, 3, 0] rfl)
  have hl := lv_entry ([.ref (ad 3), .int a1]) (n := 5) (Nat.le_of_ble_eq_true rfl)
  rw [lg_entry_eq]
  generalize (lg_sl ([.ref (ad 3), .int a1]) ++ List.replicate (5 - (lg_sl ([.ref (ad 3), .int a1])).length) Slot.unset).toArray = ls at hl ⊢
  have hl : lv_has ls 5 [(0, .ref (ad 3)), (1, .int a1)] := hl
  unfold xf_B_lookAt at hf
  refine lv_iload_n hx hb dX0_lookAt_0 rfl (lv_at hl 1 rfl) ?_
  refine lv_istore_n (lv' := [(2, .int a1), (0, .ref (ad 3)), (1, .int a1)]) hx hb dX0_lookAt_1 rfl hl (by decide) rfl (fun ls hl => ?_)
  refine lv_iconst (v := (0 : Int32)) hx hb dX0_lookAt_2 (by decide) ?_
  refine lv_istore_n (lv' := [(3, .int (0 : Int32)), (2, .int a1), (0, .ref (ad 3)), (1, .int a1)]) hx hb dX0_lookAt_3 rfl hl (by decide) rfl (fun ls hl => ?_)
  exact C4 fu a1 (0 : Int32) w hf _ _ _ hP hD hS (lv_sub hl [2, 1, 0] rfl)
set_option maxHeartbeats 4000000 in
set_option maxRecDepth 100000 in
theorem k_xf_B_rowOf (l : Launch) (dC : Nat → ClassId) (dI : Nat → Nat → Nat) (cI cZ cG : ClassId) (ad : Nat → Nat) (sz : Nat) (w : xW) (a1 : Int32) (a2 : Int32) (r0 : Int32) (w0 : xW) (hf : xf_B_rowOf a1 a2 w = some (r0, w0)) : Met l yX0_rowOf wsX0_rowOf ({ frames := 2, cells := 0, slots := 0, locals := 45 } : Room) (va_Pc [.ref (ad 3), .int a1, .int a2] (xPre dC dI cI cZ cG ad sz w)) (va_Qi (fun (r : Int32) (u : xW) => r = r0 ∧ u = w0) (xB dC dI cI cZ cG ad (xA ad sz)) (xA ad sz)) 0 0 (xA ad sz) := by
  refine Met.ofW (cc := cX0_rowOf) (maxL := 3) (ret := (some .int)) (by decide) rfl ?_
  intro p e s m args below meth c s₁ B hml hv
  obtain ⟨rfl, hsz, hP, hK, hD0, hN⟩ := hv
  have hx := B.exec
  have hb := B.bytes
  have hr := B.returns
  have hts := atoms_spec (ws := wsX0_rowOf) B.pre
  have hown : s.vm.findClass RX0 = some m.cls := findClass_of_methodNamed B.named
  have hlocks := B.notSynchronized
  have inX0 : ∀ w ∈ u_ws RX0 TX0 7, w ∈ wsX0_rowOf := by decide +kernel
  subst hsz
  have hD : va_D (xA ad s.heap.size) (xc cI cG ad w) := xD_self hD0
  have hAA : ∀ z q, s.heap.size ≤ z → xA ad z q → xA ad s.heap.size q := xA_mono
  generalize xA ad s.heap.size = A at hD hAA ⊢
  have hS : va_S A s.heap s.heap [] := va_S.rf
  have hl := lv_entry ([.ref (ad 3), .int a1, .int a2]) (n := 3) (Nat.le_of_ble_eq_true rfl)
  rw [lg_entry_eq]
  generalize (lg_sl ([.ref (ad 3), .int a1, .int a2]) ++ List.replicate (3 - (lg_sl ([.ref (ad 3), .int a1, .int a2])).length) Slot.unset).toArray = ls at hl ⊢
  have hl : lv_has ls 3 [(0, .ref (ad 3)), (1, .int a1), (2, .int a2)] := hl
  unfold xf_B_rowOf at hf
  refine lv_aload_n hx hb dX0_rowOf_0 rfl (lv_at hl 0 rfl) ?_
  refine lv_iload_n hx hb dX0_rowOf_1 rfl (lv_at hl 1 rfl) ?_
  obtain ⟨w_2, hc2, hf⟩ := bn_e hf
  refine x_callv hD hS hAA (va_runV (As := [.int a1]) (rest := []) ⟨hx, hb, hml, hown, hts⟩ (k_xf_B_lookAt l dC dI cI cZ cG ad s.heap.size w a1 w_2 hc2) (cwV 1 hts gX0_rowOf_X0_lookAt rfl rfl rfl (by decide +kernel) ⟨Nat.le_of_ble_eq_true rfl, Nat.le_of_ble_eq_true rfl⟩) ⟨x_blind, va_recv hK hP (ci := 0) (q0 := 3) rfl rfl, fun U hU hW => x_pre hU hW hK hP hD hN⟩ rfl rfl hl.1 rfl (lv_room (Nat.le_of_ble_eq_true rfl)) dX0_rowOf_2 ⟨Nat.zero_le _, Nat.zero_le _⟩) (fun H locs hP hD hS => ?_)
  refine lv_aload_n hx hb dX0_rowOf_5 rfl (lv_at hl 0 rfl) ?_
  refine va_get (D := (dC, dI)) (ci := 0) (v := .ref (ad 5)) (C := RX0) (T := TX0) (N := 7) hx hb hts inX0 hown hK hP 3 rfl rfl 2 (by decide) (hts (.fieldLink RX0 15 "BittenBoards$Boards" "lines" "[I") (by decide +kernel)) (fun _ h9 => h9) rfl dX0_rowOf_6 ?_
  refine lv_iload_n hx hb dX0_rowOf_9 rfl (lv_at hl 2 rfl) ?_
  obtain ⟨r_10, hc10, hf⟩ := bn_e hf
  refine x_calli hD hS hAA (va_runSN (host := "BittenBoards") (As := [.ref (ad 5), .int a2]) (rest := []) ⟨hx, hb, hml, hown, hts⟩ (k_xf_C_at l dC dI cI cZ cG ad H.size w_2 7 (w_2.2.1 5) (ad 5) 5 rfl a2 r_10 w_2 hc10 rfl) ⟨va_cnB (host := "BittenBoards") 2 hts gX0_rowOf_X3_at_n51 rfl rfl rfl (hN (.methodLinkNest RX0 51 yX3_at "BittenBoards") (by decide +kernel)) (hts (.initialized RX3) (by decide +kernel)) (by decide +kernel) ⟨Nat.le_of_ble_eq_true rfl, Nat.le_of_ble_eq_true rfl⟩, hts (.static yX3_at) (by decide +kernel), trivial⟩ ⟨x_blind, fun U hU hW => x_pre hU hW hK hP hD hN⟩ rfl rfl hl.1 rfl (lv_room (Nat.le_of_ble_eq_true rfl)) dX0_rowOf_10 ⟨Nat.zero_le _, Nat.zero_le _⟩) (fun H locs hP hD hS => ?_)
  exact x_iret hx hb hr hlocks hK hP hD hS (so_2 hf) dX0_rowOf_13
set_option maxHeartbeats 4000000 in
set_option maxRecDepth 100000 in
theorem k_xf_B_rankWithRow (l : Launch) (dC : Nat → ClassId) (dI : Nat → Nat → Nat) (cI cZ cG : ClassId) (ad : Nat → Nat) (sz : Nat) (w : xW) (a1 : Int32) (a2 : Int32) (a3 : Int32) (r0 : Int32) (w0 : xW) (hf : xf_B_rankWithRow a1 a2 a3 w = some (r0, w0)) : Met l yX0_rankWithRow wsX0_rankWithRow ({ frames := 2, cells := 0, slots := 0, locals := 45 } : Room) (va_Pc [.ref (ad 3), .int a1, .int a2, .int a3] (xPre dC dI cI cZ cG ad sz w)) (va_Qi (fun (r : Int32) (u : xW) => r = r0 ∧ u = w0) (xB dC dI cI cZ cG ad (xA ad sz)) (xA ad sz)) 0 0 (xA ad sz) := by
  refine Met.ofW (cc := cX0_rankWithRow) (maxL := 5) (ret := (some .int)) (by decide) rfl ?_
  intro p e s m args below meth c s₁ B hml hv
  obtain ⟨rfl, hsz, hP, hK, hD0, hN⟩ := hv
  have hx := B.exec
  have hb := B.bytes
  have hr := B.returns
  have hts := atoms_spec (ws := wsX0_rankWithRow) B.pre
  have hown : s.vm.findClass RX0 = some m.cls := findClass_of_methodNamed B.named
  have hlocks := B.notSynchronized
  have inX0 : ∀ w ∈ u_ws RX0 TX0 7, w ∈ wsX0_rankWithRow := by decide +kernel
  subst hsz
  have hD : va_D (xA ad s.heap.size) (xc cI cG ad w) := xD_self hD0
  have hAA : ∀ z q, s.heap.size ≤ z → xA ad z q → xA ad s.heap.size q := xA_mono
  generalize xA ad s.heap.size = A at hD hAA ⊢
  have hS : va_S A s.heap s.heap [] := va_S.rf
  have C8 : ∀ (n8 : Nat) (x2 : Int32) (x3 : Int32) (x4 : Int32) (w : xW), xf_B_rankWithRow_C8 n8 x2 x3 x4 w = some (r0, w0) → ∀ (H : Heap) (locs : List Loc) (ls : Array Slot), va_P (dC, dI) vwCl (xc cI cG ad w) H → va_D A (xc cI cG ad w) → va_S A s.heap H locs → lv_has ls 5 [(0, .ref (ad 3)), (2, .int x2), (3, .int x3), (4, .int x4)] → W p l e (headSpec wsX0_rankWithRow ({ frames := 2, cells := 0, slots := 0, locals := 45 } : Room)).room s m (List.toArray [Value.ref (ad 3), Value.int a1, Value.int a2, Value.int a3]) below meth c H locs 0 0 (MQ below (va_Qi (fun (r : Int32) (u : xW) => r = r0 ∧ u = w0) (xB dC dI cI cZ cG ad A) A) (List.toArray [Value.ref (ad 3), Value.int a1, Value.int a2, Value.int a3]) s 0 0 A) (F0 m 8 ls []) := by
    intro n8
    induction n8 with
    | zero => intro x2 x3 x4 w hf; cases hf
    | succ n8 ih8 =>
      intro x2 x3 x4 w hf H locs ls hP hD hS hl
      rw [xf_B_rankWithRow_C8] at hf
      refine lv_iload hx hb dX0_rankWithRow_8 (lv_at hl 3 rfl) ?_
      refine lv_aload_n hx hb dX0_rankWithRow_10 rfl (lv_at hl 0 rfl) ?_
      refine va_get (D := (dC, dI)) (ci := 0) (v := .ref (ad 5)) (C := RX0) (T := TX0) (N := 7) hx hb hts inX0 hown hK hP 3 rfl rfl 2 (by decide) (hts (.fieldLink RX0 15 "BittenBoards$Boards" "lines" "[I") (by decide +kernel)) (fun _ h9 => h9) rfl dX0_rankWithRow_11 ?_
      refine va_alen (v := (7 : Int32)) hx hb hK hP 5 0 rfl rfl (by rfl) dX0_rankWithRow_14 ?_
      refine lv_icmp_ge (tgt := 65) hx hb dX0_rankWithRow_15 (by decide) (fun h15 => ?_) (fun h15 => ?_)
      · have hf := if_t h15 hf
        refine lv_aload_n hx hb dX0_rankWithRow_65 rfl (lv_at hl 0 rfl) ?_
        obtain ⟨r_66, hc66, hf⟩ := bn_e hf
        refine x_calli hD hS hAA (va_runV (As := []) (rest := []) ⟨hx, hb, hml, hown, hts⟩ (k_xf_B_rankOfLines l dC dI cI cZ cG ad H.size w  r_66 w hc66 rfl) (cwV 0 hts gX0_rankWithRow_X0_rankOfLines rfl rfl rfl (by decide +kernel) ⟨Nat.le_of_ble_eq_true rfl, Nat.le_of_ble_eq_true rfl⟩) ⟨x_blind, va_recv hK hP (ci := 0) (q0 := 3) rfl rfl, fun U hU hW => x_pre hU hW hK hP hD hN⟩ rfl rfl hl.1 rfl (lv_room (Nat.le_of_ble_eq_true rfl)) dX0_rankWithRow_66 ⟨Nat.zero_le _, Nat.zero_le _⟩) (fun H locs hP hD hS => ?_)
        exact x_iret hx hb hr hlocks hK hP hD hS (so_2 hf) dX0_rankWithRow_69
      · have hf := if_f h15 hf
        refine lv_iload hx hb dX0_rankWithRow_18 (lv_at hl 3 rfl) ?_
        refine lv_iload_n hx hb dX0_rankWithRow_20 rfl (lv_at hl 1 rfl) ?_
        refine lv_icmp_ne (tgt := 35) hx hb dX0_rankWithRow_21 (by decide) (fun h21 => ?_) (fun h21 => ?_)
        · have hf := if_f h21 hf
          refine lv_iload hx hb dX0_rankWithRow_35 (lv_at hl 3 rfl) ?_
          refine lv_iload_n hx hb dX0_rankWithRow_37 rfl (lv_at hl 1 rfl) ?_
          refine lv_icmp_le (tgt := 59) hx hb dX0_rankWithRow_38 (by decide) (fun h38 => ?_) (fun h38 => ?_)
          · have hf := if_t h38 hf
            obtain ⟨x4_59, ex4_59, hf⟩ := nm_x hf
            refine lv_iinc (v := x4_59) (lv' := [(4, .int x4_59), (0, .ref (ad 3)), (2, .int x2), (3, .int x3)]) hx hb dX0_rankWithRow_59 hl (k := 3) rfl (by rw [ex4_59]; rfl) (by decide) rfl (fun ls hl => ?_)
            refine lv_goto (tgt := 8) hx hb dX0_rankWithRow_62 (by decide) ?_
            exact ih8 x2 x3 x4_59 w hf _ _ _ hP hD hS (lv_sub hl [1, 2, 3, 0] rfl)
          · have hf := if_f h38 hf
            refine lv_aload_n hx hb dX0_rankWithRow_41 rfl (lv_at hl 0 rfl) ?_
            refine va_get (D := (dC, dI)) (ci := 0) (v := .ref (ad 5)) (C := RX0) (T := TX0) (N := 7) hx hb hts inX0 hown hK hP 3 rfl rfl 2 (by decide) (hts (.fieldLink RX0 15 "BittenBoards$Boards" "lines" "[I") (by decide +kernel)) (fun _ h9 => h9) rfl dX0_rankWithRow_42 ?_
            refine lv_iload hx hb dX0_rankWithRow_45 (lv_at hl 3 rfl) ?_
            refine lv_aload_n hx hb dX0_rankWithRow_47 rfl (lv_at hl 0 rfl) ?_
            refine va_get (D := (dC, dI)) (ci := 0) (v := .ref (ad 5)) (C := RX0) (T := TX0) (N := 7) hx hb hts inX0 hown hK hP 3 rfl rfl 2 (by decide) (hts (.fieldLink RX0 15 "BittenBoards$Boards" "lines" "[I") (by decide +kernel)) (fun _ h9 => h9) rfl dX0_rankWithRow_48 ?_
            refine lv_iload hx hb dX0_rankWithRow_51 (lv_at hl 3 rfl) ?_
            obtain ⟨hg53, hf⟩ := gi_e hf
            refine va_iald (f := (w.2.1 5)) hx hb hK hP 5 0 rfl rfl hg53 dX0_rankWithRow_53 ?_
            refine lv_iload_n hx hb dX0_rankWithRow_54 rfl (lv_at hl 2 rfl) ?_
            obtain ⟨r_55, er_55, hf⟩ := nm_x hf
            refine va_mmin hx hb (by rw [hml]; exact hl.1.symm) hown (hts (.methodLink RX0 39 Lib.Math.min.name) (by decide +kernel)) (hts (.static Lib.Math.min.name) (by decide +kernel)) (hts (.initialized "java/lang/Math") (by decide +kernel)) (hts (.code Lib.Math.min.name Lib.Math.min.code 2 (some .int)) (by decide +kernel)) (Nat.le_of_ble_eq_true rfl) (Nat.le_of_ble_eq_true rfl) (Nat.zero_le _) (Nat.zero_le _) dX0_rankWithRow_55 ?_
            refine W.eq (g2 := F0 m 58 ls [.int r_55, .int x4, .ref (ad 5)]) (by rw [er_55]; rfl) ?_
            obtain ⟨hg58, hf⟩ := gi_e hf
            obtain ⟨w_58, ew_58, hf⟩ := nm_x hf
            refine va_iast (f := (w.2.1 5)) hx hb hK hP hD hS 5 0 rfl rfl hg58 dX0_rankWithRow_58 (fun H locs hP hD hS => ?_)
            have hP : va_P (dC, dI) vwCl (xc cI cG ad w_58) H := hP.eqs (by rw [ew_58]; rfl)
            have hD : va_D A (xc cI cG ad w_58) := hD.eqs (by rw [ew_58]; rfl)
            obtain ⟨x4_59, ex4_59, hf⟩ := nm_x hf
            refine lv_iinc (v := x4_59) (lv' := [(4, .int x4_59), (0, .ref (ad 3)), (2, .int x2), (3, .int x3)]) hx hb dX0_rankWithRow_59 hl (k := 3) rfl (by rw [ex4_59]; rfl) (by decide) rfl (fun ls hl => ?_)
            refine lv_goto (tgt := 8) hx hb dX0_rankWithRow_62 (by decide) ?_
            exact ih8 x2 x3 x4_59 w_58 hf _ _ _ hP hD hS (lv_sub hl [1, 2, 3, 0] rfl)
        · have hf := if_t h21 hf
          refine lv_aload_n hx hb dX0_rankWithRow_24 rfl (lv_at hl 0 rfl) ?_
          refine va_get (D := (dC, dI)) (ci := 0) (v := .ref (ad 5)) (C := RX0) (T := TX0) (N := 7) hx hb hts inX0 hown hK hP 3 rfl rfl 2 (by decide) (hts (.fieldLink RX0 15 "BittenBoards$Boards" "lines" "[I") (by decide +kernel)) (fun _ h9 => h9) rfl dX0_rankWithRow_25 ?_
          refine lv_iload hx hb dX0_rankWithRow_28 (lv_at hl 3 rfl) ?_
          refine lv_iload_n hx hb dX0_rankWithRow_30 rfl (lv_at hl 2 rfl) ?_
          obtain ⟨hg31, hf⟩ := gi_e hf
          obtain ⟨w_31, ew_31, hf⟩ := nm_x hf
          refine va_iast (f := (w.2.1 5)) hx hb hK hP hD hS 5 0 rfl rfl hg31 dX0_rankWithRow_31 (fun H locs hP hD hS => ?_)
          have hP : va_P (dC, dI) vwCl (xc cI cG ad w_31) H := hP.eqs (by rw [ew_31]; rfl)
          have hD : va_D A (xc cI cG ad w_31) := hD.eqs (by rw [ew_31]; rfl)
          refine lv_goto (tgt := 59) hx hb dX0_rankWithRow_32 (by decide) ?_
          obtain ⟨x4_59, ex4_59, hf⟩ := nm_x hf
          refine lv_iinc (v := x4_59) (lv' := [(4, .int x4_59), (0, .ref (ad 3)), (2, .int x2), (3, .int x3)]) hx hb dX0_rankWithRow_59 hl (k := 3) rfl (by rw [ex4_59]; rfl) (by decide) rfl (fun ls hl => ?_)
          refine lv_goto (tgt := 8) hx hb dX0_rankWithRow_62 (by decide) ?_
          exact ih8 x2 x3 x4_59 w_31 hf _ _ _ hP hD hS (lv_sub hl [1, 2, 3, 0] rfl)
  have hl := lv_entry ([.ref (ad 3), .int a1, .int a2, .int a3]) (n := 5) (Nat.le_of_ble_eq_true rfl)
  rw [lg_entry_eq]
  generalize (lg_sl ([.ref (ad 3), .int a1, .int a2, .int a3]) ++ List.replicate (5 - (lg_sl ([.ref (ad 3), .int a1, .int a2, .int a3])).length) Slot.unset).toArray = ls at hl ⊢
  have hl : lv_has ls 5 [(0, .ref (ad 3)), (1, .int a1), (2, .int a2), (3, .int a3)] := hl
  unfold xf_B_rankWithRow at hf
  refine lv_aload_n hx hb dX0_rankWithRow_0 rfl (lv_at hl 0 rfl) ?_
  refine lv_iload_n hx hb dX0_rankWithRow_1 rfl (lv_at hl 1 rfl) ?_
  obtain ⟨w_2, hc2, hf⟩ := bn_e hf
  refine x_callv hD hS hAA (va_runV (As := [.int a1]) (rest := []) ⟨hx, hb, hml, hown, hts⟩ (k_xf_B_lookAt l dC dI cI cZ cG ad s.heap.size w a1 w_2 hc2) (cwV 1 hts gX0_rankWithRow_X0_lookAt rfl rfl rfl (by decide +kernel) ⟨Nat.le_of_ble_eq_true rfl, Nat.le_of_ble_eq_true rfl⟩) ⟨x_blind, va_recv hK hP (ci := 0) (q0 := 3) rfl rfl, fun U hU hW => x_pre hU hW hK hP hD hN⟩ rfl rfl hl.1 rfl (lv_room (Nat.le_of_ble_eq_true rfl)) dX0_rankWithRow_2 ⟨Nat.zero_le _, Nat.zero_le _⟩) (fun H locs hP hD hS => ?_)
  refine lv_iconst (v := (0 : Int32)) hx hb dX0_rankWithRow_5 (by decide) ?_
  refine lv_istore (lv' := [(4, .int (0 : Int32)), (0, .ref (ad 3)), (1, .int a1), (2, .int a2), (3, .int a3)]) hx hb dX0_rankWithRow_6 hl (by decide) rfl (fun ls hl => ?_)
  exact C8 fu a2 a3 (0 : Int32) w_2 hf _ _ _ hP hD hS (lv_sub hl [1, 3, 4, 0] rfl)
set_option maxHeartbeats 4000000 in
set_option maxRecDepth 100000 in
theorem k_xf_B_countSquares (l : Launch) (dC : Nat → ClassId) (dI : Nat → Nat → Nat) (cI cZ cG : ClassId) (ad : Nat → Nat) (sz : Nat) (w : xW) (a1 : Int32) (r0 : Int32) (w0 : xW) (hf : xf_B_countSquares a1 w = some (r0, w0)) : Met l yX0_countSquares wsX0_countSquares ({ frames := 2, cells := 0, slots := 0, locals := 45 } : Room) (va_Pc [.ref (ad 3), .int a1] (xPre dC dI cI cZ cG ad sz w)) (va_Qi (fun (r : Int32) (u : xW) => r = r0 ∧ u = w0) (xB dC dI cI cZ cG ad (xA ad sz)) (xA ad sz)) 0 0 (xA ad sz) := by
  refine Met.ofW (cc := cX0_countSquares) (maxL := 7) (ret := (some .int)) (by decide) rfl ?_
  intro p e s m args below meth c s₁ B hml hv
  obtain ⟨rfl, hsz, hP, hK, hD0, hN⟩ := hv
  have hx := B.exec
  have hb := B.bytes
  have hr := B.returns
  have hts := atoms_spec (ws := wsX0_countSquares) B.pre
  have hown : s.vm.findClass RX0 = some m.cls := findClass_of_methodNamed B.named
  have hlocks := B.notSynchronized
  have inX0 : ∀ w ∈ u_ws RX0 TX0 7, w ∈ wsX0_countSquares := by decide +kernel
  subst hsz
  have hD : va_D (xA ad s.heap.size) (xc cI cG ad w) := xD_self hD0
  have hAA : ∀ z q, s.heap.size ≤ z → xA ad z q → xA ad s.heap.size q := xA_mono
  generalize xA ad s.heap.size = A at hD hAA ⊢
  have hS : va_S A s.heap s.heap [] := va_S.rf
  have C19 : ∀ (n19 : Nat) (x2 : Int32) (x4 : Int32) (x5 : Int32) (w : xW), xf_B_countSquares_C19 n19 x2 x4 x5 w = some (r0, w0) → ∀ (H : Heap) (locs : List Loc) (ls : Array Slot), va_P (dC, dI) vwCl (xc cI cG ad w) H → va_D A (xc cI cG ad w) → va_S A s.heap H locs → lv_has ls 7 [(2, .int x2), (3, .ref (ad 5)), (4, .int x4), (5, .int x5)] → W p l e (headSpec wsX0_countSquares ({ frames := 2, cells := 0, slots := 0, locals := 45 } : Room)).room s m (List.toArray [Value.ref (ad 3), Value.int a1]) below meth c H locs 0 0 (MQ below (va_Qi (fun (r : Int32) (u : xW) => r = r0 ∧ u = w0) (xB dC dI cI cZ cG ad A) A) (List.toArray [Value.ref (ad 3), Value.int a1]) s 0 0 A) (F0 m 19 ls []) := by
    intro n19
    induction n19 with
    | zero => intro x2 x4 x5 w hf; cases hf
    | succ n19 ih19 =>
      intro x2 x4 x5 w hf H locs ls hP hD hS hl
      rw [xf_B_countSquares_C19] at hf
      refine lv_iload hx hb dX0_countSquares_19 (lv_at hl 3 rfl) ?_
      refine lv_iload hx hb dX0_countSquares_21 (lv_at hl 2 rfl) ?_
      refine lv_icmp_ge (tgt := 43) hx hb dX0_countSquares_23 (by decide) (fun h23 => ?_) (fun h23 => ?_)
      · have hf := if_t h23 hf
        refine lv_iload_n hx hb dX0_countSquares_43 rfl (lv_at hl 0 rfl) ?_
        exact x_iret hx hb hr hlocks hK hP hD hS (so_2 hf) dX0_countSquares_44
      · have hf := if_f h23 hf
        refine lv_aload_n hx hb dX0_countSquares_26 rfl (lv_at hl 1 rfl) ?_
        refine lv_iload hx hb dX0_countSquares_27 (lv_at hl 3 rfl) ?_
        obtain ⟨hg29, hf⟩ := gi_e hf
        refine va_iald (f := (w.2.1 5)) hx hb hK hP 5 0 rfl rfl hg29 dX0_countSquares_29 ?_
        obtain ⟨x6_30, ex6_30, hf⟩ := nm_x hf
        refine W.eq (g2 := F0 m 30 ls [.int x6_30]) (by rw [ex6_30]) ?_
        refine lv_istore (lv' := [(6, .int x6_30), (2, .int x2), (3, .ref (ad 5)), (4, .int x4), (5, .int x5)]) hx hb dX0_countSquares_30 hl (by decide) rfl (fun ls hl => ?_)
        refine lv_iload_n hx hb dX0_countSquares_32 rfl (lv_at hl 1 rfl) ?_
        refine lv_iload hx hb dX0_countSquares_33 (lv_at hl 0 rfl) ?_
        refine lv_iadd hx hb dX0_countSquares_35 ?_
        obtain ⟨x2_36, ex2_36, hf⟩ := nm_x hf
        refine W.eq (g2 := F0 m 36 ls [.int x2_36]) (by rw [ex2_36]) ?_
        refine lv_istore_n (lv' := [(2, .int x2_36), (6, .int x6_30), (3, .ref (ad 5)), (4, .int x4), (5, .int x5)]) hx hb dX0_countSquares_36 rfl hl (by decide) rfl (fun ls hl => ?_)
        obtain ⟨x5_37, ex5_37, hf⟩ := nm_x hf
        refine lv_iinc (v := x5_37) (lv' := [(5, .int x5_37), (2, .int x2_36), (6, .int x6_30), (3, .ref (ad 5)), (4, .int x4)]) hx hb dX0_countSquares_37 hl (k := 4) rfl (by rw [ex5_37]; rfl) (by decide) rfl (fun ls hl => ?_)
        refine lv_goto (tgt := 19) hx hb dX0_countSquares_40 (by decide) ?_
        exact ih19 x2_36 x4 x5_37 w hf _ _ _ hP hD hS (lv_sub hl [1, 3, 4, 0] rfl)
  have hl := lv_entry ([.ref (ad 3), .int a1]) (n := 7) (Nat.le_of_ble_eq_true rfl)
  rw [lg_entry_eq]
  generalize (lg_sl ([.ref (ad 3), .int a1]) ++ List.replicate (7 - (lg_sl ([.ref (ad 3), .int a1])).length) Slot.unset).toArray = ls at hl ⊢
  have hl : lv_has ls 7 [(0, .ref (ad 3)), (1, .int a1)] := hl
  unfold xf_B_countSquares at hf
  refine lv_aload_n hx hb dX0_countSquares_0 rfl (lv_at hl 0 rfl) ?_
  refine lv_iload_n hx hb dX0_countSquares_1 rfl (lv_at hl 1 rfl) ?_
  obtain ⟨w_2, hc2, hf⟩ := bn_e hf
  refine x_callv hD hS hAA (va_runV (As := [.int a1]) (rest := []) ⟨hx, hb, hml, hown, hts⟩ (k_xf_B_lookAt l dC dI cI cZ cG ad s.heap.size w a1 w_2 hc2) (cwV 1 hts gX0_countSquares_X0_lookAt rfl rfl rfl (by decide +kernel) ⟨Nat.le_of_ble_eq_true rfl, Nat.le_of_ble_eq_true rfl⟩) ⟨x_blind, va_recv hK hP (ci := 0) (q0 := 3) rfl rfl, fun U hU hW => x_pre hU hW hK hP hD hN⟩ rfl rfl hl.1 rfl (lv_room (Nat.le_of_ble_eq_true rfl)) dX0_countSquares_2 ⟨Nat.zero_le _, Nat.zero_le _⟩) (fun H locs hP hD hS => ?_)
  refine lv_iconst (v := (0 : Int32)) hx hb dX0_countSquares_5 (by decide) ?_
  refine lv_istore_n (lv' := [(2, .int (0 : Int32)), (0, .ref (ad 3)), (1, .int a1)]) hx hb dX0_countSquares_6 rfl hl (by decide) rfl (fun ls hl => ?_)
  refine lv_aload_n hx hb dX0_countSquares_7 rfl (lv_at hl 1 rfl) ?_
  refine va_get (D := (dC, dI)) (ci := 0) (v := .ref (ad 5)) (C := RX0) (T := TX0) (N := 7) hx hb hts inX0 hown hK hP 3 rfl rfl 2 (by decide) (hts (.fieldLink RX0 15 "BittenBoards$Boards" "lines" "[I") (by decide +kernel)) (fun _ h9 => h9) rfl dX0_countSquares_8 ?_
  refine lv_astore_n (lv' := [(3, .ref (ad 5)), (2, .int (0 : Int32)), (0, .ref (ad 3)), (1, .int a1)]) hx hb dX0_countSquares_11 rfl hl (by decide) rfl (fun ls hl => ?_)
  refine lv_aload_n hx hb dX0_countSquares_12 rfl (lv_at hl 0 rfl) ?_
  refine va_alen (v := (7 : Int32)) hx hb hK hP 5 0 rfl rfl (by rfl) dX0_countSquares_13 ?_
  refine lv_istore (lv' := [(4, .int (7 : Int32)), (3, .ref (ad 5)), (2, .int (0 : Int32)), (0, .ref (ad 3)), (1, .int a1)]) hx hb dX0_countSquares_14 hl (by decide) rfl (fun ls hl => ?_)
  refine lv_iconst (v := (0 : Int32)) hx hb dX0_countSquares_16 (by decide) ?_
  refine lv_istore (lv' := [(5, .int (0 : Int32)), (4, .int (7 : Int32)), (3, .ref (ad 5)), (2, .int (0 : Int32)), (0, .ref (ad 3)), (1, .int a1)]) hx hb dX0_countSquares_17 hl (by decide) rfl (fun ls hl => ?_)
  exact C19 fu (0 : Int32) (7 : Int32) (0 : Int32) w_2 hf _ _ _ hP hD hS (lv_sub hl [3, 2, 1, 0] rfl)
set_option maxHeartbeats 4000000 in
set_option maxRecDepth 100000 in
theorem k_xf_G_countBites (l : Launch) (dC : Nat → ClassId) (dI : Nat → Nat → Nat) (cI cZ cG : ClassId) (ad : Nat → Nat) (sz : Nat) (w : xW) (g : Nat) (hg : g < 6) (r0 : Int32) (w0 : xW) (hf : xf_G_countBites g w = some (r0, w0)) : Met l yX1_countBites wsX1_countBites ({ frames := 3, cells := 0, slots := 0, locals := 71 } : Room) (va_Pc [.ref (ad (12 + 5 * g))] (xPre dC dI cI cZ cG ad sz w)) (va_Qi (fun (r : Int32) (u : xW) => r = r0 ∧ u = w0) (xB dC dI cI cZ cG ad (xA ad sz)) (xA ad sz)) 0 0 (xA ad sz) := by
  refine Met.ofW (cc := cX1_countBites) (maxL := 1) (ret := (some .int)) (by decide) rfl ?_
  intro p e s m args below meth c s₁ B hml hv
  obtain ⟨rfl, hsz, hP, hK, hD0, hN⟩ := hv
  have hx := B.exec
  have hb := B.bytes
  have hr := B.returns
  have hts := atoms_spec (ws := wsX1_countBites) B.pre
  have hown : s.vm.findClass RX1 = some m.cls := findClass_of_methodNamed B.named
  have hlocks := B.notSynchronized
  have inX1 : ∀ w ∈ u_ws RX1 TX1 12, w ∈ wsX1_countBites := by decide +kernel
  subst hsz
  have hD : va_D (xA ad s.heap.size) (xc cI cG ad w) := xD_self hD0
  have hAA : ∀ z q, s.heap.size ≤ z → xA ad z q → xA ad s.heap.size q := xA_mono
  generalize xA ad s.heap.size = A at hD hAA ⊢
  have hS : va_S A s.heap s.heap [] := va_S.rf
  have hl := lv_entry ([.ref (ad (12 + 5 * g))]) (n := 1) (Nat.le_of_ble_eq_true rfl)
  rw [lg_entry_eq]
  generalize (lg_sl ([.ref (ad (12 + 5 * g))]) ++ List.replicate (1 - (lg_sl ([.ref (ad (12 + 5 * g))])).length) Slot.unset).toArray = ls at hl ⊢
  have hl : lv_has ls 1 [(0, .ref (ad (12 + 5 * g)))] := hl
  unfold xf_G_countBites at hf
  refine lv_aload_n hx hb dX1_countBites_0 rfl (lv_at hl 0 rfl) ?_
  refine va_get (D := (dC, dI)) (ci := 1) (v := .int (w.2.2.1 0 g)) (C := RX1) (T := TX1) (N := 12) hx hb hts inX1 hown hK hP (12 + 5 * g) (xc_o hg) rfl 6 (by decide) (hts (.fieldLink RX1 33 "BittenBoards$Game" "kind" "I") (by decide +kernel)) (fun _ h9 => h9) rfl dX1_countBites_1 ?_
  refine lv_if_ne (tgt := 21) hx hb dX1_countBites_4 (by decide) (fun h4 => ?_) (fun h4 => ?_)
  · have hf := if_f h4 hf
    refine lv_aload_n hx hb dX1_countBites_21 rfl (lv_at hl 0 rfl) ?_
    refine va_get (D := (dC, dI)) (ci := 1) (v := .int (w.2.2.1 3 g)) (C := RX1) (T := TX1) (N := 12) hx hb hts inX1 hown hK hP (12 + 5 * g) (xc_o hg) rfl 9 (by decide) (hts (.fieldLink RX1 50 "BittenBoards$Game" "state" "I") (by decide +kernel)) (fun _ h9 => h9) rfl dX1_countBites_22 ?_
    obtain ⟨r_25, hc25, hf⟩ := bn_e hf
    refine x_calli hD hS hAA (va_runS (As := [.int (w.2.2.1 3 g)]) (rest := []) ⟨hx, hb, hml, hown, hts⟩ (k_xf_J_bitCount l dC dI cI cZ cG ad s.heap.size w (w.2.2.1 3 g) r_25 w hc25 rfl) (va_cwS 1 hts gX1_countBites_J6_bitCount_0f7a4 rfl rfl rfl (by decide +kernel) ⟨Nat.le_of_ble_eq_true rfl, Nat.le_of_ble_eq_true rfl⟩) ⟨x_blind, fun U hU hW => x_pre hU hW hK hP hD hN⟩ rfl rfl hl.1 rfl (lv_room (Nat.le_of_ble_eq_true rfl)) dX1_countBites_25 ⟨Nat.zero_le _, Nat.zero_le _⟩) (fun H locs hP hD hS => ?_)
    exact x_iret hx hb hr hlocks hK hP hD hS (so_2 hf) dX1_countBites_28
  · have hf := if_t h4 hf
    refine lv_aload_n hx hb dX1_countBites_7 rfl (lv_at hl 0 rfl) ?_
    refine va_get (D := (dC, dI)) (ci := 1) (v := .ref (ad 3)) (C := RX1) (T := TX1) (N := 12) hx hb hts inX1 hown hK hP (12 + 5 * g) (xc_o hg) rfl 0 (by decide) (hts (.fieldLink RX1 25 "BittenBoards$Game" "boards" "LBittenBoards$Boards;") (by decide +kernel)) (fun _ h9 => h9) rfl dX1_countBites_8 ?_
    refine lv_aload_n hx hb dX1_countBites_11 rfl (lv_at hl 0 rfl) ?_
    refine va_get (D := (dC, dI)) (ci := 1) (v := .int (w.2.2.1 3 g)) (C := RX1) (T := TX1) (N := 12) hx hb hts inX1 hown hK hP (12 + 5 * g) (xc_o hg) rfl 9 (by decide) (hts (.fieldLink RX1 50 "BittenBoards$Game" "state" "I") (by decide +kernel)) (fun _ h9 => h9) rfl dX1_countBites_12 ?_
    obtain ⟨r_15, w_15, hc15, hf⟩ := bn2_e hf
    refine x_calli hD hS hAA (va_runV (As := [.int (w.2.2.1 3 g)]) (rest := []) ⟨hx, hb, hml, hown, hts⟩ (k_xf_B_countSquares l dC dI cI cZ cG ad s.heap.size w (w.2.2.1 3 g) r_15 w_15 hc15) (cwV 1 hts gX1_countBites_X0_countSquares rfl rfl rfl (by decide +kernel) ⟨Nat.le_of_ble_eq_true rfl, Nat.le_of_ble_eq_true rfl⟩) ⟨x_blind, va_recv hK hP (ci := 0) (q0 := 3) rfl rfl, fun U hU hW => x_pre hU hW hK hP hD hN⟩ rfl rfl hl.1 rfl (lv_room (Nat.le_of_ble_eq_true rfl)) dX1_countBites_15 ⟨Nat.zero_le _, Nat.zero_le _⟩) (fun H locs hP hD hS => ?_)
    refine lv_goto (tgt := 28) hx hb dX1_countBites_18 (by decide) ?_
    exact x_iret hx hb hr hlocks hK hP hD hS (so_2 hf) dX1_countBites_28
set_option maxHeartbeats 4000000 in
set_option maxRecDepth 100000 in
theorem k_xf_C_row (l : Launch) (dC : Nat → ClassId) (dI : Nat → Nat → Nat) (cI cZ cG : ClassId) (ad : Nat → Nat) (sz : Nat) (w : xW) (a1 : Int32) (a2 : Int32) (a3 : Int32) (r0 : Int32) (w0 : xW) (hf : xf_C_row a1 a2 a3 w = some (r0, w0)) : Met l yX3_row wsX3_row ({ frames := 4, cells := 0, slots := 0, locals := 91 } : Room) (va_Pc [.ref (ad 0), .int a1, .int a2, .int a3] (xPre dC dI cI cZ cG ad sz w)) (va_Qi (fun (r : Int32) (u : xW) => r = r0 ∧ u = w0) (xB dC dI cI cZ cG ad (xA ad sz)) (xA ad sz)) 0 0 (xA ad sz) := by
  refine Met.ofW (cc := cX3_row) (maxL := 5) (ret := (some .int)) (by decide) rfl ?_
  intro p e s m args below meth c s₁ B hml hv
  obtain ⟨rfl, hsz, hP, hK, hD0, hN⟩ := hv
  have hx := B.exec
  have hb := B.bytes
  have hr := B.returns
  have hts := atoms_spec (ws := wsX3_row) B.pre
  have hown : s.vm.findClass RX3 = some m.cls := findClass_of_methodNamed B.named
  have hlocks := B.notSynchronized
  have inX3 : ∀ w ∈ u_ws RX3 TX3 4, w ∈ wsX3_row := by decide +kernel
  have inX1 : ∀ w ∈ u_ws RX1 TX1 12, w ∈ wsX3_row := by decide +kernel
  subst hsz
  have hD : va_D (xA ad s.heap.size) (xc cI cG ad w) := xD_self hD0
  have hAA : ∀ z q, s.heap.size ≤ z → xA ad z q → xA ad s.heap.size q := xA_mono
  generalize xA ad s.heap.size = A at hD hAA ⊢
  have hS : va_S A s.heap s.heap [] := va_S.rf
  have C68 : ∀ (x2 : Int32) (x3 : Int32) (g4 : Nat) (w : xW), xf_C_row_C68 x2 x3 g4 w = some (r0, w0) → ∀ (H : Heap) (locs : List Loc) (ls : Array Slot), va_P (dC, dI) vwCl (xc cI cG ad w) H → va_D A (xc cI cG ad w) → va_S A s.heap H locs → lv_has ls 5 [(0, .ref (ad 0)), (2, .int x2), (3, .int x3), (4, .ref (ad (12 + 5 * g4)))] → W p l e (headSpec wsX3_row ({ frames := 4, cells := 0, slots := 0, locals := 91 } : Room)).room s m (List.toArray [Value.ref (ad 0), Value.int a1, Value.int a2, Value.int a3]) below meth c H locs 0 0 (MQ below (va_Qi (fun (r : Int32) (u : xW) => r = r0 ∧ u = w0) (xB dC dI cI cZ cG ad A) A) (List.toArray [Value.ref (ad 0), Value.int a1, Value.int a2, Value.int a3]) s 0 0 A) (F0 m 68 ls []) := by
    intro x2 x3 g4 w hf H locs ls hP hD hS hl
    unfold xf_C_row_C68 at hf
    obtain ⟨hgg4, hf⟩ := gd_e hf
    refine lv_aload hx hb dX3_row_68 (lv_at hl 3 rfl) ?_
    refine lv_aload_n hx hb dX3_row_70 rfl (lv_at hl 0 rfl) ?_
    refine va_get (D := (dC, dI)) (ci := 3) (v := .ref (ad 3)) (C := RX3) (T := TX3) (N := 4) hx hb hts inX3 hown hK hP 0 rfl rfl 0 (by decide) (hts (.fieldLink RX3 27 "BittenBoards" "boards" "LBittenBoards$Boards;") (by decide +kernel)) (fun _ h9 => h9) rfl dX3_row_71 ?_
    refine lv_aload hx hb dX3_row_74 (lv_at hl 3 rfl) ?_
    refine va_getN (host := "BittenBoards") (D := (dC, dI)) (ci := 1) (v := .int (w.2.2.1 3 g4)) (C := RX1) (T := TX1) (N := 12) hx hb hts inX1 hown hK hP (12 + 5 * g4) (xc_o hgg4) rfl 9 (by decide) (va_Nw.use rfl (hN (.fieldLinkNest RX3 73 "BittenBoards$Game" "state" "I" "BittenBoards") (by decide +kernel))) (fun _ h9 => h9) rfl dX3_row_76 ?_
    refine lv_iload_n hx hb dX3_row_79 rfl (lv_at hl 1 rfl) ?_
    refine lv_iload_n hx hb dX3_row_80 rfl (lv_at hl 2 rfl) ?_
    obtain ⟨r_81, w_81, hc81, hf⟩ := bn2_e hf
    refine x_calli hD hS hAA (va_runV (As := [.int (w.2.2.1 3 g4), .int x2, .int x3]) (rest := [.ref (ad (12 + 5 * g4))]) ⟨hx, hb, hml, hown, hts⟩ (k_xf_B_rankWithRow l dC dI cI cZ cG ad H.size w (w.2.2.1 3 g4) x2 x3 r_81 w_81 hc81) (cwV 3 hts gX3_row_X0_rankWithRow rfl rfl rfl (by decide +kernel) ⟨Nat.le_of_ble_eq_true rfl, Nat.le_of_ble_eq_true rfl⟩) ⟨x_blind, va_recv hK hP (ci := 0) (q0 := 3) rfl rfl, fun U hU hW => x_pre hU hW hK hP hD hN⟩ rfl rfl hl.1 rfl (lv_room (Nat.le_of_ble_eq_true rfl)) dX3_row_81 ⟨Nat.zero_le _, Nat.zero_le _⟩) (fun H locs hP hD hS => ?_)
    obtain ⟨w_84, hc84, hf⟩ := bn_e hf
    refine x_callv hD hS hAA (va_runV (As := [.int r_81]) (rest := []) ⟨hx, hb, hml, hown, hts⟩ (k_xf_G_putBoard l dC dI cI cZ cG ad H.size w_81 g4 hgg4 r_81 w_84 hc84) (cwV 1 hts gX3_row_X1_putBoard rfl rfl rfl (by decide +kernel) ⟨Nat.le_of_ble_eq_true rfl, Nat.le_of_ble_eq_true rfl⟩) ⟨x_blind, va_recv hK hP (ci := 1) (q0 := (12 + 5 * g4)) rfl (xc_o hgg4), fun U hU hW => x_pre hU hW hK hP hD hN⟩ rfl rfl hl.1 rfl (lv_room (Nat.le_of_ble_eq_true rfl)) dX3_row_84 ⟨Nat.zero_le _, Nat.zero_le _⟩) (fun H locs hP hD hS => ?_)
    refine lv_aload hx hb dX3_row_87 (lv_at hl 3 rfl) ?_
    obtain ⟨r_89, w_89, hc89, hf⟩ := bn2_e hf
    refine x_calli hD hS hAA (va_runV (As := []) (rest := []) ⟨hx, hb, hml, hown, hts⟩ (k_xf_G_countBites l dC dI cI cZ cG ad H.size w_84 g4 hgg4 r_89 w_89 hc89) (cwV 0 hts gX3_row_X1_countBites rfl rfl rfl (by decide +kernel) ⟨Nat.le_of_ble_eq_true rfl, Nat.le_of_ble_eq_true rfl⟩) ⟨x_blind, va_recv hK hP (ci := 1) (q0 := (12 + 5 * g4)) rfl (xc_o hgg4), fun U hU hW => x_pre hU hW hK hP hD hN⟩ rfl rfl hl.1 rfl (lv_room (Nat.le_of_ble_eq_true rfl)) dX3_row_89 ⟨Nat.zero_le _, Nat.zero_le _⟩) (fun H locs hP hD hS => ?_)
    exact x_iret hx hb hr hlocks hK hP hD hS (so_2 hf) dX3_row_92
  have hl := lv_entry ([.ref (ad 0), .int a1, .int a2, .int a3]) (n := 5) (Nat.le_of_ble_eq_true rfl)
  rw [lg_entry_eq]
  generalize (lg_sl ([.ref (ad 0), .int a1, .int a2, .int a3]) ++ List.replicate (5 - (lg_sl ([.ref (ad 0), .int a1, .int a2, .int a3])).length) Slot.unset).toArray = ls at hl ⊢
  have hl : lv_has ls 5 [(0, .ref (ad 0)), (1, .int a1), (2, .int a2), (3, .int a3)] := hl
  unfold xf_C_row at hf
  refine lv_aload_n hx hb dX3_row_0 rfl (lv_at hl 0 rfl) ?_
  refine lv_iload_n hx hb dX3_row_1 rfl (lv_at hl 1 rfl) ?_
  refine lv_iconst (v := (0 : Int32)) hx hb dX3_row_2 (by decide) ?_
  obtain ⟨r_3, hc3, hf⟩ := bn_e hf
  refine x_callq hD hS hAA (va_runV (As := [.int a1, .int (0 : Int32)]) (rest := []) ⟨hx, hb, hml, hown, hts⟩ (k_xf_C_gameOf l dC dI cI cZ cG ad s.heap.size w a1 (0 : Int32) r_3 w hc3 rfl) (cwV 2 hts gX3_row_X3_gameOf rfl rfl rfl (by decide +kernel) ⟨Nat.le_of_ble_eq_true rfl, Nat.le_of_ble_eq_true rfl⟩) ⟨x_blind, va_recv hK hP (ci := 3) (q0 := 0) rfl rfl, fun U hU hW => x_pre hU hW hK hP hD hN⟩ rfl rfl hl.1 rfl (lv_room (Nat.le_of_ble_eq_true rfl)) dX3_row_3 ⟨Nat.zero_le _, Nat.zero_le _⟩) (fun H locs hP hD hS => ?_)
  rcases r_3 with _ | g_3
  · have hf := onO_n hf
    refine W.eq (g2 := F0 m 6 ls [.null]) rfl ?_
    refine lv_astoreN (lv' := [(4, .null), (0, .ref (ad 0)), (1, .int a1), (2, .int a2), (3, .int a3)]) hx hb dX3_row_6 hl (by decide) rfl (fun ls hl => ?_)
    refine lv_aloadN hx hb dX3_row_8 (lv_at hl 0 rfl) ?_
    refine lv_ifnonnullN hx hb dX3_row_10 ?_
    refine lv_sipush (v := (-1001 : Int32)) hx hb dX3_row_13 (by decide) ?_
    exact x_iret hx hb hr hlocks hK hP hD hS (so_2 hf) dX3_row_16
  · have hf := onO_s hf
    obtain ⟨hg_3, hf⟩ := gd_e hf
    refine W.eq (g2 := F0 m 6 ls [.ref (ad (12 + 5 * g_3))]) rfl ?_
    refine lv_astore (lv' := [(4, .ref (ad (12 + 5 * g_3))), (0, .ref (ad 0)), (1, .int a1), (2, .int a2), (3, .int a3)]) hx hb dX3_row_6 hl (by decide) rfl (fun ls hl => ?_)
    refine lv_aload hx hb dX3_row_8 (lv_at hl 0 rfl) ?_
    refine lv_ifnonnull (tgt := 17) hx hb dX3_row_10 (by decide) ?_
    refine lv_iload_n hx hb dX3_row_17 rfl (lv_at hl 3 rfl) ?_
    refine lv_iconst (v := (0 : Int32)) hx hb dX3_row_18 (by decide) ?_
    refine lv_bipush (v := (6 : Int32)) hx hb dX3_row_19 (by decide) ?_
    obtain ⟨r_21, hc21, hf⟩ := bn_e hf
    refine x_calli hD hS hAA (va_runS (As := [.int a2, .int (0 : Int32), .int (6 : Int32)]) (rest := []) ⟨hx, hb, hml, hown, hts⟩ (k_xf_C_isWithin l dC dI cI cZ cG ad H.size w a2 (0 : Int32) (6 : Int32) r_21 w hc21 rfl) (va_cwS 3 hts gX3_row_X3_isWithin rfl rfl rfl (by decide +kernel) ⟨Nat.le_of_ble_eq_true rfl, Nat.le_of_ble_eq_true rfl⟩) ⟨x_blind, fun U hU hW => x_pre hU hW hK hP hD hN⟩ rfl rfl hl.1 rfl (lv_room (Nat.le_of_ble_eq_true rfl)) dX3_row_21 ⟨Nat.zero_le _, Nat.zero_le _⟩) (fun H locs hP hD hS => ?_)
    refine lv_if_eq (tgt := 37) hx hb dX3_row_24 (by decide) (fun h24 => ?_) (fun h24 => ?_)
    · have hf := if_t h24 hf
      refine lv_sipush (v := (-1002 : Int32)) hx hb dX3_row_37 (by decide) ?_
      exact x_iret hx hb hr hlocks hK hP hD hS (so_2 hf) dX3_row_40
    · have hf := if_f h24 hf
      refine lv_iload_n hx hb dX3_row_27 rfl (lv_at hl 4 rfl) ?_
      refine lv_iconst (v := (0 : Int32)) hx hb dX3_row_28 (by decide) ?_
      refine lv_bipush (v := (7 : Int32)) hx hb dX3_row_29 (by decide) ?_
      obtain ⟨r_31, hc31, hf⟩ := bn_e hf
      refine x_calli hD hS hAA (va_runS (As := [.int a3, .int (0 : Int32), .int (7 : Int32)]) (rest := []) ⟨hx, hb, hml, hown, hts⟩ (k_xf_C_isWithin l dC dI cI cZ cG ad H.size w a3 (0 : Int32) (7 : Int32) r_31 w hc31 rfl) (va_cwS 3 hts gX3_row_X3_isWithin rfl rfl rfl (by decide +kernel) ⟨Nat.le_of_ble_eq_true rfl, Nat.le_of_ble_eq_true rfl⟩) ⟨x_blind, fun U hU hW => x_pre hU hW hK hP hD hN⟩ rfl rfl hl.1 rfl (lv_room (Nat.le_of_ble_eq_true rfl)) dX3_row_31 ⟨Nat.zero_le _, Nat.zero_le _⟩) (fun H locs hP hD hS => ?_)
      refine lv_if_ne (tgt := 41) hx hb dX3_row_34 (by decide) (fun h34 => ?_) (fun h34 => ?_)
      · have hf := if_f h34 hf
        refine lv_iload_n hx hb dX3_row_41 rfl (lv_at hl 3 rfl) ?_
        refine lv_if_le (tgt := 68) hx hb dX3_row_42 (by decide) (fun h42 => ?_) (fun h42 => ?_)
        · have hf := if_t h42 hf
          exact C68 a2 a3 g_3 w hf _ _ _ hP hD hS (lv_sub hl [1, 3, 4, 0] rfl)
        · have hf := if_f h42 hf
          refine lv_iload_n hx hb dX3_row_45 rfl (lv_at hl 4 rfl) ?_
          refine lv_aload_n hx hb dX3_row_46 rfl (lv_at hl 1 rfl) ?_
          refine va_get (D := (dC, dI)) (ci := 3) (v := .ref (ad 3)) (C := RX3) (T := TX3) (N := 4) hx hb hts inX3 hown hK hP 0 rfl rfl 0 (by decide) (hts (.fieldLink RX3 27 "BittenBoards" "boards" "LBittenBoards$Boards;") (by decide +kernel)) (fun _ h9 => h9) rfl dX3_row_47 ?_
          refine lv_aload hx hb dX3_row_50 (lv_at hl 0 rfl) ?_
          refine va_getN (host := "BittenBoards") (D := (dC, dI)) (ci := 1) (v := .int (w.2.2.1 3 g_3)) (C := RX1) (T := TX1) (N := 12) hx hb hts inX1 hown hK hP (12 + 5 * g_3) (xc_o hg_3) rfl 9 (by decide) (va_Nw.use rfl (hN (.fieldLinkNest RX3 73 "BittenBoards$Game" "state" "I" "BittenBoards") (by decide +kernel))) (fun _ h9 => h9) rfl dX3_row_52 ?_
          refine lv_iload_n hx hb dX3_row_55 rfl (lv_at hl 3 rfl) ?_
          refine lv_iconst (v := (1 : Int32)) hx hb dX3_row_56 (by decide) ?_
          refine lv_isub hx hb dX3_row_57 ?_
          obtain ⟨r_58, w_58, hc58, hf⟩ := bn2_e hf
          refine x_calli hD hS hAA (va_runV (As := [.int (w.2.2.1 3 g_3), .int (a2 - (1 : Int32))]) (rest := [.int a3]) ⟨hx, hb, hml, hown, hts⟩ (k_xf_B_rowOf l dC dI cI cZ cG ad H.size w (w.2.2.1 3 g_3) (a2 - (1 : Int32)) r_58 w_58 hc58) (cwV 2 hts gX3_row_X0_rowOf rfl rfl rfl (by decide +kernel) ⟨Nat.le_of_ble_eq_true rfl, Nat.le_of_ble_eq_true rfl⟩) ⟨x_blind, va_recv hK hP (ci := 0) (q0 := 3) rfl rfl, fun U hU hW => x_pre hU hW hK hP hD hN⟩ rfl rfl hl.1 rfl (lv_room (Nat.le_of_ble_eq_true rfl)) dX3_row_58 ⟨Nat.zero_le _, Nat.zero_le _⟩) (fun H locs hP hD hS => ?_)
          refine lv_icmp_le (tgt := 68) hx hb dX3_row_61 (by decide) (fun h61 => ?_) (fun h61 => ?_)
          · have hf := if_t h61 hf
            exact C68 a2 a3 g_3 w_58 hf _ _ _ hP hD hS (lv_sub hl [1, 3, 4, 0] rfl)
          · have hf := if_f h61 hf
            refine lv_sipush (v := (-1003 : Int32)) hx hb dX3_row_64 (by decide) ?_
            exact x_iret hx hb hr hlocks hK hP hD hS (so_2 hf) dX3_row_67
      · have hf := if_t h34 hf
        refine lv_sipush (v := (-1002 : Int32)) hx hb dX3_row_37 (by decide) ?_
        exact x_iret hx hb hr hlocks hK hP hD hS (so_2 hf) dX3_row_40
set_option maxHeartbeats 4000000 in
set_option maxRecDepth 100000 in
theorem k_xf_C_thing (l : Launch) (dC : Nat → ClassId) (dI : Nat → Nat → Nat) (cI cZ cG : ClassId) (ad : Nat → Nat) (sz : Nat) (w : xW) (a1 : Int32) (r0 : Int32) (w0 : xW) (hf : xf_C_thing a1 w = some (r0, w0)) : Met l yX3_thing wsX3_thing ({ frames := 2, cells := 0, slots := 0, locals := 44 } : Room) (va_Pc [.ref (ad 0), .int a1] (xPre dC dI cI cZ cG ad sz w)) (va_Qi (fun (r : Int32) (u : xW) => r = r0 ∧ u = w0) (xB dC dI cI cZ cG ad (xA ad sz)) (xA ad sz)) 0 0 (xA ad sz) := by
  refine Met.ofW (cc := cX3_thing) (maxL := 4) (ret := (some .int)) (by decide) rfl ?_
  intro p e s m args below meth c s₁ B hml hv
  obtain ⟨rfl, hsz, hP, hK, hD0, hN⟩ := hv
  have hx := B.exec
  have hb := B.bytes
  have hr := B.returns
  have hts := atoms_spec (ws := wsX3_thing) B.pre
  have hown : s.vm.findClass RX3 = some m.cls := findClass_of_methodNamed B.named
  have hlocks := B.notSynchronized
  subst hsz
  have hD : va_D (xA ad s.heap.size) (xc cI cG ad w) := xD_self hD0
  have hAA : ∀ z q, s.heap.size ≤ z → xA ad z q → xA ad s.heap.size q := xA_mono
  generalize xA ad s.heap.size = A at hD hAA ⊢
  have hS : va_S A s.heap s.heap [] := va_S.rf
  have hl := lv_entry ([.ref (ad 0), .int a1]) (n := 4) (Nat.le_of_ble_eq_true rfl)
  rw [lg_entry_eq]
  generalize (lg_sl ([.ref (ad 0), .int a1]) ++ List.replicate (4 - (lg_sl ([.ref (ad 0), .int a1])).length) Slot.unset).toArray = ls at hl ⊢
  have hl : lv_has ls 4 [(0, .ref (ad 0)), (1, .int a1)] := hl
  unfold xf_C_thing at hf
  refine lv_aload_n hx hb dX3_thing_0 rfl (lv_at hl 0 rfl) ?_
  refine lv_iload_n hx hb dX3_thing_1 rfl (lv_at hl 1 rfl) ?_
  refine lv_iconst (v := (1 : Int32)) hx hb dX3_thing_2 (by decide) ?_
  obtain ⟨r_3, hc3, hf⟩ := bn_e hf
  refine x_callq hD hS hAA (va_runV (As := [.int a1, .int (1 : Int32)]) (rest := []) ⟨hx, hb, hml, hown, hts⟩ (k_xf_C_gameOf l dC dI cI cZ cG ad s.heap.size w a1 (1 : Int32) r_3 w hc3 rfl) (cwV 2 hts gX3_thing_X3_gameOf rfl rfl rfl (by decide +kernel) ⟨Nat.le_of_ble_eq_true rfl, Nat.le_of_ble_eq_true rfl⟩) ⟨x_blind, va_recv hK hP (ci := 3) (q0 := 0) rfl rfl, fun U hU hW => x_pre hU hW hK hP hD hN⟩ rfl rfl hl.1 rfl (lv_room (Nat.le_of_ble_eq_true rfl)) dX3_thing_3 ⟨Nat.zero_le _, Nat.zero_le _⟩) (fun H locs hP hD hS => ?_)
  rcases r_3 with _ | g_3
  · have hf := onO_n hf
    refine W.eq (g2 := F0 m 6 ls [.null]) rfl ?_
    refine lv_astore_nN (lv' := [(2, .null), (0, .ref (ad 0)), (1, .int a1)]) hx hb dX3_thing_6 rfl hl (by decide) rfl (fun ls hl => ?_)
    refine lv_aload_nN hx hb dX3_thing_7 rfl (lv_at hl 0 rfl) ?_
    refine lv_ifnonnullN hx hb dX3_thing_8 ?_
    refine lv_sipush (v := (-1001 : Int32)) hx hb dX3_thing_11 (by decide) ?_
    exact x_iret hx hb hr hlocks hK hP hD hS (so_2 hf) dX3_thing_14
  · have hf := onO_s hf
    obtain ⟨hg_3, hf⟩ := gd_e hf
    refine W.eq (g2 := F0 m 6 ls [.ref (ad (12 + 5 * g_3))]) rfl ?_
    refine lv_astore_n (lv' := [(2, .ref (ad (12 + 5 * g_3))), (0, .ref (ad 0)), (1, .int a1)]) hx hb dX3_thing_6 rfl hl (by decide) rfl (fun ls hl => ?_)
    refine lv_aload_n hx hb dX3_thing_7 rfl (lv_at hl 0 rfl) ?_
    refine lv_ifnonnull (tgt := 15) hx hb dX3_thing_8 (by decide) ?_
    refine lv_aload_n hx hb dX3_thing_15 rfl (lv_at hl 0 rfl) ?_
    obtain ⟨r_16, hc16, hf⟩ := bn_e hf
    refine x_calli hD hS hAA (va_runV (As := []) (rest := []) ⟨hx, hb, hml, hown, hts⟩ (k_xf_G_countThings l dC dI cI cZ cG ad H.size w g_3 hg_3 r_16 w hc16 rfl) (cwV 0 hts gX3_thing_X1_countThings rfl rfl rfl (by decide +kernel) ⟨Nat.le_of_ble_eq_true rfl, Nat.le_of_ble_eq_true rfl⟩) ⟨x_blind, va_recv hK hP (ci := 1) (q0 := (12 + 5 * g_3)) rfl (xc_o hg_3), fun U hU hW => x_pre hU hW hK hP hD hN⟩ rfl rfl hl.1 rfl (lv_room (Nat.le_of_ble_eq_true rfl)) dX3_thing_16 ⟨Nat.zero_le _, Nat.zero_le _⟩) (fun H locs hP hD hS => ?_)
    refine lv_istore_n (lv' := [(3, .int r_16), (2, .ref (ad (12 + 5 * g_3))), (0, .ref (ad 0)), (1, .int a1)]) hx hb dX3_thing_19 rfl hl (by decide) rfl (fun ls hl => ?_)
    refine lv_iload_n hx hb dX3_thing_20 rfl (lv_at hl 0 rfl) ?_
    refine lv_bipush (v := (12 : Int32)) hx hb dX3_thing_21 (by decide) ?_
    refine lv_icmp_lt (tgt := 30) hx hb dX3_thing_23 (by decide) (fun h23 => ?_) (fun h23 => ?_)
    · have hf := if_t h23 hf
      refine lv_aload_n hx hb dX3_thing_30 rfl (lv_at hl 1 rfl) ?_
      refine lv_iload_n hx hb dX3_thing_31 rfl (lv_at hl 0 rfl) ?_
      obtain ⟨w_32, hc32, hf⟩ := bn_e hf
      refine x_callv hD hS hAA (va_runV (As := [.int r_16]) (rest := []) ⟨hx, hb, hml, hown, hts⟩ (k_xf_G_addPart l dC dI cI cZ cG ad H.size w g_3 hg_3 r_16 w_32 hc32) (cwV 1 hts gX3_thing_X1_addPart rfl rfl rfl (by decide +kernel) ⟨Nat.le_of_ble_eq_true rfl, Nat.le_of_ble_eq_true rfl⟩) ⟨x_blind, va_recv hK hP (ci := 1) (q0 := (12 + 5 * g_3)) rfl (xc_o hg_3), fun U hU hW => x_pre hU hW hK hP hD hN⟩ rfl rfl hl.1 rfl (lv_room (Nat.le_of_ble_eq_true rfl)) dX3_thing_32 ⟨Nat.zero_le _, Nat.zero_le _⟩) (fun H locs hP hD hS => ?_)
      refine lv_iload_n hx hb dX3_thing_35 rfl (lv_at hl 0 rfl) ?_
      exact x_iret hx hb hr hlocks hK hP hD hS (so_2 hf) dX3_thing_36
    · have hf := if_f h23 hf
      refine lv_sipush (v := (-1004 : Int32)) hx hb dX3_thing_26 (by decide) ?_
      exact x_iret hx hb hr hlocks hK hP hD hS (so_2 hf) dX3_thing_29
set_option maxHeartbeats 4000000 in
set_option maxRecDepth 100000 in
theorem k_xf_G_countPairs (l : Launch) (dC : Nat → ClassId) (dI : Nat → Nat → Nat) (cI cZ cG : ClassId) (ad : Nat → Nat) (sz : Nat) (w : xW) (g : Nat) (hg : g < 6) (r0 : Int32) (w0 : xW) (hf : xf_G_countPairs g w = some r0) (hw0 : w = w0) : Met l yX1_countPairs wsX1_countPairs ({ frames := 2, cells := 0, slots := 0, locals := 40 } : Room) (va_Pc [.ref (ad (12 + 5 * g))] (xPre dC dI cI cZ cG ad sz w)) (va_Qi (fun (r : Int32) (u : xW) => r = r0 ∧ u = w0) (xB dC dI cI cZ cG ad (xA ad sz)) (xA ad sz)) 0 0 (xA ad sz) := by
  refine Met.ofW (cc := cX1_countPairs) (maxL := 3) (ret := (some .int)) (by decide) rfl ?_
  intro p e s m args below meth c s₁ B hml hv
  obtain ⟨rfl, hsz, hP, hK, hD0, hN⟩ := hv
  have hx := B.exec
  have hb := B.bytes
  have hr := B.returns
  have hts := atoms_spec (ws := wsX1_countPairs) B.pre
  have hown : s.vm.findClass RX1 = some m.cls := findClass_of_methodNamed B.named
  have hlocks := B.notSynchronized
  have inX1 : ∀ w ∈ u_ws RX1 TX1 12, w ∈ wsX1_countPairs := by decide +kernel
  subst hsz
  have hD : va_D (xA ad s.heap.size) (xc cI cG ad w) := xD_self hD0
  have hAA : ∀ z q, s.heap.size ≤ z → xA ad z q → xA ad s.heap.size q := xA_mono
  generalize xA ad s.heap.size = A at hD hAA ⊢
  have hS : va_S A s.heap s.heap [] := va_S.rf
  have C4 : ∀ (n4 : Nat) (x1 : Int32) (x2 : Int32), xf_G_countPairs_C4 g w n4 x1 x2 = some r0 → ∀ (H : Heap) (locs : List Loc) (ls : Array Slot), va_P (dC, dI) vwCl (xc cI cG ad w) H → va_D A (xc cI cG ad w) → va_S A s.heap H locs → lv_has ls 3 [(0, .ref (ad (12 + 5 * g))), (1, .int x1), (2, .int x2)] → W p l e (headSpec wsX1_countPairs ({ frames := 2, cells := 0, slots := 0, locals := 40 } : Room)).room s m (List.toArray [Value.ref (ad (12 + 5 * g))]) below meth c H locs 0 0 (MQ below (va_Qi (fun (r : Int32) (u : xW) => r = r0 ∧ u = w0) (xB dC dI cI cZ cG ad A) A) (List.toArray [Value.ref (ad (12 + 5 * g))]) s 0 0 A) (F0 m 4 ls []) := by
    intro n4
    induction n4 with
    | zero => intro x1 x2 hf; cases hf
    | succ n4 ih4 =>
      intro x1 x2 hf H locs ls hP hD hS hl
      rw [xf_G_countPairs_C4] at hf
      refine lv_iload_n hx hb dX1_countPairs_4 rfl (lv_at hl 2 rfl) ?_
      refine lv_aload_n hx hb dX1_countPairs_5 rfl (lv_at hl 0 rfl) ?_
      obtain ⟨r_6, hc6, hf⟩ := bn_e hf
      refine x_calli hD hS hAA (va_runV (As := []) (rest := [.int x2]) ⟨hx, hb, hml, hown, hts⟩ (k_xf_G_countThings l dC dI cI cZ cG ad H.size w g hg r_6 w hc6 rfl) (cwV 0 hts gX1_countPairs_X1_countThings rfl rfl rfl (by decide +kernel) ⟨Nat.le_of_ble_eq_true rfl, Nat.le_of_ble_eq_true rfl⟩) ⟨x_blind, va_recv hK hP (ci := 1) (q0 := (12 + 5 * g)) rfl (xc_o hg), fun U hU hW => x_pre hU hW hK hP hD hN⟩ rfl rfl hl.1 rfl (lv_room (Nat.le_of_ble_eq_true rfl)) dX1_countPairs_6 ⟨Nat.zero_le _, Nat.zero_le _⟩) (fun H locs hP hD hS => ?_)
      refine lv_icmp_ge (tgt := 34) hx hb dX1_countPairs_9 (by decide) (fun h9 => ?_) (fun h9 => ?_)
      · have hf := if_t h9 hf
        refine lv_iload_n hx hb dX1_countPairs_34 rfl (lv_at hl 1 rfl) ?_
        exact x_iret hx hb hr hlocks hK hP hD hS ⟨so_1 hf, hw0⟩ dX1_countPairs_35
      · have hf := if_f h9 hf
        refine lv_iload_n hx hb dX1_countPairs_12 rfl (lv_at hl 1 rfl) ?_
        refine lv_aload_n hx hb dX1_countPairs_13 rfl (lv_at hl 0 rfl) ?_
        refine va_get (D := (dC, dI)) (ci := 1) (v := .ref (ad (13 + 5 * g))) (C := RX1) (T := TX1) (N := 12) hx hb hts inX1 hown hK hP (12 + 5 * g) (xc_o hg) rfl 2 (by decide) (hts (.fieldLink RX1 9 "BittenBoards$Game" "takenBy" "[I") (by decide +kernel)) (fun _ h9 => h9) rfl dX1_countPairs_14 ?_
        refine lv_iload_n hx hb dX1_countPairs_17 rfl (lv_at hl 2 rfl) ?_
        obtain ⟨r_18, hc18, hf⟩ := bn_e hf
        refine x_calli hD hS hAA (va_runSN (host := "BittenBoards") (As := [.ref (ad (13 + 5 * g)), .int x2]) (rest := [.int x1]) ⟨hx, hb, hml, hown, hts⟩ (k_xf_C_at l dC dI cI cZ cG ad H.size w 15 (w.2.2.2.1 0 g) (ad (13 + 5 * g)) (13 + 5 * g) (xc_r0 hg) x2 r_18 w hc18 rfl) ⟨va_cnB (host := "BittenBoards") 2 hts gX1_countPairs_X3_at_n60 rfl rfl rfl (hN (.methodLinkNest RX1 60 yX3_at "BittenBoards") (by decide +kernel)) (hts (.initialized RX3) (by decide +kernel)) (by decide +kernel) ⟨Nat.le_of_ble_eq_true rfl, Nat.le_of_ble_eq_true rfl⟩, hts (.static yX3_at) (by decide +kernel), trivial⟩ ⟨x_blind, fun U hU hW => x_pre hU hW hK hP hD hN⟩ rfl rfl hl.1 rfl (lv_room (Nat.le_of_ble_eq_true rfl)) dX1_countPairs_18 ⟨Nat.zero_le _, Nat.zero_le _⟩) (fun H locs hP hD hS => ?_)
        obtain ⟨r_21, hc21, hf⟩ := bn_e hf
        refine x_calli hD hS hAA (va_runS (As := [.int r_18]) (rest := [.int x1]) ⟨hx, hb, hml, hown, hts⟩ (k_xf_J_bitCount l dC dI cI cZ cG ad H.size w r_18 r_21 w hc21 rfl) (va_cwS 1 hts gX1_countPairs_J6_bitCount_0f7a4 rfl rfl rfl (by decide +kernel) ⟨Nat.le_of_ble_eq_true rfl, Nat.le_of_ble_eq_true rfl⟩) ⟨x_blind, fun U hU hW => x_pre hU hW hK hP hD hN⟩ rfl rfl hl.1 rfl (lv_room (Nat.le_of_ble_eq_true rfl)) dX1_countPairs_21 ⟨Nat.zero_le _, Nat.zero_le _⟩) (fun H locs hP hD hS => ?_)
        refine lv_iconst (v := (1 : Int32)) hx hb dX1_countPairs_24 (by decide) ?_
        refine lv_isub hx hb dX1_countPairs_25 ?_
        refine lv_iadd hx hb dX1_countPairs_26 ?_
        obtain ⟨x1_27, ex1_27, hf⟩ := nm_x hf
        refine W.eq (g2 := F0 m 27 ls [.int x1_27]) (by rw [ex1_27]) ?_
        refine lv_istore_n (lv' := [(1, .int x1_27), (0, .ref (ad (12 + 5 * g))), (2, .int x2)]) hx hb dX1_countPairs_27 rfl hl (by decide) rfl (fun ls hl => ?_)
        obtain ⟨x2_28, ex2_28, hf⟩ := nm_x hf
        refine lv_iinc (v := x2_28) (lv' := [(2, .int x2_28), (1, .int x1_27), (0, .ref (ad (12 + 5 * g)))]) hx hb dX1_countPairs_28 hl (k := 2) rfl (by rw [ex2_28]; rfl) (by decide) rfl (fun ls hl => ?_)
        refine lv_goto (tgt := 4) hx hb dX1_countPairs_31 (by decide) ?_
        exact ih4 x1_27 x2_28 hf _ _ _ hP hD hS (lv_sub hl [2, 1, 0] rfl)
  have hl := lv_entry ([.ref (ad (12 + 5 * g))]) (n := 3) (Nat.le_of_ble_eq_true rfl)
  rw [lg_entry_eq]
  generalize (lg_sl ([.ref (ad (12 + 5 * g))]) ++ List.replicate (3 - (lg_sl ([.ref (ad (12 + 5 * g))])).length) Slot.unset).toArray = ls at hl ⊢
  have hl : lv_has ls 3 [(0, .ref (ad (12 + 5 * g)))] := hl
  unfold xf_G_countPairs at hf
  refine lv_iconst (v := (0 : Int32)) hx hb dX1_countPairs_0 (by decide) ?_
  refine lv_istore_n (lv' := [(1, .int (0 : Int32)), (0, .ref (ad (12 + 5 * g)))]) hx hb dX1_countPairs_1 rfl hl (by decide) rfl (fun ls hl => ?_)
  refine lv_iconst (v := (0 : Int32)) hx hb dX1_countPairs_2 (by decide) ?_
  refine lv_istore_n (lv' := [(2, .int (0 : Int32)), (1, .int (0 : Int32)), (0, .ref (ad (12 + 5 * g)))]) hx hb dX1_countPairs_3 rfl hl (by decide) rfl (fun ls hl => ?_)
  exact C4 fu (0 : Int32) (0 : Int32) hf _ _ _ hP hD hS (lv_sub hl [2, 1, 0] rfl)
set_option maxHeartbeats 4000000 in
set_option maxRecDepth 100000 in
theorem k_xf_C_below (l : Launch) (dC : Nat → ClassId) (dI : Nat → Nat → Nat) (cI cZ cG : ClassId) (ad : Nat → Nat) (sz : Nat) (w : xW) (a1 : Int32) (a2 : Int32) (a3 : Int32) (r0 : Int32) (w0 : xW) (hf : xf_C_below a1 a2 a3 w = some (r0, w0)) : Met l yX3_below wsX3_below ({ frames := 4, cells := 0, slots := 0, locals := 85 } : Room) (va_Pc [.ref (ad 0), .int a1, .int a2, .int a3] (xPre dC dI cI cZ cG ad sz w)) (va_Qi (fun (r : Int32) (u : xW) => r = r0 ∧ u = w0) (xB dC dI cI cZ cG ad (xA ad sz)) (xA ad sz)) 0 0 (xA ad sz) := by
  refine Met.ofW (cc := cX3_below) (maxL := 5) (ret := (some .int)) (by decide) rfl ?_
  intro p e s m args below meth c s₁ B hml hv
  obtain ⟨rfl, hsz, hP, hK, hD0, hN⟩ := hv
  have hx := B.exec
  have hb := B.bytes
  have hr := B.returns
  have hts := atoms_spec (ws := wsX3_below) B.pre
  have hown : s.vm.findClass RX3 = some m.cls := findClass_of_methodNamed B.named
  have hlocks := B.notSynchronized
  subst hsz
  have hD : va_D (xA ad s.heap.size) (xc cI cG ad w) := xD_self hD0
  have hAA : ∀ z q, s.heap.size ≤ z → xA ad z q → xA ad s.heap.size q := xA_mono
  generalize xA ad s.heap.size = A at hD hAA ⊢
  have hS : va_S A s.heap s.heap [] := va_S.rf
  have hl := lv_entry ([.ref (ad 0), .int a1, .int a2, .int a3]) (n := 5) (Nat.le_of_ble_eq_true rfl)
  rw [lg_entry_eq]
  generalize (lg_sl ([.ref (ad 0), .int a1, .int a2, .int a3]) ++ List.replicate (5 - (lg_sl ([.ref (ad 0), .int a1, .int a2, .int a3])).length) Slot.unset).toArray = ls at hl ⊢
  have hl : lv_has ls 5 [(0, .ref (ad 0)), (1, .int a1), (2, .int a2), (3, .int a3)] := hl
  unfold xf_C_below at hf
  refine lv_aload_n hx hb dX3_below_0 rfl (lv_at hl 0 rfl) ?_
  refine lv_iload_n hx hb dX3_below_1 rfl (lv_at hl 1 rfl) ?_
  refine lv_iconst (v := (1 : Int32)) hx hb dX3_below_2 (by decide) ?_
  obtain ⟨r_3, hc3, hf⟩ := bn_e hf
  refine x_callq hD hS hAA (va_runV (As := [.int a1, .int (1 : Int32)]) (rest := []) ⟨hx, hb, hml, hown, hts⟩ (k_xf_C_gameOf l dC dI cI cZ cG ad s.heap.size w a1 (1 : Int32) r_3 w hc3 rfl) (cwV 2 hts gX3_below_X3_gameOf rfl rfl rfl (by decide +kernel) ⟨Nat.le_of_ble_eq_true rfl, Nat.le_of_ble_eq_true rfl⟩) ⟨x_blind, va_recv hK hP (ci := 3) (q0 := 0) rfl rfl, fun U hU hW => x_pre hU hW hK hP hD hN⟩ rfl rfl hl.1 rfl (lv_room (Nat.le_of_ble_eq_true rfl)) dX3_below_3 ⟨Nat.zero_le _, Nat.zero_le _⟩) (fun H locs hP hD hS => ?_)
  rcases r_3 with _ | g_3
  · have hf := onO_n hf
    refine W.eq (g2 := F0 m 6 ls [.null]) rfl ?_
    refine lv_astoreN (lv' := [(4, .null), (0, .ref (ad 0)), (1, .int a1), (2, .int a2), (3, .int a3)]) hx hb dX3_below_6 hl (by decide) rfl (fun ls hl => ?_)
    refine lv_aloadN hx hb dX3_below_8 (lv_at hl 0 rfl) ?_
    refine lv_ifnullN (tgt := 31) hx hb dX3_below_10 (by decide) ?_
    refine lv_sipush (v := (-1001 : Int32)) hx hb dX3_below_31 (by decide) ?_
    exact x_iret hx hb hr hlocks hK hP hD hS (so_2 hf) dX3_below_34
  · have hf := onO_s hf
    obtain ⟨hg_3, hf⟩ := gd_e hf
    refine W.eq (g2 := F0 m 6 ls [.ref (ad (12 + 5 * g_3))]) rfl ?_
    refine lv_astore (lv' := [(4, .ref (ad (12 + 5 * g_3))), (0, .ref (ad 0)), (1, .int a1), (2, .int a2), (3, .int a3)]) hx hb dX3_below_6 hl (by decide) rfl (fun ls hl => ?_)
    refine lv_aload hx hb dX3_below_8 (lv_at hl 0 rfl) ?_
    refine lv_ifnull hx hb dX3_below_10 ?_
    refine lv_aload hx hb dX3_below_13 (lv_at hl 0 rfl) ?_
    refine lv_iload_n hx hb dX3_below_15 rfl (lv_at hl 3 rfl) ?_
    obtain ⟨r_16, hc16, hf⟩ := bn_e hf
    refine x_calli hD hS hAA (va_runV (As := [.int a2]) (rest := []) ⟨hx, hb, hml, hown, hts⟩ (k_xf_G_hasThing l dC dI cI cZ cG ad H.size w g_3 hg_3 a2 r_16 w hc16 rfl) (cwV 1 hts gX3_below_X1_hasThing rfl rfl rfl (by decide +kernel) ⟨Nat.le_of_ble_eq_true rfl, Nat.le_of_ble_eq_true rfl⟩) ⟨x_blind, va_recv hK hP (ci := 1) (q0 := (12 + 5 * g_3)) rfl (xc_o hg_3), fun U hU hW => x_pre hU hW hK hP hD hN⟩ rfl rfl hl.1 rfl (lv_room (Nat.le_of_ble_eq_true rfl)) dX3_below_16 ⟨Nat.zero_le _, Nat.zero_le _⟩) (fun H locs hP hD hS => ?_)
    refine lv_if_eq (tgt := 31) hx hb dX3_below_19 (by decide) (fun h19 => ?_) (fun h19 => ?_)
    · have hf := if_t h19 hf
      refine lv_sipush (v := (-1001 : Int32)) hx hb dX3_below_31 (by decide) ?_
      exact x_iret hx hb hr hlocks hK hP hD hS (so_2 hf) dX3_below_34
    · have hf := if_f h19 hf
      refine lv_aload hx hb dX3_below_22 (lv_at hl 0 rfl) ?_
      refine lv_iload_n hx hb dX3_below_24 rfl (lv_at hl 4 rfl) ?_
      obtain ⟨r_25, hc25, hf⟩ := bn_e hf
      refine x_calli hD hS hAA (va_runV (As := [.int a3]) (rest := []) ⟨hx, hb, hml, hown, hts⟩ (k_xf_G_hasThing l dC dI cI cZ cG ad H.size w g_3 hg_3 a3 r_25 w hc25 rfl) (cwV 1 hts gX3_below_X1_hasThing rfl rfl rfl (by decide +kernel) ⟨Nat.le_of_ble_eq_true rfl, Nat.le_of_ble_eq_true rfl⟩) ⟨x_blind, va_recv hK hP (ci := 1) (q0 := (12 + 5 * g_3)) rfl (xc_o hg_3), fun U hU hW => x_pre hU hW hK hP hD hN⟩ rfl rfl hl.1 rfl (lv_room (Nat.le_of_ble_eq_true rfl)) dX3_below_25 ⟨Nat.zero_le _, Nat.zero_le _⟩) (fun H locs hP hD hS => ?_)
      refine lv_if_ne (tgt := 35) hx hb dX3_below_28 (by decide) (fun h28 => ?_) (fun h28 => ?_)
      · have hf := if_f h28 hf
        refine lv_iload_n hx hb dX3_below_35 rfl (lv_at hl 3 rfl) ?_
        refine lv_iload_n hx hb dX3_below_36 rfl (lv_at hl 4 rfl) ?_
        refine lv_icmp_eq (tgt := 50) hx hb dX3_below_37 (by decide) (fun h37 => ?_) (fun h37 => ?_)
        · have hf := if_t h37 hf
          refine lv_sipush (v := (-1003 : Int32)) hx hb dX3_below_50 (by decide) ?_
          exact x_iret hx hb hr hlocks hK hP hD hS (so_2 hf) dX3_below_53
        · have hf := if_f h37 hf
          refine lv_aload hx hb dX3_below_40 (lv_at hl 0 rfl) ?_
          refine lv_iload_n hx hb dX3_below_42 rfl (lv_at hl 4 rfl) ?_
          refine lv_iload_n hx hb dX3_below_43 rfl (lv_at hl 3 rfl) ?_
          obtain ⟨r_44, hc44, hf⟩ := bn_e hf
          refine x_calli hD hS hAA (va_runV (As := [.int a3, .int a2]) (rest := []) ⟨hx, hb, hml, hown, hts⟩ (k_xf_G_takesAlong l dC dI cI cZ cG ad H.size w g_3 hg_3 a3 a2 r_44 w hc44 rfl) (cwV 2 hts gX3_below_X1_takesAlong rfl rfl rfl (by decide +kernel) ⟨Nat.le_of_ble_eq_true rfl, Nat.le_of_ble_eq_true rfl⟩) ⟨x_blind, va_recv hK hP (ci := 1) (q0 := (12 + 5 * g_3)) rfl (xc_o hg_3), fun U hU hW => x_pre hU hW hK hP hD hN⟩ rfl rfl hl.1 rfl (lv_room (Nat.le_of_ble_eq_true rfl)) dX3_below_44 ⟨Nat.zero_le _, Nat.zero_le _⟩) (fun H locs hP hD hS => ?_)
          refine lv_if_eq (tgt := 54) hx hb dX3_below_47 (by decide) (fun h47 => ?_) (fun h47 => ?_)
          · have hf := if_t h47 hf
            refine lv_aload hx hb dX3_below_54 (lv_at hl 0 rfl) ?_
            refine lv_iload_n hx hb dX3_below_56 rfl (lv_at hl 3 rfl) ?_
            refine lv_iload_n hx hb dX3_below_57 rfl (lv_at hl 4 rfl) ?_
            obtain ⟨w_58, hc58, hf⟩ := bn_e hf
            refine x_callv hD hS hAA (va_runV (As := [.int a2, .int a3]) (rest := []) ⟨hx, hb, hml, hown, hts⟩ (k_xf_G_putBelow l dC dI cI cZ cG ad H.size w g_3 hg_3 a2 a3 w_58 hc58) (cwV 2 hts gX3_below_X1_putBelow rfl rfl rfl (by decide +kernel) ⟨Nat.le_of_ble_eq_true rfl, Nat.le_of_ble_eq_true rfl⟩) ⟨x_blind, va_recv hK hP (ci := 1) (q0 := (12 + 5 * g_3)) rfl (xc_o hg_3), fun U hU hW => x_pre hU hW hK hP hD hN⟩ rfl rfl hl.1 rfl (lv_room (Nat.le_of_ble_eq_true rfl)) dX3_below_58 ⟨Nat.zero_le _, Nat.zero_le _⟩) (fun H locs hP hD hS => ?_)
            refine lv_aload hx hb dX3_below_61 (lv_at hl 0 rfl) ?_
            obtain ⟨r_63, hc63, hf⟩ := bn_e hf
            refine x_calli hD hS hAA (va_runV (As := []) (rest := []) ⟨hx, hb, hml, hown, hts⟩ (k_xf_G_countPairs l dC dI cI cZ cG ad H.size w_58 g_3 hg_3 r_63 w_58 hc63 rfl) (cwV 0 hts gX3_below_X1_countPairs rfl rfl rfl (by decide +kernel) ⟨Nat.le_of_ble_eq_true rfl, Nat.le_of_ble_eq_true rfl⟩) ⟨x_blind, va_recv hK hP (ci := 1) (q0 := (12 + 5 * g_3)) rfl (xc_o hg_3), fun U hU hW => x_pre hU hW hK hP hD hN⟩ rfl rfl hl.1 rfl (lv_room (Nat.le_of_ble_eq_true rfl)) dX3_below_63 ⟨Nat.zero_le _, Nat.zero_le _⟩) (fun H locs hP hD hS => ?_)
            exact x_iret hx hb hr hlocks hK hP hD hS (so_2 hf) dX3_below_66
          · have hf := if_f h47 hf
            refine lv_sipush (v := (-1003 : Int32)) hx hb dX3_below_50 (by decide) ?_
            exact x_iret hx hb hr hlocks hK hP hD hS (so_2 hf) dX3_below_53
      · have hf := if_t h28 hf
        refine lv_sipush (v := (-1001 : Int32)) hx hb dX3_below_31 (by decide) ?_
        exact x_iret hx hb hr hlocks hK hP hD hS (so_2 hf) dX3_below_34
set_option maxHeartbeats 4000000 in
set_option maxRecDepth 100000 in
theorem k_xf_G_countPosts (l : Launch) (dC : Nat → ClassId) (dI : Nat → Nat → Nat) (cI cZ cG : ClassId) (ad : Nat → Nat) (sz : Nat) (w : xW) (g : Nat) (hg : g < 6) (r0 : Int32) (w0 : xW) (hf : xf_G_countPosts g w = some r0) (hw0 : w = w0) : Met l yX1_countPosts wsX1_countPosts ({ frames := 1, cells := 0, slots := 0, locals := 20 } : Room) (va_Pc [.ref (ad (12 + 5 * g))] (xPre dC dI cI cZ cG ad sz w)) (va_Qi (fun (r : Int32) (u : xW) => r = r0 ∧ u = w0) (xB dC dI cI cZ cG ad (xA ad sz)) (xA ad sz)) 0 0 (xA ad sz) := by
  refine Met.ofW (cc := cX1_countPosts) (maxL := 1) (ret := (some .int)) (by decide) rfl ?_
  intro p e s m args below meth c s₁ B hml hv
  obtain ⟨rfl, hsz, hP, hK, hD0, hN⟩ := hv
  have hx := B.exec
  have hb := B.bytes
  have hr := B.returns
  have hts := atoms_spec (ws := wsX1_countPosts) B.pre
  have hown : s.vm.findClass RX1 = some m.cls := findClass_of_methodNamed B.named
  have hlocks := B.notSynchronized
  have inX1 : ∀ w ∈ u_ws RX1 TX1 12, w ∈ wsX1_countPosts := by decide +kernel
  subst hsz
  have hD : va_D (xA ad s.heap.size) (xc cI cG ad w) := xD_self hD0
  have hAA : ∀ z q, s.heap.size ≤ z → xA ad z q → xA ad s.heap.size q := xA_mono
  generalize xA ad s.heap.size = A at hD hAA ⊢
  have hS : va_S A s.heap s.heap [] := va_S.rf
  have hl := lv_entry ([.ref (ad (12 + 5 * g))]) (n := 1) (Nat.le_of_ble_eq_true rfl)
  rw [lg_entry_eq]
  generalize (lg_sl ([.ref (ad (12 + 5 * g))]) ++ List.replicate (1 - (lg_sl ([.ref (ad (12 + 5 * g))])).length) Slot.unset).toArray = ls at hl ⊢
  have hl : lv_has ls 1 [(0, .ref (ad (12 + 5 * g)))] := hl
  unfold xf_G_countPosts at hf
  refine lv_aload_n hx hb dX1_countPosts_0 rfl (lv_at hl 0 rfl) ?_
  refine va_get (D := (dC, dI)) (ci := 1) (v := .int (w.2.2.1 2 g)) (C := RX1) (T := TX1) (N := 12) hx hb hts inX1 hown hK hP (12 + 5 * g) (xc_o hg) rfl 8 (by decide) (hts (.fieldLink RX1 40 "BittenBoards$Game" "whole" "I") (by decide +kernel)) (fun _ h9 => h9) rfl dX1_countPosts_1 ?_
  refine lv_bipush (v := (63 : Int32)) hx hb dX1_countPosts_4 (by decide) ?_
  refine lv_iand hx hb dX1_countPosts_6 ?_
  obtain ⟨r_7, hc7, hf⟩ := bn_e hf
  refine x_calli hD hS hAA (va_runS (As := [.int ((w.2.2.1 2 g) &&& (63 : Int32))]) (rest := []) ⟨hx, hb, hml, hown, hts⟩ (k_xf_J_bitCount l dC dI cI cZ cG ad s.heap.size w ((w.2.2.1 2 g) &&& (63 : Int32)) r_7 w hc7 rfl) (va_cwS 1 hts gX1_countPosts_J6_bitCount_0f7a4 rfl rfl rfl (by decide +kernel) ⟨Nat.le_of_ble_eq_true rfl, Nat.le_of_ble_eq_true rfl⟩) ⟨x_blind, fun U hU hW => x_pre hU hW hK hP hD hN⟩ rfl rfl hl.1 rfl (lv_room (Nat.le_of_ble_eq_true rfl)) dX1_countPosts_7 ⟨Nat.zero_le _, Nat.zero_le _⟩) (fun H locs hP hD hS => ?_)
  exact x_iret hx hb hr hlocks hK hP hD hS ⟨so_1 hf, hw0⟩ dX1_countPosts_10
set_option maxHeartbeats 4000000 in
set_option maxRecDepth 100000 in
theorem k_xf_C_post (l : Launch) (dC : Nat → ClassId) (dI : Nat → Nat → Nat) (cI cZ cG : ClassId) (ad : Nat → Nat) (sz : Nat) (w : xW) (a1 : Int32) (r0 : Int32) (w0 : xW) (hf : xf_C_post a1 w = some (r0, w0)) : Met l yX3_post wsX3_post ({ frames := 2, cells := 0, slots := 0, locals := 44 } : Room) (va_Pc [.ref (ad 0), .int a1] (xPre dC dI cI cZ cG ad sz w)) (va_Qi (fun (r : Int32) (u : xW) => r = r0 ∧ u = w0) (xB dC dI cI cZ cG ad (xA ad sz)) (xA ad sz)) 0 0 (xA ad sz) := by
  refine Met.ofW (cc := cX3_post) (maxL := 4) (ret := (some .int)) (by decide) rfl ?_
  intro p e s m args below meth c s₁ B hml hv
  obtain ⟨rfl, hsz, hP, hK, hD0, hN⟩ := hv
  have hx := B.exec
  have hb := B.bytes
  have hr := B.returns
  have hts := atoms_spec (ws := wsX3_post) B.pre
  have hown : s.vm.findClass RX3 = some m.cls := findClass_of_methodNamed B.named
  have hlocks := B.notSynchronized
  subst hsz
  have hD : va_D (xA ad s.heap.size) (xc cI cG ad w) := xD_self hD0
  have hAA : ∀ z q, s.heap.size ≤ z → xA ad z q → xA ad s.heap.size q := xA_mono
  generalize xA ad s.heap.size = A at hD hAA ⊢
  have hS : va_S A s.heap s.heap [] := va_S.rf
  have hl := lv_entry ([.ref (ad 0), .int a1]) (n := 4) (Nat.le_of_ble_eq_true rfl)
  rw [lg_entry_eq]
  generalize (lg_sl ([.ref (ad 0), .int a1]) ++ List.replicate (4 - (lg_sl ([.ref (ad 0), .int a1])).length) Slot.unset).toArray = ls at hl ⊢
  have hl : lv_has ls 4 [(0, .ref (ad 0)), (1, .int a1)] := hl
  unfold xf_C_post at hf
  refine lv_aload_n hx hb dX3_post_0 rfl (lv_at hl 0 rfl) ?_
  refine lv_iload_n hx hb dX3_post_1 rfl (lv_at hl 1 rfl) ?_
  refine lv_iconst (v := (2 : Int32)) hx hb dX3_post_2 (by decide) ?_
  obtain ⟨r_3, hc3, hf⟩ := bn_e hf
  refine x_callq hD hS hAA (va_runV (As := [.int a1, .int (2 : Int32)]) (rest := []) ⟨hx, hb, hml, hown, hts⟩ (k_xf_C_gameOf l dC dI cI cZ cG ad s.heap.size w a1 (2 : Int32) r_3 w hc3 rfl) (cwV 2 hts gX3_post_X3_gameOf rfl rfl rfl (by decide +kernel) ⟨Nat.le_of_ble_eq_true rfl, Nat.le_of_ble_eq_true rfl⟩) ⟨x_blind, va_recv hK hP (ci := 3) (q0 := 0) rfl rfl, fun U hU hW => x_pre hU hW hK hP hD hN⟩ rfl rfl hl.1 rfl (lv_room (Nat.le_of_ble_eq_true rfl)) dX3_post_3 ⟨Nat.zero_le _, Nat.zero_le _⟩) (fun H locs hP hD hS => ?_)
  rcases r_3 with _ | g_3
  · have hf := onO_n hf
    refine W.eq (g2 := F0 m 6 ls [.null]) rfl ?_
    refine lv_astore_nN (lv' := [(2, .null), (0, .ref (ad 0)), (1, .int a1)]) hx hb dX3_post_6 rfl hl (by decide) rfl (fun ls hl => ?_)
    refine lv_aload_nN hx hb dX3_post_7 rfl (lv_at hl 0 rfl) ?_
    refine lv_ifnonnullN hx hb dX3_post_8 ?_
    refine lv_sipush (v := (-1001 : Int32)) hx hb dX3_post_11 (by decide) ?_
    exact x_iret hx hb hr hlocks hK hP hD hS (so_2 hf) dX3_post_14
  · have hf := onO_s hf
    obtain ⟨hg_3, hf⟩ := gd_e hf
    refine W.eq (g2 := F0 m 6 ls [.ref (ad (12 + 5 * g_3))]) rfl ?_
    refine lv_astore_n (lv' := [(2, .ref (ad (12 + 5 * g_3))), (0, .ref (ad 0)), (1, .int a1)]) hx hb dX3_post_6 rfl hl (by decide) rfl (fun ls hl => ?_)
    refine lv_aload_n hx hb dX3_post_7 rfl (lv_at hl 0 rfl) ?_
    refine lv_ifnonnull (tgt := 15) hx hb dX3_post_8 (by decide) ?_
    refine lv_aload_n hx hb dX3_post_15 rfl (lv_at hl 0 rfl) ?_
    obtain ⟨r_16, hc16, hf⟩ := bn_e hf
    refine x_calli hD hS hAA (va_runV (As := []) (rest := []) ⟨hx, hb, hml, hown, hts⟩ (k_xf_G_countPosts l dC dI cI cZ cG ad H.size w g_3 hg_3 r_16 w hc16 rfl) (cwV 0 hts gX3_post_X1_countPosts rfl rfl rfl (by decide +kernel) ⟨Nat.le_of_ble_eq_true rfl, Nat.le_of_ble_eq_true rfl⟩) ⟨x_blind, va_recv hK hP (ci := 1) (q0 := (12 + 5 * g_3)) rfl (xc_o hg_3), fun U hU hW => x_pre hU hW hK hP hD hN⟩ rfl rfl hl.1 rfl (lv_room (Nat.le_of_ble_eq_true rfl)) dX3_post_16 ⟨Nat.zero_le _, Nat.zero_le _⟩) (fun H locs hP hD hS => ?_)
    refine lv_istore_n (lv' := [(3, .int r_16), (2, .ref (ad (12 + 5 * g_3))), (0, .ref (ad 0)), (1, .int a1)]) hx hb dX3_post_19 rfl hl (by decide) rfl (fun ls hl => ?_)
    refine lv_iload_n hx hb dX3_post_20 rfl (lv_at hl 0 rfl) ?_
    refine lv_bipush (v := (6 : Int32)) hx hb dX3_post_21 (by decide) ?_
    refine lv_icmp_lt (tgt := 30) hx hb dX3_post_23 (by decide) (fun h23 => ?_) (fun h23 => ?_)
    · have hf := if_t h23 hf
      refine lv_aload_n hx hb dX3_post_30 rfl (lv_at hl 1 rfl) ?_
      refine lv_iload_n hx hb dX3_post_31 rfl (lv_at hl 0 rfl) ?_
      obtain ⟨w_32, hc32, hf⟩ := bn_e hf
      refine x_callv hD hS hAA (va_runV (As := [.int r_16]) (rest := []) ⟨hx, hb, hml, hown, hts⟩ (k_xf_G_addPart l dC dI cI cZ cG ad H.size w g_3 hg_3 r_16 w_32 hc32) (cwV 1 hts gX3_post_X1_addPart rfl rfl rfl (by decide +kernel) ⟨Nat.le_of_ble_eq_true rfl, Nat.le_of_ble_eq_true rfl⟩) ⟨x_blind, va_recv hK hP (ci := 1) (q0 := (12 + 5 * g_3)) rfl (xc_o hg_3), fun U hU hW => x_pre hU hW hK hP hD hN⟩ rfl rfl hl.1 rfl (lv_room (Nat.le_of_ble_eq_true rfl)) dX3_post_32 ⟨Nat.zero_le _, Nat.zero_le _⟩) (fun H locs hP hD hS => ?_)
      refine lv_iload_n hx hb dX3_post_35 rfl (lv_at hl 0 rfl) ?_
      exact x_iret hx hb hr hlocks hK hP hD hS (so_2 hf) dX3_post_36
    · have hf := if_f h23 hf
      refine lv_sipush (v := (-1004 : Int32)) hx hb dX3_post_26 (by decide) ?_
      exact x_iret hx hb hr hlocks hK hP hD hS (so_2 hf) dX3_post_29
