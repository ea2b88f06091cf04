set_option maxHeartbeats 4000000 in
set_option maxRecDepth 100000 in
theorem k_xf_C_isWithin (l : Launch) (dC : Nat → ClassId) (dI : Nat → Nat → Nat) (cI cZ cG : ClassId) (ad : Nat → Nat) (sz : Nat) (w : xW) (a0 : Int32) (a1 : Int32) (a2 : Int32) (r0 : Int32) (w0 : xW) (hf : xf_C_isWithin a0 a1 a2 = some r0) (hw0 : w = w0) : Met l yX3_isWithin wsX3_isWithin ({ frames := 0, cells := 0, slots := 0, locals := 0 } : Room) (va_Pc [.int a0, .int a1, .int a2] (xPre dC dI cI cZ cG ad sz w)) (va_Qi (fun (r : Int32) (u : xW) => r = r0 ∧ u = w0) (xB dC dI cI cZ cG ad (xA ad sz)) (xA ad sz)) 0 0 (xA ad sz) := by
  refine Met.ofW (cc := cX3_isWithin) (maxL := 3) (ret := (some .boolean)) (by decide) rfl ?_
  intro p e s m args below meth c s₁ B hml hv
  obtain ⟨rfl, hsz, hP, hK, hD0, hN⟩ := hv
  have hx := B.exec
  have hb := B.bytes
  have hr := B.returns
  have hts := atoms_spec (ws := wsX3_isWithin) B.pre
  have hown : s.vm.findClass RX3 = some m.cls := findClass_of_methodNamed B.named
  have hlocks := B.notSynchronized
  subst hsz
  have hD : va_D (xA ad s.heap.size) (xc cI cG ad w) := xD_self hD0
  have hAA : ∀ z q, s.heap.size ≤ z → xA ad z q → xA ad s.heap.size q := xA_mono
  generalize xA ad s.heap.size = A at hD hAA ⊢
  have hS : va_S A s.heap s.heap [] := va_S.rf
  have hl := lv_entry ([.int a0, .int a1, .int a2]) (n := 3) (Nat.le_of_ble_eq_true rfl)
  rw [lg_entry_eq]
  generalize (lg_sl ([.int a0, .int a1, .int a2]) ++ List.replicate (3 - (lg_sl ([.int a0, .int a1, .int a2])).length) Slot.unset).toArray = ls at hl ⊢
  have hl : lv_has ls 3 [(0, .int a0), (1, .int a1), (2, .int a2)] := hl
  unfold xf_C_isWithin at hf
  refine lv_iload_n hx hb dX3_isWithin_0 rfl (lv_at hl 0 rfl) ?_
  refine lv_iload_n hx hb dX3_isWithin_1 rfl (lv_at hl 1 rfl) ?_
  refine lv_icmp_lt (tgt := 14) hx hb dX3_isWithin_2 (by decide) (fun h2 => ?_) (fun h2 => ?_)
  · have hf := if_t h2 hf
    refine lv_iconst (v := (0 : Int32)) hx hb dX3_isWithin_14 (by decide) ?_
    obtain ⟨hg15, hf⟩ := gd_e hf
    exact x_zret hx hb hr hlocks hg15 hK hP hD hS ⟨so_1 hf, hw0⟩ dX3_isWithin_15
  · have hf := if_f h2 hf
    refine lv_iload_n hx hb dX3_isWithin_5 rfl (lv_at hl 0 rfl) ?_
    refine lv_iload_n hx hb dX3_isWithin_6 rfl (lv_at hl 2 rfl) ?_
    refine lv_icmp_gt (tgt := 14) hx hb dX3_isWithin_7 (by decide) (fun h7 => ?_) (fun h7 => ?_)
    · have hf := if_t h7 hf
      refine lv_iconst (v := (0 : Int32)) hx hb dX3_isWithin_14 (by decide) ?_
      obtain ⟨hg15, hf⟩ := gd_e hf
      exact x_zret hx hb hr hlocks hg15 hK hP hD hS ⟨so_1 hf, hw0⟩ dX3_isWithin_15
    · have hf := if_f h7 hf
      refine lv_iconst (v := (1 : Int32)) hx hb dX3_isWithin_10 (by decide) ?_
      refine lv_goto (tgt := 15) hx hb dX3_isWithin_11 (by decide) ?_
      obtain ⟨hg15, hf⟩ := gd_e hf
      exact x_zret hx hb hr hlocks hg15 hK hP hD hS ⟨so_1 hf, hw0⟩ dX3_isWithin_15
set_option maxHeartbeats 4000000 in
set_option maxRecDepth 100000 in
theorem k_xf_C_nextGame (l : Launch) (dC : Nat → ClassId) (dI : Nat → Nat → Nat) (cI cZ cG : ClassId) (ad : Nat → Nat) (sz : Nat) (w : xW) (r0 : Option Nat) (w0 : xW) (hf : xf_C_nextGame w = some r0) (hw0 : w = w0) : Met l yX3_nextGame wsX3_nextGame ({ frames := 0, cells := 0, slots := 0, locals := 0 } : Room) (va_Pc [.ref (ad 0)] (xPre dC dI cI cZ cG ad sz w)) (va_Qq (fun (r : Option Nat) (u : xW) => r = gO ad r0 ∧ u = w0) (xB dC dI cI cZ cG ad (xA ad sz)) (xA ad sz)) 0 0 (xA ad sz) := by
  refine Met.ofW (cc := cX3_nextGame) (maxL := 1) (ret := (some (.object "BittenBoards$Game"))) (by decide) rfl ?_
  intro p e s m args below meth c s₁ B hml hv
  obtain ⟨rfl, hsz, hP, hK, hD0, hN⟩ := hv
  have hx := B.exec
  have hb := B.bytes
  have hr := B.returns
  have hts := atoms_spec (ws := wsX3_nextGame) B.pre
  have hown : s.vm.findClass RX3 = some m.cls := findClass_of_methodNamed B.named
  have hlocks := B.notSynchronized
  have inX3 : ∀ w ∈ u_ws RX3 TX3 4, w ∈ wsX3_nextGame := by decide +kernel
  subst hsz
  have hD : va_D (xA ad s.heap.size) (xc cI cG ad w) := xD_self hD0
  have hAA : ∀ z q, s.heap.size ≤ z → xA ad z q → xA ad s.heap.size q := xA_mono
  generalize xA ad s.heap.size = A at hD hAA ⊢
  have hS : va_S A s.heap s.heap [] := va_S.rf
  have hl := lv_entry ([.ref (ad 0)]) (n := 1) (Nat.le_of_ble_eq_true rfl)
  rw [lg_entry_eq]
  generalize (lg_sl ([.ref (ad 0)]) ++ List.replicate (1 - (lg_sl ([.ref (ad 0)])).length) Slot.unset).toArray = ls at hl ⊢
  have hl : lv_has ls 1 [(0, .ref (ad 0))] := hl
  unfold xf_C_nextGame at hf
  refine lv_aload_n hx hb dX3_nextGame_0 rfl (lv_at hl 0 rfl) ?_
  refine va_get (D := (dC, dI)) (ci := 3) (v := .int (w.1 0)) (C := RX3) (T := TX3) (N := 4) hx hb hts inX3 hown hK hP 0 rfl rfl 3 (by decide) (hts (.fieldLink RX3 54 "BittenBoards" "count" "I") (by decide +kernel)) (fun _ h9 => h9) rfl dX3_nextGame_1 ?_
  refine lv_if_lt (tgt := 31) hx hb dX3_nextGame_4 (by decide) (fun h4 => ?_) (fun h4 => ?_)
  · have hf := if_t h4 hf
    refine lv_null hx hb dX3_nextGame_31 ?_
    exact x_qret (r := none) hx hb hr hlocks hK hP hD hS ⟨by rw [← so_1 hf]; rfl, hw0⟩ dX3_nextGame_32
  · have hf := if_f h4 hf
    refine lv_aload_n hx hb dX3_nextGame_7 rfl (lv_at hl 0 rfl) ?_
    refine va_get (D := (dC, dI)) (ci := 3) (v := .int (w.1 0)) (C := RX3) (T := TX3) (N := 4) hx hb hts inX3 hown hK hP 0 rfl rfl 3 (by decide) (hts (.fieldLink RX3 54 "BittenBoards" "count" "I") (by decide +kernel)) (fun _ h9 => h9) rfl dX3_nextGame_8 ?_
    refine lv_aload_n hx hb dX3_nextGame_11 rfl (lv_at hl 0 rfl) ?_
    refine va_get (D := (dC, dI)) (ci := 3) (v := .ref (ad 1)) (C := RX3) (T := TX3) (N := 4) hx hb hts inX3 hown hK hP 0 rfl rfl 1 (by decide) (hts (.fieldLink RX3 11 "BittenBoards" "games" "[LBittenBoards$Game;") (by decide +kernel)) (fun _ h9 => h9) rfl dX3_nextGame_12 ?_
    refine va_alen (v := (6 : Int32)) hx hb hK hP 1 2 rfl rfl (by rfl) dX3_nextGame_15 ?_
    refine lv_icmp_ge (tgt := 31) hx hb dX3_nextGame_16 (by decide) (fun h16 => ?_) (fun h16 => ?_)
    · have hf := if_t h16 hf
      refine lv_null hx hb dX3_nextGame_31 ?_
      exact x_qret (r := none) hx hb hr hlocks hK hP hD hS ⟨by rw [← so_1 hf]; rfl, hw0⟩ dX3_nextGame_32
    · have hf := if_f h16 hf
      refine lv_aload_n hx hb dX3_nextGame_19 rfl (lv_at hl 0 rfl) ?_
      refine va_get (D := (dC, dI)) (ci := 3) (v := .ref (ad 1)) (C := RX3) (T := TX3) (N := 4) hx hb hts inX3 hown hK hP 0 rfl rfl 1 (by decide) (hts (.fieldLink RX3 11 "BittenBoards" "games" "[LBittenBoards$Game;") (by decide +kernel)) (fun _ h9 => h9) rfl dX3_nextGame_20 ?_
      refine lv_aload_n hx hb dX3_nextGame_23 rfl (lv_at hl 0 rfl) ?_
      refine va_get (D := (dC, dI)) (ci := 3) (v := .int (w.1 0)) (C := RX3) (T := TX3) (N := 4) hx hb hts inX3 hown hK hP 0 rfl rfl 3 (by decide) (hts (.fieldLink RX3 54 "BittenBoards" "count" "I") (by decide +kernel)) (fun _ h9 => h9) rfl dX3_nextGame_24 ?_
      obtain ⟨hg27, hf⟩ := gi_e hf
      obtain ⟨g_27, eg_27, hf⟩ := nm_x hf
      have hg_27 : g_27 < 6 := by rw [eg_27]; exact vp_lt hg27
      refine va_aldq (f := fun j => some (ad (12 + 5 * j))) hx hb hK hP 1 2 rfl rfl hg27 dX3_nextGame_27 ?_
      refine W.eq (g2 := F0 m 28 ls [.ref (ad (12 + 5 * g_27))]) (by rw [eg_27]; rfl) ?_
      refine lv_goto (tgt := 32) hx hb dX3_nextGame_28 (by decide) ?_
      exact x_qret (r := some (ad (12 + 5 * g_27))) hx hb hr hlocks hK hP hD hS ⟨by rw [← so_1 hf]; rfl, hw0⟩ dX3_nextGame_32
set_option maxHeartbeats 4000000 in
set_option maxRecDepth 100000 in
theorem k_xf_G_restart (l : Launch) (dC : Nat → ClassId) (dI : Nat → Nat → Nat) (cI cZ cG : ClassId) (ad : Nat → Nat) (sz : Nat) (w : xW) (g : Nat) (hg : g < 6) (w0 : xW) (hf : xf_G_restart g w = some w0) : Met l yX1_restart wsX1_restart ({ frames := 0, cells := 0, slots := 0, locals := 0 } : Room) (va_Pc [.ref (ad (12 + 5 * g))] (xPre dC dI cI cZ cG ad sz w)) (va_Qv (fun (u : xW) => u = w0) (xB dC dI cI cZ cG ad (xA ad sz)) (xA ad sz)) 0 0 (xA ad sz) := by
  refine Met.ofW (cc := cX1_restart) (maxL := 1) (ret := none) (by decide) rfl ?_
  intro p e s m args below meth c s₁ B hml hv
  obtain ⟨rfl, hsz, hP, hK, hD0, hN⟩ := hv
  have hx := B.exec
  have hb := B.bytes
  have hr := B.returns
  have hts := atoms_spec (ws := wsX1_restart) B.pre
  have hown : s.vm.findClass RX1 = some m.cls := findClass_of_methodNamed B.named
  have hlocks := B.notSynchronized
  have inX1 : ∀ w ∈ u_ws RX1 TX1 12, w ∈ wsX1_restart := by decide +kernel
  subst hsz
  have hD : va_D (xA ad s.heap.size) (xc cI cG ad w) := xD_self hD0
  have hAA : ∀ z q, s.heap.size ≤ z → xA ad z q → xA ad s.heap.size q := xA_mono
  generalize xA ad s.heap.size = A at hD hAA ⊢
  have hS : va_S A s.heap s.heap [] := va_S.rf
  have hl := lv_entry ([.ref (ad (12 + 5 * g))]) (n := 1) (Nat.le_of_ble_eq_true rfl)
  rw [lg_entry_eq]
  generalize (lg_sl ([.ref (ad (12 + 5 * g))]) ++ List.replicate (1 - (lg_sl ([.ref (ad (12 + 5 * g))])).length) Slot.unset).toArray = ls at hl ⊢
  have hl : lv_has ls 1 [(0, .ref (ad (12 + 5 * g)))] := hl
  unfold xf_G_restart at hf
  refine lv_aload_n hx hb dX1_restart_0 rfl (lv_at hl 0 rfl) ?_
  refine lv_aload_n hx hb dX1_restart_1 rfl (lv_at hl 0 rfl) ?_
  refine va_get (D := (dC, dI)) (ci := 1) (v := .int (w.2.2.1 2 g)) (C := RX1) (T := TX1) (N := 12) hx hb hts inX1 hown hK hP (12 + 5 * g) (xc_o hg) rfl 8 (by decide) (hts (.fieldLink RX1 40 "BittenBoards$Game" "whole" "I") (by decide +kernel)) (fun _ h9 => h9) rfl dX1_restart_2 ?_
  obtain ⟨w_5, ew_5, hf⟩ := nm_x hf
  refine va_put (D := (dC, dI)) (ci := 1) (v := .int (w.2.2.1 2 g)) (ty := .int) (C := RX1) (T := TX1) (N := 12) hx hb hts inX1 tyX1 tyX1_ok nmX1 hown hK hP hD hS (12 + 5 * g) (xc_o hg) rfl 9 (by decide) (hts (.fieldLink RX1 50 "BittenBoards$Game" "state" "I") (by decide +kernel)) (fun _ h9 => h9) rfl (by decide +kernel) rfl rfl (Nat.le_of_ble_eq_true rfl) dX1_restart_5 (fun H locs hP hD hS => ?_)
  have hP : va_P (dC, dI) vwCl (xc cI cG ad w_5) H := hP.eqs (by rw [ew_5]; exact xs_o3 hg _ _)
  have hD : va_D A (xc cI cG ad w_5) := hD.eqs (by rw [ew_5]; exact xs_o3 hg _ _)
  refine lv_aload_n hx hb dX1_restart_8 rfl (lv_at hl 0 rfl) ?_
  refine lv_iconst (v := (0 : Int32)) hx hb dX1_restart_9 (by decide) ?_
  obtain ⟨w_10, ew_10, hf⟩ := nm_x hf
  refine va_put (D := (dC, dI)) (ci := 1) (v := .int (0 : Int32)) (ty := .int) (C := RX1) (T := TX1) (N := 12) hx hb hts inX1 tyX1 tyX1_ok nmX1 hown hK hP hD hS (12 + 5 * g) (xc_o hg) rfl 10 (by decide) (hts (.fieldLink RX1 53 "BittenBoards$Game" "noted" "I") (by decide +kernel)) (fun _ h9 => h9) rfl (by decide +kernel) rfl rfl (Nat.le_of_ble_eq_true rfl) dX1_restart_10 (fun H locs hP hD hS => ?_)
  have hP : va_P (dC, dI) vwCl (xc cI cG ad w_10) H := hP.eqs (by rw [ew_10]; exact xs_o4 hg _ _)
  have hD : va_D A (xc cI cG ad w_10) := hD.eqs (by rw [ew_10]; exact xs_o4 hg _ _)
  exact x_vret hx hb hr hlocks hK hP hD hS (so_1 hf) dX1_restart_13
set_option maxHeartbeats 4000000 in
set_option maxRecDepth 100000 in
theorem k_xf_G_begin (l : Launch) (dC : Nat → ClassId) (dI : Nat → Nat → Nat) (cI cZ cG : ClassId) (ad : Nat → Nat) (sz : Nat) (w : xW) (g : Nat) (hg : g < 6) (a1 : Int32) (a2 : Int32) (w0 : xW) (hf : xf_G_begin g a1 a2 w = some w0) : Met l yX1_begin wsX1_begin ({ frames := 1, cells := 0, slots := 0, locals := 20 } : Room) (va_Pc [.ref (ad (12 + 5 * g)), .int a1, .int a2] (xPre dC dI cI cZ cG ad sz w)) (va_Qv (fun (u : xW) => u = w0) (xB dC dI cI cZ cG ad (xA ad sz)) (xA ad sz)) 0 0 (xA ad sz) := by
  refine Met.ofW (cc := cX1_begin) (maxL := 3) (ret := none) (by decide) rfl ?_
  intro p e s m args below meth c s₁ B hml hv
  obtain ⟨rfl, hsz, hP, hK, hD0, hN⟩ := hv
  have hx := B.exec
  have hb := B.bytes
  have hr := B.returns
  have hts := atoms_spec (ws := wsX1_begin) B.pre
  have hown : s.vm.findClass RX1 = some m.cls := findClass_of_methodNamed B.named
  have hlocks := B.notSynchronized
  have inX1 : ∀ w ∈ u_ws RX1 TX1 12, w ∈ wsX1_begin := by decide +kernel
  subst hsz
  have hD : va_D (xA ad s.heap.size) (xc cI cG ad w) := xD_self hD0
  have hAA : ∀ z q, s.heap.size ≤ z → xA ad z q → xA ad s.heap.size q := xA_mono
  generalize xA ad s.heap.size = A at hD hAA ⊢
  have hS : va_S A s.heap s.heap [] := va_S.rf
  have hl := lv_entry ([.ref (ad (12 + 5 * g)), .int a1, .int a2]) (n := 3) (Nat.le_of_ble_eq_true rfl)
  rw [lg_entry_eq]
  generalize (lg_sl ([.ref (ad (12 + 5 * g)), .int a1, .int a2]) ++ List.replicate (3 - (lg_sl ([.ref (ad (12 + 5 * g)), .int a1, .int a2])).length) Slot.unset).toArray = ls at hl ⊢
  have hl : lv_has ls 3 [(0, .ref (ad (12 + 5 * g))), (1, .int a1), (2, .int a2)] := hl
  unfold xf_G_begin at hf
  refine lv_aload_n hx hb dX1_begin_0 rfl (lv_at hl 0 rfl) ?_
  refine lv_iload_n hx hb dX1_begin_1 rfl (lv_at hl 1 rfl) ?_
  obtain ⟨w_2, ew_2, hf⟩ := nm_x hf
  refine va_put (D := (dC, dI)) (ci := 1) (v := .int a1) (ty := .int) (C := RX1) (T := TX1) (N := 12) hx hb hts inX1 tyX1 tyX1_ok nmX1 hown hK hP hD hS (12 + 5 * g) (xc_o hg) rfl 6 (by decide) (hts (.fieldLink RX1 33 "BittenBoards$Game" "kind" "I") (by decide +kernel)) (fun _ h9 => h9) rfl (by decide +kernel) rfl rfl (Nat.le_of_ble_eq_true rfl) dX1_begin_2 (fun H locs hP hD hS => ?_)
  have hP : va_P (dC, dI) vwCl (xc cI cG ad w_2) H := hP.eqs (by rw [ew_2]; exact xs_o0 hg _ _)
  have hD : va_D A (xc cI cG ad w_2) := hD.eqs (by rw [ew_2]; exact xs_o0 hg _ _)
  refine lv_aload_n hx hb dX1_begin_5 rfl (lv_at hl 0 rfl) ?_
  refine lv_iload_n hx hb dX1_begin_6 rfl (lv_at hl 2 rfl) ?_
  obtain ⟨w_7, ew_7, hf⟩ := nm_x hf
  refine va_put (D := (dC, dI)) (ci := 1) (v := .int a2) (ty := .int) (C := RX1) (T := TX1) (N := 12) hx hb hts inX1 tyX1 tyX1_ok nmX1 hown hK hP hD hS (12 + 5 * g) (xc_o hg) rfl 7 (by decide) (hts (.fieldLink RX1 37 "BittenBoards$Game" "rule" "I") (by decide +kernel)) (fun _ h9 => h9) rfl (by decide +kernel) rfl rfl (Nat.le_of_ble_eq_true rfl) dX1_begin_7 (fun H locs hP hD hS => ?_)
  have hP : va_P (dC, dI) vwCl (xc cI cG ad w_7) H := hP.eqs (by rw [ew_7]; exact xs_o1 hg _ _)
  have hD : va_D A (xc cI cG ad w_7) := hD.eqs (by rw [ew_7]; exact xs_o1 hg _ _)
  refine lv_aload_n hx hb dX1_begin_10 rfl (lv_at hl 0 rfl) ?_
  refine lv_iconst (v := (0 : Int32)) hx hb dX1_begin_11 (by decide) ?_
  obtain ⟨w_12, ew_12, hf⟩ := nm_x hf
  refine va_put (D := (dC, dI)) (ci := 1) (v := .int (0 : Int32)) (ty := .int) (C := RX1) (T := TX1) (N := 12) hx hb hts inX1 tyX1 tyX1_ok nmX1 hown hK hP hD hS (12 + 5 * g) (xc_o hg) rfl 8 (by decide) (hts (.fieldLink RX1 40 "BittenBoards$Game" "whole" "I") (by decide +kernel)) (fun _ h9 => h9) rfl (by decide +kernel) rfl rfl (Nat.le_of_ble_eq_true rfl) dX1_begin_12 (fun H locs hP hD hS => ?_)
  have hP : va_P (dC, dI) vwCl (xc cI cG ad w_12) H := hP.eqs (by rw [ew_12]; exact xs_o2 hg _ _)
  have hD : va_D A (xc cI cG ad w_12) := hD.eqs (by rw [ew_12]; exact xs_o2 hg _ _)
  refine lv_aload_n hx hb dX1_begin_15 rfl (lv_at hl 0 rfl) ?_
  refine lv_iconst (v := (0 : Int32)) hx hb dX1_begin_16 (by decide) ?_
  obtain ⟨hg17, hf⟩ := gd_e hf
  obtain ⟨w_17, ew_17, hf⟩ := nm_x hf
  refine va_put (D := (dC, dI)) (ci := 1) (v := .int (0 : Int32)) (ty := .boolean) (C := RX1) (T := TX1) (N := 12) hx hb hts inX1 tyX1 tyX1_ok nmX1 hown hK hP hD hS (12 + 5 * g) (xc_o hg) rfl 11 (by decide) (hts (.fieldLink RX1 43 "BittenBoards$Game" "isSolved" "Z") (by decide +kernel)) (fun _ h9 => h9) rfl (by decide +kernel) (isB_nar hg17) (isB_fit hg17) (Nat.le_of_ble_eq_true rfl) dX1_begin_17 (fun H locs hP hD hS => ?_)
  have hP : va_P (dC, dI) vwCl (xc cI cG ad w_17) H := hP.eqs (by rw [ew_17]; exact xs_o5 hg _ _)
  have hD : va_D A (xc cI cG ad w_17) := hD.eqs (by rw [ew_17]; exact xs_o5 hg _ _)
  refine lv_aload_n hx hb dX1_begin_20 rfl (lv_at hl 0 rfl) ?_
  obtain ⟨w_21, hc21, hf⟩ := bn_e hf
  refine x_callv hD hS hAA (va_runV (As := []) (rest := []) ⟨hx, hb, hml, hown, hts⟩ (k_xf_G_restart l dC dI cI cZ cG ad H.size w_17 g hg w_21 hc21) (cwV 0 hts gX1_begin_X1_restart rfl rfl rfl (by decide +kernel) ⟨Nat.le_of_ble_eq_true rfl, Nat.le_of_ble_eq_true rfl⟩) ⟨x_blind, va_recv hK hP (ci := 1) (q0 := (12 + 5 * g)) rfl (xc_o hg), fun U hU hW => x_pre hU hW hK hP hD hN⟩ rfl rfl hl.1 rfl (lv_room (Nat.le_of_ble_eq_true rfl)) dX1_begin_21 ⟨Nat.zero_le _, Nat.zero_le _⟩) (fun H locs hP hD hS => ?_)
  exact x_vret hx hb hr hlocks hK hP hD hS (so_1 hf) dX1_begin_24
set_option maxHeartbeats 4000000 in
set_option maxRecDepth 100000 in
theorem k_xf_C_at (l : Launch) (dC : Nat → ClassId) (dI : Nat → Nat → Nat) (cI cZ cG : ClassId) (ad : Nat → Nat) (sz : Nat) (w : xW) (na : Nat) (fa : Nat → Int32) (ra q0 : Nat) (hrow : (xc cI cG ad w)[q0]? = some (ra, .inl (cI, na, .inl fa))) (a1 : Int32) (r0 : Int32) (w0 : xW) (hf : xf_C_at na fa a1 w = some r0) (hw0 : w = w0) : Met l yX3_at wsX3_at ({ frames := 0, cells := 0, slots := 0, locals := 0 } : Room) (va_Pc [.ref ra, .int a1] (xPre dC dI cI cZ cG ad sz w)) (va_Qi (fun (r : Int32) (u : xW) => r = r0 ∧ u = w0) (xB dC dI cI cZ cG ad (xA ad sz)) (xA ad sz)) 0 0 (xA ad sz) := by
  refine Met.ofW (cc := cX3_at) (maxL := 2) (ret := (some .int)) (by decide) rfl ?_
  intro p e s m args below meth c s₁ B hml hv
  obtain ⟨rfl, hsz, hP, hK, hD0, hN⟩ := hv
  have hx := B.exec
  have hb := B.bytes
  have hr := B.returns
  have hts := atoms_spec (ws := wsX3_at) B.pre
  have hown : s.vm.findClass RX3 = some m.cls := findClass_of_methodNamed B.named
  have hlocks := B.notSynchronized
  subst hsz
  have hD : va_D (xA ad s.heap.size) (xc cI cG ad w) := xD_self hD0
  have hAA : ∀ z q, s.heap.size ≤ z → xA ad z q → xA ad s.heap.size q := xA_mono
  generalize xA ad s.heap.size = A at hD hAA ⊢
  have hS : va_S A s.heap s.heap [] := va_S.rf
  have hl := lv_entry ([.ref ra, .int a1]) (n := 2) (Nat.le_of_ble_eq_true rfl)
  rw [lg_entry_eq]
  generalize (lg_sl ([.ref ra, .int a1]) ++ List.replicate (2 - (lg_sl ([.ref ra, .int a1])).length) Slot.unset).toArray = ls at hl ⊢
  have hl : lv_has ls 2 [(0, .ref ra), (1, .int a1)] := hl
  unfold xf_C_at at hf
  refine lv_aload_n hx hb dX3_at_0 rfl (lv_at hl 0 rfl) ?_
  refine lv_ifnull hx hb dX3_at_1 ?_
  refine lv_iload_n hx hb dX3_at_4 rfl (lv_at hl 1 rfl) ?_
  refine lv_if_lt (tgt := 20) hx hb dX3_at_5 (by decide) (fun h5 => ?_) (fun h5 => ?_)
  · have hf := if_t h5 hf
    refine lv_iconst (v := (0 : Int32)) hx hb dX3_at_20 (by decide) ?_
    exact x_iret hx hb hr hlocks hK hP hD hS ⟨so_1 hf, hw0⟩ dX3_at_21
  · have hf := if_f h5 hf
    refine lv_iload_n hx hb dX3_at_8 rfl (lv_at hl 1 rfl) ?_
    refine lv_aload_n hx hb dX3_at_9 rfl (lv_at hl 0 rfl) ?_
    refine va_alen (v := (Int32.ofNat na)) hx hb hK hP q0 0 hrow rfl (by rfl) dX3_at_10 ?_
    refine lv_icmp_ge (tgt := 20) hx hb dX3_at_11 (by decide) (fun h11 => ?_) (fun h11 => ?_)
    · have hf := if_t h11 hf
      refine lv_iconst (v := (0 : Int32)) hx hb dX3_at_20 (by decide) ?_
      exact x_iret hx hb hr hlocks hK hP hD hS ⟨so_1 hf, hw0⟩ dX3_at_21
    · have hf := if_f h11 hf
      refine lv_aload_n hx hb dX3_at_14 rfl (lv_at hl 0 rfl) ?_
      refine lv_iload_n hx hb dX3_at_15 rfl (lv_at hl 1 rfl) ?_
      obtain ⟨hg16, hf⟩ := gi_e hf
      refine va_iald (f := fa) hx hb hK hP q0 0 hrow rfl hg16 dX3_at_16 ?_
      refine lv_goto (tgt := 21) hx hb dX3_at_17 (by decide) ?_
      exact x_iret hx hb hr hlocks hK hP hD hS ⟨so_1 hf, hw0⟩ dX3_at_21
set_option maxHeartbeats 4000000 in
set_option maxRecDepth 100000 in
theorem k_xf_B_rankOfLines (l : Launch) (dC : Nat → ClassId) (dI : Nat → Nat → Nat) (cI cZ cG : ClassId) (ad : Nat → Nat) (sz : Nat) (w : xW) (r0 : Int32) (w0 : xW) (hf : xf_B_rankOfLines w = some r0) (hw0 : w = w0) : Met l yX0_rankOfLines wsX0_rankOfLines ({ frames := 1, cells := 0, slots := 0, locals := 21 } : Room) (va_Pc [.ref (ad 3)] (xPre dC dI cI cZ cG ad sz w)) (va_Qi (fun (r : Int32) (u : xW) => r = r0 ∧ u = w0) (xB dC dI cI cZ cG ad (xA ad sz)) (xA ad sz)) 0 0 (xA ad sz) := by
  refine Met.ofW (cc := cX0_rankOfLines) (maxL := 3) (ret := (some .int)) (by decide) rfl ?_
  intro p e s m args below meth c s₁ B hml hv
  obtain ⟨rfl, hsz, hP, hK, hD0, hN⟩ := hv
  have hx := B.exec
  have hb := B.bytes
  have hr := B.returns
  have hts := atoms_spec (ws := wsX0_rankOfLines) B.pre
  have hown : s.vm.findClass RX0 = some m.cls := findClass_of_methodNamed B.named
  have hlocks := B.notSynchronized
  have inX0 : ∀ w ∈ u_ws RX0 TX0 7, w ∈ wsX0_rankOfLines := by decide +kernel
  subst hsz
  have hD : va_D (xA ad s.heap.size) (xc cI cG ad w) := xD_self hD0
  have hAA : ∀ z q, s.heap.size ≤ z → xA ad z q → xA ad s.heap.size q := xA_mono
  generalize xA ad s.heap.size = A at hD hAA ⊢
  have hS : va_S A s.heap s.heap [] := va_S.rf
  have C4 : ∀ (n4 : Nat) (x1 : Int32) (x2 : Int32), xf_B_rankOfLines_C4 w n4 x1 x2 = some r0 → ∀ (H : Heap) (locs : List Loc) (ls : Array Slot), va_P (dC, dI) vwCl (xc cI cG ad w) H → va_D A (xc cI cG ad w) → va_S A s.heap H locs → lv_has ls 3 [(0, .ref (ad 3)), (1, .int x1), (2, .int x2)] → W p l e (headSpec wsX0_rankOfLines ({ frames := 1, cells := 0, slots := 0, locals := 21 } : Room)).room s m (List.toArray [Value.ref (ad 3)]) below meth c H locs 0 0 (MQ below (va_Qi (fun (r : Int32) (u : xW) => r = r0 ∧ u = w0) (xB dC dI cI cZ cG ad A) A) (List.toArray [Value.ref (ad 3)]) s 0 0 A) (F0 m 4 ls []) := by
    intro n4
    induction n4 with
    | zero => intro x1 x2 hf; cases hf
    | succ n4 ih4 =>
      intro x1 x2 hf H locs ls hP hD hS hl
      rw [xf_B_rankOfLines_C4] at hf
      refine lv_iload_n hx hb dX0_rankOfLines_4 rfl (lv_at hl 2 rfl) ?_
      refine lv_aload_n hx hb dX0_rankOfLines_5 rfl (lv_at hl 0 rfl) ?_
      refine va_get (D := (dC, dI)) (ci := 0) (v := .ref (ad 5)) (C := RX0) (T := TX0) (N := 7) hx hb hts inX0 hown hK hP 3 rfl rfl 2 (by decide) (hts (.fieldLink RX0 15 "BittenBoards$Boards" "lines" "[I") (by decide +kernel)) (fun _ h9 => h9) rfl dX0_rankOfLines_6 ?_
      refine va_alen (v := (7 : Int32)) hx hb hK hP 5 0 rfl rfl (by rfl) dX0_rankOfLines_9 ?_
      refine lv_icmp_ge (tgt := 40) hx hb dX0_rankOfLines_10 (by decide) (fun h10 => ?_) (fun h10 => ?_)
      · have hf := if_t h10 hf
        refine lv_iload_n hx hb dX0_rankOfLines_40 rfl (lv_at hl 1 rfl) ?_
        exact x_iret hx hb hr hlocks hK hP hD hS ⟨so_1 hf, hw0⟩ dX0_rankOfLines_41
      · have hf := if_f h10 hf
        refine lv_iload_n hx hb dX0_rankOfLines_13 rfl (lv_at hl 1 rfl) ?_
        refine lv_aload_n hx hb dX0_rankOfLines_14 rfl (lv_at hl 0 rfl) ?_
        refine va_get (D := (dC, dI)) (ci := 0) (v := .ref (ad 4)) (C := RX0) (T := TX0) (N := 7) hx hb hts inX0 hown hK hP 3 rfl rfl 1 (by decide) (hts (.fieldLink RX0 9 "BittenBoards$Boards" "lesser" "[I") (by decide +kernel)) (fun _ h9 => h9) rfl dX0_rankOfLines_15 ?_
        refine lv_bipush (v := (8 : Int32)) hx hb dX0_rankOfLines_18 (by decide) ?_
        refine lv_iload_n hx hb dX0_rankOfLines_20 rfl (lv_at hl 2 rfl) ?_
        refine lv_imul hx hb dX0_rankOfLines_21 ?_
        refine lv_aload_n hx hb dX0_rankOfLines_22 rfl (lv_at hl 0 rfl) ?_
        refine va_get (D := (dC, dI)) (ci := 0) (v := .ref (ad 5)) (C := RX0) (T := TX0) (N := 7) hx hb hts inX0 hown hK hP 3 rfl rfl 2 (by decide) (hts (.fieldLink RX0 15 "BittenBoards$Boards" "lines" "[I") (by decide +kernel)) (fun _ h9 => h9) rfl dX0_rankOfLines_23 ?_
        refine lv_iload_n hx hb dX0_rankOfLines_26 rfl (lv_at hl 2 rfl) ?_
        obtain ⟨hg27, hf⟩ := gi_e hf
        refine va_iald (f := (w.2.1 5)) hx hb hK hP 5 0 rfl rfl hg27 dX0_rankOfLines_27 ?_
        refine lv_iadd hx hb dX0_rankOfLines_28 ?_
        obtain ⟨r_29, hc29, hf⟩ := bn_e hf
        refine x_calli hD hS hAA (va_runSN (host := "BittenBoards") (As := [.ref (ad 4), .int (((8 : Int32) * x2) + ((w.2.1 5) x2.toNatClampNeg))]) (rest := [.int x1]) ⟨hx, hb, hml, hown, hts⟩ (k_xf_C_at l dC dI cI cZ cG ad H.size w 64 (w.2.1 4) (ad 4) 4 rfl (((8 : Int32) * x2) + ((w.2.1 5) x2.toNatClampNeg)) r_29 w hc29 rfl) ⟨va_cnB (host := "BittenBoards") 2 hts gX0_rankOfLines_X3_at_n51 rfl rfl rfl (hN (.methodLinkNest RX0 51 yX3_at "BittenBoards") (by decide +kernel)) (hts (.initialized RX3) (by decide +kernel)) (by decide +kernel) ⟨Nat.le_of_ble_eq_true rfl, Nat.le_of_ble_eq_true rfl⟩, hts (.static yX3_at) (by decide +kernel), trivial⟩ ⟨x_blind, fun U hU hW => x_pre hU hW hK hP hD hN⟩ rfl rfl hl.1 rfl (lv_room (Nat.le_of_ble_eq_true rfl)) dX0_rankOfLines_29 ⟨Nat.zero_le _, Nat.zero_le _⟩) (fun H locs hP hD hS => ?_)
        refine lv_iadd hx hb dX0_rankOfLines_32 ?_
        obtain ⟨x1_33, ex1_33, hf⟩ := nm_x hf
        refine W.eq (g2 := F0 m 33 ls [.int x1_33]) (by rw [ex1_33]) ?_
        refine lv_istore_n (lv' := [(1, .int x1_33), (0, .ref (ad 3)), (2, .int x2)]) hx hb dX0_rankOfLines_33 rfl hl (by decide) rfl (fun ls hl => ?_)
        obtain ⟨x2_34, ex2_34, hf⟩ := nm_x hf
        refine lv_iinc (v := x2_34) (lv' := [(2, .int x2_34), (1, .int x1_33), (0, .ref (ad 3))]) hx hb dX0_rankOfLines_34 hl (k := 2) rfl (by rw [ex2_34]; rfl) (by decide) rfl (fun ls hl => ?_)
        refine lv_goto (tgt := 4) hx hb dX0_rankOfLines_37 (by decide) ?_
        exact ih4 x1_33 x2_34 hf _ _ _ hP hD hS (lv_sub hl [2, 1, 0] rfl)
  have hl := lv_entry ([.ref (ad 3)]) (n := 3) (Nat.le_of_ble_eq_true rfl)
  rw [lg_entry_eq]
  generalize (lg_sl ([.ref (ad 3)]) ++ List.replicate (3 - (lg_sl ([.ref (ad 3)])).length) Slot.unset).toArray = ls at hl ⊢
  have hl : lv_has ls 3 [(0, .ref (ad 3))] := hl
  unfold xf_B_rankOfLines at hf
  refine lv_iconst (v := (0 : Int32)) hx hb dX0_rankOfLines_0 (by decide) ?_
  refine lv_istore_n (lv' := [(1, .int (0 : Int32)), (0, .ref (ad 3))]) hx hb dX0_rankOfLines_1 rfl hl (by decide) rfl (fun ls hl => ?_)
  refine lv_iconst (v := (0 : Int32)) hx hb dX0_rankOfLines_2 (by decide) ?_
  refine lv_istore_n (lv' := [(2, .int (0 : Int32)), (1, .int (0 : Int32)), (0, .ref (ad 3))]) hx hb dX0_rankOfLines_3 rfl hl (by decide) rfl (fun ls hl => ?_)
  exact C4 fu (0 : Int32) (0 : Int32) hf _ _ _ hP hD hS (lv_sub hl [2, 1, 0] rfl)
set_option maxHeartbeats 4000000 in
set_option maxRecDepth 100000 in
theorem k_xf_B_rankOfBlock (l : Launch) (dC : Nat → ClassId) (dI : Nat → Nat → Nat) (cI cZ cG : ClassId) (ad : Nat → Nat) (sz : Nat) (w : xW) (a1 : Int32) (a2 : Int32) (r0 : Int32) (w0 : xW) (hf : xf_B_rankOfBlock a1 a2 w = some (r0, w0)) : Met l yX0_rankOfBlock wsX0_rankOfBlock ({ frames := 2, cells := 0, slots := 0, locals := 43 } : Room) (va_Pc [.ref (ad 3), .int a1, .int a2] (xPre dC dI cI cZ cG ad sz w)) (va_Qi (fun (r : Int32) (u : xW) => r = r0 ∧ u = w0) (xB dC dI cI cZ cG ad (xA ad sz)) (xA ad sz)) 0 0 (xA ad sz) := by
  refine Met.ofW (cc := cX0_rankOfBlock) (maxL := 4) (ret := (some .int)) (by decide) rfl ?_
  intro p e s m args below meth c s₁ B hml hv
  obtain ⟨rfl, hsz, hP, hK, hD0, hN⟩ := hv
  have hx := B.exec
  have hb := B.bytes
  have hr := B.returns
  have hts := atoms_spec (ws := wsX0_rankOfBlock) B.pre
  have hown : s.vm.findClass RX0 = some m.cls := findClass_of_methodNamed B.named
  have hlocks := B.notSynchronized
  have inX0 : ∀ w ∈ u_ws RX0 TX0 7, w ∈ wsX0_rankOfBlock := by decide +kernel
  subst hsz
  have hD : va_D (xA ad s.heap.size) (xc cI cG ad w) := xD_self hD0
  have hAA : ∀ z q, s.heap.size ≤ z → xA ad z q → xA ad s.heap.size q := xA_mono
  generalize xA ad s.heap.size = A at hD hAA ⊢
  have hS : va_S A s.heap s.heap [] := va_S.rf
  have C2 : ∀ (n2 : Nat) (x1 : Int32) (x2 : Int32) (x3 : Int32) (w : xW), xf_B_rankOfBlock_C2 n2 x1 x2 x3 w = some (r0, w0) → ∀ (H : Heap) (locs : List Loc) (ls : Array Slot), va_P (dC, dI) vwCl (xc cI cG ad w) H → va_D A (xc cI cG ad w) → va_S A s.heap H locs → lv_has ls 4 [(0, .ref (ad 3)), (1, .int x1), (2, .int x2), (3, .int x3)] → W p l e (headSpec wsX0_rankOfBlock ({ frames := 2, cells := 0, slots := 0, locals := 43 } : Room)).room s m (List.toArray [Value.ref (ad 3), Value.int a1, Value.int a2]) below meth c H locs 0 0 (MQ below (va_Qi (fun (r : Int32) (u : xW) => r = r0 ∧ u = w0) (xB dC dI cI cZ cG ad A) A) (List.toArray [Value.ref (ad 3), Value.int a1, Value.int a2]) s 0 0 A) (F0 m 2 ls []) := by
    intro n2
    induction n2 with
    | zero => intro x1 x2 x3 w hf; cases hf
    | succ n2 ih2 =>
      have C26 : ∀ (x1 : Int32) (x2 : Int32) (x3 : Int32) (t1 : Int32) (t2 : Int32) (w : xW), xf_B_rankOfBlock_C26 (xf_B_rankOfBlock_C2 n2) x1 x2 x3 t1 t2 w = some (r0, w0) → ∀ (H : Heap) (locs : List Loc) (ls : Array Slot), va_P (dC, dI) vwCl (xc cI cG ad w) H → va_D A (xc cI cG ad w) → va_S A s.heap H locs → lv_has ls 4 [(0, .ref (ad 3)), (1, .int x1), (2, .int x2), (3, .int x3)] → W p l e (headSpec wsX0_rankOfBlock ({ frames := 2, cells := 0, slots := 0, locals := 43 } : Room)).room s m (List.toArray [Value.ref (ad 3), Value.int a1, Value.int a2]) below meth c H locs 0 0 (MQ below (va_Qi (fun (r : Int32) (u : xW) => r = r0 ∧ u = w0) (xB dC dI cI cZ cG ad A) A) (List.toArray [Value.ref (ad 3), Value.int a1, Value.int a2]) s 0 0 A) (F0 m 26 ls [.int t2, .int t1, .ref (ad 5)]) := by
        intro x1 x2 x3 t1 t2 w hf H locs ls hP hD hS hl
        unfold xf_B_rankOfBlock_C26 at hf
        obtain ⟨hg26, hf⟩ := gi_e hf
        obtain ⟨w_26, ew_26, hf⟩ := nm_x hf
        refine va_iast (f := (w.2.1 5)) hx hb hK hP hD hS 5 0 rfl rfl hg26 dX0_rankOfBlock_26 (fun H locs hP hD hS => ?_)
        have hP : va_P (dC, dI) vwCl (xc cI cG ad w_26) H := hP.eqs (by rw [ew_26]; rfl)
        have hD : va_D A (xc cI cG ad w_26) := hD.eqs (by rw [ew_26]; rfl)
        obtain ⟨x3_27, ex3_27, hf⟩ := nm_x hf
        refine lv_iinc (v := x3_27) (lv' := [(3, .int x3_27), (0, .ref (ad 3)), (1, .int x1), (2, .int x2)]) hx hb dX0_rankOfBlock_27 hl (k := 3) rfl (by rw [ex3_27]; rfl) (by decide) rfl (fun ls hl => ?_)
        refine lv_goto (tgt := 2) hx hb dX0_rankOfBlock_30 (by decide) ?_
        exact ih2 x1 x2 x3_27 w_26 hf _ _ _ hP hD hS (lv_sub hl [1, 2, 3, 0] rfl)
      intro x1 x2 x3 w hf H locs ls hP hD hS hl
      rw [xf_B_rankOfBlock_C2] at hf
      refine lv_iload_n hx hb dX0_rankOfBlock_2 rfl (lv_at hl 3 rfl) ?_
      refine lv_aload_n hx hb dX0_rankOfBlock_3 rfl (lv_at hl 0 rfl) ?_
      refine va_get (D := (dC, dI)) (ci := 0) (v := .ref (ad 5)) (C := RX0) (T := TX0) (N := 7) hx hb hts inX0 hown hK hP 3 rfl rfl 2 (by decide) (hts (.fieldLink RX0 15 "BittenBoards$Boards" "lines" "[I") (by decide +kernel)) (fun _ h9 => h9) rfl dX0_rankOfBlock_4 ?_
      refine va_alen (v := (7 : Int32)) hx hb hK hP 5 0 rfl rfl (by rfl) dX0_rankOfBlock_7 ?_
      refine lv_icmp_ge (tgt := 33) hx hb dX0_rankOfBlock_8 (by decide) (fun h8 => ?_) (fun h8 => ?_)
      · have hf := if_t h8 hf
        refine lv_aload_n hx hb dX0_rankOfBlock_33 rfl (lv_at hl 0 rfl) ?_
        obtain ⟨r_34, hc34, hf⟩ := bn_e hf
        refine x_calli hD hS hAA (va_runV (As := []) (rest := []) ⟨hx, hb, hml, hown, hts⟩ (k_xf_B_rankOfLines l dC dI cI cZ cG ad H.size w  r_34 w hc34 rfl) (cwV 0 hts gX0_rankOfBlock_X0_rankOfLines rfl rfl rfl (by decide +kernel) ⟨Nat.le_of_ble_eq_true rfl, Nat.le_of_ble_eq_true rfl⟩) ⟨x_blind, va_recv hK hP (ci := 0) (q0 := 3) rfl rfl, fun U hU hW => x_pre hU hW hK hP hD hN⟩ rfl rfl hl.1 rfl (lv_room (Nat.le_of_ble_eq_true rfl)) dX0_rankOfBlock_34 ⟨Nat.zero_le _, Nat.zero_le _⟩) (fun H locs hP hD hS => ?_)
        exact x_iret hx hb hr hlocks hK hP hD hS (so_2 hf) dX0_rankOfBlock_37
      · have hf := if_f h8 hf
        refine lv_aload_n hx hb dX0_rankOfBlock_11 rfl (lv_at hl 0 rfl) ?_
        refine va_get (D := (dC, dI)) (ci := 0) (v := .ref (ad 5)) (C := RX0) (T := TX0) (N := 7) hx hb hts inX0 hown hK hP 3 rfl rfl 2 (by decide) (hts (.fieldLink RX0 15 "BittenBoards$Boards" "lines" "[I") (by decide +kernel)) (fun _ h9 => h9) rfl dX0_rankOfBlock_12 ?_
        refine lv_iload_n hx hb dX0_rankOfBlock_15 rfl (lv_at hl 3 rfl) ?_
        refine lv_iload_n hx hb dX0_rankOfBlock_16 rfl (lv_at hl 3 rfl) ?_
        refine lv_iload_n hx hb dX0_rankOfBlock_17 rfl (lv_at hl 1 rfl) ?_
        refine lv_icmp_ge (tgt := 25) hx hb dX0_rankOfBlock_18 (by decide) (fun h18 => ?_) (fun h18 => ?_)
        · have hf := if_t h18 hf
          refine lv_iconst (v := (0 : Int32)) hx hb dX0_rankOfBlock_25 (by decide) ?_
          exact C26 x1 x2 x3 x3 (0 : Int32) w hf _ _ _ hP hD hS (lv_sub hl [0, 1, 2, 3] rfl)
        · have hf := if_f h18 hf
          refine lv_iload_n hx hb dX0_rankOfBlock_21 rfl (lv_at hl 2 rfl) ?_
          refine lv_goto (tgt := 26) hx hb dX0_rankOfBlock_22 (by decide) ?_
          exact C26 x1 x2 x3 x3 x2 w hf _ _ _ hP hD hS (lv_sub hl [0, 1, 2, 3] rfl)
  have hl := lv_entry ([.ref (ad 3), .int a1, .int a2]) (n := 4) (Nat.le_of_ble_eq_true rfl)
  rw [lg_entry_eq]
  generalize (lg_sl ([.ref (ad 3), .int a1, .int a2]) ++ List.replicate (4 - (lg_sl ([.ref (ad 3), .int a1, .int a2])).length) Slot.unset).toArray = ls at hl ⊢
  have hl : lv_has ls 4 [(0, .ref (ad 3)), (1, .int a1), (2, .int a2)] := hl
  unfold xf_B_rankOfBlock at hf
  refine lv_iconst (v := (0 : Int32)) hx hb dX0_rankOfBlock_0 (by decide) ?_
  refine lv_istore_n (lv' := [(3, .int (0 : Int32)), (0, .ref (ad 3)), (1, .int a1), (2, .int a2)]) hx hb dX0_rankOfBlock_1 rfl hl (by decide) rfl (fun ls hl => ?_)
  exact C2 fu a1 a2 (0 : Int32) w hf _ _ _ hP hD hS (lv_sub hl [1, 2, 3, 0] rfl)
set_option maxHeartbeats 4000000 in
set_option maxRecDepth 100000 in
theorem k_xf_G_putBoard (l : Launch) (dC : Nat → ClassId) (dI : Nat → Nat → Nat) (cI cZ cG : ClassId) (ad : Nat → Nat) (sz : Nat) (w : xW) (g : Nat) (hg : g < 6) (a1 : Int32) (w0 : xW) (hf : xf_G_putBoard g a1 w = some w0) : Met l yX1_putBoard wsX1_putBoard ({ frames := 0, cells := 0, slots := 0, locals := 0 } : Room) (va_Pc [.ref (ad (12 + 5 * g)), .int a1] (xPre dC dI cI cZ cG ad sz w)) (va_Qv (fun (u : xW) => u = w0) (xB dC dI cI cZ cG ad (xA ad sz)) (xA ad sz)) 0 0 (xA ad sz) := by
  refine Met.ofW (cc := cX1_putBoard) (maxL := 2) (ret := none) (by decide) rfl ?_
  intro p e s m args below meth c s₁ B hml hv
  obtain ⟨rfl, hsz, hP, hK, hD0, hN⟩ := hv
  have hx := B.exec
  have hb := B.bytes
  have hr := B.returns
  have hts := atoms_spec (ws := wsX1_putBoard) B.pre
  have hown : s.vm.findClass RX1 = some m.cls := findClass_of_methodNamed B.named
  have hlocks := B.notSynchronized
  have inX1 : ∀ w ∈ u_ws RX1 TX1 12, w ∈ wsX1_putBoard := by decide +kernel
  subst hsz
  have hD : va_D (xA ad s.heap.size) (xc cI cG ad w) := xD_self hD0
  have hAA : ∀ z q, s.heap.size ≤ z → xA ad z q → xA ad s.heap.size q := xA_mono
  generalize xA ad s.heap.size = A at hD hAA ⊢
  have hS : va_S A s.heap s.heap [] := va_S.rf
  have hl := lv_entry ([.ref (ad (12 + 5 * g)), .int a1]) (n := 2) (Nat.le_of_ble_eq_true rfl)
  rw [lg_entry_eq]
  generalize (lg_sl ([.ref (ad (12 + 5 * g)), .int a1]) ++ List.replicate (2 - (lg_sl ([.ref (ad (12 + 5 * g)), .int a1])).length) Slot.unset).toArray = ls at hl ⊢
  have hl : lv_has ls 2 [(0, .ref (ad (12 + 5 * g))), (1, .int a1)] := hl
  unfold xf_G_putBoard at hf
  refine lv_aload_n hx hb dX1_putBoard_0 rfl (lv_at hl 0 rfl) ?_
  refine lv_iload_n hx hb dX1_putBoard_1 rfl (lv_at hl 1 rfl) ?_
  obtain ⟨w_2, ew_2, hf⟩ := nm_x hf
  refine va_put (D := (dC, dI)) (ci := 1) (v := .int a1) (ty := .int) (C := RX1) (T := TX1) (N := 12) hx hb hts inX1 tyX1 tyX1_ok nmX1 hown hK hP hD hS (12 + 5 * g) (xc_o hg) rfl 9 (by decide) (hts (.fieldLink RX1 50 "BittenBoards$Game" "state" "I") (by decide +kernel)) (fun _ h9 => h9) rfl (by decide +kernel) rfl rfl (Nat.le_of_ble_eq_true rfl) dX1_putBoard_2 (fun H locs hP hD hS => ?_)
  have hP : va_P (dC, dI) vwCl (xc cI cG ad w_2) H := hP.eqs (by rw [ew_2]; exact xs_o3 hg _ _)
  have hD : va_D A (xc cI cG ad w_2) := hD.eqs (by rw [ew_2]; exact xs_o3 hg _ _)
  refine lv_aload_n hx hb dX1_putBoard_5 rfl (lv_at hl 0 rfl) ?_
  refine lv_iconst (v := (0 : Int32)) hx hb dX1_putBoard_6 (by decide) ?_
  obtain ⟨w_7, ew_7, hf⟩ := nm_x hf
  refine va_put (D := (dC, dI)) (ci := 1) (v := .int (0 : Int32)) (ty := .int) (C := RX1) (T := TX1) (N := 12) hx hb hts inX1 tyX1 tyX1_ok nmX1 hown hK hP hD hS (12 + 5 * g) (xc_o hg) rfl 10 (by decide) (hts (.fieldLink RX1 53 "BittenBoards$Game" "noted" "I") (by decide +kernel)) (fun _ h9 => h9) rfl (by decide +kernel) rfl rfl (Nat.le_of_ble_eq_true rfl) dX1_putBoard_7 (fun H locs hP hD hS => ?_)
  have hP : va_P (dC, dI) vwCl (xc cI cG ad w_7) H := hP.eqs (by rw [ew_7]; exact xs_o4 hg _ _)
  have hD : va_D A (xc cI cG ad w_7) := hD.eqs (by rw [ew_7]; exact xs_o4 hg _ _)
  exact x_vret hx hb hr hlocks hK hP hD hS (so_1 hf) dX1_putBoard_10
set_option maxHeartbeats 4000000 in
set_option maxRecDepth 100000 in
theorem k_xf_C_rows (l : Launch) (dC : Nat → ClassId) (dI : Nat → Nat → Nat) (cI cZ cG : ClassId) (ad : Nat → Nat) (sz : Nat) (w : xW) (a1 : Int32) (a2 : Int32) (a3 : Int32) (r0 : Int32) (w0 : xW) (hf : xf_C_rows a1 a2 a3 w = some (r0, w0)) : Met l yX3_rows wsX3_rows ({ frames := 3, cells := 0, slots := 0, locals := 66 } : Room) (va_Pc [.ref (ad 0), .int a1, .int a2, .int a3] (xPre dC dI cI cZ cG ad sz w)) (va_Qi (fun (r : Int32) (u : xW) => r = r0 ∧ u = w0) (xB dC dI cI cZ cG ad (xA ad sz)) (xA ad sz)) 0 0 (xA ad sz) := by
  refine Met.ofW (cc := cX3_rows) (maxL := 5) (ret := (some .int)) (by decide) rfl ?_
  intro p e s m args below meth c s₁ B hml hv
  obtain ⟨rfl, hsz, hP, hK, hD0, hN⟩ := hv
  have hx := B.exec
  have hb := B.bytes
  have hr := B.returns
  have hts := atoms_spec (ws := wsX3_rows) B.pre
  have hown : s.vm.findClass RX3 = some m.cls := findClass_of_methodNamed B.named
  have hlocks := B.notSynchronized
  have inX3 : ∀ w ∈ u_ws RX3 TX3 4, w ∈ wsX3_rows := by decide +kernel
  subst hsz
  have hD : va_D (xA ad s.heap.size) (xc cI cG ad w) := xD_self hD0
  have hAA : ∀ z q, s.heap.size ≤ z → xA ad z q → xA ad s.heap.size q := xA_mono
  generalize xA ad s.heap.size = A at hD hAA ⊢
  have hS : va_S A s.heap s.heap [] := va_S.rf
  have hl := lv_entry ([.ref (ad 0), .int a1, .int a2, .int a3]) (n := 5) (Nat.le_of_ble_eq_true rfl)
  rw [lg_entry_eq]
  generalize (lg_sl ([.ref (ad 0), .int a1, .int a2, .int a3]) ++ List.replicate (5 - (lg_sl ([.ref (ad 0), .int a1, .int a2, .int a3])).length) Slot.unset).toArray = ls at hl ⊢
  have hl : lv_has ls 5 [(0, .ref (ad 0)), (1, .int a1), (2, .int a2), (3, .int a3)] := hl
  unfold xf_C_rows at hf
  refine lv_iload_n hx hb dX3_rows_0 rfl (lv_at hl 1 rfl) ?_
  refine lv_iconst (v := (1 : Int32)) hx hb dX3_rows_1 (by decide) ?_
  refine lv_bipush (v := (7 : Int32)) hx hb dX3_rows_2 (by decide) ?_
  obtain ⟨r_4, hc4, hf⟩ := bn_e hf
  refine x_calli hD hS hAA (va_runS (As := [.int a1, .int (1 : Int32), .int (7 : Int32)]) (rest := []) ⟨hx, hb, hml, hown, hts⟩ (k_xf_C_isWithin l dC dI cI cZ cG ad s.heap.size w a1 (1 : Int32) (7 : Int32) r_4 w hc4 rfl) (va_cwS 3 hts gX3_rows_X3_isWithin rfl rfl rfl (by decide +kernel) ⟨Nat.le_of_ble_eq_true rfl, Nat.le_of_ble_eq_true rfl⟩) ⟨x_blind, fun U hU hW => x_pre hU hW hK hP hD hN⟩ rfl rfl hl.1 rfl (lv_room (Nat.le_of_ble_eq_true rfl)) dX3_rows_4 ⟨Nat.zero_le _, Nat.zero_le _⟩) (fun H locs hP hD hS => ?_)
  refine lv_if_eq (tgt := 29) hx hb dX3_rows_7 (by decide) (fun h7 => ?_) (fun h7 => ?_)
  · have hf := if_t h7 hf
    refine lv_sipush (v := (-1002 : Int32)) hx hb dX3_rows_29 (by decide) ?_
    exact x_iret hx hb hr hlocks hK hP hD hS (so_2 hf) dX3_rows_32
  · have hf := if_f h7 hf
    refine lv_iload_n hx hb dX3_rows_10 rfl (lv_at hl 2 rfl) ?_
    refine lv_iconst (v := (1 : Int32)) hx hb dX3_rows_11 (by decide) ?_
    refine lv_bipush (v := (7 : Int32)) hx hb dX3_rows_12 (by decide) ?_
    obtain ⟨r_14, hc14, hf⟩ := bn_e hf
    refine x_calli hD hS hAA (va_runS (As := [.int a2, .int (1 : Int32), .int (7 : Int32)]) (rest := []) ⟨hx, hb, hml, hown, hts⟩ (k_xf_C_isWithin l dC dI cI cZ cG ad H.size w a2 (1 : Int32) (7 : Int32) r_14 w hc14 rfl) (va_cwS 3 hts gX3_rows_X3_isWithin rfl rfl rfl (by decide +kernel) ⟨Nat.le_of_ble_eq_true rfl, Nat.le_of_ble_eq_true rfl⟩) ⟨x_blind, fun U hU hW => x_pre hU hW hK hP hD hN⟩ rfl rfl hl.1 rfl (lv_room (Nat.le_of_ble_eq_true rfl)) dX3_rows_14 ⟨Nat.zero_le _, Nat.zero_le _⟩) (fun H locs hP hD hS => ?_)
    refine lv_if_eq (tgt := 29) hx hb dX3_rows_17 (by decide) (fun h17 => ?_) (fun h17 => ?_)
    · have hf := if_t h17 hf
      refine lv_sipush (v := (-1002 : Int32)) hx hb dX3_rows_29 (by decide) ?_
      exact x_iret hx hb hr hlocks hK hP hD hS (so_2 hf) dX3_rows_32
    · have hf := if_f h17 hf
      refine lv_iload_n hx hb dX3_rows_20 rfl (lv_at hl 3 rfl) ?_
      refine lv_iconst (v := (0 : Int32)) hx hb dX3_rows_21 (by decide) ?_
      refine lv_iconst (v := (1 : Int32)) hx hb dX3_rows_22 (by decide) ?_
      obtain ⟨r_23, hc23, hf⟩ := bn_e hf
      refine x_calli hD hS hAA (va_runS (As := [.int a3, .int (0 : Int32), .int (1 : Int32)]) (rest := []) ⟨hx, hb, hml, hown, hts⟩ (k_xf_C_isWithin l dC dI cI cZ cG ad H.size w a3 (0 : Int32) (1 : Int32) r_23 w hc23 rfl) (va_cwS 3 hts gX3_rows_X3_isWithin rfl rfl rfl (by decide +kernel) ⟨Nat.le_of_ble_eq_true rfl, Nat.le_of_ble_eq_true rfl⟩) ⟨x_blind, fun U hU hW => x_pre hU hW hK hP hD hN⟩ rfl rfl hl.1 rfl (lv_room (Nat.le_of_ble_eq_true rfl)) dX3_rows_23 ⟨Nat.zero_le _, Nat.zero_le _⟩) (fun H locs hP hD hS => ?_)
      refine lv_if_ne (tgt := 33) hx hb dX3_rows_26 (by decide) (fun h26 => ?_) (fun h26 => ?_)
      · have hf := if_f h26 hf
        refine lv_aload_n hx hb dX3_rows_33 rfl (lv_at hl 0 rfl) ?_
        obtain ⟨r_34, hc34, hf⟩ := bn_e hf
        refine x_callq hD hS hAA (va_runV (As := []) (rest := []) ⟨hx, hb, hml, hown, hts⟩ (k_xf_C_nextGame l dC dI cI cZ cG ad H.size w  r_34 w hc34 rfl) (cwV 0 hts gX3_rows_X3_nextGame rfl rfl rfl (by decide +kernel) ⟨Nat.le_of_ble_eq_true rfl, Nat.le_of_ble_eq_true rfl⟩) ⟨x_blind, va_recv hK hP (ci := 3) (q0 := 0) rfl rfl, fun U hU hW => x_pre hU hW hK hP hD hN⟩ rfl rfl hl.1 rfl (lv_room (Nat.le_of_ble_eq_true rfl)) dX3_rows_34 ⟨Nat.zero_le _, Nat.zero_le _⟩) (fun H locs hP hD hS => ?_)
        rcases r_34 with _ | g_34
        · have hf := onO_n hf
          refine W.eq (g2 := F0 m 37 ls [.null]) rfl ?_
          refine lv_astoreN (lv' := [(4, .null), (0, .ref (ad 0)), (1, .int a1), (2, .int a2), (3, .int a3)]) hx hb dX3_rows_37 hl (by decide) rfl (fun ls hl => ?_)
          refine lv_aloadN hx hb dX3_rows_39 (lv_at hl 0 rfl) ?_
          refine lv_ifnonnullN hx hb dX3_rows_41 ?_
          refine lv_sipush (v := (-1004 : Int32)) hx hb dX3_rows_44 (by decide) ?_
          exact x_iret hx hb hr hlocks hK hP hD hS (so_2 hf) dX3_rows_47
        · have hf := onO_s hf
          obtain ⟨hg_34, hf⟩ := gd_e hf
          refine W.eq (g2 := F0 m 37 ls [.ref (ad (12 + 5 * g_34))]) rfl ?_
          refine lv_astore (lv' := [(4, .ref (ad (12 + 5 * g_34))), (0, .ref (ad 0)), (1, .int a1), (2, .int a2), (3, .int a3)]) hx hb dX3_rows_37 hl (by decide) rfl (fun ls hl => ?_)
          refine lv_aload hx hb dX3_rows_39 (lv_at hl 0 rfl) ?_
          refine lv_ifnonnull (tgt := 48) hx hb dX3_rows_41 (by decide) ?_
          refine lv_aload hx hb dX3_rows_48 (lv_at hl 0 rfl) ?_
          refine lv_iconst (v := (0 : Int32)) hx hb dX3_rows_50 (by decide) ?_
          refine lv_iload_n hx hb dX3_rows_51 rfl (lv_at hl 4 rfl) ?_
          obtain ⟨w_52, hc52, hf⟩ := bn_e hf
          refine x_callv hD hS hAA (va_runV (As := [.int (0 : Int32), .int a3]) (rest := []) ⟨hx, hb, hml, hown, hts⟩ (k_xf_G_begin l dC dI cI cZ cG ad H.size w g_34 hg_34 (0 : Int32) a3 w_52 hc52) (cwV 2 hts gX3_rows_X1_begin rfl rfl rfl (by decide +kernel) ⟨Nat.le_of_ble_eq_true rfl, Nat.le_of_ble_eq_true rfl⟩) ⟨x_blind, va_recv hK hP (ci := 1) (q0 := (12 + 5 * g_34)) rfl (xc_o hg_34), fun U hU hW => x_pre hU hW hK hP hD hN⟩ rfl rfl hl.1 rfl (lv_room (Nat.le_of_ble_eq_true rfl)) dX3_rows_52 ⟨Nat.zero_le _, Nat.zero_le _⟩) (fun H locs hP hD hS => ?_)
          refine lv_aload hx hb dX3_rows_55 (lv_at hl 0 rfl) ?_
          refine lv_aload_n hx hb dX3_rows_57 rfl (lv_at hl 1 rfl) ?_
          refine va_get (D := (dC, dI)) (ci := 3) (v := .ref (ad 3)) (C := RX3) (T := TX3) (N := 4) hx hb hts inX3 hown hK hP 0 rfl rfl 0 (by decide) (hts (.fieldLink RX3 27 "BittenBoards" "boards" "LBittenBoards$Boards;") (by decide +kernel)) (fun _ h9 => h9) rfl dX3_rows_58 ?_
          refine lv_iload_n hx hb dX3_rows_61 rfl (lv_at hl 2 rfl) ?_
          refine lv_iload_n hx hb dX3_rows_62 rfl (lv_at hl 3 rfl) ?_
          obtain ⟨r_63, w_63, hc63, hf⟩ := bn2_e hf
          refine x_calli hD hS hAA (va_runV (As := [.int a1, .int a2]) (rest := [.ref (ad (12 + 5 * g_34))]) ⟨hx, hb, hml, hown, hts⟩ (k_xf_B_rankOfBlock l dC dI cI cZ cG ad H.size w_52 a1 a2 r_63 w_63 hc63) (cwV 2 hts gX3_rows_X0_rankOfBlock rfl rfl rfl (by decide +kernel) ⟨Nat.le_of_ble_eq_true rfl, Nat.le_of_ble_eq_true rfl⟩) ⟨x_blind, va_recv hK hP (ci := 0) (q0 := 3) rfl rfl, fun U hU hW => x_pre hU hW hK hP hD hN⟩ rfl rfl hl.1 rfl (lv_room (Nat.le_of_ble_eq_true rfl)) dX3_rows_63 ⟨Nat.zero_le _, Nat.zero_le _⟩) (fun H locs hP hD hS => ?_)
          obtain ⟨w_66, hc66, hf⟩ := bn_e hf
          refine x_callv hD hS hAA (va_runV (As := [.int r_63]) (rest := []) ⟨hx, hb, hml, hown, hts⟩ (k_xf_G_putBoard l dC dI cI cZ cG ad H.size w_63 g_34 hg_34 r_63 w_66 hc66) (cwV 1 hts gX3_rows_X1_putBoard rfl rfl rfl (by decide +kernel) ⟨Nat.le_of_ble_eq_true rfl, Nat.le_of_ble_eq_true rfl⟩) ⟨x_blind, va_recv hK hP (ci := 1) (q0 := (12 + 5 * g_34)) rfl (xc_o hg_34), fun U hU hW => x_pre hU hW hK hP hD hN⟩ rfl rfl hl.1 rfl (lv_room (Nat.le_of_ble_eq_true rfl)) dX3_rows_66 ⟨Nat.zero_le _, Nat.zero_le _⟩) (fun H locs hP hD hS => ?_)
          refine lv_aload_n hx hb dX3_rows_69 rfl (lv_at hl 1 rfl) ?_
          refine lv_dup hx hb dX3_rows_70 rfl ?_
          refine va_get (D := (dC, dI)) (ci := 3) (v := .int (w_66.1 0)) (C := RX3) (T := TX3) (N := 4) hx hb hts inX3 hown hK hP 0 rfl rfl 3 (by decide) (hts (.fieldLink RX3 54 "BittenBoards" "count" "I") (by decide +kernel)) (fun _ h9 => h9) rfl dX3_rows_71 ?_
          refine lv_dup_x1 hx hb dX3_rows_74 rfl rfl ?_
          refine lv_iconst (v := (1 : Int32)) hx hb dX3_rows_75 (by decide) ?_
          refine lv_iadd hx hb dX3_rows_76 ?_
          obtain ⟨w_77, ew_77, hf⟩ := nm_x hf
          refine va_put (D := (dC, dI)) (ci := 3) (v := .int ((w_66.1 0) + (1 : Int32))) (ty := .int) (C := RX3) (T := TX3) (N := 4) hx hb hts inX3 tyX3 tyX3_ok nmX3 hown hK hP hD hS 0 rfl rfl 3 (by decide) (hts (.fieldLink RX3 54 "BittenBoards" "count" "I") (by decide +kernel)) (fun _ h9 => h9) rfl (by decide +kernel) rfl rfl (Nat.le_of_ble_eq_true rfl) dX3_rows_77 (fun H locs hP hD hS => ?_)
          have hP : va_P (dC, dI) vwCl (xc cI cG ad w_77) H := hP.eqs (by rw [ew_77]; rfl)
          have hD : va_D A (xc cI cG ad w_77) := hD.eqs (by rw [ew_77]; rfl)
          exact x_iret hx hb hr hlocks hK hP hD hS (so_2 hf) dX3_rows_80
      · have hf := if_t h26 hf
        refine lv_sipush (v := (-1002 : Int32)) hx hb dX3_rows_29 (by decide) ?_
        exact x_iret hx hb hr hlocks hK hP hD hS (so_2 hf) dX3_rows_32
set_option maxHeartbeats 4000000 in
set_option maxRecDepth 100000 in
theorem k_xf_C_beginEmpty (l : Launch) (dC : Nat → ClassId) (dI : Nat → Nat → Nat) (cI cZ cG : ClassId) (ad : Nat → Nat) (sz : Nat) (w : xW) (a1 : Int32) (a2 : Int32) (r0 : Int32) (w0 : xW) (hf : xf_C_beginEmpty a1 a2 w = some (r0, w0)) : Met l yX3_beginEmpty wsX3_beginEmpty ({ frames := 2, cells := 0, slots := 0, locals := 42 } : Room) (va_Pc [.ref (ad 0), .int a1, .int a2] (xPre dC dI cI cZ cG ad sz w)) (va_Qi (fun (r : Int32) (u : xW) => r = r0 ∧ u = w0) (xB dC dI cI cZ cG ad (xA ad sz)) (xA ad sz)) 0 0 (xA ad sz) := by
  refine Met.ofW (cc := cX3_beginEmpty) (maxL := 4) (ret := (some .int)) (by decide) rfl ?_
  intro p e s m args below meth c s₁ B hml hv
  obtain ⟨rfl, hsz, hP, hK, hD0, hN⟩ := hv
  have hx := B.exec
  have hb := B.bytes
  have hr := B.returns
  have hts := atoms_spec (ws := wsX3_beginEmpty) B.pre
  have hown : s.vm.findClass RX3 = some m.cls := findClass_of_methodNamed B.named
  have hlocks := B.notSynchronized
  have inX3 : ∀ w ∈ u_ws RX3 TX3 4, w ∈ wsX3_beginEmpty := by decide +kernel
  subst hsz
  have hD : va_D (xA ad s.heap.size) (xc cI cG ad w) := xD_self hD0
  have hAA : ∀ z q, s.heap.size ≤ z → xA ad z q → xA ad s.heap.size q := xA_mono
  generalize xA ad s.heap.size = A at hD hAA ⊢
  have hS : va_S A s.heap s.heap [] := va_S.rf
  have hl := lv_entry ([.ref (ad 0), .int a1, .int a2]) (n := 4) (Nat.le_of_ble_eq_true rfl)
  rw [lg_entry_eq]
  generalize (lg_sl ([.ref (ad 0), .int a1, .int a2]) ++ List.replicate (4 - (lg_sl ([.ref (ad 0), .int a1, .int a2])).length) Slot.unset).toArray = ls at hl ⊢
  have hl : lv_has ls 4 [(0, .ref (ad 0)), (1, .int a1), (2, .int a2)] := hl
  unfold xf_C_beginEmpty at hf
  refine lv_iload_n hx hb dX3_beginEmpty_0 rfl (lv_at hl 2 rfl) ?_
  refine lv_iconst (v := (0 : Int32)) hx hb dX3_beginEmpty_1 (by decide) ?_
  refine lv_iconst (v := (1 : Int32)) hx hb dX3_beginEmpty_2 (by decide) ?_
  obtain ⟨r_3, hc3, hf⟩ := bn_e hf
  refine x_calli hD hS hAA (va_runS (As := [.int a2, .int (0 : Int32), .int (1 : Int32)]) (rest := []) ⟨hx, hb, hml, hown, hts⟩ (k_xf_C_isWithin l dC dI cI cZ cG ad s.heap.size w a2 (0 : Int32) (1 : Int32) r_3 w hc3 rfl) (va_cwS 3 hts gX3_beginEmpty_X3_isWithin rfl rfl rfl (by decide +kernel) ⟨Nat.le_of_ble_eq_true rfl, Nat.le_of_ble_eq_true rfl⟩) ⟨x_blind, fun U hU hW => x_pre hU hW hK hP hD hN⟩ rfl rfl hl.1 rfl (lv_room (Nat.le_of_ble_eq_true rfl)) dX3_beginEmpty_3 ⟨Nat.zero_le _, Nat.zero_le _⟩) (fun H locs hP hD hS => ?_)
  refine lv_if_ne (tgt := 13) hx hb dX3_beginEmpty_6 (by decide) (fun h6 => ?_) (fun h6 => ?_)
  · have hf := if_f h6 hf
    refine lv_aload_n hx hb dX3_beginEmpty_13 rfl (lv_at hl 0 rfl) ?_
    obtain ⟨r_14, hc14, hf⟩ := bn_e hf
    refine x_callq hD hS hAA (va_runV (As := []) (rest := []) ⟨hx, hb, hml, hown, hts⟩ (k_xf_C_nextGame l dC dI cI cZ cG ad H.size w  r_14 w hc14 rfl) (cwV 0 hts gX3_beginEmpty_X3_nextGame rfl rfl rfl (by decide +kernel) ⟨Nat.le_of_ble_eq_true rfl, Nat.le_of_ble_eq_true rfl⟩) ⟨x_blind, va_recv hK hP (ci := 3) (q0 := 0) rfl rfl, fun U hU hW => x_pre hU hW hK hP hD hN⟩ rfl rfl hl.1 rfl (lv_room (Nat.le_of_ble_eq_true rfl)) dX3_beginEmpty_14 ⟨Nat.zero_le _, Nat.zero_le _⟩) (fun H locs hP hD hS => ?_)
    rcases r_14 with _ | g_14
    · have hf := onO_n hf
      refine W.eq (g2 := F0 m 17 ls [.null]) rfl ?_
      refine lv_astore_nN (lv' := [(3, .null), (0, .ref (ad 0)), (1, .int a1), (2, .int a2)]) hx hb dX3_beginEmpty_17 rfl hl (by decide) rfl (fun ls hl => ?_)
      refine lv_aload_nN hx hb dX3_beginEmpty_18 rfl (lv_at hl 0 rfl) ?_
      refine lv_ifnonnullN hx hb dX3_beginEmpty_19 ?_
      refine lv_sipush (v := (-1004 : Int32)) hx hb dX3_beginEmpty_22 (by decide) ?_
      exact x_iret hx hb hr hlocks hK hP hD hS (so_2 hf) dX3_beginEmpty_25
    · have hf := onO_s hf
      obtain ⟨hg_14, hf⟩ := gd_e hf
      refine W.eq (g2 := F0 m 17 ls [.ref (ad (12 + 5 * g_14))]) rfl ?_
      refine lv_astore_n (lv' := [(3, .ref (ad (12 + 5 * g_14))), (0, .ref (ad 0)), (1, .int a1), (2, .int a2)]) hx hb dX3_beginEmpty_17 rfl hl (by decide) rfl (fun ls hl => ?_)
      refine lv_aload_n hx hb dX3_beginEmpty_18 rfl (lv_at hl 0 rfl) ?_
      refine lv_ifnonnull (tgt := 26) hx hb dX3_beginEmpty_19 (by decide) ?_
      refine lv_aload_n hx hb dX3_beginEmpty_26 rfl (lv_at hl 0 rfl) ?_
      refine lv_iload_n hx hb dX3_beginEmpty_27 rfl (lv_at hl 2 rfl) ?_
      refine lv_iload_n hx hb dX3_beginEmpty_28 rfl (lv_at hl 3 rfl) ?_
      obtain ⟨w_29, hc29, hf⟩ := bn_e hf
      refine x_callv hD hS hAA (va_runV (As := [.int a1, .int a2]) (rest := []) ⟨hx, hb, hml, hown, hts⟩ (k_xf_G_begin l dC dI cI cZ cG ad H.size w g_14 hg_14 a1 a2 w_29 hc29) (cwV 2 hts gX3_beginEmpty_X1_begin rfl rfl rfl (by decide +kernel) ⟨Nat.le_of_ble_eq_true rfl, Nat.le_of_ble_eq_true rfl⟩) ⟨x_blind, va_recv hK hP (ci := 1) (q0 := (12 + 5 * g_14)) rfl (xc_o hg_14), fun U hU hW => x_pre hU hW hK hP hD hN⟩ rfl rfl hl.1 rfl (lv_room (Nat.le_of_ble_eq_true rfl)) dX3_beginEmpty_29 ⟨Nat.zero_le _, Nat.zero_le _⟩) (fun H locs hP hD hS => ?_)
      refine lv_aload_n hx hb dX3_beginEmpty_32 rfl (lv_at hl 1 rfl) ?_
      refine lv_dup hx hb dX3_beginEmpty_33 rfl ?_
      refine va_get (D := (dC, dI)) (ci := 3) (v := .int (w_29.1 0)) (C := RX3) (T := TX3) (N := 4) hx hb hts inX3 hown hK hP 0 rfl rfl 3 (by decide) (hts (.fieldLink RX3 54 "BittenBoards" "count" "I") (by decide +kernel)) (fun _ h9 => h9) rfl dX3_beginEmpty_34 ?_
      refine lv_dup_x1 hx hb dX3_beginEmpty_37 rfl rfl ?_
      refine lv_iconst (v := (1 : Int32)) hx hb dX3_beginEmpty_38 (by decide) ?_
      refine lv_iadd hx hb dX3_beginEmpty_39 ?_
      obtain ⟨w_40, ew_40, hf⟩ := nm_x hf
      refine va_put (D := (dC, dI)) (ci := 3) (v := .int ((w_29.1 0) + (1 : Int32))) (ty := .int) (C := RX3) (T := TX3) (N := 4) hx hb hts inX3 tyX3 tyX3_ok nmX3 hown hK hP hD hS 0 rfl rfl 3 (by decide) (hts (.fieldLink RX3 54 "BittenBoards" "count" "I") (by decide +kernel)) (fun _ h9 => h9) rfl (by decide +kernel) rfl rfl (Nat.le_of_ble_eq_true rfl) dX3_beginEmpty_40 (fun H locs hP hD hS => ?_)
      have hP : va_P (dC, dI) vwCl (xc cI cG ad w_40) H := hP.eqs (by rw [ew_40]; rfl)
      have hD : va_D A (xc cI cG ad w_40) := hD.eqs (by rw [ew_40]; rfl)
      exact x_iret hx hb hr hlocks hK hP hD hS (so_2 hf) dX3_beginEmpty_43
  · have hf := if_t h6 hf
    refine lv_sipush (v := (-1002 : Int32)) hx hb dX3_beginEmpty_9 (by decide) ?_
    exact x_iret hx hb hr hlocks hK hP hD hS (so_2 hf) dX3_beginEmpty_12
set_option maxHeartbeats 4000000 in
set_option maxRecDepth 100000 in
theorem k_xf_C_order (l : Launch) (dC : Nat → ClassId) (dI : Nat → Nat → Nat) (cI cZ cG : ClassId) (ad : Nat → Nat) (sz : Nat) (w : xW) (a1 : Int32) (r0 : Int32) (w0 : xW) (hf : xf_C_order a1 w = some (r0, w0)) : Met l yX3_order wsX3_order ({ frames := 3, cells := 0, slots := 0, locals := 65 } : Room) (va_Pc [.ref (ad 0), .int a1] (xPre dC dI cI cZ cG ad sz w)) (va_Qi (fun (r : Int32) (u : xW) => r = r0 ∧ u = w0) (xB dC dI cI cZ cG ad (xA ad sz)) (xA ad sz)) 0 0 (xA ad sz) := by
  refine Met.ofW (cc := cX3_order) (maxL := 2) (ret := (some .int)) (by decide) rfl ?_
  intro p e s m args below meth c s₁ B hml hv
  obtain ⟨rfl, hsz, hP, hK, hD0, hN⟩ := hv
  have hx := B.exec
  have hb := B.bytes
  have hr := B.returns
  have hts := atoms_spec (ws := wsX3_order) B.pre
  have hown : s.vm.findClass RX3 = some m.cls := findClass_of_methodNamed B.named
  have hlocks := B.notSynchronized
  subst hsz
  have hD : va_D (xA ad s.heap.size) (xc cI cG ad w) := xD_self hD0
  have hAA : ∀ z q, s.heap.size ≤ z → xA ad z q → xA ad s.heap.size q := xA_mono
  generalize xA ad s.heap.size = A at hD hAA ⊢
  have hS : va_S A s.heap s.heap [] := va_S.rf
  have hl := lv_entry ([.ref (ad 0), .int a1]) (n := 2) (Nat.le_of_ble_eq_true rfl)
  rw [lg_entry_eq]
  generalize (lg_sl ([.ref (ad 0), .int a1]) ++ List.replicate (2 - (lg_sl ([.ref (ad 0), .int a1])).length) Slot.unset).toArray = ls at hl ⊢
  have hl : lv_has ls 2 [(0, .ref (ad 0)), (1, .int a1)] := hl
  unfold xf_C_order at hf
  refine lv_aload_n hx hb dX3_order_0 rfl (lv_at hl 0 rfl) ?_
  refine lv_iconst (v := (1 : Int32)) hx hb dX3_order_1 (by decide) ?_
  refine lv_iload_n hx hb dX3_order_2 rfl (lv_at hl 1 rfl) ?_
  obtain ⟨r_3, w_3, hc3, hf⟩ := bn2_e hf
  refine x_calli hD hS hAA (va_runV (As := [.int (1 : Int32), .int a1]) (rest := []) ⟨hx, hb, hml, hown, hts⟩ (k_xf_C_beginEmpty l dC dI cI cZ cG ad s.heap.size w (1 : Int32) a1 r_3 w_3 hc3) (cwV 2 hts gX3_order_X3_beginEmpty rfl rfl rfl (by decide +kernel) ⟨Nat.le_of_ble_eq_true rfl, Nat.le_of_ble_eq_true rfl⟩) ⟨x_blind, va_recv hK hP (ci := 3) (q0 := 0) rfl rfl, fun U hU hW => x_pre hU hW hK hP hD hN⟩ rfl rfl hl.1 rfl (lv_room (Nat.le_of_ble_eq_true rfl)) dX3_order_3 ⟨Nat.zero_le _, Nat.zero_le _⟩) (fun H locs hP hD hS => ?_)
  exact x_iret hx hb hr hlocks hK hP hD hS (so_2 hf) dX3_order_6
set_option maxHeartbeats 4000000 in
set_option maxRecDepth 100000 in
theorem k_xf_C_listDivisors (l : Launch) (dC : Nat → ClassId) (dI : Nat → Nat → Nat) (cI cZ cG : ClassId) (ad : Nat → Nat) (sz : Nat) (w : xW) (a1 : Int32) (r0 : Int32) (w0 : xW) (hf : xf_C_listDivisors a1 w = some (r0, w0)) : Met l yX3_listDivisors wsX3_listDivisors ({ frames := 0, cells := 0, slots := 0, locals := 0 } : Room) (va_Pc [.ref (ad 0), .int a1] (xPre dC dI cI cZ cG ad sz w)) (va_Qi (fun (r : Int32) (u : xW) => r = r0 ∧ u = w0) (xB dC dI cI cZ cG ad (xA ad sz)) (xA ad sz)) 0 0 (xA ad sz) := by
  refine Met.ofW (cc := cX3_listDivisors) (maxL := 4) (ret := (some .int)) (by decide) rfl ?_
  intro p e s m args below meth c s₁ B hml hv
  obtain ⟨rfl, hsz, hP, hK, hD0, hN⟩ := hv
  have hx := B.exec
  have hb := B.bytes
  have hr := B.returns
  have hts := atoms_spec (ws := wsX3_listDivisors) B.pre
  have hown : s.vm.findClass RX3 = some m.cls := findClass_of_methodNamed B.named
  have hlocks := B.notSynchronized
  have inX3 : ∀ w ∈ u_ws RX3 TX3 4, w ∈ wsX3_listDivisors := by decide +kernel
  subst hsz
  have hD : va_D (xA ad s.heap.size) (xc cI cG ad w) := xD_self hD0
  have hAA : ∀ z q, s.heap.size ≤ z → xA ad z q → xA ad s.heap.size q := xA_mono
  generalize xA ad s.heap.size = A at hD hAA ⊢
  have hS : va_S A s.heap s.heap [] := va_S.rf
  have C4 : ∀ (n4 : Nat) (x1 : Int32) (x2 : Int32) (x3 : Int32) (w : xW), xf_C_listDivisors_C4 n4 x1 x2 x3 w = some (r0, w0) → ∀ (H : Heap) (locs : List Loc) (ls : Array Slot), va_P (dC, dI) vwCl (xc cI cG ad w) H → va_D A (xc cI cG ad w) → va_S A s.heap H locs → lv_has ls 4 [(0, .ref (ad 0)), (1, .int x1), (2, .int x2), (3, .int x3)] → W p l e (headSpec wsX3_listDivisors ({ frames := 0, cells := 0, slots := 0, locals := 0 } : Room)).room s m (List.toArray [Value.ref (ad 0), Value.int a1]) below meth c H locs 0 0 (MQ below (va_Qi (fun (r : Int32) (u : xW) => r = r0 ∧ u = w0) (xB dC dI cI cZ cG ad A) A) (List.toArray [Value.ref (ad 0), Value.int a1]) s 0 0 A) (F0 m 4 ls []) := by
    intro n4
    induction n4 with
    | zero => intro x1 x2 x3 w hf; cases hf
    | succ n4 ih4 =>
      intro x1 x2 x3 w hf H locs ls hP hD hS hl
      rw [xf_C_listDivisors_C4] at hf
      refine lv_iload_n hx hb dX3_listDivisors_4 rfl (lv_at hl 3 rfl) ?_
      refine lv_iload_n hx hb dX3_listDivisors_5 rfl (lv_at hl 1 rfl) ?_
      refine lv_icmp_gt (tgt := 47) hx hb dX3_listDivisors_6 (by decide) (fun h6 => ?_) (fun h6 => ?_)
      · have hf := if_t h6 hf
        refine lv_iload_n hx hb dX3_listDivisors_47 rfl (lv_at hl 2 rfl) ?_
        exact x_iret hx hb hr hlocks hK hP hD hS (so_2 hf) dX3_listDivisors_48
      · have hf := if_f h6 hf
        refine lv_iload_n hx hb dX3_listDivisors_9 rfl (lv_at hl 3 rfl) ?_
        refine lv_sipush (v := (10000 : Int32)) hx hb dX3_listDivisors_10 (by decide) ?_
        refine lv_icmp_gt (tgt := 47) hx hb dX3_listDivisors_13 (by decide) (fun h13 => ?_) (fun h13 => ?_)
        · have hf := if_t h13 hf
          refine lv_iload_n hx hb dX3_listDivisors_47 rfl (lv_at hl 2 rfl) ?_
          exact x_iret hx hb hr hlocks hK hP hD hS (so_2 hf) dX3_listDivisors_48
        · have hf := if_f h13 hf
          refine lv_iload_n hx hb dX3_listDivisors_16 rfl (lv_at hl 1 rfl) ?_
          refine lv_iload_n hx hb dX3_listDivisors_17 rfl (lv_at hl 3 rfl) ?_
          obtain ⟨hg18, hf⟩ := gd_e hf
          refine lv_irem hx hb dX3_listDivisors_18 hg18 ?_
          refine lv_if_ne (tgt := 41) hx hb dX3_listDivisors_19 (by decide) (fun h19 => ?_) (fun h19 => ?_)
          · have hf := if_f h19 hf
            obtain ⟨x3_41, ex3_41, hf⟩ := nm_x hf
            refine lv_iinc (v := x3_41) (lv' := [(3, .int x3_41), (0, .ref (ad 0)), (1, .int x1), (2, .int x2)]) hx hb dX3_listDivisors_41 hl (k := 3) rfl (by rw [ex3_41]; rfl) (by decide) rfl (fun ls hl => ?_)
            refine lv_goto (tgt := 4) hx hb dX3_listDivisors_44 (by decide) ?_
            exact ih4 x1 x2 x3_41 w hf _ _ _ hP hD hS (lv_sub hl [1, 2, 3, 0] rfl)
          · have hf := if_t h19 hf
            refine lv_iload_n hx hb dX3_listDivisors_22 rfl (lv_at hl 2 rfl) ?_
            refine lv_aload_n hx hb dX3_listDivisors_23 rfl (lv_at hl 0 rfl) ?_
            refine va_get (D := (dC, dI)) (ci := 3) (v := .ref (ad 2)) (C := RX3) (T := TX3) (N := 4) hx hb hts inX3 hown hK hP 0 rfl rfl 2 (by decide) (hts (.fieldLink RX3 15 "BittenBoards" "divisorRow" "[I") (by decide +kernel)) (fun _ h9 => h9) rfl dX3_listDivisors_24 ?_
            refine va_alen (v := (12 : Int32)) hx hb hK hP 2 0 rfl rfl (by rfl) dX3_listDivisors_27 ?_
            refine lv_icmp_ge (tgt := 38) hx hb dX3_listDivisors_28 (by decide) (fun h28 => ?_) (fun h28 => ?_)
            · have hf := if_t h28 hf
              obtain ⟨x2_38, ex2_38, hf⟩ := nm_x hf
              refine lv_iinc (v := x2_38) (lv' := [(2, .int x2_38), (0, .ref (ad 0)), (1, .int x1), (3, .int x3)]) hx hb dX3_listDivisors_38 hl (k := 2) rfl (by rw [ex2_38]; rfl) (by decide) rfl (fun ls hl => ?_)
              obtain ⟨x3_41, ex3_41, hf⟩ := nm_x hf
              refine lv_iinc (v := x3_41) (lv' := [(3, .int x3_41), (2, .int x2_38), (0, .ref (ad 0)), (1, .int x1)]) hx hb dX3_listDivisors_41 hl (k := 3) rfl (by rw [ex3_41]; rfl) (by decide) rfl (fun ls hl => ?_)
              refine lv_goto (tgt := 4) hx hb dX3_listDivisors_44 (by decide) ?_
              exact ih4 x1 x2_38 x3_41 w hf _ _ _ hP hD hS (lv_sub hl [2, 3, 1, 0] rfl)
            · have hf := if_f h28 hf
              refine lv_aload_n hx hb dX3_listDivisors_31 rfl (lv_at hl 0 rfl) ?_
              refine va_get (D := (dC, dI)) (ci := 3) (v := .ref (ad 2)) (C := RX3) (T := TX3) (N := 4) hx hb hts inX3 hown hK hP 0 rfl rfl 2 (by decide) (hts (.fieldLink RX3 15 "BittenBoards" "divisorRow" "[I") (by decide +kernel)) (fun _ h9 => h9) rfl dX3_listDivisors_32 ?_
              refine lv_iload_n hx hb dX3_listDivisors_35 rfl (lv_at hl 2 rfl) ?_
              refine lv_iload_n hx hb dX3_listDivisors_36 rfl (lv_at hl 3 rfl) ?_
              obtain ⟨hg37, hf⟩ := gi_e hf
              obtain ⟨w_37, ew_37, hf⟩ := nm_x hf
              refine va_iast (f := (w.2.1 2)) hx hb hK hP hD hS 2 0 rfl rfl hg37 dX3_listDivisors_37 (fun H locs hP hD hS => ?_)
              have hP : va_P (dC, dI) vwCl (xc cI cG ad w_37) H := hP.eqs (by rw [ew_37]; rfl)
              have hD : va_D A (xc cI cG ad w_37) := hD.eqs (by rw [ew_37]; rfl)
              obtain ⟨x2_38, ex2_38, hf⟩ := nm_x hf
              refine lv_iinc (v := x2_38) (lv' := [(2, .int x2_38), (0, .ref (ad 0)), (1, .int x1), (3, .int x3)]) hx hb dX3_listDivisors_38 hl (k := 2) rfl (by rw [ex2_38]; rfl) (by decide) rfl (fun ls hl => ?_)
              obtain ⟨x3_41, ex3_41, hf⟩ := nm_x hf
              refine lv_iinc (v := x3_41) (lv' := [(3, .int x3_41), (2, .int x2_38), (0, .ref (ad 0)), (1, .int x1)]) hx hb dX3_listDivisors_41 hl (k := 3) rfl (by rw [ex3_41]; rfl) (by decide) rfl (fun ls hl => ?_)
              refine lv_goto (tgt := 4) hx hb dX3_listDivisors_44 (by decide) ?_
              exact ih4 x1 x2_38 x3_41 w_37 hf _ _ _ hP hD hS (lv_sub hl [2, 3, 1, 0] rfl)
  have hl := lv_entry ([.ref (ad 0), .int a1]) (n := 4) (Nat.le_of_ble_eq_true rfl)
  rw [lg_entry_eq]
  generalize (lg_sl ([.ref (ad 0), .int a1]) ++ List.replicate (4 - (lg_sl ([.ref (ad 0), .int a1])).length) Slot.unset).toArray = ls at hl ⊢
  have hl : lv_has ls 4 [(0, .ref (ad 0)), (1, .int a1)] := hl
  unfold xf_C_listDivisors at hf
  refine lv_iconst (v := (0 : Int32)) hx hb dX3_listDivisors_0 (by decide) ?_
  refine lv_istore_n (lv' := [(2, .int (0 : Int32)), (0, .ref (ad 0)), (1, .int a1)]) hx hb dX3_listDivisors_1 rfl hl (by decide) rfl (fun ls hl => ?_)
  refine lv_iconst (v := (1 : Int32)) hx hb dX3_listDivisors_2 (by decide) ?_
  refine lv_istore_n (lv' := [(3, .int (1 : Int32)), (2, .int (0 : Int32)), (0, .ref (ad 0)), (1, .int a1)]) hx hb dX3_listDivisors_3 rfl hl (by decide) rfl (fun ls hl => ?_)
  exact C4 fu a1 (0 : Int32) (1 : Int32) w hf _ _ _ hP hD hS (lv_sub hl [2, 3, 1, 0] rfl)
set_option maxHeartbeats 4000000 in
set_option maxRecDepth 100000 in
theorem k_xf_G_addPart (l : Launch) (dC : Nat → ClassId) (dI : Nat → Nat → Nat) (cI cZ cG : ClassId) (ad : Nat → Nat) (sz : Nat) (w : xW) (g : Nat) (hg : g < 6) (a1 : Int32) (w0 : xW) (hf : xf_G_addPart g a1 w = some w0) : Met l yX1_addPart wsX1_addPart ({ frames := 1, cells := 0, slots := 0, locals := 20 } : Room) (va_Pc [.ref (ad (12 + 5 * g)), .int a1] (xPre dC dI cI cZ cG ad sz w)) (va_Qv (fun (u : xW) => u = w0) (xB dC dI cI cZ cG ad (xA ad sz)) (xA ad sz)) 0 0 (xA ad sz) := by
  refine Met.ofW (cc := cX1_addPart) (maxL := 2) (ret := none) (by decide) rfl ?_
  intro p e s m args below meth c s₁ B hml hv
  obtain ⟨rfl, hsz, hP, hK, hD0, hN⟩ := hv
  have hx := B.exec
  have hb := B.bytes
  have hr := B.returns
  have hts := atoms_spec (ws := wsX1_addPart) B.pre
  have hown : s.vm.findClass RX1 = some m.cls := findClass_of_methodNamed B.named
  have hlocks := B.notSynchronized
  have inX1 : ∀ w ∈ u_ws RX1 TX1 12, w ∈ wsX1_addPart := by decide +kernel
  subst hsz
  have hD : va_D (xA ad s.heap.size) (xc cI cG ad w) := xD_self hD0
  have hAA : ∀ z q, s.heap.size ≤ z → xA ad z q → xA ad s.heap.size q := xA_mono
  generalize xA ad s.heap.size = A at hD hAA ⊢
  have hS : va_S A s.heap s.heap [] := va_S.rf
  have hl := lv_entry ([.ref (ad (12 + 5 * g)), .int a1]) (n := 2) (Nat.le_of_ble_eq_true rfl)
  rw [lg_entry_eq]
  generalize (lg_sl ([.ref (ad (12 + 5 * g)), .int a1]) ++ List.replicate (2 - (lg_sl ([.ref (ad (12 + 5 * g)), .int a1])).length) Slot.unset).toArray = ls at hl ⊢
  have hl : lv_has ls 2 [(0, .ref (ad (12 + 5 * g))), (1, .int a1)] := hl
  unfold xf_G_addPart at hf
  refine lv_iload_n hx hb dX1_addPart_0 rfl (lv_at hl 1 rfl) ?_
  refine lv_if_lt (tgt := 43) hx hb dX1_addPart_1 (by decide) (fun h1 => ?_) (fun h1 => ?_)
  · have hf := if_t h1 hf
    exact x_vret hx hb hr hlocks hK hP hD hS (so_1 hf) dX1_addPart_43
  · have hf := if_f h1 hf
    refine lv_iload_n hx hb dX1_addPart_4 rfl (lv_at hl 1 rfl) ?_
    refine lv_aload_n hx hb dX1_addPart_5 rfl (lv_at hl 0 rfl) ?_
    refine va_get (D := (dC, dI)) (ci := 1) (v := .ref (ad (13 + 5 * g))) (C := RX1) (T := TX1) (N := 12) hx hb hts inX1 hown hK hP (12 + 5 * g) (xc_o hg) rfl 2 (by decide) (hts (.fieldLink RX1 9 "BittenBoards$Game" "takenBy" "[I") (by decide +kernel)) (fun _ h9 => h9) rfl dX1_addPart_6 ?_
    refine va_alen (v := (15 : Int32)) hx hb hK hP (13 + 5 * g) 0 (xc_r0 hg) rfl (by rfl) dX1_addPart_9 ?_
    refine lv_icmp_ge (tgt := 43) hx hb dX1_addPart_10 (by decide) (fun h10 => ?_) (fun h10 => ?_)
    · have hf := if_t h10 hf
      exact x_vret hx hb hr hlocks hK hP hD hS (so_1 hf) dX1_addPart_43
    · have hf := if_f h10 hf
      refine lv_aload_n hx hb dX1_addPart_13 rfl (lv_at hl 0 rfl) ?_
      refine va_get (D := (dC, dI)) (ci := 1) (v := .ref (ad (13 + 5 * g))) (C := RX1) (T := TX1) (N := 12) hx hb hts inX1 hown hK hP (12 + 5 * g) (xc_o hg) rfl 2 (by decide) (hts (.fieldLink RX1 9 "BittenBoards$Game" "takenBy" "[I") (by decide +kernel)) (fun _ h9 => h9) rfl dX1_addPart_14 ?_
      refine lv_iload_n hx hb dX1_addPart_17 rfl (lv_at hl 1 rfl) ?_
      refine lv_iconst (v := (1 : Int32)) hx hb dX1_addPart_18 (by decide) ?_
      refine lv_iload_n hx hb dX1_addPart_19 rfl (lv_at hl 1 rfl) ?_
      refine lv_ishl hx hb dX1_addPart_20 ?_
      obtain ⟨hg21, hf⟩ := gi_e hf
      obtain ⟨w_21, ew_21, hf⟩ := nm_x hf
      refine va_iast (f := (w.2.2.2.1 0 g)) hx hb hK hP hD hS (13 + 5 * g) 0 (xc_r0 hg) rfl hg21 dX1_addPart_21 (fun H locs hP hD hS => ?_)
      have hP : va_P (dC, dI) vwCl (xc cI cG ad w_21) H := hP.eqs (by rw [ew_21]; exact xs_r0 hg _ _)
      have hD : va_D A (xc cI cG ad w_21) := hD.eqs (by rw [ew_21]; exact xs_r0 hg _ _)
      refine lv_aload_n hx hb dX1_addPart_22 rfl (lv_at hl 0 rfl) ?_
      refine lv_dup hx hb dX1_addPart_23 rfl ?_
      refine va_get (D := (dC, dI)) (ci := 1) (v := .int (w_21.2.2.1 2 g)) (C := RX1) (T := TX1) (N := 12) hx hb hts inX1 hown hK hP (12 + 5 * g) (xc_o hg) rfl 8 (by decide) (hts (.fieldLink RX1 40 "BittenBoards$Game" "whole" "I") (by decide +kernel)) (fun _ h9 => h9) rfl dX1_addPart_24 ?_
      refine lv_iconst (v := (1 : Int32)) hx hb dX1_addPart_27 (by decide) ?_
      refine lv_iload_n hx hb dX1_addPart_28 rfl (lv_at hl 1 rfl) ?_
      refine lv_ishl hx hb dX1_addPart_29 ?_
      refine lv_ior hx hb dX1_addPart_30 ?_
      obtain ⟨w_31, ew_31, hf⟩ := nm_x hf
      refine va_put (D := (dC, dI)) (ci := 1) (v := .int ((w_21.2.2.1 2 g) ||| ((1 : Int32) <<< (a1 &&& 31)))) (ty := .int) (C := RX1) (T := TX1) (N := 12) hx hb hts inX1 tyX1 tyX1_ok nmX1 hown hK hP hD hS (12 + 5 * g) (xc_o hg) rfl 8 (by decide) (hts (.fieldLink RX1 40 "BittenBoards$Game" "whole" "I") (by decide +kernel)) (fun _ h9 => h9) rfl (by decide +kernel) rfl rfl (Nat.le_of_ble_eq_true rfl) dX1_addPart_31 (fun H locs hP hD hS => ?_)
      have hP : va_P (dC, dI) vwCl (xc cI cG ad w_31) H := hP.eqs (by rw [ew_31]; exact xs_o2 hg _ _)
      have hD : va_D A (xc cI cG ad w_31) := hD.eqs (by rw [ew_31]; exact xs_o2 hg _ _)
      refine lv_aload_n hx hb dX1_addPart_34 rfl (lv_at hl 0 rfl) ?_
      refine lv_iconst (v := (0 : Int32)) hx hb dX1_addPart_35 (by decide) ?_
      obtain ⟨hg36, hf⟩ := gd_e hf
      obtain ⟨w_36, ew_36, hf⟩ := nm_x hf
      refine va_put (D := (dC, dI)) (ci := 1) (v := .int (0 : Int32)) (ty := .boolean) (C := RX1) (T := TX1) (N := 12) hx hb hts inX1 tyX1 tyX1_ok nmX1 hown hK hP hD hS (12 + 5 * g) (xc_o hg) rfl 11 (by decide) (hts (.fieldLink RX1 43 "BittenBoards$Game" "isSolved" "Z") (by decide +kernel)) (fun _ h9 => h9) rfl (by decide +kernel) (isB_nar hg36) (isB_fit hg36) (Nat.le_of_ble_eq_true rfl) dX1_addPart_36 (fun H locs hP hD hS => ?_)
      have hP : va_P (dC, dI) vwCl (xc cI cG ad w_36) H := hP.eqs (by rw [ew_36]; exact xs_o5 hg _ _)
      have hD : va_D A (xc cI cG ad w_36) := hD.eqs (by rw [ew_36]; exact xs_o5 hg _ _)
      refine lv_aload_n hx hb dX1_addPart_39 rfl (lv_at hl 0 rfl) ?_
      obtain ⟨w_40, hc40, hf⟩ := bn_e hf
      refine x_callv hD hS hAA (va_runV (As := []) (rest := []) ⟨hx, hb, hml, hown, hts⟩ (k_xf_G_restart l dC dI cI cZ cG ad H.size w_36 g hg w_40 hc40) (cwV 0 hts gX1_addPart_X1_restart rfl rfl rfl (by decide +kernel) ⟨Nat.le_of_ble_eq_true rfl, Nat.le_of_ble_eq_true rfl⟩) ⟨x_blind, va_recv hK hP (ci := 1) (q0 := (12 + 5 * g)) rfl (xc_o hg), fun U hU hW => x_pre hU hW hK hP hD hN⟩ rfl rfl hl.1 rfl (lv_room (Nat.le_of_ble_eq_true rfl)) dX1_addPart_40 ⟨Nat.zero_le _, Nat.zero_le _⟩) (fun H locs hP hD hS => ?_)
      exact x_vret hx hb hr hlocks hK hP hD hS (so_1 hf) dX1_addPart_43
set_option maxHeartbeats 4000000 in
set_option maxRecDepth 100000 in
theorem k_xf_G_takesAlong (l : Launch) (dC : Nat → ClassId) (dI : Nat → Nat → Nat) (cI cZ cG : ClassId) (ad : Nat → Nat) (sz : Nat) (w : xW) (g : Nat) (hg : g < 6) (a1 : Int32) (a2 : Int32) (r0 : Int32) (w0 : xW) (hf : xf_G_takesAlong g a1 a2 w = some r0) (hw0 : w = w0) : Met l yX1_takesAlong wsX1_takesAlong ({ frames := 1, cells := 0, slots := 0, locals := 21 } : Room) (va_Pc [.ref (ad (12 + 5 * g)), .int a1, .int a2] (xPre dC dI cI cZ cG ad sz w)) (va_Qi (fun (r : Int32) (u : xW) => r = r0 ∧ u = w0) (xB dC dI cI cZ cG ad (xA ad sz)) (xA ad sz)) 0 0 (xA ad sz) := by
  refine Met.ofW (cc := cX1_takesAlong) (maxL := 3) (ret := (some .boolean)) (by decide) rfl ?_
  intro p e s m args below meth c s₁ B hml hv
  obtain ⟨rfl, hsz, hP, hK, hD0, hN⟩ := hv
  have hx := B.exec
  have hb := B.bytes
  have hr := B.returns
  have hts := atoms_spec (ws := wsX1_takesAlong) B.pre
  have hown : s.vm.findClass RX1 = some m.cls := findClass_of_methodNamed B.named
  have hlocks := B.notSynchronized
  have inX1 : ∀ w ∈ u_ws RX1 TX1 12, w ∈ wsX1_takesAlong := by decide +kernel
  subst hsz
  have hD : va_D (xA ad s.heap.size) (xc cI cG ad w) := xD_self hD0
  have hAA : ∀ z q, s.heap.size ≤ z → xA ad z q → xA ad s.heap.size q := xA_mono
  generalize xA ad s.heap.size = A at hD hAA ⊢
  have hS : va_S A s.heap s.heap [] := va_S.rf
  have hl := lv_entry ([.ref (ad (12 + 5 * g)), .int a1, .int a2]) (n := 3) (Nat.le_of_ble_eq_true rfl)
  rw [lg_entry_eq]
  generalize (lg_sl ([.ref (ad (12 + 5 * g)), .int a1, .int a2]) ++ List.replicate (3 - (lg_sl ([.ref (ad (12 + 5 * g)), .int a1, .int a2])).length) Slot.unset).toArray = ls at hl ⊢
  have hl : lv_has ls 3 [(0, .ref (ad (12 + 5 * g))), (1, .int a1), (2, .int a2)] := hl
  unfold xf_G_takesAlong at hf
  refine lv_aload_n hx hb dX1_takesAlong_0 rfl (lv_at hl 0 rfl) ?_
  refine va_get (D := (dC, dI)) (ci := 1) (v := .ref (ad (13 + 5 * g))) (C := RX1) (T := TX1) (N := 12) hx hb hts inX1 hown hK hP (12 + 5 * g) (xc_o hg) rfl 2 (by decide) (hts (.fieldLink RX1 9 "BittenBoards$Game" "takenBy" "[I") (by decide +kernel)) (fun _ h9 => h9) rfl dX1_takesAlong_1 ?_
  refine lv_iload_n hx hb dX1_takesAlong_4 rfl (lv_at hl 1 rfl) ?_
  obtain ⟨r_5, hc5, hf⟩ := bn_e hf
  refine x_calli hD hS hAA (va_runSN (host := "BittenBoards") (As := [.ref (ad (13 + 5 * g)), .int a1]) (rest := []) ⟨hx, hb, hml, hown, hts⟩ (k_xf_C_at l dC dI cI cZ cG ad s.heap.size w 15 (w.2.2.2.1 0 g) (ad (13 + 5 * g)) (13 + 5 * g) (xc_r0 hg) a1 r_5 w hc5 rfl) ⟨va_cnB (host := "BittenBoards") 2 hts gX1_takesAlong_X3_at_n60 rfl rfl rfl (hN (.methodLinkNest RX1 60 yX3_at "BittenBoards") (by decide +kernel)) (hts (.initialized RX3) (by decide +kernel)) (by decide +kernel) ⟨Nat.le_of_ble_eq_true rfl, Nat.le_of_ble_eq_true rfl⟩, hts (.static yX3_at) (by decide +kernel), trivial⟩ ⟨x_blind, fun U hU hW => x_pre hU hW hK hP hD hN⟩ rfl rfl hl.1 rfl (lv_room (Nat.le_of_ble_eq_true rfl)) dX1_takesAlong_5 ⟨Nat.zero_le _, Nat.zero_le _⟩) (fun H locs hP hD hS => ?_)
  refine lv_iload_n hx hb dX1_takesAlong_8 rfl (lv_at hl 2 rfl) ?_
  refine lv_ishr hx hb dX1_takesAlong_9 ?_
  refine lv_iconst (v := (1 : Int32)) hx hb dX1_takesAlong_10 (by decide) ?_
  refine lv_iand hx hb dX1_takesAlong_11 ?_
  refine lv_if_eq (tgt := 19) hx hb dX1_takesAlong_12 (by decide) (fun h12 => ?_) (fun h12 => ?_)
  · have hf := if_t h12 hf
    refine lv_iconst (v := (0 : Int32)) hx hb dX1_takesAlong_19 (by decide) ?_
    obtain ⟨hg20, hf⟩ := gd_e hf
    exact x_zret hx hb hr hlocks hg20 hK hP hD hS ⟨so_1 hf, hw0⟩ dX1_takesAlong_20
  · have hf := if_f h12 hf
    refine lv_iconst (v := (1 : Int32)) hx hb dX1_takesAlong_15 (by decide) ?_
    refine lv_goto (tgt := 20) hx hb dX1_takesAlong_16 (by decide) ?_
    obtain ⟨hg20, hf⟩ := gd_e hf
    exact x_zret hx hb hr hlocks hg20 hK hP hD hS ⟨so_1 hf, hw0⟩ dX1_takesAlong_20
set_option maxHeartbeats 4000000 in
set_option maxRecDepth 100000 in
theorem k_xf_J_bitCount (l : Launch) (dC : Nat → ClassId) (dI : Nat → Nat → Nat) (cI cZ cG : ClassId) (ad : Nat → Nat) (sz : Nat) (w : xW) (a0 : Int32) (r0 : Int32) (w0 : xW) (hf : xf_J_bitCount a0 = some r0) (hw0 : w = w0) : Met l yJ6_bitCount_0f7a4 wsJ6_bitCount_0f7a4 ({ frames := 0, cells := 0, slots := 0, locals := 0 } : Room) (va_Pc [.int a0] (xPre dC dI cI cZ cG ad sz w)) (va_Qi (fun (r : Int32) (u : xW) => r = r0 ∧ u = w0) (xB dC dI cI cZ cG ad (xA ad sz)) (xA ad sz)) 0 0 (xA ad sz) := by
  refine Met.ofW (cc := cJ6_bitCount_0f7a4) (maxL := 1) (ret := (some .int)) (by decide) rfl ?_
  intro p e s m args below meth c s₁ B hml hv
  obtain ⟨rfl, hsz, hP, hK, hD0, hN⟩ := hv
  have hx := B.exec
  have hb := B.bytes
  have hr := B.returns
  have hts := atoms_spec (ws := wsJ6_bitCount_0f7a4) B.pre
  have hown : s.vm.findClass RJ6 = some m.cls := findClass_of_methodNamed B.named
  have hlocks := B.notSynchronized
  subst hsz
  have hD : va_D (xA ad s.heap.size) (xc cI cG ad w) := xD_self hD0
  have hAA : ∀ z q, s.heap.size ≤ z → xA ad z q → xA ad s.heap.size q := xA_mono
  generalize xA ad s.heap.size = A at hD hAA ⊢
  have hS : va_S A s.heap s.heap [] := va_S.rf
  have hl := lv_entry ([.int a0]) (n := 1) (Nat.le_of_ble_eq_true rfl)
  rw [lg_entry_eq]
  generalize (lg_sl ([.int a0]) ++ List.replicate (1 - (lg_sl ([.int a0])).length) Slot.unset).toArray = ls at hl ⊢
  have hl : lv_has ls 1 [(0, .int a0)] := hl
  unfold xf_J_bitCount at hf
  refine lv_iload_n hx hb dJ6_bitCount_0f7a4_0 rfl (lv_at hl 0 rfl) ?_
  refine lv_iload_n hx hb dJ6_bitCount_0f7a4_1 rfl (lv_at hl 0 rfl) ?_
  refine lv_iconst (v := (1 : Int32)) hx hb dJ6_bitCount_0f7a4_2 (by decide) ?_
  refine lv_iushr hx hb dJ6_bitCount_0f7a4_3 rfl ?_
  refine lv_ldcw (v := (1431655765 : Int32)) hx hb hown (hts (.constant RJ6 265 (1431655765 : Int32)) (by decide +kernel)) dJ6_bitCount_0f7a4_4 ?_
  refine lv_iand hx hb dJ6_bitCount_0f7a4_7 ?_
  refine lv_isub hx hb dJ6_bitCount_0f7a4_8 ?_
  obtain ⟨x0_9, ex0_9, hf⟩ := nm_x hf
  refine W.eq (g2 := F0 m 9 ls [.int x0_9]) (by rw [ex0_9]) ?_
  refine lv_istore_n (lv' := [(0, .int x0_9)]) hx hb dJ6_bitCount_0f7a4_9 rfl hl (by decide) rfl (fun ls hl => ?_)
  refine lv_iload_n hx hb dJ6_bitCount_0f7a4_10 rfl (lv_at hl 0 rfl) ?_
  refine lv_ldcw (v := (858993459 : Int32)) hx hb hown (hts (.constant RJ6 266 (858993459 : Int32)) (by decide +kernel)) dJ6_bitCount_0f7a4_11 ?_
  refine lv_iand hx hb dJ6_bitCount_0f7a4_14 ?_
  refine lv_iload_n hx hb dJ6_bitCount_0f7a4_15 rfl (lv_at hl 0 rfl) ?_
  refine lv_iconst (v := (2 : Int32)) hx hb dJ6_bitCount_0f7a4_16 (by decide) ?_
  refine lv_iushr hx hb dJ6_bitCount_0f7a4_17 rfl ?_
  refine lv_ldcw (v := (858993459 : Int32)) hx hb hown (hts (.constant RJ6 266 (858993459 : Int32)) (by decide +kernel)) dJ6_bitCount_0f7a4_18 ?_
  refine lv_iand hx hb dJ6_bitCount_0f7a4_21 ?_
  refine lv_iadd hx hb dJ6_bitCount_0f7a4_22 ?_
  obtain ⟨x0_23, ex0_23, hf⟩ := nm_x hf
  refine W.eq (g2 := F0 m 23 ls [.int x0_23]) (by rw [ex0_23]) ?_
  refine lv_istore_n (lv' := [(0, .int x0_23)]) hx hb dJ6_bitCount_0f7a4_23 rfl hl (by decide) rfl (fun ls hl => ?_)
  refine lv_iload_n hx hb dJ6_bitCount_0f7a4_24 rfl (lv_at hl 0 rfl) ?_
  refine lv_iload_n hx hb dJ6_bitCount_0f7a4_25 rfl (lv_at hl 0 rfl) ?_
  refine lv_iconst (v := (4 : Int32)) hx hb dJ6_bitCount_0f7a4_26 (by decide) ?_
  refine lv_iushr hx hb dJ6_bitCount_0f7a4_27 rfl ?_
  refine lv_iadd hx hb dJ6_bitCount_0f7a4_28 ?_
  refine lv_ldcw (v := (252645135 : Int32)) hx hb hown (hts (.constant RJ6 267 (252645135 : Int32)) (by decide +kernel)) dJ6_bitCount_0f7a4_29 ?_
  refine lv_iand hx hb dJ6_bitCount_0f7a4_32 ?_
  obtain ⟨x0_33, ex0_33, hf⟩ := nm_x hf
  refine W.eq (g2 := F0 m 33 ls [.int x0_33]) (by rw [ex0_33]) ?_
  refine lv_istore_n (lv' := [(0, .int x0_33)]) hx hb dJ6_bitCount_0f7a4_33 rfl hl (by decide) rfl (fun ls hl => ?_)
  refine lv_iload_n hx hb dJ6_bitCount_0f7a4_34 rfl (lv_at hl 0 rfl) ?_
  refine lv_iload_n hx hb dJ6_bitCount_0f7a4_35 rfl (lv_at hl 0 rfl) ?_
  refine lv_bipush (v := (8 : Int32)) hx hb dJ6_bitCount_0f7a4_36 (by decide) ?_
  refine lv_iushr hx hb dJ6_bitCount_0f7a4_38 rfl ?_
  refine lv_iadd hx hb dJ6_bitCount_0f7a4_39 ?_
  obtain ⟨x0_40, ex0_40, hf⟩ := nm_x hf
  refine W.eq (g2 := F0 m 40 ls [.int x0_40]) (by rw [ex0_40]) ?_
  refine lv_istore_n (lv' := [(0, .int x0_40)]) hx hb dJ6_bitCount_0f7a4_40 rfl hl (by decide) rfl (fun ls hl => ?_)
  refine lv_iload_n hx hb dJ6_bitCount_0f7a4_41 rfl (lv_at hl 0 rfl) ?_
  refine lv_iload_n hx hb dJ6_bitCount_0f7a4_42 rfl (lv_at hl 0 rfl) ?_
  refine lv_bipush (v := (16 : Int32)) hx hb dJ6_bitCount_0f7a4_43 (by decide) ?_
  refine lv_iushr hx hb dJ6_bitCount_0f7a4_45 rfl ?_
  refine lv_iadd hx hb dJ6_bitCount_0f7a4_46 ?_
  obtain ⟨x0_47, ex0_47, hf⟩ := nm_x hf
  refine W.eq (g2 := F0 m 47 ls [.int x0_47]) (by rw [ex0_47]) ?_
  refine lv_istore_n (lv' := [(0, .int x0_47)]) hx hb dJ6_bitCount_0f7a4_47 rfl hl (by decide) rfl (fun ls hl => ?_)
  refine lv_iload_n hx hb dJ6_bitCount_0f7a4_48 rfl (lv_at hl 0 rfl) ?_
  refine lv_bipush (v := (63 : Int32)) hx hb dJ6_bitCount_0f7a4_49 (by decide) ?_
  refine lv_iand hx hb dJ6_bitCount_0f7a4_51 ?_
  exact x_iret hx hb hr hlocks hK hP hD hS ⟨so_1 hf, hw0⟩ dJ6_bitCount_0f7a4_52
set_option maxHeartbeats 4000000 in
set_option maxRecDepth 100000 in
theorem k_xf_G_countThings (l : Launch) (dC : Nat → ClassId) (dI : Nat → Nat → Nat) (cI cZ cG : ClassId) (ad : Nat → Nat) (sz : Nat) (w : xW) (g : Nat) (hg : g < 6) (r0 : Int32) (w0 : xW) (hf : xf_G_countThings g w = some r0) (hw0 : w = w0) : Met l yX1_countThings wsX1_countThings ({ frames := 1, cells := 0, slots := 0, locals := 20 } : Room) (va_Pc [.ref (ad (12 + 5 * g))] (xPre dC dI cI cZ cG ad sz w)) (va_Qi (fun (r : Int32) (u : xW) => r = r0 ∧ u = w0) (xB dC dI cI cZ cG ad (xA ad sz)) (xA ad sz)) 0 0 (xA ad sz) := by
  refine Met.ofW (cc := cX1_countThings) (maxL := 1) (ret := (some .int)) (by decide) rfl ?_
  intro p e s m args below meth c s₁ B hml hv
  obtain ⟨rfl, hsz, hP, hK, hD0, hN⟩ := hv
  have hx := B.exec
  have hb := B.bytes
  have hr := B.returns
  have hts := atoms_spec (ws := wsX1_countThings) B.pre
  have hown : s.vm.findClass RX1 = some m.cls := findClass_of_methodNamed B.named
  have hlocks := B.notSynchronized
  have inX1 : ∀ w ∈ u_ws RX1 TX1 12, w ∈ wsX1_countThings := by decide +kernel
  subst hsz
  have hD : va_D (xA ad s.heap.size) (xc cI cG ad w) := xD_self hD0
  have hAA : ∀ z q, s.heap.size ≤ z → xA ad z q → xA ad s.heap.size q := xA_mono
  generalize xA ad s.heap.size = A at hD hAA ⊢
  have hS : va_S A s.heap s.heap [] := va_S.rf
  have hl := lv_entry ([.ref (ad (12 + 5 * g))]) (n := 1) (Nat.le_of_ble_eq_true rfl)
  rw [lg_entry_eq]
  generalize (lg_sl ([.ref (ad (12 + 5 * g))]) ++ List.replicate (1 - (lg_sl ([.ref (ad (12 + 5 * g))])).length) Slot.unset).toArray = ls at hl ⊢
  have hl : lv_has ls 1 [(0, .ref (ad (12 + 5 * g)))] := hl
  unfold xf_G_countThings at hf
  refine lv_aload_n hx hb dX1_countThings_0 rfl (lv_at hl 0 rfl) ?_
  refine va_get (D := (dC, dI)) (ci := 1) (v := .int (w.2.2.1 2 g)) (C := RX1) (T := TX1) (N := 12) hx hb hts inX1 hown hK hP (12 + 5 * g) (xc_o hg) rfl 8 (by decide) (hts (.fieldLink RX1 40 "BittenBoards$Game" "whole" "I") (by decide +kernel)) (fun _ h9 => h9) rfl dX1_countThings_1 ?_
  obtain ⟨r_4, hc4, hf⟩ := bn_e hf
  refine x_calli hD hS hAA (va_runS (As := [.int (w.2.2.1 2 g)]) (rest := []) ⟨hx, hb, hml, hown, hts⟩ (k_xf_J_bitCount l dC dI cI cZ cG ad s.heap.size w (w.2.2.1 2 g) r_4 w hc4 rfl) (va_cwS 1 hts gX1_countThings_J6_bitCount_0f7a4 rfl rfl rfl (by decide +kernel) ⟨Nat.le_of_ble_eq_true rfl, Nat.le_of_ble_eq_true rfl⟩) ⟨x_blind, fun U hU hW => x_pre hU hW hK hP hD hN⟩ rfl rfl hl.1 rfl (lv_room (Nat.le_of_ble_eq_true rfl)) dX1_countThings_4 ⟨Nat.zero_le _, Nat.zero_le _⟩) (fun H locs hP hD hS => ?_)
  exact x_iret hx hb hr hlocks hK hP hD hS ⟨so_1 hf, hw0⟩ dX1_countThings_7
set_option maxHeartbeats 4000000 in
set_option maxRecDepth 100000 in
theorem k_xf_G_hasThing (l : Launch) (dC : Nat → ClassId) (dI : Nat → Nat → Nat) (cI cZ cG : ClassId) (ad : Nat → Nat) (sz : Nat) (w : xW) (g : Nat) (hg : g < 6) (a1 : Int32) (r0 : Int32) (w0 : xW) (hf : xf_G_hasThing g a1 w = some r0) (hw0 : w = w0) : Met l yX1_hasThing wsX1_hasThing ({ frames := 2, cells := 0, slots := 0, locals := 40 } : Room) (va_Pc [.ref (ad (12 + 5 * g)), .int a1] (xPre dC dI cI cZ cG ad sz w)) (va_Qi (fun (r : Int32) (u : xW) => r = r0 ∧ u = w0) (xB dC dI cI cZ cG ad (xA ad sz)) (xA ad sz)) 0 0 (xA ad sz) := by
  refine Met.ofW (cc := cX1_hasThing) (maxL := 2) (ret := (some .boolean)) (by decide) rfl ?_
  intro p e s m args below meth c s₁ B hml hv
  obtain ⟨rfl, hsz, hP, hK, hD0, hN⟩ := hv
  have hx := B.exec
  have hb := B.bytes
  have hr := B.returns
  have hts := atoms_spec (ws := wsX1_hasThing) B.pre
  have hown : s.vm.findClass RX1 = some m.cls := findClass_of_methodNamed B.named
  have hlocks := B.notSynchronized
  subst hsz
  have hD : va_D (xA ad s.heap.size) (xc cI cG ad w) := xD_self hD0
  have hAA : ∀ z q, s.heap.size ≤ z → xA ad z q → xA ad s.heap.size q := xA_mono
  generalize xA ad s.heap.size = A at hD hAA ⊢
  have hS : va_S A s.heap s.heap [] := va_S.rf
  have hl := lv_entry ([.ref (ad (12 + 5 * g)), .int a1]) (n := 2) (Nat.le_of_ble_eq_true rfl)
  rw [lg_entry_eq]
  generalize (lg_sl ([.ref (ad (12 + 5 * g)), .int a1]) ++ List.replicate (2 - (lg_sl ([.ref (ad (12 + 5 * g)), .int a1])).length) Slot.unset).toArray = ls at hl ⊢
  have hl : lv_has ls 2 [(0, .ref (ad (12 + 5 * g))), (1, .int a1)] := hl
  unfold xf_G_hasThing at hf
  refine lv_iload_n hx hb dX1_hasThing_0 rfl (lv_at hl 1 rfl) ?_
  refine lv_if_lt (tgt := 16) hx hb dX1_hasThing_1 (by decide) (fun h1 => ?_) (fun h1 => ?_)
  · have hf := if_t h1 hf
    refine lv_iconst (v := (0 : Int32)) hx hb dX1_hasThing_16 (by decide) ?_
    obtain ⟨hg17, hf⟩ := gd_e hf
    exact x_zret hx hb hr hlocks hg17 hK hP hD hS ⟨so_1 hf, hw0⟩ dX1_hasThing_17
  · have hf := if_f h1 hf
    refine lv_iload_n hx hb dX1_hasThing_4 rfl (lv_at hl 1 rfl) ?_
    refine lv_aload_n hx hb dX1_hasThing_5 rfl (lv_at hl 0 rfl) ?_
    obtain ⟨r_6, hc6, hf⟩ := bn_e hf
    refine x_calli hD hS hAA (va_runV (As := []) (rest := [.int a1]) ⟨hx, hb, hml, hown, hts⟩ (k_xf_G_countThings l dC dI cI cZ cG ad s.heap.size w g hg r_6 w hc6 rfl) (cwV 0 hts gX1_hasThing_X1_countThings rfl rfl rfl (by decide +kernel) ⟨Nat.le_of_ble_eq_true rfl, Nat.le_of_ble_eq_true rfl⟩) ⟨x_blind, va_recv hK hP (ci := 1) (q0 := (12 + 5 * g)) rfl (xc_o hg), fun U hU hW => x_pre hU hW hK hP hD hN⟩ rfl rfl hl.1 rfl (lv_room (Nat.le_of_ble_eq_true rfl)) dX1_hasThing_6 ⟨Nat.zero_le _, Nat.zero_le _⟩) (fun H locs hP hD hS => ?_)
    refine lv_icmp_ge (tgt := 16) hx hb dX1_hasThing_9 (by decide) (fun h9 => ?_) (fun h9 => ?_)
    · have hf := if_t h9 hf
      refine lv_iconst (v := (0 : Int32)) hx hb dX1_hasThing_16 (by decide) ?_
      obtain ⟨hg17, hf⟩ := gd_e hf
      exact x_zret hx hb hr hlocks hg17 hK hP hD hS ⟨so_1 hf, hw0⟩ dX1_hasThing_17
    · have hf := if_f h9 hf
      refine lv_iconst (v := (1 : Int32)) hx hb dX1_hasThing_12 (by decide) ?_
      refine lv_goto (tgt := 17) hx hb dX1_hasThing_13 (by decide) ?_
      obtain ⟨hg17, hf⟩ := gd_e hf
      exact x_zret hx hb hr hlocks hg17 hK hP hD hS ⟨so_1 hf, hw0⟩ dX1_hasThing_17
set_option maxHeartbeats 4000000 in
set_option maxRecDepth 100000 in
theorem k_xf_G_takeAlong (l : Launch) (dC : Nat → ClassId) (dI : Nat → Nat → Nat) (cI cZ cG : ClassId) (ad : Nat → Nat) (sz : Nat) (w : xW) (g : Nat) (hg : g < 6) (a1 : Int32) (a2 : Int32) (w0 : xW) (hf : xf_G_takeAlong g a1 a2 w = some w0) : Met l yX1_takeAlong wsX1_takeAlong ({ frames := 0, cells := 0, slots := 0, locals := 0 } : Room) (va_Pc [.ref (ad (12 + 5 * g)), .int a1, .int a2] (xPre dC dI cI cZ cG ad sz w)) (va_Qv (fun (u : xW) => u = w0) (xB dC dI cI cZ cG ad (xA ad sz)) (xA ad sz)) 0 0 (xA ad sz) := by
  refine Met.ofW (cc := cX1_takeAlong) (maxL := 3) (ret := none) (by decide) rfl ?_
  intro p e s m args below meth c s₁ B hml hv
  obtain ⟨rfl, hsz, hP, hK, hD0, hN⟩ := hv
  have hx := B.exec
  have hb := B.bytes
  have hr := B.returns
  have hts := atoms_spec (ws := wsX1_takeAlong) B.pre
  have hown : s.vm.findClass RX1 = some m.cls := findClass_of_methodNamed B.named
  have hlocks := B.notSynchronized
  have inX1 : ∀ w ∈ u_ws RX1 TX1 12, w ∈ wsX1_takeAlong := by decide +kernel
  subst hsz
  have hD : va_D (xA ad s.heap.size) (xc cI cG ad w) := xD_self hD0
  have hAA : ∀ z q, s.heap.size ≤ z → xA ad z q → xA ad s.heap.size q := xA_mono
  generalize xA ad s.heap.size = A at hD hAA ⊢
  have hS : va_S A s.heap s.heap [] := va_S.rf
  have hl := lv_entry ([.ref (ad (12 + 5 * g)), .int a1, .int a2]) (n := 3) (Nat.le_of_ble_eq_true rfl)
  rw [lg_entry_eq]
  generalize (lg_sl ([.ref (ad (12 + 5 * g)), .int a1, .int a2]) ++ List.replicate (3 - (lg_sl ([.ref (ad (12 + 5 * g)), .int a1, .int a2])).length) Slot.unset).toArray = ls at hl ⊢
  have hl : lv_has ls 3 [(0, .ref (ad (12 + 5 * g))), (1, .int a1), (2, .int a2)] := hl
  unfold xf_G_takeAlong at hf
  refine lv_iload_n hx hb dX1_takeAlong_0 rfl (lv_at hl 1 rfl) ?_
  refine lv_if_lt (tgt := 23) hx hb dX1_takeAlong_1 (by decide) (fun h1 => ?_) (fun h1 => ?_)
  · have hf := if_t h1 hf
    exact x_vret hx hb hr hlocks hK hP hD hS (so_1 hf) dX1_takeAlong_23
  · have hf := if_f h1 hf
    refine lv_iload_n hx hb dX1_takeAlong_4 rfl (lv_at hl 1 rfl) ?_
    refine lv_aload_n hx hb dX1_takeAlong_5 rfl (lv_at hl 0 rfl) ?_
    refine va_get (D := (dC, dI)) (ci := 1) (v := .ref (ad (13 + 5 * g))) (C := RX1) (T := TX1) (N := 12) hx hb hts inX1 hown hK hP (12 + 5 * g) (xc_o hg) rfl 2 (by decide) (hts (.fieldLink RX1 9 "BittenBoards$Game" "takenBy" "[I") (by decide +kernel)) (fun _ h9 => h9) rfl dX1_takeAlong_6 ?_
    refine va_alen (v := (15 : Int32)) hx hb hK hP (13 + 5 * g) 0 (xc_r0 hg) rfl (by rfl) dX1_takeAlong_9 ?_
    refine lv_icmp_ge (tgt := 23) hx hb dX1_takeAlong_10 (by decide) (fun h10 => ?_) (fun h10 => ?_)
    · have hf := if_t h10 hf
      exact x_vret hx hb hr hlocks hK hP hD hS (so_1 hf) dX1_takeAlong_23
    · have hf := if_f h10 hf
      refine lv_aload_n hx hb dX1_takeAlong_13 rfl (lv_at hl 0 rfl) ?_
      refine va_get (D := (dC, dI)) (ci := 1) (v := .ref (ad (13 + 5 * g))) (C := RX1) (T := TX1) (N := 12) hx hb hts inX1 hown hK hP (12 + 5 * g) (xc_o hg) rfl 2 (by decide) (hts (.fieldLink RX1 9 "BittenBoards$Game" "takenBy" "[I") (by decide +kernel)) (fun _ h9 => h9) rfl dX1_takeAlong_14 ?_
      refine lv_iload_n hx hb dX1_takeAlong_17 rfl (lv_at hl 1 rfl) ?_
      refine lv_dup2_11 hx hb dX1_takeAlong_18 rfl rfl ?_
      obtain ⟨hg19, hf⟩ := gi_e hf
      refine va_iald (f := (w.2.2.2.1 0 g)) hx hb hK hP (13 + 5 * g) 0 (xc_r0 hg) rfl hg19 dX1_takeAlong_19 ?_
      refine lv_iload_n hx hb dX1_takeAlong_20 rfl (lv_at hl 2 rfl) ?_
      refine lv_ior hx hb dX1_takeAlong_21 ?_
      obtain ⟨hg22, hf⟩ := gi_e hf
      obtain ⟨w_22, ew_22, hf⟩ := nm_x hf
      refine va_iast (f := (w.2.2.2.1 0 g)) hx hb hK hP hD hS (13 + 5 * g) 0 (xc_r0 hg) rfl hg22 dX1_takeAlong_22 (fun H locs hP hD hS => ?_)
      have hP : va_P (dC, dI) vwCl (xc cI cG ad w_22) H := hP.eqs (by rw [ew_22]; exact xs_r0 hg _ _)
      have hD : va_D A (xc cI cG ad w_22) := hD.eqs (by rw [ew_22]; exact xs_r0 hg _ _)
      exact x_vret hx hb hr hlocks hK hP hD hS (so_1 hf) dX1_takeAlong_23
