set_option maxHeartbeats 4000000 in
set_option maxRecDepth 100000 in
theorem k_xf_G_hasPost (l : Launch) (dC : Nat → ClassId) (dI : Nat → Nat → Nat) (cI cZ cG : ClassId) (ad : Nat → Nat) (sz : Nat) (w : xW) (g : Nat) (hg : g < 6) (a1 : Int32) (r0 : Int32) (w0 : xW) (hf : xf_G_hasPost g a1 w = some r0) (hw0 : w = w0) : Met l yX1_hasPost wsX1_hasPost ({ frames := 2, cells := 0, slots := 0, locals := 40 } : Room) (va_Pc [.ref (ad (12 + 5 * g)), .int a1] (xPre dC dI cI cZ cG ad sz w)) (va_Qi (fun (r : Int32) (u : xW) => r = r0 ∧ u = w0) (xB dC dI cI cZ cG ad (xA ad sz)) (xA ad sz)) 0 0 (xA ad sz) := by
  refine Met.ofW (cc := cX1_hasPost) (maxL := 2) (ret := (some .boolean)) (by decide) rfl ?_
  intro p e s m args below meth c s₁ B hml hv
  obtain ⟨rfl, hsz, hP, hK, hD0, hN⟩ := hv
  have hx := B.exec
  have hb := B.bytes
  have hr := B.returns
  have hts := atoms_spec (ws := wsX1_hasPost) B.pre
  have hown : s.vm.findClass RX1 = some m.cls := findClass_of_methodNamed B.named
  have hlocks := B.notSynchronized
  subst hsz
  have hD : va_D (xA ad s.heap.size) (xc cI cG ad w) := xD_self hD0
  have hAA : ∀ z q, s.heap.size ≤ z → xA ad z q → xA ad s.heap.size q := xA_mono
  generalize xA ad s.heap.size = A at hD hAA ⊢
  have hS : va_S A s.heap s.heap [] := va_S.rf
  have hl := lv_entry ([.ref (ad (12 + 5 * g)), .int a1]) (n := 2) (Nat.le_of_ble_eq_true rfl)
  rw [lg_entry_eq]
  generalize (lg_sl ([.ref (ad (12 + 5 * g)), .int a1]) ++ List.replicate (2 - (lg_sl ([.ref (ad (12 + 5 * g)), .int a1])).length) Slot.unset).toArray = ls at hl ⊢
  have hl : lv_has ls 2 [(0, .ref (ad (12 + 5 * g))), (1, .int a1)] := hl
  unfold xf_G_hasPost at hf
  refine lv_iload_n hx hb dX1_hasPost_0 rfl (lv_at hl 1 rfl) ?_
  refine lv_if_lt (tgt := 16) hx hb dX1_hasPost_1 (by decide) (fun h1 => ?_) (fun h1 => ?_)
  · have hf := if_t h1 hf
    refine lv_iconst (v := (0 : Int32)) hx hb dX1_hasPost_16 (by decide) ?_
    obtain ⟨hg17, hf⟩ := gd_e hf
    exact x_zret hx hb hr hlocks hg17 hK hP hD hS ⟨so_1 hf, hw0⟩ dX1_hasPost_17
  · have hf := if_f h1 hf
    refine lv_iload_n hx hb dX1_hasPost_4 rfl (lv_at hl 1 rfl) ?_
    refine lv_aload_n hx hb dX1_hasPost_5 rfl (lv_at hl 0 rfl) ?_
    obtain ⟨r_6, hc6, hf⟩ := bn_e hf
    refine x_calli hD hS hAA (va_runV (As := []) (rest := [.int a1]) ⟨hx, hb, hml, hown, hts⟩ (k_xf_G_countPosts l dC dI cI cZ cG ad s.heap.size w g hg r_6 w hc6 rfl) (cwV 0 hts gX1_hasPost_X1_countPosts rfl rfl rfl (by decide +kernel) ⟨Nat.le_of_ble_eq_true rfl, Nat.le_of_ble_eq_true rfl⟩) ⟨x_blind, va_recv hK hP (ci := 1) (q0 := (12 + 5 * g)) rfl (xc_o hg), fun U hU hW => x_pre hU hW hK hP hD hN⟩ rfl rfl hl.1 rfl (lv_room (Nat.le_of_ble_eq_true rfl)) dX1_hasPost_6 ⟨Nat.zero_le _, Nat.zero_le _⟩) (fun H locs hP hD hS => ?_)
    refine lv_icmp_ge (tgt := 16) hx hb dX1_hasPost_9 (by decide) (fun h9 => ?_) (fun h9 => ?_)
    · have hf := if_t h9 hf
      refine lv_iconst (v := (0 : Int32)) hx hb dX1_hasPost_16 (by decide) ?_
      obtain ⟨hg17, hf⟩ := gd_e hf
      exact x_zret hx hb hr hlocks hg17 hK hP hD hS ⟨so_1 hf, hw0⟩ dX1_hasPost_17
    · have hf := if_f h9 hf
      refine lv_iconst (v := (1 : Int32)) hx hb dX1_hasPost_12 (by decide) ?_
      refine lv_goto (tgt := 17) hx hb dX1_hasPost_13 (by decide) ?_
      obtain ⟨hg17, hf⟩ := gd_e hf
      exact x_zret hx hb hr hlocks hg17 hK hP hD hS ⟨so_1 hf, hw0⟩ dX1_hasPost_17
set_option maxHeartbeats 4000000 in
set_option maxRecDepth 100000 in
theorem k_xf_G_countRoads (l : Launch) (dC : Nat → ClassId) (dI : Nat → Nat → Nat) (cI cZ cG : ClassId) (ad : Nat → Nat) (sz : Nat) (w : xW) (g : Nat) (hg : g < 6) (r0 : Int32) (w0 : xW) (hf : xf_G_countRoads g w = some r0) (hw0 : w = w0) : Met l yX1_countRoads wsX1_countRoads ({ frames := 1, cells := 0, slots := 0, locals := 20 } : Room) (va_Pc [.ref (ad (12 + 5 * g))] (xPre dC dI cI cZ cG ad sz w)) (va_Qi (fun (r : Int32) (u : xW) => r = r0 ∧ u = w0) (xB dC dI cI cZ cG ad (xA ad sz)) (xA ad sz)) 0 0 (xA ad sz) := by
  refine Met.ofW (cc := cX1_countRoads) (maxL := 1) (ret := (some .int)) (by decide) rfl ?_
  intro p e s m args below meth c s₁ B hml hv
  obtain ⟨rfl, hsz, hP, hK, hD0, hN⟩ := hv
  have hx := B.exec
  have hb := B.bytes
  have hr := B.returns
  have hts := atoms_spec (ws := wsX1_countRoads) B.pre
  have hown : s.vm.findClass RX1 = some m.cls := findClass_of_methodNamed B.named
  have hlocks := B.notSynchronized
  have inX1 : ∀ w ∈ u_ws RX1 TX1 12, w ∈ wsX1_countRoads := by decide +kernel
  subst hsz
  have hD : va_D (xA ad s.heap.size) (xc cI cG ad w) := xD_self hD0
  have hAA : ∀ z q, s.heap.size ≤ z → xA ad z q → xA ad s.heap.size q := xA_mono
  generalize xA ad s.heap.size = A at hD hAA ⊢
  have hS : va_S A s.heap s.heap [] := va_S.rf
  have hl := lv_entry ([.ref (ad (12 + 5 * g))]) (n := 1) (Nat.le_of_ble_eq_true rfl)
  rw [lg_entry_eq]
  generalize (lg_sl ([.ref (ad (12 + 5 * g))]) ++ List.replicate (1 - (lg_sl ([.ref (ad (12 + 5 * g))])).length) Slot.unset).toArray = ls at hl ⊢
  have hl : lv_has ls 1 [(0, .ref (ad (12 + 5 * g)))] := hl
  unfold xf_G_countRoads at hf
  refine lv_aload_n hx hb dX1_countRoads_0 rfl (lv_at hl 0 rfl) ?_
  refine va_get (D := (dC, dI)) (ci := 1) (v := .int (w.2.2.1 2 g)) (C := RX1) (T := TX1) (N := 12) hx hb hts inX1 hown hK hP (12 + 5 * g) (xc_o hg) rfl 8 (by decide) (hts (.fieldLink RX1 40 "BittenBoards$Game" "whole" "I") (by decide +kernel)) (fun _ h9 => h9) rfl dX1_countRoads_1 ?_
  refine lv_bipush (v := (-64 : Int32)) hx hb dX1_countRoads_4 (by decide) ?_
  refine lv_iand hx hb dX1_countRoads_6 ?_
  obtain ⟨r_7, hc7, hf⟩ := bn_e hf
  refine x_calli hD hS hAA (va_runS (As := [.int ((w.2.2.1 2 g) &&& (-64 : Int32))]) (rest := []) ⟨hx, hb, hml, hown, hts⟩ (k_xf_J_bitCount l dC dI cI cZ cG ad s.heap.size w ((w.2.2.1 2 g) &&& (-64 : Int32)) r_7 w hc7 rfl) (va_cwS 1 hts gX1_countRoads_J6_bitCount_0f7a4 rfl rfl rfl (by decide +kernel) ⟨Nat.le_of_ble_eq_true rfl, Nat.le_of_ble_eq_true rfl⟩) ⟨x_blind, fun U hU hW => x_pre hU hW hK hP hD hN⟩ rfl rfl hl.1 rfl (lv_room (Nat.le_of_ble_eq_true rfl)) dX1_countRoads_7 ⟨Nat.zero_le _, Nat.zero_le _⟩) (fun H locs hP hD hS => ?_)
  exact x_iret hx hb hr hlocks hK hP hD hS ⟨so_1 hf, hw0⟩ dX1_countRoads_10
set_option maxHeartbeats 4000000 in
set_option maxRecDepth 100000 in
theorem k_xf_G_addRoad (l : Launch) (dC : Nat → ClassId) (dI : Nat → Nat → Nat) (cI cZ cG : ClassId) (ad : Nat → Nat) (sz : Nat) (w : xW) (g : Nat) (hg : g < 6) (a1 : Int32) (a2 : Int32) (a3 : Int32) (w0 : xW) (hf : xf_G_addRoad g a1 a2 a3 w = some w0) : Met l yX1_addRoad wsX1_addRoad ({ frames := 2, cells := 0, slots := 0, locals := 41 } : Room) (va_Pc [.ref (ad (12 + 5 * g)), .int a1, .int a2, .int a3] (xPre dC dI cI cZ cG ad sz w)) (va_Qv (fun (u : xW) => u = w0) (xB dC dI cI cZ cG ad (xA ad sz)) (xA ad sz)) 0 0 (xA ad sz) := by
  refine Met.ofW (cc := cX1_addRoad) (maxL := 4) (ret := none) (by decide) rfl ?_
  intro p e s m args below meth c s₁ B hml hv
  obtain ⟨rfl, hsz, hP, hK, hD0, hN⟩ := hv
  have hx := B.exec
  have hb := B.bytes
  have hr := B.returns
  have hts := atoms_spec (ws := wsX1_addRoad) B.pre
  have hown : s.vm.findClass RX1 = some m.cls := findClass_of_methodNamed B.named
  have hlocks := B.notSynchronized
  subst hsz
  have hD : va_D (xA ad s.heap.size) (xc cI cG ad w) := xD_self hD0
  have hAA : ∀ z q, s.heap.size ≤ z → xA ad z q → xA ad s.heap.size q := xA_mono
  generalize xA ad s.heap.size = A at hD hAA ⊢
  have hS : va_S A s.heap s.heap [] := va_S.rf
  have hl := lv_entry ([.ref (ad (12 + 5 * g)), .int a1, .int a2, .int a3]) (n := 4) (Nat.le_of_ble_eq_true rfl)
  rw [lg_entry_eq]
  generalize (lg_sl ([.ref (ad (12 + 5 * g)), .int a1, .int a2, .int a3]) ++ List.replicate (4 - (lg_sl ([.ref (ad (12 + 5 * g)), .int a1, .int a2, .int a3])).length) Slot.unset).toArray = ls at hl ⊢
  have hl : lv_has ls 4 [(0, .ref (ad (12 + 5 * g))), (1, .int a1), (2, .int a2), (3, .int a3)] := hl
  unfold xf_G_addRoad at hf
  refine lv_aload_n hx hb dX1_addRoad_0 rfl (lv_at hl 0 rfl) ?_
  refine lv_iload_n hx hb dX1_addRoad_1 rfl (lv_at hl 1 rfl) ?_
  obtain ⟨w_2, hc2, hf⟩ := bn_e hf
  refine x_callv hD hS hAA (va_runV (As := [.int a1]) (rest := []) ⟨hx, hb, hml, hown, hts⟩ (k_xf_G_addPart l dC dI cI cZ cG ad s.heap.size w g hg a1 w_2 hc2) (cwV 1 hts gX1_addRoad_X1_addPart rfl rfl rfl (by decide +kernel) ⟨Nat.le_of_ble_eq_true rfl, Nat.le_of_ble_eq_true rfl⟩) ⟨x_blind, va_recv hK hP (ci := 1) (q0 := (12 + 5 * g)) rfl (xc_o hg), fun U hU hW => x_pre hU hW hK hP hD hN⟩ rfl rfl hl.1 rfl (lv_room (Nat.le_of_ble_eq_true rfl)) dX1_addRoad_2 ⟨Nat.zero_le _, Nat.zero_le _⟩) (fun H locs hP hD hS => ?_)
  refine lv_aload_n hx hb dX1_addRoad_5 rfl (lv_at hl 0 rfl) ?_
  refine lv_iload_n hx hb dX1_addRoad_6 rfl (lv_at hl 2 rfl) ?_
  refine lv_iconst (v := (1 : Int32)) hx hb dX1_addRoad_7 (by decide) ?_
  refine lv_iload_n hx hb dX1_addRoad_8 rfl (lv_at hl 1 rfl) ?_
  refine lv_ishl hx hb dX1_addRoad_9 ?_
  obtain ⟨w_10, hc10, hf⟩ := bn_e hf
  refine x_callv hD hS hAA (va_runV (As := [.int a2, .int ((1 : Int32) <<< (a1 &&& 31))]) (rest := []) ⟨hx, hb, hml, hown, hts⟩ (k_xf_G_takeAlong l dC dI cI cZ cG ad H.size w_2 g hg a2 ((1 : Int32) <<< (a1 &&& 31)) w_10 hc10) (cwV 2 hts gX1_addRoad_X1_takeAlong rfl rfl rfl (by decide +kernel) ⟨Nat.le_of_ble_eq_true rfl, Nat.le_of_ble_eq_true rfl⟩) ⟨x_blind, va_recv hK hP (ci := 1) (q0 := (12 + 5 * g)) rfl (xc_o hg), fun U hU hW => x_pre hU hW hK hP hD hN⟩ rfl rfl hl.1 rfl (lv_room (Nat.le_of_ble_eq_true rfl)) dX1_addRoad_10 ⟨Nat.zero_le _, Nat.zero_le _⟩) (fun H locs hP hD hS => ?_)
  refine lv_aload_n hx hb dX1_addRoad_13 rfl (lv_at hl 0 rfl) ?_
  refine lv_iload_n hx hb dX1_addRoad_14 rfl (lv_at hl 3 rfl) ?_
  refine lv_iconst (v := (1 : Int32)) hx hb dX1_addRoad_15 (by decide) ?_
  refine lv_iload_n hx hb dX1_addRoad_16 rfl (lv_at hl 1 rfl) ?_
  refine lv_ishl hx hb dX1_addRoad_17 ?_
  obtain ⟨w_18, hc18, hf⟩ := bn_e hf
  refine x_callv hD hS hAA (va_runV (As := [.int a3, .int ((1 : Int32) <<< (a1 &&& 31))]) (rest := []) ⟨hx, hb, hml, hown, hts⟩ (k_xf_G_takeAlong l dC dI cI cZ cG ad H.size w_10 g hg a3 ((1 : Int32) <<< (a1 &&& 31)) w_18 hc18) (cwV 2 hts gX1_addRoad_X1_takeAlong rfl rfl rfl (by decide +kernel) ⟨Nat.le_of_ble_eq_true rfl, Nat.le_of_ble_eq_true rfl⟩) ⟨x_blind, va_recv hK hP (ci := 1) (q0 := (12 + 5 * g)) rfl (xc_o hg), fun U hU hW => x_pre hU hW hK hP hD hN⟩ rfl rfl hl.1 rfl (lv_room (Nat.le_of_ble_eq_true rfl)) dX1_addRoad_18 ⟨Nat.zero_le _, Nat.zero_le _⟩) (fun H locs hP hD hS => ?_)
  exact x_vret hx hb hr hlocks hK hP hD hS (so_1 hf) dX1_addRoad_21
set_option maxHeartbeats 4000000 in
set_option maxRecDepth 100000 in
theorem k_xf_C_road (l : Launch) (dC : Nat → ClassId) (dI : Nat → Nat → Nat) (cI cZ cG : ClassId) (ad : Nat → Nat) (sz : Nat) (w : xW) (a1 : Int32) (a2 : Int32) (a3 : Int32) (r0 : Int32) (w0 : xW) (hf : xf_C_road a1 a2 a3 w = some (r0, w0)) : Met l yX3_road wsX3_road ({ frames := 3, cells := 0, slots := 0, locals := 64 } : Room) (va_Pc [.ref (ad 0), .int a1, .int a2, .int a3] (xPre dC dI cI cZ cG ad sz w)) (va_Qi (fun (r : Int32) (u : xW) => r = r0 ∧ u = w0) (xB dC dI cI cZ cG ad (xA ad sz)) (xA ad sz)) 0 0 (xA ad sz) := by
  refine Met.ofW (cc := cX3_road) (maxL := 6) (ret := (some .int)) (by decide) rfl ?_
  intro p e s m args below meth c s₁ B hml hv
  obtain ⟨rfl, hsz, hP, hK, hD0, hN⟩ := hv
  have hx := B.exec
  have hb := B.bytes
  have hr := B.returns
  have hts := atoms_spec (ws := wsX3_road) B.pre
  have hown : s.vm.findClass RX3 = some m.cls := findClass_of_methodNamed B.named
  have hlocks := B.notSynchronized
  subst hsz
  have hD : va_D (xA ad s.heap.size) (xc cI cG ad w) := xD_self hD0
  have hAA : ∀ z q, s.heap.size ≤ z → xA ad z q → xA ad s.heap.size q := xA_mono
  generalize xA ad s.heap.size = A at hD hAA ⊢
  have hS : va_S A s.heap s.heap [] := va_S.rf
  have hl := lv_entry ([.ref (ad 0), .int a1, .int a2, .int a3]) (n := 6) (Nat.le_of_ble_eq_true rfl)
  rw [lg_entry_eq]
  generalize (lg_sl ([.ref (ad 0), .int a1, .int a2, .int a3]) ++ List.replicate (6 - (lg_sl ([.ref (ad 0), .int a1, .int a2, .int a3])).length) Slot.unset).toArray = ls at hl ⊢
  have hl : lv_has ls 6 [(0, .ref (ad 0)), (1, .int a1), (2, .int a2), (3, .int a3)] := hl
  unfold xf_C_road at hf
  refine lv_aload_n hx hb dX3_road_0 rfl (lv_at hl 0 rfl) ?_
  refine lv_iload_n hx hb dX3_road_1 rfl (lv_at hl 1 rfl) ?_
  refine lv_iconst (v := (2 : Int32)) hx hb dX3_road_2 (by decide) ?_
  obtain ⟨r_3, hc3, hf⟩ := bn_e hf
  refine x_callq hD hS hAA (va_runV (As := [.int a1, .int (2 : Int32)]) (rest := []) ⟨hx, hb, hml, hown, hts⟩ (k_xf_C_gameOf l dC dI cI cZ cG ad s.heap.size w a1 (2 : Int32) r_3 w hc3 rfl) (cwV 2 hts gX3_road_X3_gameOf rfl rfl rfl (by decide +kernel) ⟨Nat.le_of_ble_eq_true rfl, Nat.le_of_ble_eq_true rfl⟩) ⟨x_blind, va_recv hK hP (ci := 3) (q0 := 0) rfl rfl, fun U hU hW => x_pre hU hW hK hP hD hN⟩ rfl rfl hl.1 rfl (lv_room (Nat.le_of_ble_eq_true rfl)) dX3_road_3 ⟨Nat.zero_le _, Nat.zero_le _⟩) (fun H locs hP hD hS => ?_)
  rcases r_3 with _ | g_3
  · have hf := onO_n hf
    refine W.eq (g2 := F0 m 6 ls [.null]) rfl ?_
    refine lv_astoreN (lv' := [(4, .null), (0, .ref (ad 0)), (1, .int a1), (2, .int a2), (3, .int a3)]) hx hb dX3_road_6 hl (by decide) rfl (fun ls hl => ?_)
    refine lv_aloadN hx hb dX3_road_8 (lv_at hl 0 rfl) ?_
    refine lv_ifnullN (tgt := 31) hx hb dX3_road_10 (by decide) ?_
    refine lv_sipush (v := (-1001 : Int32)) hx hb dX3_road_31 (by decide) ?_
    exact x_iret hx hb hr hlocks hK hP hD hS (so_2 hf) dX3_road_34
  · have hf := onO_s hf
    obtain ⟨hg_3, hf⟩ := gd_e hf
    refine W.eq (g2 := F0 m 6 ls [.ref (ad (12 + 5 * g_3))]) rfl ?_
    refine lv_astore (lv' := [(4, .ref (ad (12 + 5 * g_3))), (0, .ref (ad 0)), (1, .int a1), (2, .int a2), (3, .int a3)]) hx hb dX3_road_6 hl (by decide) rfl (fun ls hl => ?_)
    refine lv_aload hx hb dX3_road_8 (lv_at hl 0 rfl) ?_
    refine lv_ifnull hx hb dX3_road_10 ?_
    refine lv_aload hx hb dX3_road_13 (lv_at hl 0 rfl) ?_
    refine lv_iload_n hx hb dX3_road_15 rfl (lv_at hl 3 rfl) ?_
    obtain ⟨r_16, hc16, hf⟩ := bn_e hf
    refine x_calli hD hS hAA (va_runV (As := [.int a2]) (rest := []) ⟨hx, hb, hml, hown, hts⟩ (k_xf_G_hasPost l dC dI cI cZ cG ad H.size w g_3 hg_3 a2 r_16 w hc16 rfl) (cwV 1 hts gX3_road_X1_hasPost rfl rfl rfl (by decide +kernel) ⟨Nat.le_of_ble_eq_true rfl, Nat.le_of_ble_eq_true rfl⟩) ⟨x_blind, va_recv hK hP (ci := 1) (q0 := (12 + 5 * g_3)) rfl (xc_o hg_3), fun U hU hW => x_pre hU hW hK hP hD hN⟩ rfl rfl hl.1 rfl (lv_room (Nat.le_of_ble_eq_true rfl)) dX3_road_16 ⟨Nat.zero_le _, Nat.zero_le _⟩) (fun H locs hP hD hS => ?_)
    refine lv_if_eq (tgt := 31) hx hb dX3_road_19 (by decide) (fun h19 => ?_) (fun h19 => ?_)
    · have hf := if_t h19 hf
      refine lv_sipush (v := (-1001 : Int32)) hx hb dX3_road_31 (by decide) ?_
      exact x_iret hx hb hr hlocks hK hP hD hS (so_2 hf) dX3_road_34
    · have hf := if_f h19 hf
      refine lv_aload hx hb dX3_road_22 (lv_at hl 0 rfl) ?_
      refine lv_iload_n hx hb dX3_road_24 rfl (lv_at hl 4 rfl) ?_
      obtain ⟨r_25, hc25, hf⟩ := bn_e hf
      refine x_calli hD hS hAA (va_runV (As := [.int a3]) (rest := []) ⟨hx, hb, hml, hown, hts⟩ (k_xf_G_hasPost l dC dI cI cZ cG ad H.size w g_3 hg_3 a3 r_25 w hc25 rfl) (cwV 1 hts gX3_road_X1_hasPost rfl rfl rfl (by decide +kernel) ⟨Nat.le_of_ble_eq_true rfl, Nat.le_of_ble_eq_true rfl⟩) ⟨x_blind, va_recv hK hP (ci := 1) (q0 := (12 + 5 * g_3)) rfl (xc_o hg_3), fun U hU hW => x_pre hU hW hK hP hD hN⟩ rfl rfl hl.1 rfl (lv_room (Nat.le_of_ble_eq_true rfl)) dX3_road_25 ⟨Nat.zero_le _, Nat.zero_le _⟩) (fun H locs hP hD hS => ?_)
      refine lv_if_ne (tgt := 35) hx hb dX3_road_28 (by decide) (fun h28 => ?_) (fun h28 => ?_)
      · have hf := if_f h28 hf
        refine lv_iload_n hx hb dX3_road_35 rfl (lv_at hl 3 rfl) ?_
        refine lv_iload_n hx hb dX3_road_36 rfl (lv_at hl 4 rfl) ?_
        refine lv_icmp_ne (tgt := 44) hx hb dX3_road_37 (by decide) (fun h37 => ?_) (fun h37 => ?_)
        · have hf := if_f h37 hf
          refine lv_aload hx hb dX3_road_44 (lv_at hl 0 rfl) ?_
          obtain ⟨r_46, hc46, hf⟩ := bn_e hf
          refine x_calli hD hS hAA (va_runV (As := []) (rest := []) ⟨hx, hb, hml, hown, hts⟩ (k_xf_G_countRoads l dC dI cI cZ cG ad H.size w g_3 hg_3 r_46 w hc46 rfl) (cwV 0 hts gX3_road_X1_countRoads rfl rfl rfl (by decide +kernel) ⟨Nat.le_of_ble_eq_true rfl, Nat.le_of_ble_eq_true rfl⟩) ⟨x_blind, va_recv hK hP (ci := 1) (q0 := (12 + 5 * g_3)) rfl (xc_o hg_3), fun U hU hW => x_pre hU hW hK hP hD hN⟩ rfl rfl hl.1 rfl (lv_room (Nat.le_of_ble_eq_true rfl)) dX3_road_46 ⟨Nat.zero_le _, Nat.zero_le _⟩) (fun H locs hP hD hS => ?_)
          refine lv_istore (lv' := [(5, .int r_46), (4, .ref (ad (12 + 5 * g_3))), (0, .ref (ad 0)), (1, .int a1), (2, .int a2), (3, .int a3)]) hx hb dX3_road_49 hl (by decide) rfl (fun ls hl => ?_)
          refine lv_iload hx hb dX3_road_51 (lv_at hl 0 rfl) ?_
          refine lv_bipush (v := (9 : Int32)) hx hb dX3_road_53 (by decide) ?_
          refine lv_icmp_lt (tgt := 62) hx hb dX3_road_55 (by decide) (fun h55 => ?_) (fun h55 => ?_)
          · have hf := if_t h55 hf
            refine lv_aload hx hb dX3_road_62 (lv_at hl 1 rfl) ?_
            refine lv_bipush (v := (6 : Int32)) hx hb dX3_road_64 (by decide) ?_
            refine lv_iload hx hb dX3_road_66 (lv_at hl 0 rfl) ?_
            refine lv_iadd hx hb dX3_road_68 ?_
            refine lv_iload_n hx hb dX3_road_69 rfl (lv_at hl 4 rfl) ?_
            refine lv_iload_n hx hb dX3_road_70 rfl (lv_at hl 5 rfl) ?_
            obtain ⟨w_71, hc71, hf⟩ := bn_e hf
            refine x_callv hD hS hAA (va_runV (As := [.int ((6 : Int32) + r_46), .int a2, .int a3]) (rest := []) ⟨hx, hb, hml, hown, hts⟩ (k_xf_G_addRoad l dC dI cI cZ cG ad H.size w g_3 hg_3 ((6 : Int32) + r_46) a2 a3 w_71 hc71) (cwV 3 hts gX3_road_X1_addRoad rfl rfl rfl (by decide +kernel) ⟨Nat.le_of_ble_eq_true rfl, Nat.le_of_ble_eq_true rfl⟩) ⟨x_blind, va_recv hK hP (ci := 1) (q0 := (12 + 5 * g_3)) rfl (xc_o hg_3), fun U hU hW => x_pre hU hW hK hP hD hN⟩ rfl rfl hl.1 rfl (lv_room (Nat.le_of_ble_eq_true rfl)) dX3_road_71 ⟨Nat.zero_le _, Nat.zero_le _⟩) (fun H locs hP hD hS => ?_)
            refine lv_iload hx hb dX3_road_74 (lv_at hl 0 rfl) ?_
            exact x_iret hx hb hr hlocks hK hP hD hS (so_2 hf) dX3_road_76
          · have hf := if_f h55 hf
            refine lv_sipush (v := (-1004 : Int32)) hx hb dX3_road_58 (by decide) ?_
            exact x_iret hx hb hr hlocks hK hP hD hS (so_2 hf) dX3_road_61
        · have hf := if_t h37 hf
          refine lv_sipush (v := (-1003 : Int32)) hx hb dX3_road_40 (by decide) ?_
          exact x_iret hx hb hr hlocks hK hP hD hS (so_2 hf) dX3_road_43
      · have hf := if_t h28 hf
        refine lv_sipush (v := (-1001 : Int32)) hx hb dX3_road_31 (by decide) ?_
        exact x_iret hx hb hr hlocks hK hP hD hS (so_2 hf) dX3_road_34
set_option maxHeartbeats 4000000 in
set_option maxRecDepth 100000 in
theorem k_xf_C_rule (l : Launch) (dC : Nat → ClassId) (dI : Nat → Nat → Nat) (cI cZ cG : ClassId) (ad : Nat → Nat) (sz : Nat) (w : xW) (a1 : Int32) (a2 : Int32) (r0 : Int32) (w0 : xW) (hf : xf_C_rule a1 a2 w = some (r0, w0)) : Met l yX3_rule wsX3_rule ({ frames := 1, cells := 0, slots := 0, locals := 22 } : Room) (va_Pc [.ref (ad 0), .int a1, .int a2] (xPre dC dI cI cZ cG ad sz w)) (va_Qi (fun (r : Int32) (u : xW) => r = r0 ∧ u = w0) (xB dC dI cI cZ cG ad (xA ad sz)) (xA ad sz)) 0 0 (xA ad sz) := by
  refine Met.ofW (cc := cX3_rule) (maxL := 5) (ret := (some .int)) (by decide) rfl ?_
  intro p e s m args below meth c s₁ B hml hv
  obtain ⟨rfl, hsz, hP, hK, hD0, hN⟩ := hv
  have hx := B.exec
  have hb := B.bytes
  have hr := B.returns
  have hts := atoms_spec (ws := wsX3_rule) B.pre
  have hown : s.vm.findClass RX3 = some m.cls := findClass_of_methodNamed B.named
  have hlocks := B.notSynchronized
  have inX1 : ∀ w ∈ u_ws RX1 TX1 12, w ∈ wsX3_rule := by decide +kernel
  subst hsz
  have hD : va_D (xA ad s.heap.size) (xc cI cG ad w) := xD_self hD0
  have hAA : ∀ z q, s.heap.size ≤ z → xA ad z q → xA ad s.heap.size q := xA_mono
  generalize xA ad s.heap.size = A at hD hAA ⊢
  have hS : va_S A s.heap s.heap [] := va_S.rf
  have hl := lv_entry ([.ref (ad 0), .int a1, .int a2]) (n := 5) (Nat.le_of_ble_eq_true rfl)
  rw [lg_entry_eq]
  generalize (lg_sl ([.ref (ad 0), .int a1, .int a2]) ++ List.replicate (5 - (lg_sl ([.ref (ad 0), .int a1, .int a2])).length) Slot.unset).toArray = ls at hl ⊢
  have hl : lv_has ls 5 [(0, .ref (ad 0)), (1, .int a1), (2, .int a2)] := hl
  unfold xf_C_rule at hf
  refine lv_aload_n hx hb dX3_rule_0 rfl (lv_at hl 0 rfl) ?_
  refine lv_iload_n hx hb dX3_rule_1 rfl (lv_at hl 1 rfl) ?_
  obtain ⟨r_2, hc2, hf⟩ := bn_e hf
  refine x_callq hD hS hAA (va_runV (As := [.int a1]) (rest := []) ⟨hx, hb, hml, hown, hts⟩ (k_xf_C_gameAt l dC dI cI cZ cG ad s.heap.size w a1 r_2 w hc2 rfl) (cwV 1 hts gX3_rule_X3_gameAt rfl rfl rfl (by decide +kernel) ⟨Nat.le_of_ble_eq_true rfl, Nat.le_of_ble_eq_true rfl⟩) ⟨x_blind, va_recv hK hP (ci := 3) (q0 := 0) rfl rfl, fun U hU hW => x_pre hU hW hK hP hD hN⟩ rfl rfl hl.1 rfl (lv_room (Nat.le_of_ble_eq_true rfl)) dX3_rule_2 ⟨Nat.zero_le _, Nat.zero_le _⟩) (fun H locs hP hD hS => ?_)
  rcases r_2 with _ | g_2
  · have hf := onO_n hf
    refine W.eq (g2 := F0 m 5 ls [.null]) rfl ?_
    refine lv_astore_nN (lv' := [(3, .null), (0, .ref (ad 0)), (1, .int a1), (2, .int a2)]) hx hb dX3_rule_5 rfl hl (by decide) rfl (fun ls hl => ?_)
    refine lv_aload_nN hx hb dX3_rule_6 rfl (lv_at hl 0 rfl) ?_
    refine lv_ifnonnullN hx hb dX3_rule_7 ?_
    refine lv_sipush (v := (-1001 : Int32)) hx hb dX3_rule_10 (by decide) ?_
    exact x_iret hx hb hr hlocks hK hP hD hS (so_2 hf) dX3_rule_13
  · have hf := onO_s hf
    obtain ⟨hg_2, hf⟩ := gd_e hf
    refine W.eq (g2 := F0 m 5 ls [.ref (ad (12 + 5 * g_2))]) rfl ?_
    refine lv_astore_n (lv' := [(3, .ref (ad (12 + 5 * g_2))), (0, .ref (ad 0)), (1, .int a1), (2, .int a2)]) hx hb dX3_rule_5 rfl hl (by decide) rfl (fun ls hl => ?_)
    refine lv_aload_n hx hb dX3_rule_6 rfl (lv_at hl 0 rfl) ?_
    refine lv_ifnonnull (tgt := 14) hx hb dX3_rule_7 (by decide) ?_
    refine lv_iload_n hx hb dX3_rule_14 rfl (lv_at hl 3 rfl) ?_
    refine lv_iconst (v := (0 : Int32)) hx hb dX3_rule_15 (by decide) ?_
    refine lv_iconst (v := (1 : Int32)) hx hb dX3_rule_16 (by decide) ?_
    obtain ⟨r_17, hc17, hf⟩ := bn_e hf
    refine x_calli hD hS hAA (va_runS (As := [.int a2, .int (0 : Int32), .int (1 : Int32)]) (rest := []) ⟨hx, hb, hml, hown, hts⟩ (k_xf_C_isWithin l dC dI cI cZ cG ad H.size w a2 (0 : Int32) (1 : Int32) r_17 w hc17 rfl) (va_cwS 3 hts gX3_rule_X3_isWithin rfl rfl rfl (by decide +kernel) ⟨Nat.le_of_ble_eq_true rfl, Nat.le_of_ble_eq_true rfl⟩) ⟨x_blind, fun U hU hW => x_pre hU hW hK hP hD hN⟩ rfl rfl hl.1 rfl (lv_room (Nat.le_of_ble_eq_true rfl)) dX3_rule_17 ⟨Nat.zero_le _, Nat.zero_le _⟩) (fun H locs hP hD hS => ?_)
    refine lv_if_ne (tgt := 27) hx hb dX3_rule_20 (by decide) (fun h20 => ?_) (fun h20 => ?_)
    · have hf := if_f h20 hf
      refine lv_aload_n hx hb dX3_rule_27 rfl (lv_at hl 0 rfl) ?_
      refine va_getN (host := "BittenBoards") (D := (dC, dI)) (ci := 1) (v := .int (w.2.2.1 1 g_2)) (C := RX1) (T := TX1) (N := 12) hx hb hts inX1 hown hK hP (12 + 5 * g_2) (xc_o hg_2) rfl 7 (by decide) (va_Nw.use rfl (hN (.fieldLinkNest RX3 124 "BittenBoards$Game" "rule" "I" "BittenBoards") (by decide +kernel))) (fun _ h9 => h9) rfl dX3_rule_28 ?_
      obtain ⟨x4_31, ex4_31, hf⟩ := nm_x hf
      refine W.eq (g2 := F0 m 31 ls [.int x4_31]) (by rw [ex4_31]) ?_
      refine lv_istore (lv' := [(4, .int x4_31), (3, .ref (ad (12 + 5 * g_2))), (0, .ref (ad 0)), (1, .int a1), (2, .int a2)]) hx hb dX3_rule_31 hl (by decide) rfl (fun ls hl => ?_)
      refine lv_aload_n hx hb dX3_rule_33 rfl (lv_at hl 1 rfl) ?_
      refine lv_iload_n hx hb dX3_rule_34 rfl (lv_at hl 4 rfl) ?_
      obtain ⟨w_35, ew_35, hf⟩ := nm_x hf
      refine va_putN (host := "BittenBoards") (D := (dC, dI)) (ci := 1) (v := .int a2) (ty := .int) (C := RX1) (T := TX1) (N := 12) hx hb hts inX1 tyX1 tyX1_ok nmX1 hown hK hP hD hS (12 + 5 * g_2) (xc_o hg_2) rfl 7 (by decide) (va_Nw.use rfl (hN (.fieldLinkNest RX3 124 "BittenBoards$Game" "rule" "I" "BittenBoards") (by decide +kernel))) (fun _ h9 => h9) rfl (by decide +kernel) rfl rfl (Nat.le_of_ble_eq_true rfl) dX3_rule_35 (fun H locs hP hD hS => ?_)
      have hP : va_P (dC, dI) vwCl (xc cI cG ad w_35) H := hP.eqs (by rw [ew_35]; exact xs_o1 hg_2 _ _)
      have hD : va_D A (xc cI cG ad w_35) := hD.eqs (by rw [ew_35]; exact xs_o1 hg_2 _ _)
      refine lv_iload hx hb dX3_rule_38 (lv_at hl 0 rfl) ?_
      exact x_iret hx hb hr hlocks hK hP hD hS (so_2 hf) dX3_rule_40
    · have hf := if_t h20 hf
      refine lv_sipush (v := (-1002 : Int32)) hx hb dX3_rule_23 (by decide) ?_
      exact x_iret hx hb hr hlocks hK hP hD hS (so_2 hf) dX3_rule_26
set_option maxHeartbeats 4000000 in
set_option maxRecDepth 100000 in
theorem k_xf_C_told (l : Launch) (dC : Nat → ClassId) (dI : Nat → Nat → Nat) (cI cZ cG : ClassId) (ad : Nat → Nat) (sz : Nat) (w : xW) (a1 : Int32) (a2 : Int32) (r0 : Int32) (w0 : xW) (hf : xf_C_told a1 a2 w = some (r0, w0)) : Met l yX3_told wsX3_told ({ frames := 4, cells := 0, slots := 0, locals := 91 } : Room) (va_Pc [.ref (ad 0), .int a1, .int a2] (xPre dC dI cI cZ cG ad sz w)) (va_Qi (fun (r : Int32) (u : xW) => r = r0 ∧ u = w0) (xB dC dI cI cZ cG ad (xA ad sz)) (xA ad sz)) 0 0 (xA ad sz) := by
  refine Met.ofW (cc := cX3_told) (maxL := 4) (ret := (some .int)) (by decide) rfl ?_
  intro p e s m args below meth c s₁ B hml hv
  obtain ⟨rfl, hsz, hP, hK, hD0, hN⟩ := hv
  have hx := B.exec
  have hb := B.bytes
  have hr := B.returns
  have hts := atoms_spec (ws := wsX3_told) B.pre
  have hown : s.vm.findClass RX3 = some m.cls := findClass_of_methodNamed B.named
  have hlocks := B.notSynchronized
  have inX1 : ∀ w ∈ u_ws RX1 TX1 12, w ∈ wsX3_told := by decide +kernel
  subst hsz
  have hD : va_D (xA ad s.heap.size) (xc cI cG ad w) := xD_self hD0
  have hAA : ∀ z q, s.heap.size ≤ z → xA ad z q → xA ad s.heap.size q := xA_mono
  generalize xA ad s.heap.size = A at hD hAA ⊢
  have hS : va_S A s.heap s.heap [] := va_S.rf
  have hl := lv_entry ([.ref (ad 0), .int a1, .int a2]) (n := 4) (Nat.le_of_ble_eq_true rfl)
  rw [lg_entry_eq]
  generalize (lg_sl ([.ref (ad 0), .int a1, .int a2]) ++ List.replicate (4 - (lg_sl ([.ref (ad 0), .int a1, .int a2])).length) Slot.unset).toArray = ls at hl ⊢
  have hl : lv_has ls 4 [(0, .ref (ad 0)), (1, .int a1), (2, .int a2)] := hl
  unfold xf_C_told at hf
  refine lv_aload_n hx hb dX3_told_0 rfl (lv_at hl 0 rfl) ?_
  refine lv_iload_n hx hb dX3_told_1 rfl (lv_at hl 1 rfl) ?_
  obtain ⟨r_2, hc2, hf⟩ := bn_e hf
  refine x_callq hD hS hAA (va_runV (As := [.int a1]) (rest := []) ⟨hx, hb, hml, hown, hts⟩ (k_xf_C_gameAt l dC dI cI cZ cG ad s.heap.size w a1 r_2 w hc2 rfl) (cwV 1 hts gX3_told_X3_gameAt rfl rfl rfl (by decide +kernel) ⟨Nat.le_of_ble_eq_true rfl, Nat.le_of_ble_eq_true rfl⟩) ⟨x_blind, va_recv hK hP (ci := 3) (q0 := 0) rfl rfl, fun U hU hW => x_pre hU hW hK hP hD hN⟩ rfl rfl hl.1 rfl (lv_room (Nat.le_of_ble_eq_true rfl)) dX3_told_2 ⟨Nat.zero_le _, Nat.zero_le _⟩) (fun H locs hP hD hS => ?_)
  rcases r_2 with _ | g_2
  · have hf := onO_n hf
    refine W.eq (g2 := F0 m 5 ls [.null]) rfl ?_
    refine lv_astore_nN (lv' := [(3, .null), (0, .ref (ad 0)), (1, .int a1), (2, .int a2)]) hx hb dX3_told_5 rfl hl (by decide) rfl (fun ls hl => ?_)
    refine lv_aload_nN hx hb dX3_told_6 rfl (lv_at hl 0 rfl) ?_
    refine lv_ifnonnullN hx hb dX3_told_7 ?_
    refine lv_sipush (v := (-1001 : Int32)) hx hb dX3_told_10 (by decide) ?_
    exact x_iret hx hb hr hlocks hK hP hD hS (so_2 hf) dX3_told_13
  · have hf := onO_s hf
    obtain ⟨hg_2, hf⟩ := gd_e hf
    refine W.eq (g2 := F0 m 5 ls [.ref (ad (12 + 5 * g_2))]) rfl ?_
    refine lv_astore_n (lv' := [(3, .ref (ad (12 + 5 * g_2))), (0, .ref (ad 0)), (1, .int a1), (2, .int a2)]) hx hb dX3_told_5 rfl hl (by decide) rfl (fun ls hl => ?_)
    refine lv_aload_n hx hb dX3_told_6 rfl (lv_at hl 0 rfl) ?_
    refine lv_ifnonnull (tgt := 14) hx hb dX3_told_7 (by decide) ?_
    refine lv_iload_n hx hb dX3_told_14 rfl (lv_at hl 3 rfl) ?_
    by_cases h15_0 : a2 = 0
    · have hf := if_t h15_0 hf
      refine lv_tableIn (tgt := 52) hx hb dX3_told_15 (by rw [h15_0]; decide) (by rw [h15_0]; decide) (by rw [h15_0]; rfl) (by decide) ?_
      refine lv_aload_n hx hb dX3_told_52 rfl (lv_at hl 0 rfl) ?_
      refine va_getN (host := "BittenBoards") (D := (dC, dI)) (ci := 1) (v := .int (w.2.2.1 0 g_2)) (C := RX1) (T := TX1) (N := 12) hx hb hts inX1 hown hK hP (12 + 5 * g_2) (xc_o hg_2) rfl 6 (by decide) (va_Nw.use rfl (hN (.fieldLinkNest RX3 127 "BittenBoards$Game" "kind" "I" "BittenBoards") (by decide +kernel))) (fun _ h9 => h9) rfl dX3_told_53 ?_
      exact x_iret hx hb hr hlocks hK hP hD hS (so_2 hf) dX3_told_56
    have hf := if_f h15_0 hf
    by_cases h15_1 : a2 = 1
    · have hf := if_t h15_1 hf
      refine lv_tableIn (tgt := 57) hx hb dX3_told_15 (by rw [h15_1]; decide) (by rw [h15_1]; decide) (by rw [h15_1]; rfl) (by decide) ?_
      refine lv_aload_n hx hb dX3_told_57 rfl (lv_at hl 0 rfl) ?_
      refine va_getN (host := "BittenBoards") (D := (dC, dI)) (ci := 1) (v := .int (w.2.2.1 1 g_2)) (C := RX1) (T := TX1) (N := 12) hx hb hts inX1 hown hK hP (12 + 5 * g_2) (xc_o hg_2) rfl 7 (by decide) (va_Nw.use rfl (hN (.fieldLinkNest RX3 124 "BittenBoards$Game" "rule" "I" "BittenBoards") (by decide +kernel))) (fun _ h9 => h9) rfl dX3_told_58 ?_
      exact x_iret hx hb hr hlocks hK hP hD hS (so_2 hf) dX3_told_61
    have hf := if_f h15_1 hf
    by_cases h15_2 : a2 = 2
    · have hf := if_t h15_2 hf
      refine lv_tableIn (tgt := 62) hx hb dX3_told_15 (by rw [h15_2]; decide) (by rw [h15_2]; decide) (by rw [h15_2]; rfl) (by decide) ?_
      refine lv_aload_n hx hb dX3_told_62 rfl (lv_at hl 0 rfl) ?_
      obtain ⟨r_63, w_63, hc63, hf⟩ := bn2_e hf
      refine x_calli hD hS hAA (va_runV (As := []) (rest := []) ⟨hx, hb, hml, hown, hts⟩ (k_xf_G_countBites l dC dI cI cZ cG ad H.size w g_2 hg_2 r_63 w_63 hc63) (cwV 0 hts gX3_told_X1_countBites rfl rfl rfl (by decide +kernel) ⟨Nat.le_of_ble_eq_true rfl, Nat.le_of_ble_eq_true rfl⟩) ⟨x_blind, va_recv hK hP (ci := 1) (q0 := (12 + 5 * g_2)) rfl (xc_o hg_2), fun U hU hW => x_pre hU hW hK hP hD hN⟩ rfl rfl hl.1 rfl (lv_room (Nat.le_of_ble_eq_true rfl)) dX3_told_63 ⟨Nat.zero_le _, Nat.zero_le _⟩) (fun H locs hP hD hS => ?_)
      exact x_iret hx hb hr hlocks hK hP hD hS (so_2 hf) dX3_told_66
    have hf := if_f h15_2 hf
    by_cases h15_3 : a2 = 3
    · have hf := if_t h15_3 hf
      refine lv_tableIn (tgt := 62) hx hb dX3_told_15 (by rw [h15_3]; decide) (by rw [h15_3]; decide) (by rw [h15_3]; rfl) (by decide) ?_
      refine lv_aload_n hx hb dX3_told_62 rfl (lv_at hl 0 rfl) ?_
      obtain ⟨r_63, w_63, hc63, hf⟩ := bn2_e hf
      refine x_calli hD hS hAA (va_runV (As := []) (rest := []) ⟨hx, hb, hml, hown, hts⟩ (k_xf_G_countBites l dC dI cI cZ cG ad H.size w g_2 hg_2 r_63 w_63 hc63) (cwV 0 hts gX3_told_X1_countBites rfl rfl rfl (by decide +kernel) ⟨Nat.le_of_ble_eq_true rfl, Nat.le_of_ble_eq_true rfl⟩) ⟨x_blind, va_recv hK hP (ci := 1) (q0 := (12 + 5 * g_2)) rfl (xc_o hg_2), fun U hU hW => x_pre hU hW hK hP hD hN⟩ rfl rfl hl.1 rfl (lv_room (Nat.le_of_ble_eq_true rfl)) dX3_told_63 ⟨Nat.zero_le _, Nat.zero_le _⟩) (fun H locs hP hD hS => ?_)
      exact x_iret hx hb hr hlocks hK hP hD hS (so_2 hf) dX3_told_66
    have hf := if_f h15_3 hf
    by_cases h15_4 : a2 = 4
    · have hf := if_t h15_4 hf
      refine lv_tableIn (tgt := 67) hx hb dX3_told_15 (by rw [h15_4]; decide) (by rw [h15_4]; decide) (by rw [h15_4]; rfl) (by decide) ?_
      refine lv_aload_n hx hb dX3_told_67 rfl (lv_at hl 0 rfl) ?_
      refine va_getN (host := "BittenBoards") (D := (dC, dI)) (ci := 1) (v := .int (w.2.2.1 4 g_2)) (C := RX1) (T := TX1) (N := 12) hx hb hts inX1 hown hK hP (12 + 5 * g_2) (xc_o hg_2) rfl 10 (by decide) (va_Nw.use rfl (hN (.fieldLinkNest RX3 130 "BittenBoards$Game" "noted" "I" "BittenBoards") (by decide +kernel))) (fun _ h9 => h9) rfl dX3_told_68 ?_
      exact x_iret hx hb hr hlocks hK hP hD hS (so_2 hf) dX3_told_71
    have hf := if_f h15_4 hf
    by_cases h15_5 : a2 = 5
    · have hf := if_t h15_5 hf
      refine lv_tableIn (tgt := 72) hx hb dX3_told_15 (by rw [h15_5]; decide) (by rw [h15_5]; decide) (by rw [h15_5]; rfl) (by decide) ?_
      refine lv_aload_n hx hb dX3_told_72 rfl (lv_at hl 0 rfl) ?_
      refine va_getN (host := "BittenBoards") (D := (dC, dI)) (ci := 1) (v := .int (w.2.2.1 3 g_2)) (C := RX1) (T := TX1) (N := 12) hx hb hts inX1 hown hK hP (12 + 5 * g_2) (xc_o hg_2) rfl 9 (by decide) (va_Nw.use rfl (hN (.fieldLinkNest RX3 73 "BittenBoards$Game" "state" "I" "BittenBoards") (by decide +kernel))) (fun _ h9 => h9) rfl dX3_told_73 ?_
      exact x_iret hx hb hr hlocks hK hP hD hS (so_2 hf) dX3_told_76
    have hf := if_f h15_5 hf
    refine lv_tableOut (tgt := 77) hx hb dX3_told_15 (sw_out 5 (by decide) (fun k hk => by match k, hk with | 0, _ => exact h15_0 | 1, _ => exact h15_1 | 2, _ => exact h15_2 | 3, _ => exact h15_3 | 4, _ => exact h15_4 | 5, _ => exact h15_5)) (by decide) ?_
    refine lv_sipush (v := (-1002 : Int32)) hx hb dX3_told_77 (by decide) ?_
    exact x_iret hx hb hr hlocks hK hP hD hS (so_2 hf) dX3_told_80
set_option maxHeartbeats 4000000 in
set_option maxRecDepth 100000 in
theorem k_xf_C_isBelow (l : Launch) (dC : Nat → ClassId) (dI : Nat → Nat → Nat) (cI cZ cG : ClassId) (ad : Nat → Nat) (sz : Nat) (w : xW) (a1 : Int32) (a2 : Int32) (a3 : Int32) (r0 : Int32) (w0 : xW) (hf : xf_C_isBelow a1 a2 a3 w = some r0) (hw0 : w = w0) : Met l yX3_isBelow wsX3_isBelow ({ frames := 3, cells := 0, slots := 0, locals := 61 } : Room) (va_Pc [.ref (ad 0), .int a1, .int a2, .int a3] (xPre dC dI cI cZ cG ad sz w)) (va_Qi (fun (r : Int32) (u : xW) => r = r0 ∧ u = w0) (xB dC dI cI cZ cG ad (xA ad sz)) (xA ad sz)) 0 0 (xA ad sz) := by
  refine Met.ofW (cc := cX3_isBelow) (maxL := 5) (ret := (some .int)) (by decide) rfl ?_
  intro p e s m args below meth c s₁ B hml hv
  obtain ⟨rfl, hsz, hP, hK, hD0, hN⟩ := hv
  have hx := B.exec
  have hb := B.bytes
  have hr := B.returns
  have hts := atoms_spec (ws := wsX3_isBelow) B.pre
  have hown : s.vm.findClass RX3 = some m.cls := findClass_of_methodNamed B.named
  have hlocks := B.notSynchronized
  subst hsz
  have hD : va_D (xA ad s.heap.size) (xc cI cG ad w) := xD_self hD0
  have hAA : ∀ z q, s.heap.size ≤ z → xA ad z q → xA ad s.heap.size q := xA_mono
  generalize xA ad s.heap.size = A at hD hAA ⊢
  have hS : va_S A s.heap s.heap [] := va_S.rf
  have hl := lv_entry ([.ref (ad 0), .int a1, .int a2, .int a3]) (n := 5) (Nat.le_of_ble_eq_true rfl)
  rw [lg_entry_eq]
  generalize (lg_sl ([.ref (ad 0), .int a1, .int a2, .int a3]) ++ List.replicate (5 - (lg_sl ([.ref (ad 0), .int a1, .int a2, .int a3])).length) Slot.unset).toArray = ls at hl ⊢
  have hl : lv_has ls 5 [(0, .ref (ad 0)), (1, .int a1), (2, .int a2), (3, .int a3)] := hl
  unfold xf_C_isBelow at hf
  refine lv_aload_n hx hb dX3_isBelow_0 rfl (lv_at hl 0 rfl) ?_
  refine lv_iload_n hx hb dX3_isBelow_1 rfl (lv_at hl 1 rfl) ?_
  refine lv_iconst (v := (1 : Int32)) hx hb dX3_isBelow_2 (by decide) ?_
  obtain ⟨r_3, hc3, hf⟩ := bn_e hf
  refine x_callq hD hS hAA (va_runV (As := [.int a1, .int (1 : Int32)]) (rest := []) ⟨hx, hb, hml, hown, hts⟩ (k_xf_C_gameOf l dC dI cI cZ cG ad s.heap.size w a1 (1 : Int32) r_3 w hc3 rfl) (cwV 2 hts gX3_isBelow_X3_gameOf rfl rfl rfl (by decide +kernel) ⟨Nat.le_of_ble_eq_true rfl, Nat.le_of_ble_eq_true rfl⟩) ⟨x_blind, va_recv hK hP (ci := 3) (q0 := 0) rfl rfl, fun U hU hW => x_pre hU hW hK hP hD hN⟩ rfl rfl hl.1 rfl (lv_room (Nat.le_of_ble_eq_true rfl)) dX3_isBelow_3 ⟨Nat.zero_le _, Nat.zero_le _⟩) (fun H locs hP hD hS => ?_)
  rcases r_3 with _ | g_3
  · have hf := onO_n hf
    refine W.eq (g2 := F0 m 6 ls [.null]) rfl ?_
    refine lv_astoreN (lv' := [(4, .null), (0, .ref (ad 0)), (1, .int a1), (2, .int a2), (3, .int a3)]) hx hb dX3_isBelow_6 hl (by decide) rfl (fun ls hl => ?_)
    refine lv_aloadN hx hb dX3_isBelow_8 (lv_at hl 0 rfl) ?_
    refine lv_ifnullN (tgt := 31) hx hb dX3_isBelow_10 (by decide) ?_
    refine lv_sipush (v := (-1001 : Int32)) hx hb dX3_isBelow_31 (by decide) ?_
    exact x_iret hx hb hr hlocks hK hP hD hS ⟨so_1 hf, hw0⟩ dX3_isBelow_34
  · have hf := onO_s hf
    obtain ⟨hg_3, hf⟩ := gd_e hf
    refine W.eq (g2 := F0 m 6 ls [.ref (ad (12 + 5 * g_3))]) rfl ?_
    refine lv_astore (lv' := [(4, .ref (ad (12 + 5 * g_3))), (0, .ref (ad 0)), (1, .int a1), (2, .int a2), (3, .int a3)]) hx hb dX3_isBelow_6 hl (by decide) rfl (fun ls hl => ?_)
    refine lv_aload hx hb dX3_isBelow_8 (lv_at hl 0 rfl) ?_
    refine lv_ifnull hx hb dX3_isBelow_10 ?_
    refine lv_aload hx hb dX3_isBelow_13 (lv_at hl 0 rfl) ?_
    refine lv_iload_n hx hb dX3_isBelow_15 rfl (lv_at hl 3 rfl) ?_
    obtain ⟨r_16, hc16, hf⟩ := bn_e hf
    refine x_calli hD hS hAA (va_runV (As := [.int a2]) (rest := []) ⟨hx, hb, hml, hown, hts⟩ (k_xf_G_hasThing l dC dI cI cZ cG ad H.size w g_3 hg_3 a2 r_16 w hc16 rfl) (cwV 1 hts gX3_isBelow_X1_hasThing rfl rfl rfl (by decide +kernel) ⟨Nat.le_of_ble_eq_true rfl, Nat.le_of_ble_eq_true rfl⟩) ⟨x_blind, va_recv hK hP (ci := 1) (q0 := (12 + 5 * g_3)) rfl (xc_o hg_3), fun U hU hW => x_pre hU hW hK hP hD hN⟩ rfl rfl hl.1 rfl (lv_room (Nat.le_of_ble_eq_true rfl)) dX3_isBelow_16 ⟨Nat.zero_le _, Nat.zero_le _⟩) (fun H locs hP hD hS => ?_)
    refine lv_if_eq (tgt := 31) hx hb dX3_isBelow_19 (by decide) (fun h19 => ?_) (fun h19 => ?_)
    · have hf := if_t h19 hf
      refine lv_sipush (v := (-1001 : Int32)) hx hb dX3_isBelow_31 (by decide) ?_
      exact x_iret hx hb hr hlocks hK hP hD hS ⟨so_1 hf, hw0⟩ dX3_isBelow_34
    · have hf := if_f h19 hf
      refine lv_aload hx hb dX3_isBelow_22 (lv_at hl 0 rfl) ?_
      refine lv_iload_n hx hb dX3_isBelow_24 rfl (lv_at hl 4 rfl) ?_
      obtain ⟨r_25, hc25, hf⟩ := bn_e hf
      refine x_calli hD hS hAA (va_runV (As := [.int a3]) (rest := []) ⟨hx, hb, hml, hown, hts⟩ (k_xf_G_hasThing l dC dI cI cZ cG ad H.size w g_3 hg_3 a3 r_25 w hc25 rfl) (cwV 1 hts gX3_isBelow_X1_hasThing rfl rfl rfl (by decide +kernel) ⟨Nat.le_of_ble_eq_true rfl, Nat.le_of_ble_eq_true rfl⟩) ⟨x_blind, va_recv hK hP (ci := 1) (q0 := (12 + 5 * g_3)) rfl (xc_o hg_3), fun U hU hW => x_pre hU hW hK hP hD hN⟩ rfl rfl hl.1 rfl (lv_room (Nat.le_of_ble_eq_true rfl)) dX3_isBelow_25 ⟨Nat.zero_le _, Nat.zero_le _⟩) (fun H locs hP hD hS => ?_)
      refine lv_if_ne (tgt := 35) hx hb dX3_isBelow_28 (by decide) (fun h28 => ?_) (fun h28 => ?_)
      · have hf := if_f h28 hf
        refine lv_iload_n hx hb dX3_isBelow_35 rfl (lv_at hl 3 rfl) ?_
        refine lv_iload_n hx hb dX3_isBelow_36 rfl (lv_at hl 4 rfl) ?_
        refine lv_icmp_eq (tgt := 54) hx hb dX3_isBelow_37 (by decide) (fun h37 => ?_) (fun h37 => ?_)
        · have hf := if_t h37 hf
          refine lv_iconst (v := (0 : Int32)) hx hb dX3_isBelow_54 (by decide) ?_
          exact x_iret hx hb hr hlocks hK hP hD hS ⟨so_1 hf, hw0⟩ dX3_isBelow_55
        · have hf := if_f h37 hf
          refine lv_aload hx hb dX3_isBelow_40 (lv_at hl 0 rfl) ?_
          refine lv_iload_n hx hb dX3_isBelow_42 rfl (lv_at hl 3 rfl) ?_
          refine lv_iload_n hx hb dX3_isBelow_43 rfl (lv_at hl 4 rfl) ?_
          obtain ⟨r_44, hc44, hf⟩ := bn_e hf
          refine x_calli hD hS hAA (va_runV (As := [.int a2, .int a3]) (rest := []) ⟨hx, hb, hml, hown, hts⟩ (k_xf_G_takesAlong l dC dI cI cZ cG ad H.size w g_3 hg_3 a2 a3 r_44 w hc44 rfl) (cwV 2 hts gX3_isBelow_X1_takesAlong rfl rfl rfl (by decide +kernel) ⟨Nat.le_of_ble_eq_true rfl, Nat.le_of_ble_eq_true rfl⟩) ⟨x_blind, va_recv hK hP (ci := 1) (q0 := (12 + 5 * g_3)) rfl (xc_o hg_3), fun U hU hW => x_pre hU hW hK hP hD hN⟩ rfl rfl hl.1 rfl (lv_room (Nat.le_of_ble_eq_true rfl)) dX3_isBelow_44 ⟨Nat.zero_le _, Nat.zero_le _⟩) (fun H locs hP hD hS => ?_)
          refine lv_if_eq (tgt := 54) hx hb dX3_isBelow_47 (by decide) (fun h47 => ?_) (fun h47 => ?_)
          · have hf := if_t h47 hf
            refine lv_iconst (v := (0 : Int32)) hx hb dX3_isBelow_54 (by decide) ?_
            exact x_iret hx hb hr hlocks hK hP hD hS ⟨so_1 hf, hw0⟩ dX3_isBelow_55
          · have hf := if_f h47 hf
            refine lv_iconst (v := (1 : Int32)) hx hb dX3_isBelow_50 (by decide) ?_
            refine lv_goto (tgt := 55) hx hb dX3_isBelow_51 (by decide) ?_
            exact x_iret hx hb hr hlocks hK hP hD hS ⟨so_1 hf, hw0⟩ dX3_isBelow_55
      · have hf := if_t h28 hf
        refine lv_sipush (v := (-1001 : Int32)) hx hb dX3_isBelow_31 (by decide) ?_
        exact x_iret hx hb hr hlocks hK hP hD hS ⟨so_1 hf, hw0⟩ dX3_isBelow_34
set_option maxHeartbeats 4000000 in
set_option maxRecDepth 100000 in
theorem k_xf_G_hasBite (l : Launch) (dC : Nat → ClassId) (dI : Nat → Nat → Nat) (cI cZ cG : ClassId) (ad : Nat → Nat) (sz : Nat) (w : xW) (g : Nat) (hg : g < 6) (a1 : Int32) (r0 : Int32) (w0 : xW) (hf : xf_G_hasBite g a1 w = some (r0, w0)) : Met l yX1_hasBite wsX1_hasBite ({ frames := 4, cells := 0, slots := 0, locals := 91 } : Room) (va_Pc [.ref (ad (12 + 5 * g)), .int a1] (xPre dC dI cI cZ cG ad sz w)) (va_Qi (fun (r : Int32) (u : xW) => r = r0 ∧ u = w0) (xB dC dI cI cZ cG ad (xA ad sz)) (xA ad sz)) 0 0 (xA ad sz) := by
  refine Met.ofW (cc := cX1_hasBite) (maxL := 2) (ret := (some .boolean)) (by decide) rfl ?_
  intro p e s m args below meth c s₁ B hml hv
  obtain ⟨rfl, hsz, hP, hK, hD0, hN⟩ := hv
  have hx := B.exec
  have hb := B.bytes
  have hr := B.returns
  have hts := atoms_spec (ws := wsX1_hasBite) B.pre
  have hown : s.vm.findClass RX1 = some m.cls := findClass_of_methodNamed B.named
  have hlocks := B.notSynchronized
  subst hsz
  have hD : va_D (xA ad s.heap.size) (xc cI cG ad w) := xD_self hD0
  have hAA : ∀ z q, s.heap.size ≤ z → xA ad z q → xA ad s.heap.size q := xA_mono
  generalize xA ad s.heap.size = A at hD hAA ⊢
  have hS : va_S A s.heap s.heap [] := va_S.rf
  have hl := lv_entry ([.ref (ad (12 + 5 * g)), .int a1]) (n := 2) (Nat.le_of_ble_eq_true rfl)
  rw [lg_entry_eq]
  generalize (lg_sl ([.ref (ad (12 + 5 * g)), .int a1]) ++ List.replicate (2 - (lg_sl ([.ref (ad (12 + 5 * g)), .int a1])).length) Slot.unset).toArray = ls at hl ⊢
  have hl : lv_has ls 2 [(0, .ref (ad (12 + 5 * g))), (1, .int a1)] := hl
  unfold xf_G_hasBite at hf
  refine lv_iload_n hx hb dX1_hasBite_0 rfl (lv_at hl 1 rfl) ?_
  refine lv_if_lt (tgt := 16) hx hb dX1_hasBite_1 (by decide) (fun h1 => ?_) (fun h1 => ?_)
  · have hf := if_t h1 hf
    refine lv_iconst (v := (0 : Int32)) hx hb dX1_hasBite_16 (by decide) ?_
    obtain ⟨hg17, hf⟩ := gd_e hf
    exact x_zret hx hb hr hlocks hg17 hK hP hD hS (so_2 hf) dX1_hasBite_17
  · have hf := if_f h1 hf
    refine lv_iload_n hx hb dX1_hasBite_4 rfl (lv_at hl 1 rfl) ?_
    refine lv_aload_n hx hb dX1_hasBite_5 rfl (lv_at hl 0 rfl) ?_
    obtain ⟨r_6, w_6, hc6, hf⟩ := bn2_e hf
    refine x_calli hD hS hAA (va_runV (As := []) (rest := [.int a1]) ⟨hx, hb, hml, hown, hts⟩ (k_xf_G_countBites l dC dI cI cZ cG ad s.heap.size w g hg r_6 w_6 hc6) (cwV 0 hts gX1_hasBite_X1_countBites rfl rfl rfl (by decide +kernel) ⟨Nat.le_of_ble_eq_true rfl, Nat.le_of_ble_eq_true rfl⟩) ⟨x_blind, va_recv hK hP (ci := 1) (q0 := (12 + 5 * g)) rfl (xc_o hg), fun U hU hW => x_pre hU hW hK hP hD hN⟩ rfl rfl hl.1 rfl (lv_room (Nat.le_of_ble_eq_true rfl)) dX1_hasBite_6 ⟨Nat.zero_le _, Nat.zero_le _⟩) (fun H locs hP hD hS => ?_)
    refine lv_icmp_ge (tgt := 16) hx hb dX1_hasBite_9 (by decide) (fun h9 => ?_) (fun h9 => ?_)
    · have hf := if_t h9 hf
      refine lv_iconst (v := (0 : Int32)) hx hb dX1_hasBite_16 (by decide) ?_
      obtain ⟨hg17, hf⟩ := gd_e hf
      exact x_zret hx hb hr hlocks hg17 hK hP hD hS (so_2 hf) dX1_hasBite_17
    · have hf := if_f h9 hf
      refine lv_iconst (v := (1 : Int32)) hx hb dX1_hasBite_12 (by decide) ?_
      refine lv_goto (tgt := 17) hx hb dX1_hasBite_13 (by decide) ?_
      obtain ⟨hg17, hf⟩ := gd_e hf
      exact x_zret hx hb hr hlocks hg17 hK hP hD hS (so_2 hf) dX1_hasBite_17
set_option maxHeartbeats 4000000 in
set_option maxRecDepth 100000 in
theorem k_xf_B_rowOfBite (l : Launch) (dC : Nat → ClassId) (dI : Nat → Nat → Nat) (cI cZ cG : ClassId) (ad : Nat → Nat) (sz : Nat) (w : xW) (a1 : Int32) (a2 : Int32) (r0 : Int32) (w0 : xW) (hf : xf_B_rowOfBite a1 a2 w = some (r0, w0)) : Met l yX0_rowOfBite wsX0_rowOfBite ({ frames := 2, cells := 0, slots := 0, locals := 45 } : Room) (va_Pc [.ref (ad 3), .int a1, .int a2] (xPre dC dI cI cZ cG ad sz w)) (va_Qi (fun (r : Int32) (u : xW) => r = r0 ∧ u = w0) (xB dC dI cI cZ cG ad (xA ad sz)) (xA ad sz)) 0 0 (xA ad sz) := by
  refine Met.ofW (cc := cX0_rowOfBite) (maxL := 5) (ret := (some .int)) (by decide) rfl ?_
  intro p e s m args below meth c s₁ B hml hv
  obtain ⟨rfl, hsz, hP, hK, hD0, hN⟩ := hv
  have hx := B.exec
  have hb := B.bytes
  have hr := B.returns
  have hts := atoms_spec (ws := wsX0_rowOfBite) B.pre
  have hown : s.vm.findClass RX0 = some m.cls := findClass_of_methodNamed B.named
  have hlocks := B.notSynchronized
  have inX0 : ∀ w ∈ u_ws RX0 TX0 7, w ∈ wsX0_rowOfBite := by decide +kernel
  subst hsz
  have hD : va_D (xA ad s.heap.size) (xc cI cG ad w) := xD_self hD0
  have hAA : ∀ z q, s.heap.size ≤ z → xA ad z q → xA ad s.heap.size q := xA_mono
  generalize xA ad s.heap.size = A at hD hAA ⊢
  have hS : va_S A s.heap s.heap [] := va_S.rf
  have C10 : ∀ (n10 : Nat) (x3 : Int32) (x4 : Int32) (w : xW), xf_B_rowOfBite_C10 n10 x3 x4 w = some (r0, w0) → ∀ (H : Heap) (locs : List Loc) (ls : Array Slot), va_P (dC, dI) vwCl (xc cI cG ad w) H → va_D A (xc cI cG ad w) → va_S A s.heap H locs → lv_has ls 5 [(0, .ref (ad 3)), (3, .int x3), (4, .int x4)] → W p l e (headSpec wsX0_rowOfBite ({ frames := 2, cells := 0, slots := 0, locals := 45 } : Room)).room s m (List.toArray [Value.ref (ad 3), Value.int a1, Value.int a2]) below meth c H locs 0 0 (MQ below (va_Qi (fun (r : Int32) (u : xW) => r = r0 ∧ u = w0) (xB dC dI cI cZ cG ad A) A) (List.toArray [Value.ref (ad 3), Value.int a1, Value.int a2]) s 0 0 A) (F0 m 10 ls []) := by
    intro n10
    induction n10 with
    | zero => intro x3 x4 w hf; cases hf
    | succ n10 ih10 =>
      intro x3 x4 w hf H locs ls hP hD hS hl
      rw [xf_B_rowOfBite_C10] at hf
      refine lv_iload hx hb dX0_rowOfBite_10 (lv_at hl 2 rfl) ?_
      refine lv_aload_n hx hb dX0_rowOfBite_12 rfl (lv_at hl 0 rfl) ?_
      refine va_get (D := (dC, dI)) (ci := 0) (v := .ref (ad 5)) (C := RX0) (T := TX0) (N := 7) hx hb hts inX0 hown hK hP 3 rfl rfl 2 (by decide) (hts (.fieldLink RX0 15 "BittenBoards$Boards" "lines" "[I") (by decide +kernel)) (fun _ h9 => h9) rfl dX0_rowOfBite_13 ?_
      refine va_alen (v := (7 : Int32)) hx hb hK hP 5 0 rfl rfl (by rfl) dX0_rowOfBite_16 ?_
      refine lv_icmp_ge (tgt := 47) hx hb dX0_rowOfBite_17 (by decide) (fun h17 => ?_) (fun h17 => ?_)
      · have hf := if_t h17 hf
        refine lv_iload hx hb dX0_rowOfBite_47 (lv_at hl 2 rfl) ?_
        exact x_iret hx hb hr hlocks hK hP hD hS (so_2 hf) dX0_rowOfBite_49
      · have hf := if_f h17 hf
        refine lv_iload_n hx hb dX0_rowOfBite_20 rfl (lv_at hl 1 rfl) ?_
        refine lv_aload_n hx hb dX0_rowOfBite_21 rfl (lv_at hl 0 rfl) ?_
        refine va_get (D := (dC, dI)) (ci := 0) (v := .ref (ad 5)) (C := RX0) (T := TX0) (N := 7) hx hb hts inX0 hown hK hP 3 rfl rfl 2 (by decide) (hts (.fieldLink RX0 15 "BittenBoards$Boards" "lines" "[I") (by decide +kernel)) (fun _ h9 => h9) rfl dX0_rowOfBite_22 ?_
        refine lv_iload hx hb dX0_rowOfBite_25 (lv_at hl 2 rfl) ?_
        obtain ⟨hg27, hf⟩ := gi_e hf
        refine va_iald (f := (w.2.1 5)) hx hb hK hP 5 0 rfl rfl hg27 dX0_rowOfBite_27 ?_
        refine lv_icmp_lt (tgt := 47) hx hb dX0_rowOfBite_28 (by decide) (fun h28 => ?_) (fun h28 => ?_)
        · have hf := if_t h28 hf
          refine lv_iload hx hb dX0_rowOfBite_47 (lv_at hl 2 rfl) ?_
          exact x_iret hx hb hr hlocks hK hP hD hS (so_2 hf) dX0_rowOfBite_49
        · have hf := if_f h28 hf
          refine lv_iload_n hx hb dX0_rowOfBite_31 rfl (lv_at hl 1 rfl) ?_
          refine lv_aload_n hx hb dX0_rowOfBite_32 rfl (lv_at hl 0 rfl) ?_
          refine va_get (D := (dC, dI)) (ci := 0) (v := .ref (ad 5)) (C := RX0) (T := TX0) (N := 7) hx hb hts inX0 hown hK hP 3 rfl rfl 2 (by decide) (hts (.fieldLink RX0 15 "BittenBoards$Boards" "lines" "[I") (by decide +kernel)) (fun _ h9 => h9) rfl dX0_rowOfBite_33 ?_
          refine lv_iload hx hb dX0_rowOfBite_36 (lv_at hl 2 rfl) ?_
          obtain ⟨hg38, hf⟩ := gi_e hf
          refine va_iald (f := (w.2.1 5)) hx hb hK hP 5 0 rfl rfl hg38 dX0_rowOfBite_38 ?_
          refine lv_isub hx hb dX0_rowOfBite_39 ?_
          obtain ⟨x3_40, ex3_40, hf⟩ := nm_x hf
          refine W.eq (g2 := F0 m 40 ls [.int x3_40]) (by rw [ex3_40]) ?_
          refine lv_istore_n (lv' := [(3, .int x3_40), (0, .ref (ad 3)), (4, .int x4)]) hx hb dX0_rowOfBite_40 rfl hl (by decide) rfl (fun ls hl => ?_)
          obtain ⟨x4_41, ex4_41, hf⟩ := nm_x hf
          refine lv_iinc (v := x4_41) (lv' := [(4, .int x4_41), (3, .int x3_40), (0, .ref (ad 3))]) hx hb dX0_rowOfBite_41 hl (k := 2) rfl (by rw [ex4_41]; rfl) (by decide) rfl (fun ls hl => ?_)
          refine lv_goto (tgt := 10) hx hb dX0_rowOfBite_44 (by decide) ?_
          exact ih10 x3_40 x4_41 w hf _ _ _ hP hD hS (lv_sub hl [2, 1, 0] rfl)
  have hl := lv_entry ([.ref (ad 3), .int a1, .int a2]) (n := 5) (Nat.le_of_ble_eq_true rfl)
  rw [lg_entry_eq]
  generalize (lg_sl ([.ref (ad 3), .int a1, .int a2]) ++ List.replicate (5 - (lg_sl ([.ref (ad 3), .int a1, .int a2])).length) Slot.unset).toArray = ls at hl ⊢
  have hl : lv_has ls 5 [(0, .ref (ad 3)), (1, .int a1), (2, .int a2)] := hl
  unfold xf_B_rowOfBite at hf
  refine lv_aload_n hx hb dX0_rowOfBite_0 rfl (lv_at hl 0 rfl) ?_
  refine lv_iload_n hx hb dX0_rowOfBite_1 rfl (lv_at hl 1 rfl) ?_
  obtain ⟨w_2, hc2, hf⟩ := bn_e hf
  refine x_callv hD hS hAA (va_runV (As := [.int a1]) (rest := []) ⟨hx, hb, hml, hown, hts⟩ (k_xf_B_lookAt l dC dI cI cZ cG ad s.heap.size w a1 w_2 hc2) (cwV 1 hts gX0_rowOfBite_X0_lookAt rfl rfl rfl (by decide +kernel) ⟨Nat.le_of_ble_eq_true rfl, Nat.le_of_ble_eq_true rfl⟩) ⟨x_blind, va_recv hK hP (ci := 0) (q0 := 3) rfl rfl, fun U hU hW => x_pre hU hW hK hP hD hN⟩ rfl rfl hl.1 rfl (lv_room (Nat.le_of_ble_eq_true rfl)) dX0_rowOfBite_2 ⟨Nat.zero_le _, Nat.zero_le _⟩) (fun H locs hP hD hS => ?_)
  refine lv_iload_n hx hb dX0_rowOfBite_5 rfl (lv_at hl 2 rfl) ?_
  refine lv_istore_n (lv' := [(3, .int a2), (0, .ref (ad 3)), (1, .int a1), (2, .int a2)]) hx hb dX0_rowOfBite_6 rfl hl (by decide) rfl (fun ls hl => ?_)
  refine lv_iconst (v := (0 : Int32)) hx hb dX0_rowOfBite_7 (by decide) ?_
  refine lv_istore (lv' := [(4, .int (0 : Int32)), (3, .int a2), (0, .ref (ad 3)), (1, .int a1), (2, .int a2)]) hx hb dX0_rowOfBite_8 hl (by decide) rfl (fun ls hl => ?_)
  exact C10 fu a2 (0 : Int32) w_2 hf _ _ _ hP hD hS (lv_sub hl [2, 1, 0] rfl)
set_option maxHeartbeats 4000000 in
set_option maxRecDepth 100000 in
theorem k_xf_B_columnOfBite (l : Launch) (dC : Nat → ClassId) (dI : Nat → Nat → Nat) (cI cZ cG : ClassId) (ad : Nat → Nat) (sz : Nat) (w : xW) (a1 : Int32) (a2 : Int32) (r0 : Int32) (w0 : xW) (hf : xf_B_columnOfBite a1 a2 w = some (r0, w0)) : Met l yX0_columnOfBite wsX0_columnOfBite ({ frames := 2, cells := 0, slots := 0, locals := 45 } : Room) (va_Pc [.ref (ad 3), .int a1, .int a2] (xPre dC dI cI cZ cG ad sz w)) (va_Qi (fun (r : Int32) (u : xW) => r = r0 ∧ u = w0) (xB dC dI cI cZ cG ad (xA ad sz)) (xA ad sz)) 0 0 (xA ad sz) := by
  refine Met.ofW (cc := cX0_columnOfBite) (maxL := 5) (ret := (some .int)) (by decide) rfl ?_
  intro p e s m args below meth c s₁ B hml hv
  obtain ⟨rfl, hsz, hP, hK, hD0, hN⟩ := hv
  have hx := B.exec
  have hb := B.bytes
  have hr := B.returns
  have hts := atoms_spec (ws := wsX0_columnOfBite) B.pre
  have hown : s.vm.findClass RX0 = some m.cls := findClass_of_methodNamed B.named
  have hlocks := B.notSynchronized
  have inX0 : ∀ w ∈ u_ws RX0 TX0 7, w ∈ wsX0_columnOfBite := by decide +kernel
  subst hsz
  have hD : va_D (xA ad s.heap.size) (xc cI cG ad w) := xD_self hD0
  have hAA : ∀ z q, s.heap.size ≤ z → xA ad z q → xA ad s.heap.size q := xA_mono
  generalize xA ad s.heap.size = A at hD hAA ⊢
  have hS : va_S A s.heap s.heap [] := va_S.rf
  have C10 : ∀ (n10 : Nat) (x3 : Int32) (x4 : Int32) (w : xW), xf_B_columnOfBite_C10 n10 x3 x4 w = some (r0, w0) → ∀ (H : Heap) (locs : List Loc) (ls : Array Slot), va_P (dC, dI) vwCl (xc cI cG ad w) H → va_D A (xc cI cG ad w) → va_S A s.heap H locs → lv_has ls 5 [(0, .ref (ad 3)), (3, .int x3), (4, .int x4)] → W p l e (headSpec wsX0_columnOfBite ({ frames := 2, cells := 0, slots := 0, locals := 45 } : Room)).room s m (List.toArray [Value.ref (ad 3), Value.int a1, Value.int a2]) below meth c H locs 0 0 (MQ below (va_Qi (fun (r : Int32) (u : xW) => r = r0 ∧ u = w0) (xB dC dI cI cZ cG ad A) A) (List.toArray [Value.ref (ad 3), Value.int a1, Value.int a2]) s 0 0 A) (F0 m 10 ls []) := by
    intro n10
    induction n10 with
    | zero => intro x3 x4 w hf; cases hf
    | succ n10 ih10 =>
      intro x3 x4 w hf H locs ls hP hD hS hl
      rw [xf_B_columnOfBite_C10] at hf
      refine lv_iload hx hb dX0_columnOfBite_10 (lv_at hl 2 rfl) ?_
      refine lv_aload_n hx hb dX0_columnOfBite_12 rfl (lv_at hl 0 rfl) ?_
      refine va_get (D := (dC, dI)) (ci := 0) (v := .ref (ad 5)) (C := RX0) (T := TX0) (N := 7) hx hb hts inX0 hown hK hP 3 rfl rfl 2 (by decide) (hts (.fieldLink RX0 15 "BittenBoards$Boards" "lines" "[I") (by decide +kernel)) (fun _ h9 => h9) rfl dX0_columnOfBite_13 ?_
      refine va_alen (v := (7 : Int32)) hx hb hK hP 5 0 rfl rfl (by rfl) dX0_columnOfBite_16 ?_
      refine lv_icmp_ge (tgt := 47) hx hb dX0_columnOfBite_17 (by decide) (fun h17 => ?_) (fun h17 => ?_)
      · have hf := if_t h17 hf
        refine lv_iload_n hx hb dX0_columnOfBite_47 rfl (lv_at hl 1 rfl) ?_
        exact x_iret hx hb hr hlocks hK hP hD hS (so_2 hf) dX0_columnOfBite_48
      · have hf := if_f h17 hf
        refine lv_iload_n hx hb dX0_columnOfBite_20 rfl (lv_at hl 1 rfl) ?_
        refine lv_aload_n hx hb dX0_columnOfBite_21 rfl (lv_at hl 0 rfl) ?_
        refine va_get (D := (dC, dI)) (ci := 0) (v := .ref (ad 5)) (C := RX0) (T := TX0) (N := 7) hx hb hts inX0 hown hK hP 3 rfl rfl 2 (by decide) (hts (.fieldLink RX0 15 "BittenBoards$Boards" "lines" "[I") (by decide +kernel)) (fun _ h9 => h9) rfl dX0_columnOfBite_22 ?_
        refine lv_iload hx hb dX0_columnOfBite_25 (lv_at hl 2 rfl) ?_
        obtain ⟨hg27, hf⟩ := gi_e hf
        refine va_iald (f := (w.2.1 5)) hx hb hK hP 5 0 rfl rfl hg27 dX0_columnOfBite_27 ?_
        refine lv_icmp_lt (tgt := 47) hx hb dX0_columnOfBite_28 (by decide) (fun h28 => ?_) (fun h28 => ?_)
        · have hf := if_t h28 hf
          refine lv_iload_n hx hb dX0_columnOfBite_47 rfl (lv_at hl 1 rfl) ?_
          exact x_iret hx hb hr hlocks hK hP hD hS (so_2 hf) dX0_columnOfBite_48
        · have hf := if_f h28 hf
          refine lv_iload_n hx hb dX0_columnOfBite_31 rfl (lv_at hl 1 rfl) ?_
          refine lv_aload_n hx hb dX0_columnOfBite_32 rfl (lv_at hl 0 rfl) ?_
          refine va_get (D := (dC, dI)) (ci := 0) (v := .ref (ad 5)) (C := RX0) (T := TX0) (N := 7) hx hb hts inX0 hown hK hP 3 rfl rfl 2 (by decide) (hts (.fieldLink RX0 15 "BittenBoards$Boards" "lines" "[I") (by decide +kernel)) (fun _ h9 => h9) rfl dX0_columnOfBite_33 ?_
          refine lv_iload hx hb dX0_columnOfBite_36 (lv_at hl 2 rfl) ?_
          obtain ⟨hg38, hf⟩ := gi_e hf
          refine va_iald (f := (w.2.1 5)) hx hb hK hP 5 0 rfl rfl hg38 dX0_columnOfBite_38 ?_
          refine lv_isub hx hb dX0_columnOfBite_39 ?_
          obtain ⟨x3_40, ex3_40, hf⟩ := nm_x hf
          refine W.eq (g2 := F0 m 40 ls [.int x3_40]) (by rw [ex3_40]) ?_
          refine lv_istore_n (lv' := [(3, .int x3_40), (0, .ref (ad 3)), (4, .int x4)]) hx hb dX0_columnOfBite_40 rfl hl (by decide) rfl (fun ls hl => ?_)
          obtain ⟨x4_41, ex4_41, hf⟩ := nm_x hf
          refine lv_iinc (v := x4_41) (lv' := [(4, .int x4_41), (3, .int x3_40), (0, .ref (ad 3))]) hx hb dX0_columnOfBite_41 hl (k := 2) rfl (by rw [ex4_41]; rfl) (by decide) rfl (fun ls hl => ?_)
          refine lv_goto (tgt := 10) hx hb dX0_columnOfBite_44 (by decide) ?_
          exact ih10 x3_40 x4_41 w hf _ _ _ hP hD hS (lv_sub hl [2, 1, 0] rfl)
  have hl := lv_entry ([.ref (ad 3), .int a1, .int a2]) (n := 5) (Nat.le_of_ble_eq_true rfl)
  rw [lg_entry_eq]
  generalize (lg_sl ([.ref (ad 3), .int a1, .int a2]) ++ List.replicate (5 - (lg_sl ([.ref (ad 3), .int a1, .int a2])).length) Slot.unset).toArray = ls at hl ⊢
  have hl : lv_has ls 5 [(0, .ref (ad 3)), (1, .int a1), (2, .int a2)] := hl
  unfold xf_B_columnOfBite at hf
  refine lv_aload_n hx hb dX0_columnOfBite_0 rfl (lv_at hl 0 rfl) ?_
  refine lv_iload_n hx hb dX0_columnOfBite_1 rfl (lv_at hl 1 rfl) ?_
  obtain ⟨w_2, hc2, hf⟩ := bn_e hf
  refine x_callv hD hS hAA (va_runV (As := [.int a1]) (rest := []) ⟨hx, hb, hml, hown, hts⟩ (k_xf_B_lookAt l dC dI cI cZ cG ad s.heap.size w a1 w_2 hc2) (cwV 1 hts gX0_columnOfBite_X0_lookAt rfl rfl rfl (by decide +kernel) ⟨Nat.le_of_ble_eq_true rfl, Nat.le_of_ble_eq_true rfl⟩) ⟨x_blind, va_recv hK hP (ci := 0) (q0 := 3) rfl rfl, fun U hU hW => x_pre hU hW hK hP hD hN⟩ rfl rfl hl.1 rfl (lv_room (Nat.le_of_ble_eq_true rfl)) dX0_columnOfBite_2 ⟨Nat.zero_le _, Nat.zero_le _⟩) (fun H locs hP hD hS => ?_)
  refine lv_iload_n hx hb dX0_columnOfBite_5 rfl (lv_at hl 2 rfl) ?_
  refine lv_istore_n (lv' := [(3, .int a2), (0, .ref (ad 3)), (1, .int a1), (2, .int a2)]) hx hb dX0_columnOfBite_6 rfl hl (by decide) rfl (fun ls hl => ?_)
  refine lv_iconst (v := (0 : Int32)) hx hb dX0_columnOfBite_7 (by decide) ?_
  refine lv_istore (lv' := [(4, .int (0 : Int32)), (3, .int a2), (0, .ref (ad 3)), (1, .int a1), (2, .int a2)]) hx hb dX0_columnOfBite_8 hl (by decide) rfl (fun ls hl => ?_)
  exact C10 fu a2 (0 : Int32) w_2 hf _ _ _ hP hD hS (lv_sub hl [2, 1, 0] rfl)
set_option maxHeartbeats 4000000 in
set_option maxRecDepth 100000 in
theorem k_xf_B_rankAfter (l : Launch) (dC : Nat → ClassId) (dI : Nat → Nat → Nat) (cI cZ cG : ClassId) (ad : Nat → Nat) (sz : Nat) (w : xW) (a1 : Int32) (a2 : Int32) (r0 : Int32) (w0 : xW) (hf : xf_B_rankAfter a1 a2 w = some (r0, w0)) : Met l yX0_rankAfter wsX0_rankAfter ({ frames := 3, cells := 0, slots := 0, locals := 69 } : Room) (va_Pc [.ref (ad 3), .int a1, .int a2] (xPre dC dI cI cZ cG ad sz w)) (va_Qi (fun (r : Int32) (u : xW) => r = r0 ∧ u = w0) (xB dC dI cI cZ cG ad (xA ad sz)) (xA ad sz)) 0 0 (xA ad sz) := by
  refine Met.ofW (cc := cX0_rankAfter) (maxL := 6) (ret := (some .int)) (by decide) rfl ?_
  intro p e s m args below meth c s₁ B hml hv
  obtain ⟨rfl, hsz, hP, hK, hD0, hN⟩ := hv
  have hx := B.exec
  have hb := B.bytes
  have hr := B.returns
  have hts := atoms_spec (ws := wsX0_rankAfter) B.pre
  have hown : s.vm.findClass RX0 = some m.cls := findClass_of_methodNamed B.named
  have hlocks := B.notSynchronized
  have inX0 : ∀ w ∈ u_ws RX0 TX0 7, w ∈ wsX0_rankAfter := by decide +kernel
  subst hsz
  have hD : va_D (xA ad s.heap.size) (xc cI cG ad w) := xD_self hD0
  have hAA : ∀ z q, s.heap.size ≤ z → xA ad z q → xA ad s.heap.size q := xA_mono
  generalize xA ad s.heap.size = A at hD hAA ⊢
  have hS : va_S A s.heap s.heap [] := va_S.rf
  have C18 : ∀ (n18 : Nat) (x3 : Int32) (x4 : Int32) (x5 : Int32) (w : xW), xf_B_rankAfter_C18 n18 x3 x4 x5 w = some (r0, w0) → ∀ (H : Heap) (locs : List Loc) (ls : Array Slot), va_P (dC, dI) vwCl (xc cI cG ad w) H → va_D A (xc cI cG ad w) → va_S A s.heap H locs → lv_has ls 6 [(0, .ref (ad 3)), (3, .int x3), (4, .int x4), (5, .int x5)] → W p l e (headSpec wsX0_rankAfter ({ frames := 3, cells := 0, slots := 0, locals := 69 } : Room)).room s m (List.toArray [Value.ref (ad 3), Value.int a1, Value.int a2]) below meth c H locs 0 0 (MQ below (va_Qi (fun (r : Int32) (u : xW) => r = r0 ∧ u = w0) (xB dC dI cI cZ cG ad A) A) (List.toArray [Value.ref (ad 3), Value.int a1, Value.int a2]) s 0 0 A) (F0 m 18 ls []) := by
    intro n18
    induction n18 with
    | zero => intro x3 x4 x5 w hf; cases hf
    | succ n18 ih18 =>
      intro x3 x4 x5 w hf H locs ls hP hD hS hl
      rw [xf_B_rankAfter_C18] at hf
      refine lv_iload hx hb dX0_rankAfter_18 (lv_at hl 3 rfl) ?_
      refine lv_aload_n hx hb dX0_rankAfter_20 rfl (lv_at hl 0 rfl) ?_
      refine va_get (D := (dC, dI)) (ci := 0) (v := .ref (ad 5)) (C := RX0) (T := TX0) (N := 7) hx hb hts inX0 hown hK hP 3 rfl rfl 2 (by decide) (hts (.fieldLink RX0 15 "BittenBoards$Boards" "lines" "[I") (by decide +kernel)) (fun _ h9 => h9) rfl dX0_rankAfter_21 ?_
      refine va_alen (v := (7 : Int32)) hx hb hK hP 5 0 rfl rfl (by rfl) dX0_rankAfter_24 ?_
      refine lv_icmp_ge (tgt := 59) hx hb dX0_rankAfter_25 (by decide) (fun h25 => ?_) (fun h25 => ?_)
      · have hf := if_t h25 hf
        refine lv_aload_n hx hb dX0_rankAfter_59 rfl (lv_at hl 0 rfl) ?_
        obtain ⟨r_60, hc60, hf⟩ := bn_e hf
        refine x_calli hD hS hAA (va_runV (As := []) (rest := []) ⟨hx, hb, hml, hown, hts⟩ (k_xf_B_rankOfLines l dC dI cI cZ cG ad H.size w  r_60 w hc60 rfl) (cwV 0 hts gX0_rankAfter_X0_rankOfLines rfl rfl rfl (by decide +kernel) ⟨Nat.le_of_ble_eq_true rfl, Nat.le_of_ble_eq_true rfl⟩) ⟨x_blind, va_recv hK hP (ci := 0) (q0 := 3) rfl rfl, fun U hU hW => x_pre hU hW hK hP hD hN⟩ rfl rfl hl.1 rfl (lv_room (Nat.le_of_ble_eq_true rfl)) dX0_rankAfter_60 ⟨Nat.zero_le _, Nat.zero_le _⟩) (fun H locs hP hD hS => ?_)
        exact x_iret hx hb hr hlocks hK hP hD hS (so_2 hf) dX0_rankAfter_63
      · have hf := if_f h25 hf
        refine lv_iload hx hb dX0_rankAfter_28 (lv_at hl 3 rfl) ?_
        refine lv_iload_n hx hb dX0_rankAfter_30 rfl (lv_at hl 1 rfl) ?_
        refine lv_icmp_lt (tgt := 53) hx hb dX0_rankAfter_31 (by decide) (fun h31 => ?_) (fun h31 => ?_)
        · have hf := if_t h31 hf
          obtain ⟨x5_53, ex5_53, hf⟩ := nm_x hf
          refine lv_iinc (v := x5_53) (lv' := [(5, .int x5_53), (0, .ref (ad 3)), (3, .int x3), (4, .int x4)]) hx hb dX0_rankAfter_53 hl (k := 3) rfl (by rw [ex5_53]; rfl) (by decide) rfl (fun ls hl => ?_)
          refine lv_goto (tgt := 18) hx hb dX0_rankAfter_56 (by decide) ?_
          exact ih18 x3 x4 x5_53 w hf _ _ _ hP hD hS (lv_sub hl [1, 2, 3, 0] rfl)
        · have hf := if_f h31 hf
          refine lv_aload_n hx hb dX0_rankAfter_34 rfl (lv_at hl 0 rfl) ?_
          refine va_get (D := (dC, dI)) (ci := 0) (v := .ref (ad 5)) (C := RX0) (T := TX0) (N := 7) hx hb hts inX0 hown hK hP 3 rfl rfl 2 (by decide) (hts (.fieldLink RX0 15 "BittenBoards$Boards" "lines" "[I") (by decide +kernel)) (fun _ h9 => h9) rfl dX0_rankAfter_35 ?_
          refine lv_iload hx hb dX0_rankAfter_38 (lv_at hl 3 rfl) ?_
          refine lv_aload_n hx hb dX0_rankAfter_40 rfl (lv_at hl 0 rfl) ?_
          refine va_get (D := (dC, dI)) (ci := 0) (v := .ref (ad 5)) (C := RX0) (T := TX0) (N := 7) hx hb hts inX0 hown hK hP 3 rfl rfl 2 (by decide) (hts (.fieldLink RX0 15 "BittenBoards$Boards" "lines" "[I") (by decide +kernel)) (fun _ h9 => h9) rfl dX0_rankAfter_41 ?_
          refine lv_iload hx hb dX0_rankAfter_44 (lv_at hl 3 rfl) ?_
          obtain ⟨hg46, hf⟩ := gi_e hf
          refine va_iald (f := (w.2.1 5)) hx hb hK hP 5 0 rfl rfl hg46 dX0_rankAfter_46 ?_
          refine lv_iload hx hb dX0_rankAfter_47 (lv_at hl 2 rfl) ?_
          obtain ⟨r_49, er_49, hf⟩ := nm_x hf
          refine va_mmin hx hb (by rw [hml]; exact hl.1.symm) hown (hts (.methodLink RX0 39 Lib.Math.min.name) (by decide +kernel)) (hts (.static Lib.Math.min.name) (by decide +kernel)) (hts (.initialized "java/lang/Math") (by decide +kernel)) (hts (.code Lib.Math.min.name Lib.Math.min.code 2 (some .int)) (by decide +kernel)) (Nat.le_of_ble_eq_true rfl) (Nat.le_of_ble_eq_true rfl) (Nat.zero_le _) (Nat.zero_le _) dX0_rankAfter_49 ?_
          refine W.eq (g2 := F0 m 52 ls [.int r_49, .int x5, .ref (ad 5)]) (by rw [er_49]; rfl) ?_
          obtain ⟨hg52, hf⟩ := gi_e hf
          obtain ⟨w_52, ew_52, hf⟩ := nm_x hf
          refine va_iast (f := (w.2.1 5)) hx hb hK hP hD hS 5 0 rfl rfl hg52 dX0_rankAfter_52 (fun H locs hP hD hS => ?_)
          have hP : va_P (dC, dI) vwCl (xc cI cG ad w_52) H := hP.eqs (by rw [ew_52]; rfl)
          have hD : va_D A (xc cI cG ad w_52) := hD.eqs (by rw [ew_52]; rfl)
          obtain ⟨x5_53, ex5_53, hf⟩ := nm_x hf
          refine lv_iinc (v := x5_53) (lv' := [(5, .int x5_53), (0, .ref (ad 3)), (3, .int x3), (4, .int x4)]) hx hb dX0_rankAfter_53 hl (k := 3) rfl (by rw [ex5_53]; rfl) (by decide) rfl (fun ls hl => ?_)
          refine lv_goto (tgt := 18) hx hb dX0_rankAfter_56 (by decide) ?_
          exact ih18 x3 x4 x5_53 w_52 hf _ _ _ hP hD hS (lv_sub hl [1, 2, 3, 0] rfl)
  have hl := lv_entry ([.ref (ad 3), .int a1, .int a2]) (n := 6) (Nat.le_of_ble_eq_true rfl)
  rw [lg_entry_eq]
  generalize (lg_sl ([.ref (ad 3), .int a1, .int a2]) ++ List.replicate (6 - (lg_sl ([.ref (ad 3), .int a1, .int a2])).length) Slot.unset).toArray = ls at hl ⊢
  have hl : lv_has ls 6 [(0, .ref (ad 3)), (1, .int a1), (2, .int a2)] := hl
  unfold xf_B_rankAfter at hf
  refine lv_aload_n hx hb dX0_rankAfter_0 rfl (lv_at hl 0 rfl) ?_
  refine lv_iload_n hx hb dX0_rankAfter_1 rfl (lv_at hl 1 rfl) ?_
  refine lv_iload_n hx hb dX0_rankAfter_2 rfl (lv_at hl 2 rfl) ?_
  obtain ⟨r_3, w_3, hc3, hf⟩ := bn2_e hf
  refine x_calli hD hS hAA (va_runV (As := [.int a1, .int a2]) (rest := []) ⟨hx, hb, hml, hown, hts⟩ (k_xf_B_rowOfBite l dC dI cI cZ cG ad s.heap.size w a1 a2 r_3 w_3 hc3) (cwV 2 hts gX0_rankAfter_X0_rowOfBite rfl rfl rfl (by decide +kernel) ⟨Nat.le_of_ble_eq_true rfl, Nat.le_of_ble_eq_true rfl⟩) ⟨x_blind, va_recv hK hP (ci := 0) (q0 := 3) rfl rfl, fun U hU hW => x_pre hU hW hK hP hD hN⟩ rfl rfl hl.1 rfl (lv_room (Nat.le_of_ble_eq_true rfl)) dX0_rankAfter_3 ⟨Nat.zero_le _, Nat.zero_le _⟩) (fun H locs hP hD hS => ?_)
  refine lv_istore_n (lv' := [(3, .int r_3), (0, .ref (ad 3)), (1, .int a1), (2, .int a2)]) hx hb dX0_rankAfter_6 rfl hl (by decide) rfl (fun ls hl => ?_)
  refine lv_aload_n hx hb dX0_rankAfter_7 rfl (lv_at hl 1 rfl) ?_
  refine lv_iload_n hx hb dX0_rankAfter_8 rfl (lv_at hl 2 rfl) ?_
  refine lv_iload_n hx hb dX0_rankAfter_9 rfl (lv_at hl 3 rfl) ?_
  obtain ⟨r_10, w_10, hc10, hf⟩ := bn2_e hf
  refine x_calli hD hS hAA (va_runV (As := [.int a1, .int a2]) (rest := []) ⟨hx, hb, hml, hown, hts⟩ (k_xf_B_columnOfBite l dC dI cI cZ cG ad H.size w_3 a1 a2 r_10 w_10 hc10) (cwV 2 hts gX0_rankAfter_X0_columnOfBite rfl rfl rfl (by decide +kernel) ⟨Nat.le_of_ble_eq_true rfl, Nat.le_of_ble_eq_true rfl⟩) ⟨x_blind, va_recv hK hP (ci := 0) (q0 := 3) rfl rfl, fun U hU hW => x_pre hU hW hK hP hD hN⟩ rfl rfl hl.1 rfl (lv_room (Nat.le_of_ble_eq_true rfl)) dX0_rankAfter_10 ⟨Nat.zero_le _, Nat.zero_le _⟩) (fun H locs hP hD hS => ?_)
  refine lv_istore (lv' := [(4, .int r_10), (3, .int r_3), (0, .ref (ad 3)), (1, .int a1), (2, .int a2)]) hx hb dX0_rankAfter_13 hl (by decide) rfl (fun ls hl => ?_)
  refine lv_iconst (v := (0 : Int32)) hx hb dX0_rankAfter_15 (by decide) ?_
  refine lv_istore (lv' := [(5, .int (0 : Int32)), (4, .int r_10), (3, .int r_3), (0, .ref (ad 3)), (1, .int a1), (2, .int a2)]) hx hb dX0_rankAfter_16 hl (by decide) rfl (fun ls hl => ?_)
  exact C18 fu r_3 r_10 (0 : Int32) w_10 hf _ _ _ hP hD hS (lv_sub hl [3, 2, 1, 0] rfl)
set_option maxHeartbeats 4000000 in
set_option maxRecDepth 100000 in
theorem k_xf_G_partOfBite (l : Launch) (dC : Nat → ClassId) (dI : Nat → Nat → Nat) (cI cZ cG : ClassId) (ad : Nat → Nat) (sz : Nat) (w : xW) (g : Nat) (hg : g < 6) (a1 : Int32) (r0 : Int32) (w0 : xW) (hf : xf_G_partOfBite g a1 w = some r0) (hw0 : w = w0) : Met l yX1_partOfBite wsX1_partOfBite ({ frames := 0, cells := 0, slots := 0, locals := 0 } : Room) (va_Pc [.ref (ad (12 + 5 * g)), .int a1] (xPre dC dI cI cZ cG ad sz w)) (va_Qi (fun (r : Int32) (u : xW) => r = r0 ∧ u = w0) (xB dC dI cI cZ cG ad (xA ad sz)) (xA ad sz)) 0 0 (xA ad sz) := by
  refine Met.ofW (cc := cX1_partOfBite) (maxL := 4) (ret := (some .int)) (by decide) rfl ?_
  intro p e s m args below meth c s₁ B hml hv
  obtain ⟨rfl, hsz, hP, hK, hD0, hN⟩ := hv
  have hx := B.exec
  have hb := B.bytes
  have hr := B.returns
  have hts := atoms_spec (ws := wsX1_partOfBite) B.pre
  have hown : s.vm.findClass RX1 = some m.cls := findClass_of_methodNamed B.named
  have hlocks := B.notSynchronized
  have inX1 : ∀ w ∈ u_ws RX1 TX1 12, w ∈ wsX1_partOfBite := by decide +kernel
  subst hsz
  have hD : va_D (xA ad s.heap.size) (xc cI cG ad w) := xD_self hD0
  have hAA : ∀ z q, s.heap.size ≤ z → xA ad z q → xA ad s.heap.size q := xA_mono
  generalize xA ad s.heap.size = A at hD hAA ⊢
  have hS : va_S A s.heap s.heap [] := va_S.rf
  have C4 : ∀ (n4 : Nat) (x2 : Int32) (x3 : Int32), xf_G_partOfBite_C4 g w n4 x2 x3 = some r0 → ∀ (H : Heap) (locs : List Loc) (ls : Array Slot), va_P (dC, dI) vwCl (xc cI cG ad w) H → va_D A (xc cI cG ad w) → va_S A s.heap H locs → lv_has ls 4 [(0, .ref (ad (12 + 5 * g))), (2, .int x2), (3, .int x3)] → W p l e (headSpec wsX1_partOfBite ({ frames := 0, cells := 0, slots := 0, locals := 0 } : Room)).room s m (List.toArray [Value.ref (ad (12 + 5 * g)), Value.int a1]) below meth c H locs 0 0 (MQ below (va_Qi (fun (r : Int32) (u : xW) => r = r0 ∧ u = w0) (xB dC dI cI cZ cG ad A) A) (List.toArray [Value.ref (ad (12 + 5 * g)), Value.int a1]) s 0 0 A) (F0 m 4 ls []) := by
    intro n4
    induction n4 with
    | zero => intro x2 x3 hf; cases hf
    | succ n4 ih4 =>
      intro x2 x3 hf H locs ls hP hD hS hl
      rw [xf_G_partOfBite_C4] at hf
      refine lv_iload_n hx hb dX1_partOfBite_4 rfl (lv_at hl 2 rfl) ?_
      refine lv_aload_n hx hb dX1_partOfBite_5 rfl (lv_at hl 0 rfl) ?_
      refine va_get (D := (dC, dI)) (ci := 1) (v := .ref (ad (13 + 5 * g))) (C := RX1) (T := TX1) (N := 12) hx hb hts inX1 hown hK hP (12 + 5 * g) (xc_o hg) rfl 2 (by decide) (hts (.fieldLink RX1 9 "BittenBoards$Game" "takenBy" "[I") (by decide +kernel)) (fun _ h9 => h9) rfl dX1_partOfBite_6 ?_
      refine va_alen (v := (15 : Int32)) hx hb hK hP (13 + 5 * g) 0 (xc_r0 hg) rfl (by rfl) dX1_partOfBite_9 ?_
      refine lv_icmp_ge (tgt := 39) hx hb dX1_partOfBite_10 (by decide) (fun h10 => ?_) (fun h10 => ?_)
      · have hf := if_t h10 hf
        refine lv_iconst (v := (-1 : Int32)) hx hb dX1_partOfBite_39 (by decide) ?_
        exact x_iret hx hb hr hlocks hK hP hD hS ⟨so_1 hf, hw0⟩ dX1_partOfBite_40
      · have hf := if_f h10 hf
        refine lv_aload_n hx hb dX1_partOfBite_13 rfl (lv_at hl 0 rfl) ?_
        refine va_get (D := (dC, dI)) (ci := 1) (v := .int (w.2.2.1 3 g)) (C := RX1) (T := TX1) (N := 12) hx hb hts inX1 hown hK hP (12 + 5 * g) (xc_o hg) rfl 9 (by decide) (hts (.fieldLink RX1 50 "BittenBoards$Game" "state" "I") (by decide +kernel)) (fun _ h9 => h9) rfl dX1_partOfBite_14 ?_
        refine lv_iload_n hx hb dX1_partOfBite_17 rfl (lv_at hl 2 rfl) ?_
        refine lv_ishr hx hb dX1_partOfBite_18 ?_
        refine lv_iconst (v := (1 : Int32)) hx hb dX1_partOfBite_19 (by decide) ?_
        refine lv_iand hx hb dX1_partOfBite_20 ?_
        refine lv_if_eq (tgt := 33) hx hb dX1_partOfBite_21 (by decide) (fun h21 => ?_) (fun h21 => ?_)
        · have hf := if_t h21 hf
          obtain ⟨x3_33, ex3_33, hf⟩ := nm_x hf
          refine lv_iinc (v := x3_33) (lv' := [(3, .int x3_33), (0, .ref (ad (12 + 5 * g))), (2, .int x2)]) hx hb dX1_partOfBite_33 hl (k := 2) rfl (by rw [ex3_33]; rfl) (by decide) rfl (fun ls hl => ?_)
          refine lv_goto (tgt := 4) hx hb dX1_partOfBite_36 (by decide) ?_
          exact ih4 x2 x3_33 hf _ _ _ hP hD hS (lv_sub hl [1, 2, 0] rfl)
        · have hf := if_f h21 hf
          refine lv_iload_n hx hb dX1_partOfBite_24 rfl (lv_at hl 1 rfl) ?_
          refine lv_if_ne (tgt := 30) hx hb dX1_partOfBite_25 (by decide) (fun h25 => ?_) (fun h25 => ?_)
          · have hf := if_f h25 hf
            obtain ⟨x2_30, ex2_30, hf⟩ := nm_x hf
            refine lv_iinc (v := x2_30) (lv' := [(2, .int x2_30), (0, .ref (ad (12 + 5 * g))), (3, .int x3)]) hx hb dX1_partOfBite_30 hl (k := 1) rfl (by rw [ex2_30]; rfl) (by decide) rfl (fun ls hl => ?_)
            obtain ⟨x3_33, ex3_33, hf⟩ := nm_x hf
            refine lv_iinc (v := x3_33) (lv' := [(3, .int x3_33), (2, .int x2_30), (0, .ref (ad (12 + 5 * g)))]) hx hb dX1_partOfBite_33 hl (k := 2) rfl (by rw [ex3_33]; rfl) (by decide) rfl (fun ls hl => ?_)
            refine lv_goto (tgt := 4) hx hb dX1_partOfBite_36 (by decide) ?_
            exact ih4 x2_30 x3_33 hf _ _ _ hP hD hS (lv_sub hl [2, 1, 0] rfl)
          · have hf := if_t h25 hf
            refine lv_iload_n hx hb dX1_partOfBite_28 rfl (lv_at hl 2 rfl) ?_
            exact x_iret hx hb hr hlocks hK hP hD hS ⟨so_1 hf, hw0⟩ dX1_partOfBite_29
  have hl := lv_entry ([.ref (ad (12 + 5 * g)), .int a1]) (n := 4) (Nat.le_of_ble_eq_true rfl)
  rw [lg_entry_eq]
  generalize (lg_sl ([.ref (ad (12 + 5 * g)), .int a1]) ++ List.replicate (4 - (lg_sl ([.ref (ad (12 + 5 * g)), .int a1])).length) Slot.unset).toArray = ls at hl ⊢
  have hl : lv_has ls 4 [(0, .ref (ad (12 + 5 * g))), (1, .int a1)] := hl
  unfold xf_G_partOfBite at hf
  refine lv_iload_n hx hb dX1_partOfBite_0 rfl (lv_at hl 1 rfl) ?_
  refine lv_istore_n (lv' := [(2, .int a1), (0, .ref (ad (12 + 5 * g))), (1, .int a1)]) hx hb dX1_partOfBite_1 rfl hl (by decide) rfl (fun ls hl => ?_)
  refine lv_iconst (v := (0 : Int32)) hx hb dX1_partOfBite_2 (by decide) ?_
  refine lv_istore_n (lv' := [(3, .int (0 : Int32)), (2, .int a1), (0, .ref (ad (12 + 5 * g))), (1, .int a1)]) hx hb dX1_partOfBite_3 rfl hl (by decide) rfl (fun ls hl => ?_)
  exact C4 fu a1 (0 : Int32) hf _ _ _ hP hD hS (lv_sub hl [2, 1, 0] rfl)
set_option maxHeartbeats 4000000 in
set_option maxRecDepth 100000 in
theorem k_xf_G_stateAfter (l : Launch) (dC : Nat → ClassId) (dI : Nat → Nat → Nat) (cI cZ cG : ClassId) (ad : Nat → Nat) (sz : Nat) (w : xW) (g : Nat) (hg : g < 6) (a1 : Int32) (r0 : Int32) (w0 : xW) (hf : xf_G_stateAfter g a1 w = some (r0, w0)) : Met l yX1_stateAfter wsX1_stateAfter ({ frames := 4, cells := 0, slots := 0, locals := 94 } : Room) (va_Pc [.ref (ad (12 + 5 * g)), .int a1] (xPre dC dI cI cZ cG ad sz w)) (va_Qi (fun (r : Int32) (u : xW) => r = r0 ∧ u = w0) (xB dC dI cI cZ cG ad (xA ad sz)) (xA ad sz)) 0 0 (xA ad sz) := by
  refine Met.ofW (cc := cX1_stateAfter) (maxL := 2) (ret := (some .int)) (by decide) rfl ?_
  intro p e s m args below meth c s₁ B hml hv
  obtain ⟨rfl, hsz, hP, hK, hD0, hN⟩ := hv
  have hx := B.exec
  have hb := B.bytes
  have hr := B.returns
  have hts := atoms_spec (ws := wsX1_stateAfter) B.pre
  have hown : s.vm.findClass RX1 = some m.cls := findClass_of_methodNamed B.named
  have hlocks := B.notSynchronized
  have inX1 : ∀ w ∈ u_ws RX1 TX1 12, w ∈ wsX1_stateAfter := by decide +kernel
  subst hsz
  have hD : va_D (xA ad s.heap.size) (xc cI cG ad w) := xD_self hD0
  have hAA : ∀ z q, s.heap.size ≤ z → xA ad z q → xA ad s.heap.size q := xA_mono
  generalize xA ad s.heap.size = A at hD hAA ⊢
  have hS : va_S A s.heap s.heap [] := va_S.rf
  have hl := lv_entry ([.ref (ad (12 + 5 * g)), .int a1]) (n := 2) (Nat.le_of_ble_eq_true rfl)
  rw [lg_entry_eq]
  generalize (lg_sl ([.ref (ad (12 + 5 * g)), .int a1]) ++ List.replicate (2 - (lg_sl ([.ref (ad (12 + 5 * g)), .int a1])).length) Slot.unset).toArray = ls at hl ⊢
  have hl : lv_has ls 2 [(0, .ref (ad (12 + 5 * g))), (1, .int a1)] := hl
  unfold xf_G_stateAfter at hf
  refine lv_aload_n hx hb dX1_stateAfter_0 rfl (lv_at hl 0 rfl) ?_
  refine va_get (D := (dC, dI)) (ci := 1) (v := .int (w.2.2.1 0 g)) (C := RX1) (T := TX1) (N := 12) hx hb hts inX1 hown hK hP (12 + 5 * g) (xc_o hg) rfl 6 (by decide) (hts (.fieldLink RX1 33 "BittenBoards$Game" "kind" "I") (by decide +kernel)) (fun _ h9 => h9) rfl dX1_stateAfter_1 ?_
  refine lv_if_ne (tgt := 20) hx hb dX1_stateAfter_4 (by decide) (fun h4 => ?_) (fun h4 => ?_)
  · have hf := if_f h4 hf
    refine lv_aload_n hx hb dX1_stateAfter_20 rfl (lv_at hl 0 rfl) ?_
    refine va_get (D := (dC, dI)) (ci := 1) (v := .int (w.2.2.1 3 g)) (C := RX1) (T := TX1) (N := 12) hx hb hts inX1 hown hK hP (12 + 5 * g) (xc_o hg) rfl 9 (by decide) (hts (.fieldLink RX1 50 "BittenBoards$Game" "state" "I") (by decide +kernel)) (fun _ h9 => h9) rfl dX1_stateAfter_21 ?_
    refine lv_aload_n hx hb dX1_stateAfter_24 rfl (lv_at hl 0 rfl) ?_
    refine va_get (D := (dC, dI)) (ci := 1) (v := .ref (ad (13 + 5 * g))) (C := RX1) (T := TX1) (N := 12) hx hb hts inX1 hown hK hP (12 + 5 * g) (xc_o hg) rfl 2 (by decide) (hts (.fieldLink RX1 9 "BittenBoards$Game" "takenBy" "[I") (by decide +kernel)) (fun _ h9 => h9) rfl dX1_stateAfter_25 ?_
    refine lv_aload_n hx hb dX1_stateAfter_28 rfl (lv_at hl 0 rfl) ?_
    refine lv_iload_n hx hb dX1_stateAfter_29 rfl (lv_at hl 1 rfl) ?_
    obtain ⟨r_30, hc30, hf⟩ := bn_e hf
    refine x_calli hD hS hAA (va_runV (As := [.int a1]) (rest := [.ref (ad (13 + 5 * g)), .int (w.2.2.1 3 g)]) ⟨hx, hb, hml, hown, hts⟩ (k_xf_G_partOfBite l dC dI cI cZ cG ad s.heap.size w g hg a1 r_30 w hc30 rfl) (cwV 1 hts gX1_stateAfter_X1_partOfBite rfl rfl rfl (by decide +kernel) ⟨Nat.le_of_ble_eq_true rfl, Nat.le_of_ble_eq_true rfl⟩) ⟨x_blind, va_recv hK hP (ci := 1) (q0 := (12 + 5 * g)) rfl (xc_o hg), fun U hU hW => x_pre hU hW hK hP hD hN⟩ rfl rfl hl.1 rfl (lv_room (Nat.le_of_ble_eq_true rfl)) dX1_stateAfter_30 ⟨Nat.zero_le _, Nat.zero_le _⟩) (fun H locs hP hD hS => ?_)
    obtain ⟨r_33, hc33, hf⟩ := bn_e hf
    refine x_calli hD hS hAA (va_runSN (host := "BittenBoards") (As := [.ref (ad (13 + 5 * g)), .int r_30]) (rest := [.int (w.2.2.1 3 g)]) ⟨hx, hb, hml, hown, hts⟩ (k_xf_C_at l dC dI cI cZ cG ad H.size w 15 (w.2.2.2.1 0 g) (ad (13 + 5 * g)) (13 + 5 * g) (xc_r0 hg) r_30 r_33 w hc33 rfl) ⟨va_cnB (host := "BittenBoards") 2 hts gX1_stateAfter_X3_at_n60 rfl rfl rfl (hN (.methodLinkNest RX1 60 yX3_at "BittenBoards") (by decide +kernel)) (hts (.initialized RX3) (by decide +kernel)) (by decide +kernel) ⟨Nat.le_of_ble_eq_true rfl, Nat.le_of_ble_eq_true rfl⟩, hts (.static yX3_at) (by decide +kernel), trivial⟩ ⟨x_blind, fun U hU hW => x_pre hU hW hK hP hD hN⟩ rfl rfl hl.1 rfl (lv_room (Nat.le_of_ble_eq_true rfl)) dX1_stateAfter_33 ⟨Nat.zero_le _, Nat.zero_le _⟩) (fun H locs hP hD hS => ?_)
    refine lv_iconst (v := (-1 : Int32)) hx hb dX1_stateAfter_36 (by decide) ?_
    refine lv_ixor hx hb dX1_stateAfter_37 ?_
    refine lv_iand hx hb dX1_stateAfter_38 ?_
    exact x_iret hx hb hr hlocks hK hP hD hS (so_2 hf) dX1_stateAfter_39
  · have hf := if_t h4 hf
    refine lv_aload_n hx hb dX1_stateAfter_7 rfl (lv_at hl 0 rfl) ?_
    refine va_get (D := (dC, dI)) (ci := 1) (v := .ref (ad 3)) (C := RX1) (T := TX1) (N := 12) hx hb hts inX1 hown hK hP (12 + 5 * g) (xc_o hg) rfl 0 (by decide) (hts (.fieldLink RX1 25 "BittenBoards$Game" "boards" "LBittenBoards$Boards;") (by decide +kernel)) (fun _ h9 => h9) rfl dX1_stateAfter_8 ?_
    refine lv_aload_n hx hb dX1_stateAfter_11 rfl (lv_at hl 0 rfl) ?_
    refine va_get (D := (dC, dI)) (ci := 1) (v := .int (w.2.2.1 3 g)) (C := RX1) (T := TX1) (N := 12) hx hb hts inX1 hown hK hP (12 + 5 * g) (xc_o hg) rfl 9 (by decide) (hts (.fieldLink RX1 50 "BittenBoards$Game" "state" "I") (by decide +kernel)) (fun _ h9 => h9) rfl dX1_stateAfter_12 ?_
    refine lv_iload_n hx hb dX1_stateAfter_15 rfl (lv_at hl 1 rfl) ?_
    obtain ⟨r_16, w_16, hc16, hf⟩ := bn2_e hf
    refine x_calli hD hS hAA (va_runV (As := [.int (w.2.2.1 3 g), .int a1]) (rest := []) ⟨hx, hb, hml, hown, hts⟩ (k_xf_B_rankAfter l dC dI cI cZ cG ad s.heap.size w (w.2.2.1 3 g) a1 r_16 w_16 hc16) (cwV 2 hts gX1_stateAfter_X0_rankAfter rfl rfl rfl (by decide +kernel) ⟨Nat.le_of_ble_eq_true rfl, Nat.le_of_ble_eq_true rfl⟩) ⟨x_blind, va_recv hK hP (ci := 0) (q0 := 3) rfl rfl, fun U hU hW => x_pre hU hW hK hP hD hN⟩ rfl rfl hl.1 rfl (lv_room (Nat.le_of_ble_eq_true rfl)) dX1_stateAfter_16 ⟨Nat.zero_le _, Nat.zero_le _⟩) (fun H locs hP hD hS => ?_)
    exact x_iret hx hb hr hlocks hK hP hD hS (so_2 hf) dX1_stateAfter_19
set_option maxHeartbeats 4000000 in
set_option maxRecDepth 100000 in
theorem k_xf_B_countFilled (l : Launch) (dC : Nat → ClassId) (dI : Nat → Nat → Nat) (cI cZ cG : ClassId) (ad : Nat → Nat) (sz : Nat) (w : xW) (r0 : Int32) (w0 : xW) (hf : xf_B_countFilled w = some r0) (hw0 : w = w0) : Met l yX0_countFilled wsX0_countFilled ({ frames := 0, cells := 0, slots := 0, locals := 0 } : Room) (va_Pc [.ref (ad 3)] (xPre dC dI cI cZ cG ad sz w)) (va_Qi (fun (r : Int32) (u : xW) => r = r0 ∧ u = w0) (xB dC dI cI cZ cG ad (xA ad sz)) (xA ad sz)) 0 0 (xA ad sz) := by
  refine Met.ofW (cc := cX0_countFilled) (maxL := 6) (ret := (some .int)) (by decide) rfl ?_
  intro p e s m args below meth c s₁ B hml hv
  obtain ⟨rfl, hsz, hP, hK, hD0, hN⟩ := hv
  have hx := B.exec
  have hb := B.bytes
  have hr := B.returns
  have hts := atoms_spec (ws := wsX0_countFilled) B.pre
  have hown : s.vm.findClass RX0 = some m.cls := findClass_of_methodNamed B.named
  have hlocks := B.notSynchronized
  have inX0 : ∀ w ∈ u_ws RX0 TX0 7, w ∈ wsX0_countFilled := by decide +kernel
  subst hsz
  have hD : va_D (xA ad s.heap.size) (xc cI cG ad w) := xD_self hD0
  have hAA : ∀ z q, s.heap.size ≤ z → xA ad z q → xA ad s.heap.size q := xA_mono
  generalize xA ad s.heap.size = A at hD hAA ⊢
  have hS : va_S A s.heap s.heap [] := va_S.rf
  have C13 : ∀ (n13 : Nat) (x1 : Int32) (x3 : Int32) (x4 : Int32), xf_B_countFilled_C13 w n13 x1 x3 x4 = some r0 → ∀ (H : Heap) (locs : List Loc) (ls : Array Slot), va_P (dC, dI) vwCl (xc cI cG ad w) H → va_D A (xc cI cG ad w) → va_S A s.heap H locs → lv_has ls 6 [(1, .int x1), (2, .ref (ad 5)), (3, .int x3), (4, .int x4)] → W p l e (headSpec wsX0_countFilled ({ frames := 0, cells := 0, slots := 0, locals := 0 } : Room)).room s m (List.toArray [Value.ref (ad 3)]) below meth c H locs 0 0 (MQ below (va_Qi (fun (r : Int32) (u : xW) => r = r0 ∧ u = w0) (xB dC dI cI cZ cG ad A) A) (List.toArray [Value.ref (ad 3)]) s 0 0 A) (F0 m 13 ls []) := by
    intro n13
    induction n13 with
    | zero => intro x1 x3 x4 hf; cases hf
    | succ n13 ih13 =>
      intro x1 x3 x4 hf H locs ls hP hD hS hl
      rw [xf_B_countFilled_C13] at hf
      refine lv_iload hx hb dX0_countFilled_13 (lv_at hl 3 rfl) ?_
      refine lv_iload_n hx hb dX0_countFilled_15 rfl (lv_at hl 2 rfl) ?_
      refine lv_icmp_ge (tgt := 39) hx hb dX0_countFilled_16 (by decide) (fun h16 => ?_) (fun h16 => ?_)
      · have hf := if_t h16 hf
        refine lv_iload_n hx hb dX0_countFilled_39 rfl (lv_at hl 0 rfl) ?_
        exact x_iret hx hb hr hlocks hK hP hD hS ⟨so_1 hf, hw0⟩ dX0_countFilled_40
      · have hf := if_f h16 hf
        refine lv_aload_n hx hb dX0_countFilled_19 rfl (lv_at hl 1 rfl) ?_
        refine lv_iload hx hb dX0_countFilled_20 (lv_at hl 3 rfl) ?_
        obtain ⟨hg22, hf⟩ := gi_e hf
        refine va_iald (f := (w.2.1 5)) hx hb hK hP 5 0 rfl rfl hg22 dX0_countFilled_22 ?_
        obtain ⟨x5_23, ex5_23, hf⟩ := nm_x hf
        refine W.eq (g2 := F0 m 23 ls [.int x5_23]) (by rw [ex5_23]) ?_
        refine lv_istore (lv' := [(5, .int x5_23), (1, .int x1), (2, .ref (ad 5)), (3, .int x3), (4, .int x4)]) hx hb dX0_countFilled_23 hl (by decide) rfl (fun ls hl => ?_)
        refine lv_iload hx hb dX0_countFilled_25 (lv_at hl 0 rfl) ?_
        refine lv_if_le (tgt := 33) hx hb dX0_countFilled_27 (by decide) (fun h27 => ?_) (fun h27 => ?_)
        · have hf := if_t h27 hf
          obtain ⟨x4_33, ex4_33, hf⟩ := nm_x hf
          refine lv_iinc (v := x4_33) (lv' := [(4, .int x4_33), (5, .int x5_23), (1, .int x1), (2, .ref (ad 5)), (3, .int x3)]) hx hb dX0_countFilled_33 hl (k := 4) rfl (by rw [ex4_33]; rfl) (by decide) rfl (fun ls hl => ?_)
          refine lv_goto (tgt := 13) hx hb dX0_countFilled_36 (by decide) ?_
          exact ih13 x1 x3 x4_33 hf _ _ _ hP hD hS (lv_sub hl [2, 3, 4, 0] rfl)
        · have hf := if_f h27 hf
          obtain ⟨x1_30, ex1_30, hf⟩ := nm_x hf
          refine lv_iinc (v := x1_30) (lv' := [(1, .int x1_30), (5, .int x5_23), (2, .ref (ad 5)), (3, .int x3), (4, .int x4)]) hx hb dX0_countFilled_30 hl (k := 1) rfl (by rw [ex1_30]; rfl) (by decide) rfl (fun ls hl => ?_)
          obtain ⟨x4_33, ex4_33, hf⟩ := nm_x hf
          refine lv_iinc (v := x4_33) (lv' := [(4, .int x4_33), (1, .int x1_30), (5, .int x5_23), (2, .ref (ad 5)), (3, .int x3)]) hx hb dX0_countFilled_33 hl (k := 4) rfl (by rw [ex4_33]; rfl) (by decide) rfl (fun ls hl => ?_)
          refine lv_goto (tgt := 13) hx hb dX0_countFilled_36 (by decide) ?_
          exact ih13 x1_30 x3 x4_33 hf _ _ _ hP hD hS (lv_sub hl [1, 3, 4, 0] rfl)
  have hl := lv_entry ([.ref (ad 3)]) (n := 6) (Nat.le_of_ble_eq_true rfl)
  rw [lg_entry_eq]
  generalize (lg_sl ([.ref (ad 3)]) ++ List.replicate (6 - (lg_sl ([.ref (ad 3)])).length) Slot.unset).toArray = ls at hl ⊢
  have hl : lv_has ls 6 [(0, .ref (ad 3))] := hl
  unfold xf_B_countFilled at hf
  refine lv_iconst (v := (0 : Int32)) hx hb dX0_countFilled_0 (by decide) ?_
  refine lv_istore_n (lv' := [(1, .int (0 : Int32)), (0, .ref (ad 3))]) hx hb dX0_countFilled_1 rfl hl (by decide) rfl (fun ls hl => ?_)
  refine lv_aload_n hx hb dX0_countFilled_2 rfl (lv_at hl 1 rfl) ?_
  refine va_get (D := (dC, dI)) (ci := 0) (v := .ref (ad 5)) (C := RX0) (T := TX0) (N := 7) hx hb hts inX0 hown hK hP 3 rfl rfl 2 (by decide) (hts (.fieldLink RX0 15 "BittenBoards$Boards" "lines" "[I") (by decide +kernel)) (fun _ h9 => h9) rfl dX0_countFilled_3 ?_
  refine lv_astore_n (lv' := [(2, .ref (ad 5)), (1, .int (0 : Int32)), (0, .ref (ad 3))]) hx hb dX0_countFilled_6 rfl hl (by decide) rfl (fun ls hl => ?_)
  refine lv_aload_n hx hb dX0_countFilled_7 rfl (lv_at hl 0 rfl) ?_
  refine va_alen (v := (7 : Int32)) hx hb hK hP 5 0 rfl rfl (by rfl) dX0_countFilled_8 ?_
  refine lv_istore_n (lv' := [(3, .int (7 : Int32)), (2, .ref (ad 5)), (1, .int (0 : Int32)), (0, .ref (ad 3))]) hx hb dX0_countFilled_9 rfl hl (by decide) rfl (fun ls hl => ?_)
  refine lv_iconst (v := (0 : Int32)) hx hb dX0_countFilled_10 (by decide) ?_
  refine lv_istore (lv' := [(4, .int (0 : Int32)), (3, .int (7 : Int32)), (2, .ref (ad 5)), (1, .int (0 : Int32)), (0, .ref (ad 3))]) hx hb dX0_countFilled_11 hl (by decide) rfl (fun ls hl => ?_)
  exact C13 fu (0 : Int32) (7 : Int32) (0 : Int32) hf _ _ _ hP hD hS (lv_sub hl [3, 2, 1, 0] rfl)
set_option maxHeartbeats 4000000 in
set_option maxRecDepth 100000 in
theorem k_xf_T_begin (l : Launch) (dC : Nat → ClassId) (dI : Nat → Nat → Nat) (cI cZ cG : ClassId) (ad : Nat → Nat) (sz : Nat) (w : xW) (w0 : xW) (hf : xf_T_begin w = some w0) : Met l yX2_begin wsX2_begin ({ frames := 0, cells := 0, slots := 0, locals := 0 } : Room) (va_Pc [.ref (ad 9)] (xPre dC dI cI cZ cG ad sz w)) (va_Qv (fun (u : xW) => u = w0) (xB dC dI cI cZ cG ad (xA ad sz)) (xA ad sz)) 0 0 (xA ad sz) := by
  refine Met.ofW (cc := cX2_begin) (maxL := 2) (ret := none) (by decide) rfl ?_
  intro p e s m args below meth c s₁ B hml hv
  obtain ⟨rfl, hsz, hP, hK, hD0, hN⟩ := hv
  have hx := B.exec
  have hb := B.bytes
  have hr := B.returns
  have hts := atoms_spec (ws := wsX2_begin) B.pre
  have hown : s.vm.findClass RX2 = some m.cls := findClass_of_methodNamed B.named
  have hlocks := B.notSynchronized
  have inX2 : ∀ w ∈ u_ws RX2 TX2 3, w ∈ wsX2_begin := by decide +kernel
  subst hsz
  have hD : va_D (xA ad s.heap.size) (xc cI cG ad w) := xD_self hD0
  have hAA : ∀ z q, s.heap.size ≤ z → xA ad z q → xA ad s.heap.size q := xA_mono
  generalize xA ad s.heap.size = A at hD hAA ⊢
  have hS : va_S A s.heap s.heap [] := va_S.rf
  have C7 : ∀ (n7 : Nat) (x1 : Int32) (w : xW), xf_T_begin_C7 n7 x1 w = some w0 → ∀ (H : Heap) (locs : List Loc) (ls : Array Slot), va_P (dC, dI) vwCl (xc cI cG ad w) H → va_D A (xc cI cG ad w) → va_S A s.heap H locs → lv_has ls 2 [(0, .ref (ad 9)), (1, .int x1)] → W p l e (headSpec wsX2_begin ({ frames := 0, cells := 0, slots := 0, locals := 0 } : Room)).room s m (List.toArray [Value.ref (ad 9)]) below meth c H locs 0 0 (MQ below (va_Qv (fun (u : xW) => u = w0) (xB dC dI cI cZ cG ad A) A) (List.toArray [Value.ref (ad 9)]) s 0 0 A) (F0 m 7 ls []) := by
    intro n7
    induction n7 with
    | zero => intro x1 w hf; cases hf
    | succ n7 ih7 =>
      intro x1 w hf H locs ls hP hD hS hl
      rw [xf_T_begin_C7] at hf
      refine lv_iload_n hx hb dX2_begin_7 rfl (lv_at hl 1 rfl) ?_
      refine lv_iconst (v := (2 : Int32)) hx hb dX2_begin_8 (by decide) ?_
      refine lv_icmp_ge (tgt := 34) hx hb dX2_begin_9 (by decide) (fun h9 => ?_) (fun h9 => ?_)
      · have hf := if_t h9 hf
        exact x_vret hx hb hr hlocks hK hP hD hS (so_1 hf) dX2_begin_34
      · have hf := if_f h9 hf
        refine lv_aload_n hx hb dX2_begin_12 rfl (lv_at hl 0 rfl) ?_
        refine va_get (D := (dC, dI)) (ci := 2) (v := .ref (ad 10)) (C := RX2) (T := TX2) (N := 3) hx hb hts inX2 hown hK hP 9 rfl rfl 0 (by decide) (hts (.fieldLink RX2 7 "BittenBoards$Tally" "leastLost" "[I") (by decide +kernel)) (fun _ h9 => h9) rfl dX2_begin_13 ?_
        refine lv_iload_n hx hb dX2_begin_16 rfl (lv_at hl 1 rfl) ?_
        refine lv_sipush (v := (255 : Int32)) hx hb dX2_begin_17 (by decide) ?_
        obtain ⟨hg20, hf⟩ := gi_e hf
        obtain ⟨w_20, ew_20, hf⟩ := nm_x hf
        refine va_iast (f := (w.2.1 10)) hx hb hK hP hD hS 10 0 rfl rfl hg20 dX2_begin_20 (fun H locs hP hD hS => ?_)
        have hP : va_P (dC, dI) vwCl (xc cI cG ad w_20) H := hP.eqs (by rw [ew_20]; rfl)
        have hD : va_D A (xc cI cG ad w_20) := hD.eqs (by rw [ew_20]; rfl)
        refine lv_aload_n hx hb dX2_begin_21 rfl (lv_at hl 0 rfl) ?_
        refine va_get (D := (dC, dI)) (ci := 2) (v := .ref (ad 11)) (C := RX2) (T := TX2) (N := 3) hx hb hts inX2 hown hK hP 9 rfl rfl 1 (by decide) (hts (.fieldLink RX2 13 "BittenBoards$Tally" "greatest" "[I") (by decide +kernel)) (fun _ h9 => h9) rfl dX2_begin_22 ?_
        refine lv_iload_n hx hb dX2_begin_25 rfl (lv_at hl 1 rfl) ?_
        refine lv_iconst (v := (-1 : Int32)) hx hb dX2_begin_26 (by decide) ?_
        obtain ⟨hg27, hf⟩ := gi_e hf
        obtain ⟨w_27, ew_27, hf⟩ := nm_x hf
        refine va_iast (f := (w_20.2.1 11)) hx hb hK hP hD hS 11 0 rfl rfl hg27 dX2_begin_27 (fun H locs hP hD hS => ?_)
        have hP : va_P (dC, dI) vwCl (xc cI cG ad w_27) H := hP.eqs (by rw [ew_27]; rfl)
        have hD : va_D A (xc cI cG ad w_27) := hD.eqs (by rw [ew_27]; rfl)
        obtain ⟨x1_28, ex1_28, hf⟩ := nm_x hf
        refine lv_iinc (v := x1_28) (lv' := [(1, .int x1_28), (0, .ref (ad 9))]) hx hb dX2_begin_28 hl (k := 1) rfl (by rw [ex1_28]; rfl) (by decide) rfl (fun ls hl => ?_)
        refine lv_goto (tgt := 7) hx hb dX2_begin_31 (by decide) ?_
        exact ih7 x1_28 w_27 hf _ _ _ hP hD hS (lv_sub hl [1, 0] rfl)
  have hl := lv_entry ([.ref (ad 9)]) (n := 2) (Nat.le_of_ble_eq_true rfl)
  rw [lg_entry_eq]
  generalize (lg_sl ([.ref (ad 9)]) ++ List.replicate (2 - (lg_sl ([.ref (ad 9)])).length) Slot.unset).toArray = ls at hl ⊢
  have hl : lv_has ls 2 [(0, .ref (ad 9))] := hl
  unfold xf_T_begin at hf
  refine lv_aload_n hx hb dX2_begin_0 rfl (lv_at hl 0 rfl) ?_
  refine lv_lconst (v := (0 : Int64)) hx hb dX2_begin_1 (by decide) ?_
  obtain ⟨w_2, ew_2, hf⟩ := nm_x hf
  refine va_put (D := (dC, dI)) (ci := 2) (v := .long (0 : Int64)) (ty := .long) (C := RX2) (T := TX2) (N := 3) hx hb hts inX2 tyX2 tyX2_ok nmX2 hown hK hP hD hS 9 rfl rfl 2 (by decide) (hts (.fieldLink RX2 16 "BittenBoards$Tally" "worths" "J") (by decide +kernel)) (fun _ h9 => h9) rfl (by decide +kernel) rfl rfl (Nat.le_of_ble_eq_true rfl) dX2_begin_2 (fun H locs hP hD hS => ?_)
  have hP : va_P (dC, dI) vwCl (xc cI cG ad w_2) H := hP.eqs (by rw [ew_2]; rfl)
  have hD : va_D A (xc cI cG ad w_2) := hD.eqs (by rw [ew_2]; rfl)
  refine lv_iconst (v := (0 : Int32)) hx hb dX2_begin_5 (by decide) ?_
  refine lv_istore_n (lv' := [(1, .int (0 : Int32)), (0, .ref (ad 9))]) hx hb dX2_begin_6 rfl hl (by decide) rfl (fun ls hl => ?_)
  exact C7 fu (0 : Int32) w_2 hf _ _ _ hP hD hS (lv_sub hl [1, 0] rfl)
set_option maxHeartbeats 4000000 in
set_option maxRecDepth 100000 in
theorem k_xf_C_worthIn (l : Launch) (dC : Nat → ClassId) (dI : Nat → Nat → Nat) (cI cZ cG : ClassId) (ad : Nat → Nat) (sz : Nat) (w : xW) (a0 : Int32) (r0 : Int32) (w0 : xW) (hf : xf_C_worthIn a0 = some r0) (hw0 : w = w0) : Met l yX3_worthIn wsX3_worthIn ({ frames := 0, cells := 0, slots := 0, locals := 0 } : Room) (va_Pc [.int a0] (xPre dC dI cI cZ cG ad sz w)) (va_Qi (fun (r : Int32) (u : xW) => r = r0 ∧ u = w0) (xB dC dI cI cZ cG ad (xA ad sz)) (xA ad sz)) 0 0 (xA ad sz) := by
  refine Met.ofW (cc := cX3_worthIn) (maxL := 1) (ret := (some .int)) (by decide) rfl ?_
  intro p e s m args below meth c s₁ B hml hv
  obtain ⟨rfl, hsz, hP, hK, hD0, hN⟩ := hv
  have hx := B.exec
  have hb := B.bytes
  have hr := B.returns
  have hts := atoms_spec (ws := wsX3_worthIn) B.pre
  have hown : s.vm.findClass RX3 = some m.cls := findClass_of_methodNamed B.named
  have hlocks := B.notSynchronized
  subst hsz
  have hD : va_D (xA ad s.heap.size) (xc cI cG ad w) := xD_self hD0
  have hAA : ∀ z q, s.heap.size ≤ z → xA ad z q → xA ad s.heap.size q := xA_mono
  generalize xA ad s.heap.size = A at hD hAA ⊢
  have hS : va_S A s.heap s.heap [] := va_S.rf
  have hl := lv_entry ([.int a0]) (n := 1) (Nat.le_of_ble_eq_true rfl)
  rw [lg_entry_eq]
  generalize (lg_sl ([.int a0]) ++ List.replicate (1 - (lg_sl ([.int a0])).length) Slot.unset).toArray = ls at hl ⊢
  have hl : lv_has ls 1 [(0, .int a0)] := hl
  unfold xf_C_worthIn at hf
  refine lv_iload_n hx hb dX3_worthIn_0 rfl (lv_at hl 0 rfl) ?_
  refine lv_bipush (v := (16 : Int32)) hx hb dX3_worthIn_1 (by decide) ?_
  refine lv_ishr hx hb dX3_worthIn_3 ?_
  refine lv_sipush (v := (255 : Int32)) hx hb dX3_worthIn_4 (by decide) ?_
  refine lv_iand hx hb dX3_worthIn_7 ?_
  exact x_iret hx hb hr hlocks hK hP hD hS ⟨so_1 hf, hw0⟩ dX3_worthIn_8
set_option maxHeartbeats 4000000 in
set_option maxRecDepth 100000 in
theorem k_xf_C_lengthIn (l : Launch) (dC : Nat → ClassId) (dI : Nat → Nat → Nat) (cI cZ cG : ClassId) (ad : Nat → Nat) (sz : Nat) (w : xW) (a0 : Int32) (a1 : Int32) (r0 : Int32) (w0 : xW) (hf : xf_C_lengthIn a0 a1 = some r0) (hw0 : w = w0) : Met l yX3_lengthIn wsX3_lengthIn ({ frames := 0, cells := 0, slots := 0, locals := 0 } : Room) (va_Pc [.int a0, .int a1] (xPre dC dI cI cZ cG ad sz w)) (va_Qi (fun (r : Int32) (u : xW) => r = r0 ∧ u = w0) (xB dC dI cI cZ cG ad (xA ad sz)) (xA ad sz)) 0 0 (xA ad sz) := by
  refine Met.ofW (cc := cX3_lengthIn) (maxL := 2) (ret := (some .int)) (by decide) rfl ?_
  intro p e s m args below meth c s₁ B hml hv
  obtain ⟨rfl, hsz, hP, hK, hD0, hN⟩ := hv
  have hx := B.exec
  have hb := B.bytes
  have hr := B.returns
  have hts := atoms_spec (ws := wsX3_lengthIn) B.pre
  have hown : s.vm.findClass RX3 = some m.cls := findClass_of_methodNamed B.named
  have hlocks := B.notSynchronized
  subst hsz
  have hD : va_D (xA ad s.heap.size) (xc cI cG ad w) := xD_self hD0
  have hAA : ∀ z q, s.heap.size ≤ z → xA ad z q → xA ad s.heap.size q := xA_mono
  generalize xA ad s.heap.size = A at hD hAA ⊢
  have hS : va_S A s.heap s.heap [] := va_S.rf
  have hl := lv_entry ([.int a0, .int a1]) (n := 2) (Nat.le_of_ble_eq_true rfl)
  rw [lg_entry_eq]
  generalize (lg_sl ([.int a0, .int a1]) ++ List.replicate (2 - (lg_sl ([.int a0, .int a1])).length) Slot.unset).toArray = ls at hl ⊢
  have hl : lv_has ls 2 [(0, .int a0), (1, .int a1)] := hl
  unfold xf_C_lengthIn at hf
  refine lv_iload_n hx hb dX3_lengthIn_0 rfl (lv_at hl 1 rfl) ?_
  refine lv_if_ne (tgt := 12) hx hb dX3_lengthIn_1 (by decide) (fun h1 => ?_) (fun h1 => ?_)
  · have hf := if_f h1 hf
    refine lv_iload_n hx hb dX3_lengthIn_12 rfl (lv_at hl 0 rfl) ?_
    refine lv_bipush (v := (8 : Int32)) hx hb dX3_lengthIn_13 (by decide) ?_
    refine lv_ishr hx hb dX3_lengthIn_15 ?_
    refine lv_sipush (v := (255 : Int32)) hx hb dX3_lengthIn_16 (by decide) ?_
    refine lv_iand hx hb dX3_lengthIn_19 ?_
    exact x_iret hx hb hr hlocks hK hP hD hS ⟨so_1 hf, hw0⟩ dX3_lengthIn_20
  · have hf := if_t h1 hf
    refine lv_iload_n hx hb dX3_lengthIn_4 rfl (lv_at hl 0 rfl) ?_
    refine lv_sipush (v := (255 : Int32)) hx hb dX3_lengthIn_5 (by decide) ?_
    refine lv_iand hx hb dX3_lengthIn_8 ?_
    refine lv_goto (tgt := 20) hx hb dX3_lengthIn_9 (by decide) ?_
    exact x_iret hx hb hr hlocks hK hP hD hS ⟨so_1 hf, hw0⟩ dX3_lengthIn_20
set_option maxHeartbeats 4000000 in
set_option maxRecDepth 100000 in
theorem k_xf_C_isWon (l : Launch) (dC : Nat → ClassId) (dI : Nat → Nat → Nat) (cI cZ cG : ClassId) (ad : Nat → Nat) (sz : Nat) (w : xW) (a0 : Int32) (a1 : Int32) (r0 : Int32) (w0 : xW) (hf : xf_C_isWon a0 a1 = some r0) (hw0 : w = w0) : Met l yX3_isWon wsX3_isWon ({ frames := 0, cells := 0, slots := 0, locals := 0 } : Room) (va_Pc [.int a0, .int a1] (xPre dC dI cI cZ cG ad sz w)) (va_Qi (fun (r : Int32) (u : xW) => r = r0 ∧ u = w0) (xB dC dI cI cZ cG ad (xA ad sz)) (xA ad sz)) 0 0 (xA ad sz) := by
  refine Met.ofW (cc := cX3_isWon) (maxL := 2) (ret := (some .boolean)) (by decide) rfl ?_
  intro p e s m args below meth c s₁ B hml hv
  obtain ⟨rfl, hsz, hP, hK, hD0, hN⟩ := hv
  have hx := B.exec
  have hb := B.bytes
  have hr := B.returns
  have hts := atoms_spec (ws := wsX3_isWon) B.pre
  have hown : s.vm.findClass RX3 = some m.cls := findClass_of_methodNamed B.named
  have hlocks := B.notSynchronized
  subst hsz
  have hD : va_D (xA ad s.heap.size) (xc cI cG ad w) := xD_self hD0
  have hAA : ∀ z q, s.heap.size ≤ z → xA ad z q → xA ad s.heap.size q := xA_mono
  generalize xA ad s.heap.size = A at hD hAA ⊢
  have hS : va_S A s.heap s.heap [] := va_S.rf
  have hl := lv_entry ([.int a0, .int a1]) (n := 2) (Nat.le_of_ble_eq_true rfl)
  rw [lg_entry_eq]
  generalize (lg_sl ([.int a0, .int a1]) ++ List.replicate (2 - (lg_sl ([.int a0, .int a1])).length) Slot.unset).toArray = ls at hl ⊢
  have hl : lv_has ls 2 [(0, .int a0), (1, .int a1)] := hl
  unfold xf_C_isWon at hf
  refine lv_iload_n hx hb dX3_isWon_0 rfl (lv_at hl 0 rfl) ?_
  refine lv_iconst (v := (1 : Int32)) hx hb dX3_isWon_1 (by decide) ?_
  refine lv_iand hx hb dX3_isWon_2 ?_
  refine lv_iload_n hx hb dX3_isWon_3 rfl (lv_at hl 1 rfl) ?_
  refine lv_icmp_ne (tgt := 11) hx hb dX3_isWon_4 (by decide) (fun h4 => ?_) (fun h4 => ?_)
  · have hf := if_f h4 hf
    refine lv_iconst (v := (0 : Int32)) hx hb dX3_isWon_11 (by decide) ?_
    obtain ⟨hg12, hf⟩ := gd_e hf
    exact x_zret hx hb hr hlocks hg12 hK hP hD hS ⟨so_1 hf, hw0⟩ dX3_isWon_12
  · have hf := if_t h4 hf
    refine lv_iconst (v := (1 : Int32)) hx hb dX3_isWon_7 (by decide) ?_
    refine lv_goto (tgt := 12) hx hb dX3_isWon_8 (by decide) ?_
    obtain ⟨hg12, hf⟩ := gd_e hf
    exact x_zret hx hb hr hlocks hg12 hK hP hD hS ⟨so_1 hf, hw0⟩ dX3_isWon_12
