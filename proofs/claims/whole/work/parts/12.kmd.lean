set_option maxHeartbeats 4000000 in
set_option maxRecDepth 100000 in
theorem k_mf_ranked (l : Launch) (dC : Nat → ClassId) (dI : Nat → Nat → Nat) (cI cZ cG : ClassId) (ad : Nat → Nat) (sz : Nat) (w : mW) (a1 : Int32) (a2 : Int32) (r0 : Int32) (w0 : mW) (hf : mf_ranked a1 a2 w = some (r0, w0)) : Met l yX4_ranked wsX4_ranked ({ frames := 2, cells := 0, slots := 0, locals := 47 } : Room) (va_Pc [.ref (ad 0), .int a1, .int a2] (mPre dC dI cI cZ cG ad sz w)) (va_Qi (fun (r : Int32) (u : mW) => r = r0 ∧ u = w0) (mB dC dI cI cZ cG ad (mA ad sz)) (mA ad sz)) 0 0 (mA ad sz) := by
  refine Met.ofW (cc := cX4_ranked) (maxL := 3) (ret := (some .int)) (by decide) rfl ?_
  intro p e s m args below meth c s₁ B hml hv
  obtain ⟨rfl, hsz, hP, hK, hD0⟩ := hv
  have hx := B.exec
  have hb := B.bytes
  have hr := B.returns
  have hts := atoms_spec (ws := wsX4_ranked) B.pre
  have hown : s.vm.findClass RX4 = some m.cls := findClass_of_methodNamed B.named
  have hlocks := B.notSynchronized
  have inX4 : ∀ w ∈ u_ws RX4 TX4 21, w ∈ wsX4_ranked := by decide +kernel
  subst hsz
  have hD : va_D (mA ad s.heap.size) (mc cI cZ ad w) := mD_self hD0
  have hAA : ∀ z q, s.heap.size ≤ z → mA ad z q → mA ad s.heap.size q := mA_mono
  generalize mA ad s.heap.size = A at hD hAA ⊢
  have hS : va_S A s.heap s.heap [] := va_S.rf
  have hl := lv_entry ([.ref (ad 0), .int a1, .int a2]) (n := 3) (Nat.le_of_ble_eq_true rfl)
  rw [lg_entry_eq]
  generalize (lg_sl ([.ref (ad 0), .int a1, .int a2]) ++ List.replicate (3 - (lg_sl ([.ref (ad 0), .int a1, .int a2])).length) Slot.unset).toArray = ls at hl ⊢
  have hl : lv_has ls 3 [(0, .ref (ad 0)), (1, .int a1), (2, .int a2)] := hl
  unfold mf_ranked at hf
  refine lv_iload_n hx hb dX4_ranked_0 rfl (lv_at hl 1 rfl) ?_
  refine lv_i2l hx hb dX4_ranked_1 rfl ?_
  refine lv_lconst (v := (0 : Int64)) hx hb dX4_ranked_2 (by decide) ?_
  refine lv_ldc2 (v := (3431 : Int64)) hx hb hown (hts (.constantLong RX4 165 (3431 : Int64)) (by decide +kernel)) dX4_ranked_3 ?_
  obtain ⟨r_6, hc6, hf⟩ := bn_e hf
  refine m_calli hD hS hAA (va_runS (As := [.long (a1.toInt64), .long (0 : Int64), .long (3431 : Int64)]) (rest := []) ⟨hx, hb, hml, hown, hts⟩ (k_mf_in l dC dI cI cZ cG ad s.heap.size w (a1.toInt64) (0 : Int64) (3431 : Int64) r_6 w hc6 rfl) (va_cwS 3 hts gX4_ranked_X4_in rfl rfl rfl (by decide +kernel) ⟨Nat.le_of_ble_eq_true rfl, Nat.le_of_ble_eq_true rfl⟩) ⟨m_blind, fun U hU hW => m_pre hU hW hK hP hD⟩ rfl rfl hl.1 rfl (lv_room (Nat.le_of_ble_eq_true rfl)) dX4_ranked_6 ⟨Nat.zero_le _, Nat.zero_le _⟩) (fun H locs hP hD hS => ?_)
  refine lv_if_eq (tgt := 24) hx hb dX4_ranked_9 (by decide) (fun h9 => ?_) (fun h9 => ?_)
  · have hf := if_t h9 hf
    refine lv_sipush (v := (-1002 : Int32)) hx hb dX4_ranked_24 (by decide) ?_
    exact m_iret hx hb hr hlocks hK hP hD hS (so_2 hf) dX4_ranked_27
  · have hf := if_f h9 hf
    refine lv_iload_n hx hb dX4_ranked_12 rfl (lv_at hl 2 rfl) ?_
    refine lv_i2l hx hb dX4_ranked_13 rfl ?_
    refine lv_lconst (v := (0 : Int64)) hx hb dX4_ranked_14 (by decide) ?_
    refine lv_ldc2 (v := (6 : Int64)) hx hb hown (hts (.constantLong RX4 135 (6 : Int64)) (by decide +kernel)) dX4_ranked_15 ?_
    obtain ⟨r_18, hc18, hf⟩ := bn_e hf
    refine m_calli hD hS hAA (va_runS (As := [.long (a2.toInt64), .long (0 : Int64), .long (6 : Int64)]) (rest := []) ⟨hx, hb, hml, hown, hts⟩ (k_mf_in l dC dI cI cZ cG ad H.size w (a2.toInt64) (0 : Int64) (6 : Int64) r_18 w hc18 rfl) (va_cwS 3 hts gX4_ranked_X4_in rfl rfl rfl (by decide +kernel) ⟨Nat.le_of_ble_eq_true rfl, Nat.le_of_ble_eq_true rfl⟩) ⟨m_blind, fun U hU hW => m_pre hU hW hK hP hD⟩ rfl rfl hl.1 rfl (lv_room (Nat.le_of_ble_eq_true rfl)) dX4_ranked_18 ⟨Nat.zero_le _, Nat.zero_le _⟩) (fun H locs hP hD hS => ?_)
    refine lv_if_ne (tgt := 28) hx hb dX4_ranked_21 (by decide) (fun h21 => ?_) (fun h21 => ?_)
    · have hf := if_f h21 hf
      refine lv_aload_n hx hb dX4_ranked_28 rfl (lv_at hl 0 rfl) ?_
      refine lv_iload_n hx hb dX4_ranked_29 rfl (lv_at hl 1 rfl) ?_
      obtain ⟨w_30, hc30, hf⟩ := bn_e hf
      refine m_callv hD hS hAA (va_runV (As := [.int a1]) (rest := []) ⟨hx, hb, hml, hown, hts⟩ (k_mf_unrank l dC dI cI cZ cG ad H.size w a1 w_30 hc30) (cwV 1 hts gX4_ranked_X4_unrank rfl rfl rfl (by decide +kernel) ⟨Nat.le_of_ble_eq_true rfl, Nat.le_of_ble_eq_true rfl⟩) ⟨m_blind, va_recv hK hP (ci := 4) (q0 := 0) rfl rfl, fun U hU hW => m_pre hU hW hK hP hD⟩ rfl rfl hl.1 rfl (lv_room (Nat.le_of_ble_eq_true rfl)) dX4_ranked_30 ⟨Nat.zero_le _, Nat.zero_le _⟩) (fun H locs hP hD hS => ?_)
      refine lv_aload_n hx hb dX4_ranked_33 rfl (lv_at hl 0 rfl) ?_
      refine va_get (D := (dC, dI)) (ci := 4) (v := .ref (ad 15)) (C := RX4) (T := TX4) (N := 21) hx hb hts inX4 hown hK hP 0 rfl rfl 16 (by decide) (hts (.fieldLink RX4 58 "BittenBoardsModel" "board" "[I") (by decide +kernel)) (fun _ h9 => h9) rfl dX4_ranked_34 ?_
      refine lv_iload_n hx hb dX4_ranked_37 rfl (lv_at hl 2 rfl) ?_
      obtain ⟨hg38, hf⟩ := gi_e hf
      refine va_iald (f := (w_30.2 15)) hx hb hK hP 15 0 rfl rfl hg38 dX4_ranked_38 ?_
      exact m_iret hx hb hr hlocks hK hP hD hS (so_2 hf) dX4_ranked_39
    · have hf := if_t h21 hf
      refine lv_sipush (v := (-1002 : Int32)) hx hb dX4_ranked_24 (by decide) ?_
      exact m_iret hx hb hr hlocks hK hP hD hS (so_2 hf) dX4_ranked_27
set_option maxHeartbeats 4000000 in
set_option maxRecDepth 100000 in
theorem k_mf_done (l : Launch) (dC : Nat → ClassId) (dI : Nat → Nat → Nat) (cI cZ cG : ClassId) (ad : Nat → Nat) (sz : Nat) (w : mW) (a1 : Int32) (a2 : Int32) (r0 : Int32) (w0 : mW) (hf : mf_done a1 a2 w = some (r0, w0)) : Met l yX4_done wsX4_done ({ frames := 0, cells := 0, slots := 0, locals := 0 } : Room) (va_Pc [.ref (ad 0), .int a1, .int a2] (mPre dC dI cI cZ cG ad sz w)) (va_Qi (fun (r : Int32) (u : mW) => r = r0 ∧ u = w0) (mB dC dI cI cZ cG ad (mA ad sz)) (mA ad sz)) 0 0 (mA ad sz) := by
  refine Met.ofW (cc := cX4_done) (maxL := 4) (ret := (some .int)) (by decide) rfl ?_
  intro p e s m args below meth c s₁ B hml hv
  obtain ⟨rfl, hsz, hP, hK, hD0⟩ := hv
  have hx := B.exec
  have hb := B.bytes
  have hr := B.returns
  have hts := atoms_spec (ws := wsX4_done) B.pre
  have hown : s.vm.findClass RX4 = some m.cls := findClass_of_methodNamed B.named
  have hlocks := B.notSynchronized
  have inX4 : ∀ w ∈ u_ws RX4 TX4 21, w ∈ wsX4_done := by decide +kernel
  subst hsz
  have hD : va_D (mA ad s.heap.size) (mc cI cZ ad w) := mD_self hD0
  have hAA : ∀ z q, s.heap.size ≤ z → mA ad z q → mA ad s.heap.size q := mA_mono
  generalize mA ad s.heap.size = A at hD hAA ⊢
  have hS : va_S A s.heap s.heap [] := va_S.rf
  have hl := lv_entry ([.ref (ad 0), .int a1, .int a2]) (n := 4) (Nat.le_of_ble_eq_true rfl)
  rw [lg_entry_eq]
  generalize (lg_sl ([.ref (ad 0), .int a1, .int a2]) ++ List.replicate (4 - (lg_sl ([.ref (ad 0), .int a1, .int a2])).length) Slot.unset).toArray = ls at hl ⊢
  have hl : lv_has ls 4 [(0, .ref (ad 0)), (1, .int a1), (2, .int a2)] := hl
  unfold mf_done at hf
  refine lv_bipush (v := (100 : Int32)) hx hb dX4_done_0 (by decide) ?_
  refine lv_iload_n hx hb dX4_done_2 rfl (lv_at hl 1 rfl) ?_
  refine lv_imul hx hb dX4_done_3 ?_
  refine lv_aload_n hx hb dX4_done_4 rfl (lv_at hl 0 rfl) ?_
  refine va_get (D := (dC, dI)) (ci := 4) (v := .ref (ad 9)) (C := RX4) (T := TX4) (N := 21) hx hb hts inX4 hown hK hP 0 rfl rfl 9 (by decide) (hts (.fieldLink RX4 34 "BittenBoardsModel" "notedMany" "[I") (by decide +kernel)) (fun _ h9 => h9) rfl dX4_done_5 ?_
  refine lv_iload_n hx hb dX4_done_8 rfl (lv_at hl 1 rfl) ?_
  obtain ⟨hg9, hf⟩ := gi_e hf
  refine va_iald (f := (w.2 9)) hx hb hK hP 9 0 rfl rfl hg9 dX4_done_9 ?_
  refine lv_iadd hx hb dX4_done_10 ?_
  obtain ⟨x3_11, ex3_11, hf⟩ := nm_x hf
  refine W.eq (g2 := F0 m 11 ls [.int x3_11]) (by rw [ex3_11]) ?_
  refine lv_istore_n (lv' := [(3, .int x3_11), (0, .ref (ad 0)), (1, .int a1), (2, .int a2)]) hx hb dX4_done_11 rfl hl (by decide) rfl (fun ls hl => ?_)
  refine lv_aload_n hx hb dX4_done_12 rfl (lv_at hl 1 rfl) ?_
  refine va_get (D := (dC, dI)) (ci := 4) (v := .ref (ad 11)) (C := RX4) (T := TX4) (N := 21) hx hb hts inX4 hown hK hP 0 rfl rfl 11 (by decide) (hts (.fieldLink RX4 40 "BittenBoardsModel" "before" "[I") (by decide +kernel)) (fun _ h9 => h9) rfl dX4_done_13 ?_
  refine lv_iload_n hx hb dX4_done_16 rfl (lv_at hl 0 rfl) ?_
  refine lv_aload_n hx hb dX4_done_17 rfl (lv_at hl 1 rfl) ?_
  refine va_get (D := (dC, dI)) (ci := 4) (v := .ref (ad 3)) (C := RX4) (T := TX4) (N := 21) hx hb hts inX4 hown hK hP 0 rfl rfl 3 (by decide) (hts (.fieldLink RX4 16 "BittenBoardsModel" "states" "[I") (by decide +kernel)) (fun _ h9 => h9) rfl dX4_done_18 ?_
  refine lv_iload_n hx hb dX4_done_21 rfl (lv_at hl 2 rfl) ?_
  obtain ⟨hg22, hf⟩ := gi_e hf
  refine va_iald (f := (w.2 3)) hx hb hK hP 3 0 rfl rfl hg22 dX4_done_22 ?_
  obtain ⟨hg23, hf⟩ := gi_e hf
  obtain ⟨w_23, ew_23, hf⟩ := nm_x hf
  refine va_iast (f := (w.2 11)) hx hb hK hP hD hS 11 0 rfl rfl hg23 dX4_done_23 (fun H locs hP hD hS => ?_)
  have hP : va_P (dC, dI) vwCl (mc cI cZ ad w_23) H := hP.eqs (by rw [ew_23]; rfl)
  have hD : va_D A (mc cI cZ ad w_23) := hD.eqs (by rw [ew_23]; rfl)
  refine lv_aload_n hx hb dX4_done_24 rfl (lv_at hl 1 rfl) ?_
  refine va_get (D := (dC, dI)) (ci := 4) (v := .ref (ad 10)) (C := RX4) (T := TX4) (N := 21) hx hb hts inX4 hown hK hP 0 rfl rfl 10 (by decide) (hts (.fieldLink RX4 37 "BittenBoardsModel" "noted" "[I") (by decide +kernel)) (fun _ h9 => h9) rfl dX4_done_25 ?_
  refine lv_iload_n hx hb dX4_done_28 rfl (lv_at hl 0 rfl) ?_
  refine lv_iload_n hx hb dX4_done_29 rfl (lv_at hl 3 rfl) ?_
  obtain ⟨hg30, hf⟩ := gi_e hf
  obtain ⟨w_30, ew_30, hf⟩ := nm_x hf
  refine va_iast (f := (w_23.2 10)) hx hb hK hP hD hS 10 0 rfl rfl hg30 dX4_done_30 (fun H locs hP hD hS => ?_)
  have hP : va_P (dC, dI) vwCl (mc cI cZ ad w_30) H := hP.eqs (by rw [ew_30]; rfl)
  have hD : va_D A (mc cI cZ ad w_30) := hD.eqs (by rw [ew_30]; rfl)
  refine lv_aload_n hx hb dX4_done_31 rfl (lv_at hl 1 rfl) ?_
  refine va_get (D := (dC, dI)) (ci := 4) (v := .ref (ad 9)) (C := RX4) (T := TX4) (N := 21) hx hb hts inX4 hown hK hP 0 rfl rfl 9 (by decide) (hts (.fieldLink RX4 34 "BittenBoardsModel" "notedMany" "[I") (by decide +kernel)) (fun _ h9 => h9) rfl dX4_done_32 ?_
  refine lv_iload_n hx hb dX4_done_35 rfl (lv_at hl 2 rfl) ?_
  refine lv_dup2_11 hx hb dX4_done_36 rfl rfl ?_
  obtain ⟨hg37, hf⟩ := gi_e hf
  refine va_iald (f := (w_30.2 9)) hx hb hK hP 9 0 rfl rfl hg37 dX4_done_37 ?_
  refine lv_iconst (v := (1 : Int32)) hx hb dX4_done_38 (by decide) ?_
  refine lv_iadd hx hb dX4_done_39 ?_
  obtain ⟨hg40, hf⟩ := gi_e hf
  obtain ⟨w_40, ew_40, hf⟩ := nm_x hf
  refine va_iast (f := (w_30.2 9)) hx hb hK hP hD hS 9 0 rfl rfl hg40 dX4_done_40 (fun H locs hP hD hS => ?_)
  have hP : va_P (dC, dI) vwCl (mc cI cZ ad w_40) H := hP.eqs (by rw [ew_40]; rfl)
  have hD : va_D A (mc cI cZ ad w_40) := hD.eqs (by rw [ew_40]; rfl)
  refine lv_aload_n hx hb dX4_done_41 rfl (lv_at hl 1 rfl) ?_
  refine va_get (D := (dC, dI)) (ci := 4) (v := .ref (ad 3)) (C := RX4) (T := TX4) (N := 21) hx hb hts inX4 hown hK hP 0 rfl rfl 3 (by decide) (hts (.fieldLink RX4 16 "BittenBoardsModel" "states" "[I") (by decide +kernel)) (fun _ h9 => h9) rfl dX4_done_42 ?_
  refine lv_iload_n hx hb dX4_done_45 rfl (lv_at hl 2 rfl) ?_
  refine lv_aload_n hx hb dX4_done_46 rfl (lv_at hl 1 rfl) ?_
  refine va_get (D := (dC, dI)) (ci := 4) (v := .ref (ad 16)) (C := RX4) (T := TX4) (N := 21) hx hb hts inX4 hown hK hP 0 rfl rfl 17 (by decide) (hts (.fieldLink RX4 61 "BittenBoardsModel" "next" "[I") (by decide +kernel)) (fun _ h9 => h9) rfl dX4_done_47 ?_
  refine lv_iload_n hx hb dX4_done_50 rfl (lv_at hl 3 rfl) ?_
  obtain ⟨hg51, hf⟩ := gi_e hf
  refine va_iald (f := (w_40.2 16)) hx hb hK hP 16 0 rfl rfl hg51 dX4_done_51 ?_
  obtain ⟨hg52, hf⟩ := gi_e hf
  obtain ⟨w_52, ew_52, hf⟩ := nm_x hf
  refine va_iast (f := (w_40.2 3)) hx hb hK hP hD hS 3 0 rfl rfl hg52 dX4_done_52 (fun H locs hP hD hS => ?_)
  have hP : va_P (dC, dI) vwCl (mc cI cZ ad w_52) H := hP.eqs (by rw [ew_52]; rfl)
  have hD : va_D A (mc cI cZ ad w_52) := hD.eqs (by rw [ew_52]; rfl)
  refine lv_aload_n hx hb dX4_done_53 rfl (lv_at hl 1 rfl) ?_
  refine va_get (D := (dC, dI)) (ci := 4) (v := .ref (ad 3)) (C := RX4) (T := TX4) (N := 21) hx hb hts inX4 hown hK hP 0 rfl rfl 3 (by decide) (hts (.fieldLink RX4 16 "BittenBoardsModel" "states" "[I") (by decide +kernel)) (fun _ h9 => h9) rfl dX4_done_54 ?_
  refine lv_iload_n hx hb dX4_done_57 rfl (lv_at hl 2 rfl) ?_
  obtain ⟨hg58, hf⟩ := gi_e hf
  refine va_iald (f := (w_52.2 3)) hx hb hK hP 3 0 rfl rfl hg58 dX4_done_58 ?_
  exact m_iret hx hb hr hlocks hK hP hD hS (so_2 hf) dX4_done_59
set_option maxHeartbeats 4000000 in
set_option maxRecDepth 100000 in
theorem k_mf_play (l : Launch) (dC : Nat → ClassId) (dI : Nat → Nat → Nat) (cI cZ cG : ClassId) (ad : Nat → Nat) (sz : Nat) (w : mW) (a1 : Int32) (a2 : Int32) (r0 : Int32) (w0 : mW) (hf : mf_play a1 a2 w = some (r0, w0)) : Met l yX4_play wsX4_play ({ frames := 5, cells := 0, slots := 0, locals := 115 } : Room) (va_Pc [.ref (ad 0), .int a1, .int a2] (mPre dC dI cI cZ cG ad sz w)) (va_Qi (fun (r : Int32) (u : mW) => r = r0 ∧ u = w0) (mB dC dI cI cZ cG ad (mA ad sz)) (mA ad sz)) 0 0 (mA ad sz) := by
  refine Met.ofW (cc := cX4_play) (maxL := 3) (ret := (some .int)) (by decide) rfl ?_
  intro p e s m args below meth c s₁ B hml hv
  obtain ⟨rfl, hsz, hP, hK, hD0⟩ := hv
  have hx := B.exec
  have hb := B.bytes
  have hr := B.returns
  have hts := atoms_spec (ws := wsX4_play) B.pre
  have hown : s.vm.findClass RX4 = some m.cls := findClass_of_methodNamed B.named
  have hlocks := B.notSynchronized
  have inX4 : ∀ w ∈ u_ws RX4 TX4 21, w ∈ wsX4_play := by decide +kernel
  subst hsz
  have hD : va_D (mA ad s.heap.size) (mc cI cZ ad w) := mD_self hD0
  have hAA : ∀ z q, s.heap.size ≤ z → mA ad z q → mA ad s.heap.size q := mA_mono
  generalize mA ad s.heap.size = A at hD hAA ⊢
  have hS : va_S A s.heap s.heap [] := va_S.rf
  have hl := lv_entry ([.ref (ad 0), .int a1, .int a2]) (n := 3) (Nat.le_of_ble_eq_true rfl)
  rw [lg_entry_eq]
  generalize (lg_sl ([.ref (ad 0), .int a1, .int a2]) ++ List.replicate (3 - (lg_sl ([.ref (ad 0), .int a1, .int a2])).length) Slot.unset).toArray = ls at hl ⊢
  have hl : lv_has ls 3 [(0, .ref (ad 0)), (1, .int a1), (2, .int a2)] := hl
  unfold mf_play at hf
  refine lv_aload_n hx hb dX4_play_0 rfl (lv_at hl 0 rfl) ?_
  refine lv_iload_n hx hb dX4_play_1 rfl (lv_at hl 1 rfl) ?_
  obtain ⟨r_2, hc2, hf⟩ := bn_e hf
  refine m_calli hD hS hAA (va_runV (As := [.int a1]) (rest := []) ⟨hx, hb, hml, hown, hts⟩ (k_mf_isGame l dC dI cI cZ cG ad s.heap.size w a1 r_2 w hc2 rfl) (cwV 1 hts gX4_play_X4_isGame rfl rfl rfl (by decide +kernel) ⟨Nat.le_of_ble_eq_true rfl, Nat.le_of_ble_eq_true rfl⟩) ⟨m_blind, va_recv hK hP (ci := 4) (q0 := 0) rfl rfl, fun U hU hW => m_pre hU hW hK hP hD⟩ rfl rfl hl.1 rfl (lv_room (Nat.le_of_ble_eq_true rfl)) dX4_play_2 ⟨Nat.zero_le _, Nat.zero_le _⟩) (fun H locs hP hD hS => ?_)
  refine lv_if_ne (tgt := 12) hx hb dX4_play_5 (by decide) (fun h5 => ?_) (fun h5 => ?_)
  · have hf := if_f h5 hf
    refine lv_iload_n hx hb dX4_play_12 rfl (lv_at hl 2 rfl) ?_
    refine lv_i2l hx hb dX4_play_13 rfl ?_
    refine lv_lconst (v := (0 : Int64)) hx hb dX4_play_14 (by decide) ?_
    refine lv_aload_n hx hb dX4_play_15 rfl (lv_at hl 0 rfl) ?_
    refine lv_iload_n hx hb dX4_play_16 rfl (lv_at hl 1 rfl) ?_
    obtain ⟨r_17, w_17, hc17, hf⟩ := bn2_e hf
    refine m_calli hD hS hAA (va_runV (As := [.int a1]) (rest := [.long (0 : Int64), .long (a2.toInt64)]) ⟨hx, hb, hml, hown, hts⟩ (k_mf_bitesOf l dC dI cI cZ cG ad H.size w a1 r_17 w_17 hc17) (cwV 1 hts gX4_play_X4_bitesOf rfl rfl rfl (by decide +kernel) ⟨Nat.le_of_ble_eq_true rfl, Nat.le_of_ble_eq_true rfl⟩) ⟨m_blind, va_recv hK hP (ci := 4) (q0 := 0) rfl rfl, fun U hU hW => m_pre hU hW hK hP hD⟩ rfl rfl hl.1 rfl (lv_room (Nat.le_of_ble_eq_true rfl)) dX4_play_17 ⟨Nat.zero_le _, Nat.zero_le _⟩) (fun H locs hP hD hS => ?_)
    refine lv_iconst (v := (1 : Int32)) hx hb dX4_play_20 (by decide) ?_
    refine lv_isub hx hb dX4_play_21 ?_
    refine lv_i2l hx hb dX4_play_22 rfl ?_
    obtain ⟨r_23, hc23, hf⟩ := bn_e hf
    refine m_calli hD hS hAA (va_runS (As := [.long (a2.toInt64), .long (0 : Int64), .long ((r_17 - (1 : Int32)).toInt64)]) (rest := []) ⟨hx, hb, hml, hown, hts⟩ (k_mf_in l dC dI cI cZ cG ad H.size w_17 (a2.toInt64) (0 : Int64) ((r_17 - (1 : Int32)).toInt64) r_23 w_17 hc23 rfl) (va_cwS 3 hts gX4_play_X4_in rfl rfl rfl (by decide +kernel) ⟨Nat.le_of_ble_eq_true rfl, Nat.le_of_ble_eq_true rfl⟩) ⟨m_blind, fun U hU hW => m_pre hU hW hK hP hD⟩ rfl rfl hl.1 rfl (lv_room (Nat.le_of_ble_eq_true rfl)) dX4_play_23 ⟨Nat.zero_le _, Nat.zero_le _⟩) (fun H locs hP hD hS => ?_)
    refine lv_if_ne (tgt := 33) hx hb dX4_play_26 (by decide) (fun h26 => ?_) (fun h26 => ?_)
    · have hf := if_f h26 hf
      refine lv_aload_n hx hb dX4_play_33 rfl (lv_at hl 0 rfl) ?_
      refine va_get (D := (dC, dI)) (ci := 4) (v := .ref (ad 9)) (C := RX4) (T := TX4) (N := 21) hx hb hts inX4 hown hK hP 0 rfl rfl 9 (by decide) (hts (.fieldLink RX4 34 "BittenBoardsModel" "notedMany" "[I") (by decide +kernel)) (fun _ h9 => h9) rfl dX4_play_34 ?_
      refine lv_iload_n hx hb dX4_play_37 rfl (lv_at hl 1 rfl) ?_
      obtain ⟨hg38, hf⟩ := gi_e hf
      refine va_iald (f := (w_17.2 9)) hx hb hK hP 9 0 rfl rfl hg38 dX4_play_38 ?_
      refine lv_bipush (v := (100 : Int32)) hx hb dX4_play_39 (by decide) ?_
      refine lv_icmp_ne (tgt := 50) hx hb dX4_play_41 (by decide) (fun h41 => ?_) (fun h41 => ?_)
      · have hf := if_f h41 hf
        refine lv_aload_n hx hb dX4_play_50 rfl (lv_at hl 0 rfl) ?_
        refine lv_iload_n hx hb dX4_play_51 rfl (lv_at hl 1 rfl) ?_
        refine lv_iload_n hx hb dX4_play_52 rfl (lv_at hl 2 rfl) ?_
        obtain ⟨r_53, w_53, hc53, hf⟩ := bn2_e hf
        refine m_calli hD hS hAA (va_runV (As := [.int a1, .int a2]) (rest := []) ⟨hx, hb, hml, hown, hts⟩ (k_mf_done l dC dI cI cZ cG ad H.size w_17 a1 a2 r_53 w_53 hc53) (cwV 2 hts gX4_play_X4_done rfl rfl rfl (by decide +kernel) ⟨Nat.le_of_ble_eq_true rfl, Nat.le_of_ble_eq_true rfl⟩) ⟨m_blind, va_recv hK hP (ci := 4) (q0 := 0) rfl rfl, fun U hU hW => m_pre hU hW hK hP hD⟩ rfl rfl hl.1 rfl (lv_room (Nat.le_of_ble_eq_true rfl)) dX4_play_53 ⟨Nat.zero_le _, Nat.zero_le _⟩) (fun H locs hP hD hS => ?_)
        exact m_iret hx hb hr hlocks hK hP hD hS (so_2 hf) dX4_play_56
      · have hf := if_t h41 hf
        refine lv_sipush (v := (-1004 : Int32)) hx hb dX4_play_44 (by decide) ?_
        refine lv_goto (tgt := 56) hx hb dX4_play_47 (by decide) ?_
        exact m_iret hx hb hr hlocks hK hP hD hS (so_2 hf) dX4_play_56
    · have hf := if_t h26 hf
      refine lv_sipush (v := (-1003 : Int32)) hx hb dX4_play_29 (by decide) ?_
      exact m_iret hx hb hr hlocks hK hP hD hS (so_2 hf) dX4_play_32
  · have hf := if_t h5 hf
    refine lv_sipush (v := (-1001 : Int32)) hx hb dX4_play_8 (by decide) ?_
    exact m_iret hx hb hr hlocks hK hP hD hS (so_2 hf) dX4_play_11
set_option maxHeartbeats 4000000 in
set_option maxRecDepth 100000 in
theorem k_mf_firstOf (l : Launch) (dC : Nat → ClassId) (dI : Nat → Nat → Nat) (cI cZ cG : ClassId) (ad : Nat → Nat) (sz : Nat) (w : mW) (a1 : Int32) (r0 : Int32) (w0 : mW) (hf : mf_firstOf a1 w = some r0) (hw0 : w = w0) : Met l yX4_firstOf wsX4_firstOf ({ frames := 0, cells := 0, slots := 0, locals := 0 } : Room) (va_Pc [.ref (ad 0), .int a1] (mPre dC dI cI cZ cG ad sz w)) (va_Qi (fun (r : Int32) (u : mW) => r = r0 ∧ u = w0) (mB dC dI cI cZ cG ad (mA ad sz)) (mA ad sz)) 0 0 (mA ad sz) := by
  refine Met.ofW (cc := cX4_firstOf) (maxL := 3) (ret := (some .int)) (by decide) rfl ?_
  intro p e s m args below meth c s₁ B hml hv
  obtain ⟨rfl, hsz, hP, hK, hD0⟩ := hv
  have hx := B.exec
  have hb := B.bytes
  have hr := B.returns
  have hts := atoms_spec (ws := wsX4_firstOf) B.pre
  have hown : s.vm.findClass RX4 = some m.cls := findClass_of_methodNamed B.named
  have hlocks := B.notSynchronized
  have inX4 : ∀ w ∈ u_ws RX4 TX4 21, w ∈ wsX4_firstOf := by decide +kernel
  subst hsz
  have hD : va_D (mA ad s.heap.size) (mc cI cZ ad w) := mD_self hD0
  have hAA : ∀ z q, s.heap.size ≤ z → mA ad z q → mA ad s.heap.size q := mA_mono
  generalize mA ad s.heap.size = A at hD hAA ⊢
  have hS : va_S A s.heap s.heap [] := va_S.rf
  have C2 : ∀ (n2 : Nat) (x1 : Int32) (x2 : Int32), mf_firstOf_C2 w n2 x1 x2 = some r0 → ∀ (H : Heap) (locs : List Loc) (ls : Array Slot), va_P (dC, dI) vwCl (mc cI cZ ad w) H → va_D A (mc cI cZ ad w) → va_S A s.heap H locs → lv_has ls 3 [(0, .ref (ad 0)), (1, .int x1), (2, .int x2)] → W p l e (headSpec wsX4_firstOf ({ frames := 0, cells := 0, slots := 0, locals := 0 } : Room)).room s m (List.toArray [Value.ref (ad 0), Value.int a1]) below meth c H locs 0 0 (MQ below (va_Qi (fun (r : Int32) (u : mW) => r = r0 ∧ u = w0) (mB dC dI cI cZ cG ad A) A) (List.toArray [Value.ref (ad 0), Value.int a1]) s 0 0 A) (F0 m 2 ls []) := by
    intro n2
    induction n2 with
    | zero => intro x1 x2 hf; cases hf
    | succ n2 ih2 =>
      intro x1 x2 hf H locs ls hP hD hS hl
      rw [mf_firstOf_C2] at hf
      refine lv_aload_n hx hb dX4_firstOf_2 rfl (lv_at hl 0 rfl) ?_
      refine va_get (D := (dC, dI)) (ci := 4) (v := .ref (ad 13)) (C := RX4) (T := TX4) (N := 21) hx hb hts inX4 hown hK hP 0 rfl rfl 14 (by decide) (hts (.fieldLink RX4 52 "BittenBoardsModel" "lengths" "[I") (by decide +kernel)) (fun _ h9 => h9) rfl dX4_firstOf_3 ?_
      refine lv_aload_n hx hb dX4_firstOf_6 rfl (lv_at hl 0 rfl) ?_
      refine va_get (D := (dC, dI)) (ci := 4) (v := .ref (ad 16)) (C := RX4) (T := TX4) (N := 21) hx hb hts inX4 hown hK hP 0 rfl rfl 17 (by decide) (hts (.fieldLink RX4 61 "BittenBoardsModel" "next" "[I") (by decide +kernel)) (fun _ h9 => h9) rfl dX4_firstOf_7 ?_
      refine lv_iload_n hx hb dX4_firstOf_10 rfl (lv_at hl 2 rfl) ?_
      obtain ⟨hg11, hf⟩ := gi_e hf
      refine va_iald (f := (w.2 16)) hx hb hK hP 16 0 rfl rfl hg11 dX4_firstOf_11 ?_
      obtain ⟨hg12, hf⟩ := gi_e hf
      refine va_iald (f := (w.2 13)) hx hb hK hP 13 0 rfl rfl hg12 dX4_firstOf_12 ?_
      refine lv_iload_n hx hb dX4_firstOf_13 rfl (lv_at hl 1 rfl) ?_
      refine lv_icmp_eq (tgt := 23) hx hb dX4_firstOf_14 (by decide) (fun h14 => ?_) (fun h14 => ?_)
      · have hf := if_t h14 hf
        refine lv_iload_n hx hb dX4_firstOf_23 rfl (lv_at hl 2 rfl) ?_
        exact m_iret hx hb hr hlocks hK hP hD hS ⟨so_1 hf, hw0⟩ dX4_firstOf_24
      · have hf := if_f h14 hf
        obtain ⟨x2_17, ex2_17, hf⟩ := nm_x hf
        refine lv_iinc (v := x2_17) (lv' := [(2, .int x2_17), (0, .ref (ad 0)), (1, .int x1)]) hx hb dX4_firstOf_17 hl (k := 2) rfl (by rw [ex2_17]; rfl) (by decide) rfl (fun ls hl => ?_)
        refine lv_goto (tgt := 2) hx hb dX4_firstOf_20 (by decide) ?_
        exact ih2 x1 x2_17 hf _ _ _ hP hD hS (lv_sub hl [1, 2, 0] rfl)
  have hl := lv_entry ([.ref (ad 0), .int a1]) (n := 3) (Nat.le_of_ble_eq_true rfl)
  rw [lg_entry_eq]
  generalize (lg_sl ([.ref (ad 0), .int a1]) ++ List.replicate (3 - (lg_sl ([.ref (ad 0), .int a1])).length) Slot.unset).toArray = ls at hl ⊢
  have hl : lv_has ls 3 [(0, .ref (ad 0)), (1, .int a1)] := hl
  unfold mf_firstOf at hf
  refine lv_iconst (v := (0 : Int32)) hx hb dX4_firstOf_0 (by decide) ?_
  refine lv_istore_n (lv' := [(2, .int (0 : Int32)), (0, .ref (ad 0)), (1, .int a1)]) hx hb dX4_firstOf_1 rfl hl (by decide) rfl (fun ls hl => ?_)
  exact C2 fu a1 (0 : Int32) hf _ _ _ hP hD hS (lv_sub hl [1, 2, 0] rfl)
set_option maxHeartbeats 4000000 in
set_option maxRecDepth 100000 in
theorem k_mf_answer (l : Launch) (dC : Nat → ClassId) (dI : Nat → Nat → Nat) (cI cZ cG : ClassId) (ad : Nat → Nat) (sz : Nat) (w : mW) (a1 : Int32) (r0 : Int32) (w0 : mW) (hf : mf_answer a1 w = some (r0, w0)) : Met l yX4_answer wsX4_answer ({ frames := 6, cells := 0, slots := 0, locals := 144 } : Room) (va_Pc [.ref (ad 0), .int a1] (mPre dC dI cI cZ cG ad sz w)) (va_Qi (fun (r : Int32) (u : mW) => r = r0 ∧ u = w0) (mB dC dI cI cZ cG ad (mA ad sz)) (mA ad sz)) 0 0 (mA ad sz) := by
  refine Met.ofW (cc := cX4_answer) (maxL := 7) (ret := (some .int)) (by decide) rfl ?_
  intro p e s m args below meth c s₁ B hml hv
  obtain ⟨rfl, hsz, hP, hK, hD0⟩ := hv
  have hx := B.exec
  have hb := B.bytes
  have hr := B.returns
  have hts := atoms_spec (ws := wsX4_answer) B.pre
  have hown : s.vm.findClass RX4 = some m.cls := findClass_of_methodNamed B.named
  have hlocks := B.notSynchronized
  have inX4 : ∀ w ∈ u_ws RX4 TX4 21, w ∈ wsX4_answer := by decide +kernel
  subst hsz
  have hD : va_D (mA ad s.heap.size) (mc cI cZ ad w) := mD_self hD0
  have hAA : ∀ z q, s.heap.size ≤ z → mA ad z q → mA ad s.heap.size q := mA_mono
  generalize mA ad s.heap.size = A at hD hAA ⊢
  have hS : va_S A s.heap s.heap [] := va_S.rf
  have C149 : ∀ (x1 : Int32) (t0 : Int32) (w : mW), mf_answer_C149 x1 t0 w = some (r0, w0) → ∀ (H : Heap) (locs : List Loc) (ls : Array Slot), va_P (dC, dI) vwCl (mc cI cZ ad w) H → va_D A (mc cI cZ ad w) → va_S A s.heap H locs → lv_has ls 7 [(0, .ref (ad 0)), (1, .int x1)] → W p l e (headSpec wsX4_answer ({ frames := 6, cells := 0, slots := 0, locals := 144 } : Room)).room s m (List.toArray [Value.ref (ad 0), Value.int a1]) below meth c H locs 0 0 (MQ below (va_Qi (fun (r : Int32) (u : mW) => r = r0 ∧ u = w0) (mB dC dI cI cZ cG ad A) A) (List.toArray [Value.ref (ad 0), Value.int a1]) s 0 0 A) (F0 m 149 ls [.int t0]) := by
    intro x1 t0 w hf H locs ls hP hD hS hl
    unfold mf_answer_C149 at hf
    refine lv_istore (lv' := [(5, .int t0), (0, .ref (ad 0)), (1, .int x1)]) hx hb dX4_answer_149 hl (by decide) rfl (fun ls hl => ?_)
    refine lv_aload_n hx hb dX4_answer_151 rfl (lv_at hl 1 rfl) ?_
    refine lv_iload_n hx hb dX4_answer_152 rfl (lv_at hl 2 rfl) ?_
    refine lv_iload hx hb dX4_answer_153 (lv_at hl 0 rfl) ?_
    obtain ⟨r_155, w_155, hc155, hf⟩ := bn2_e hf
    refine m_calli hD hS hAA (va_runV (As := [.int x1, .int t0]) (rest := []) ⟨hx, hb, hml, hown, hts⟩ (k_mf_done l dC dI cI cZ cG ad H.size w x1 t0 r_155 w_155 hc155) (cwV 2 hts gX4_answer_X4_done rfl rfl rfl (by decide +kernel) ⟨Nat.le_of_ble_eq_true rfl, Nat.le_of_ble_eq_true rfl⟩) ⟨m_blind, va_recv hK hP (ci := 4) (q0 := 0) rfl rfl, fun U hU hW => m_pre hU hW hK hP hD⟩ rfl rfl hl.1 rfl (lv_room (Nat.le_of_ble_eq_true rfl)) dX4_answer_155 ⟨Nat.zero_le _, Nat.zero_le _⟩) (fun H locs hP hD hS => ?_)
    refine lv_istore (lv' := [(6, .int r_155), (5, .int t0), (0, .ref (ad 0)), (1, .int x1)]) hx hb dX4_answer_158 hl (by decide) rfl (fun ls hl => ?_)
    refine lv_iload hx hb dX4_answer_160 (lv_at hl 1 rfl) ?_
    exact m_iret hx hb hr hlocks hK hP hD hS (so_2 hf) dX4_answer_162
  have C56 : ∀ (n56 : Nat) (x1 : Int32) (x3 : Int32) (x4 : Int32) (x5 : Int32) (w : mW), mf_answer_C56 n56 x1 x3 x4 x5 w = some (r0, w0) → ∀ (H : Heap) (locs : List Loc) (ls : Array Slot), va_P (dC, dI) vwCl (mc cI cZ ad w) H → va_D A (mc cI cZ ad w) → va_S A s.heap H locs → lv_has ls 7 [(0, .ref (ad 0)), (1, .int x1), (3, .int x3), (4, .int x4), (5, .int x5)] → W p l e (headSpec wsX4_answer ({ frames := 6, cells := 0, slots := 0, locals := 144 } : Room)).room s m (List.toArray [Value.ref (ad 0), Value.int a1]) below meth c H locs 0 0 (MQ below (va_Qi (fun (r : Int32) (u : mW) => r = r0 ∧ u = w0) (mB dC dI cI cZ cG ad A) A) (List.toArray [Value.ref (ad 0), Value.int a1]) s 0 0 A) (F0 m 56 ls []) := by
    intro n56
    induction n56 with
    | zero => intro x1 x3 x4 x5 w hf; cases hf
    | succ n56 ih56 =>
      have C82 : ∀ (x1 : Int32) (x4 : Int32) (x5 : Int32) (t0 : Int32) (w : mW), mf_answer_C82 (mf_answer_C56 n56) x1 x4 x5 t0 w = some (r0, w0) → ∀ (H : Heap) (locs : List Loc) (ls : Array Slot), va_P (dC, dI) vwCl (mc cI cZ ad w) H → va_D A (mc cI cZ ad w) → va_S A s.heap H locs → lv_has ls 7 [(0, .ref (ad 0)), (1, .int x1), (4, .int x4), (5, .int x5)] → W p l e (headSpec wsX4_answer ({ frames := 6, cells := 0, slots := 0, locals := 144 } : Room)).room s m (List.toArray [Value.ref (ad 0), Value.int a1]) below meth c H locs 0 0 (MQ below (va_Qi (fun (r : Int32) (u : mW) => r = r0 ∧ u = w0) (mB dC dI cI cZ cG ad A) A) (List.toArray [Value.ref (ad 0), Value.int a1]) s 0 0 A) (F0 m 82 ls [.int t0]) := by
        intro x1 x4 x5 t0 w hf H locs ls hP hD hS hl
        unfold mf_answer_C82 at hf
        refine lv_istore_n (lv' := [(3, .int t0), (0, .ref (ad 0)), (1, .int x1), (4, .int x4), (5, .int x5)]) hx hb dX4_answer_82 rfl hl (by decide) rfl (fun ls hl => ?_)
        refine lv_aload_n hx hb dX4_answer_83 rfl (lv_at hl 1 rfl) ?_
        refine va_get (D := (dC, dI)) (ci := 4) (v := .ref (ad 13)) (C := RX4) (T := TX4) (N := 21) hx hb hts inX4 hown hK hP 0 rfl rfl 14 (by decide) (hts (.fieldLink RX4 52 "BittenBoardsModel" "lengths" "[I") (by decide +kernel)) (fun _ h9 => h9) rfl dX4_answer_84 ?_
        refine lv_aload_n hx hb dX4_answer_87 rfl (lv_at hl 1 rfl) ?_
        refine va_get (D := (dC, dI)) (ci := 4) (v := .ref (ad 16)) (C := RX4) (T := TX4) (N := 21) hx hb hts inX4 hown hK hP 0 rfl rfl 17 (by decide) (hts (.fieldLink RX4 61 "BittenBoardsModel" "next" "[I") (by decide +kernel)) (fun _ h9 => h9) rfl dX4_answer_88 ?_
        refine lv_iload hx hb dX4_answer_91 (lv_at hl 4 rfl) ?_
        obtain ⟨hg93, hf⟩ := gi_e hf
        refine va_iald (f := (w.2 16)) hx hb hK hP 16 0 rfl rfl hg93 dX4_answer_93 ?_
        obtain ⟨hg94, hf⟩ := gi_e hf
        refine va_iald (f := (w.2 13)) hx hb hK hP 13 0 rfl rfl hg94 dX4_answer_94 ?_
        refine lv_aload_n hx hb dX4_answer_95 rfl (lv_at hl 1 rfl) ?_
        refine va_get (D := (dC, dI)) (ci := 4) (v := .ref (ad 13)) (C := RX4) (T := TX4) (N := 21) hx hb hts inX4 hown hK hP 0 rfl rfl 14 (by decide) (hts (.fieldLink RX4 52 "BittenBoardsModel" "lengths" "[I") (by decide +kernel)) (fun _ h9 => h9) rfl dX4_answer_96 ?_
        refine lv_aload_n hx hb dX4_answer_99 rfl (lv_at hl 1 rfl) ?_
        refine va_get (D := (dC, dI)) (ci := 4) (v := .ref (ad 16)) (C := RX4) (T := TX4) (N := 21) hx hb hts inX4 hown hK hP 0 rfl rfl 17 (by decide) (hts (.fieldLink RX4 61 "BittenBoardsModel" "next" "[I") (by decide +kernel)) (fun _ h9 => h9) rfl dX4_answer_100 ?_
        refine lv_iload hx hb dX4_answer_103 (lv_at hl 3 rfl) ?_
        obtain ⟨hg105, hf⟩ := gi_e hf
        refine va_iald (f := (w.2 16)) hx hb hK hP 16 0 rfl rfl hg105 dX4_answer_105 ?_
        obtain ⟨hg106, hf⟩ := gi_e hf
        refine va_iald (f := (w.2 13)) hx hb hK hP 13 0 rfl rfl hg106 dX4_answer_106 ?_
        refine lv_icmp_lt (tgt := 115) hx hb dX4_answer_107 (by decide) (fun h107 => ?_) (fun h107 => ?_)
        · have hf := if_t h107 hf
          refine lv_iload hx hb dX4_answer_115 (lv_at hl 3 rfl) ?_
          refine lv_istore (lv' := [(4, .int x4), (3, .int t0), (0, .ref (ad 0)), (1, .int x1), (5, .int x5)]) hx hb dX4_answer_117 hl (by decide) rfl (fun ls hl => ?_)
          obtain ⟨x5_119, ex5_119, hf⟩ := nm_x hf
          refine lv_iinc (v := x5_119) (lv' := [(5, .int x5_119), (4, .int x4), (3, .int t0), (0, .ref (ad 0)), (1, .int x1)]) hx hb dX4_answer_119 hl (k := 4) rfl (by rw [ex5_119]; rfl) (by decide) rfl (fun ls hl => ?_)
          refine lv_goto (tgt := 56) hx hb dX4_answer_122 (by decide) ?_
          exact ih56 x1 t0 x4 x5_119 w hf _ _ _ hP hD hS (lv_sub hl [3, 4, 2, 1, 0] rfl)
        · have hf := if_f h107 hf
          refine lv_iload hx hb dX4_answer_110 (lv_at hl 4 rfl) ?_
          refine lv_goto (tgt := 117) hx hb dX4_answer_112 (by decide) ?_
          refine lv_istore (lv' := [(4, .int x5), (3, .int t0), (0, .ref (ad 0)), (1, .int x1), (5, .int x5)]) hx hb dX4_answer_117 hl (by decide) rfl (fun ls hl => ?_)
          obtain ⟨x5_119, ex5_119, hf⟩ := nm_x hf
          refine lv_iinc (v := x5_119) (lv' := [(5, .int x5_119), (4, .int x5), (3, .int t0), (0, .ref (ad 0)), (1, .int x1)]) hx hb dX4_answer_119 hl (k := 4) rfl (by rw [ex5_119]; rfl) (by decide) rfl (fun ls hl => ?_)
          refine lv_goto (tgt := 56) hx hb dX4_answer_122 (by decide) ?_
          exact ih56 x1 t0 x5 x5_119 w hf _ _ _ hP hD hS (lv_sub hl [3, 4, 2, 1, 0] rfl)
      intro x1 x3 x4 x5 w hf H locs ls hP hD hS hl
      rw [mf_answer_C56] at hf
      refine lv_iload hx hb dX4_answer_56 (lv_at hl 4 rfl) ?_
      refine lv_if_lt (tgt := 125) hx hb dX4_answer_58 (by decide) (fun h58 => ?_) (fun h58 => ?_)
      · have hf := if_t h58 hf
        refine lv_iload_n hx hb dX4_answer_125 rfl (lv_at hl 2 rfl) ?_
        refine lv_if_lt (tgt := 133) hx hb dX4_answer_126 (by decide) (fun h126 => ?_) (fun h126 => ?_)
        · have hf := if_t h126 hf
          refine lv_aload_n hx hb dX4_answer_133 rfl (lv_at hl 0 rfl) ?_
          refine lv_aload_n hx hb dX4_answer_134 rfl (lv_at hl 0 rfl) ?_
          refine va_get (D := (dC, dI)) (ci := 4) (v := .ref (ad 13)) (C := RX4) (T := TX4) (N := 21) hx hb hts inX4 hown hK hP 0 rfl rfl 14 (by decide) (hts (.fieldLink RX4 52 "BittenBoardsModel" "lengths" "[I") (by decide +kernel)) (fun _ h9 => h9) rfl dX4_answer_135 ?_
          refine lv_aload_n hx hb dX4_answer_138 rfl (lv_at hl 0 rfl) ?_
          refine va_get (D := (dC, dI)) (ci := 4) (v := .ref (ad 16)) (C := RX4) (T := TX4) (N := 21) hx hb hts inX4 hown hK hP 0 rfl rfl 17 (by decide) (hts (.fieldLink RX4 61 "BittenBoardsModel" "next" "[I") (by decide +kernel)) (fun _ h9 => h9) rfl dX4_answer_139 ?_
          refine lv_iload hx hb dX4_answer_142 (lv_at hl 3 rfl) ?_
          obtain ⟨hg144, hf⟩ := gi_e hf
          refine va_iald (f := (w.2 16)) hx hb hK hP 16 0 rfl rfl hg144 dX4_answer_144 ?_
          obtain ⟨hg145, hf⟩ := gi_e hf
          refine va_iald (f := (w.2 13)) hx hb hK hP 13 0 rfl rfl hg145 dX4_answer_145 ?_
          obtain ⟨r_146, hc146, hf⟩ := bn_e hf
          refine m_calli hD hS hAA (va_runV (As := [.int ((w.2 13) ((w.2 16) x4.toNatClampNeg).toNatClampNeg)]) (rest := []) ⟨hx, hb, hml, hown, hts⟩ (k_mf_firstOf l dC dI cI cZ cG ad H.size w ((w.2 13) ((w.2 16) x4.toNatClampNeg).toNatClampNeg) r_146 w hc146 rfl) (cwV 1 hts gX4_answer_X4_firstOf rfl rfl rfl (by decide +kernel) ⟨Nat.le_of_ble_eq_true rfl, Nat.le_of_ble_eq_true rfl⟩) ⟨m_blind, va_recv hK hP (ci := 4) (q0 := 0) rfl rfl, fun U hU hW => m_pre hU hW hK hP hD⟩ rfl rfl hl.1 rfl (lv_room (Nat.le_of_ble_eq_true rfl)) dX4_answer_146 ⟨Nat.zero_le _, Nat.zero_le _⟩) (fun H locs hP hD hS => ?_)
          exact C149 x1 r_146 w hf _ _ _ hP hD hS (lv_sub hl [0, 1] rfl)
        · have hf := if_f h126 hf
          refine lv_iload_n hx hb dX4_answer_129 rfl (lv_at hl 2 rfl) ?_
          refine lv_goto (tgt := 149) hx hb dX4_answer_130 (by decide) ?_
          exact C149 x1 x3 w hf _ _ _ hP hD hS (lv_sub hl [0, 1] rfl)
      · have hf := if_f h58 hf
        refine lv_aload_n hx hb dX4_answer_61 rfl (lv_at hl 0 rfl) ?_
        refine va_get (D := (dC, dI)) (ci := 4) (v := .ref (ad 12)) (C := RX4) (T := TX4) (N := 21) hx hb hts inX4 hown hK hP 0 rfl rfl 13 (by decide) (hts (.fieldLink RX4 48 "BittenBoardsModel" "isWon" "[Z") (by decide +kernel)) (fun _ h9 => h9) rfl dX4_answer_62 ?_
        refine lv_aload_n hx hb dX4_answer_65 rfl (lv_at hl 0 rfl) ?_
        refine va_get (D := (dC, dI)) (ci := 4) (v := .ref (ad 16)) (C := RX4) (T := TX4) (N := 21) hx hb hts inX4 hown hK hP 0 rfl rfl 17 (by decide) (hts (.fieldLink RX4 61 "BittenBoardsModel" "next" "[I") (by decide +kernel)) (fun _ h9 => h9) rfl dX4_answer_66 ?_
        refine lv_iload hx hb dX4_answer_69 (lv_at hl 4 rfl) ?_
        obtain ⟨hg71, hf⟩ := gi_e hf
        refine va_iald (f := (w.2 16)) hx hb hK hP 16 0 rfl rfl hg71 dX4_answer_71 ?_
        obtain ⟨hg72, hf⟩ := gi_e hf
        refine va_zald (f := (w.2 12)) hx hb hK hP 12 1 rfl rfl hg72 dX4_answer_72 ?_
        refine lv_if_eq (tgt := 80) hx hb dX4_answer_73 (by decide) (fun h73 => ?_) (fun h73 => ?_)
        · have hf := if_t h73 hf
          refine lv_iload hx hb dX4_answer_80 (lv_at hl 4 rfl) ?_
          exact C82 x1 x4 x5 x5 w hf _ _ _ hP hD hS (lv_sub hl [0, 1, 3, 4] rfl)
        · have hf := if_f h73 hf
          refine lv_iload_n hx hb dX4_answer_76 rfl (lv_at hl 2 rfl) ?_
          refine lv_goto (tgt := 82) hx hb dX4_answer_77 (by decide) ?_
          exact C82 x1 x4 x5 x3 w hf _ _ _ hP hD hS (lv_sub hl [0, 1, 3, 4] rfl)
  have hl := lv_entry ([.ref (ad 0), .int a1]) (n := 7) (Nat.le_of_ble_eq_true rfl)
  rw [lg_entry_eq]
  generalize (lg_sl ([.ref (ad 0), .int a1]) ++ List.replicate (7 - (lg_sl ([.ref (ad 0), .int a1])).length) Slot.unset).toArray = ls at hl ⊢
  have hl : lv_has ls 7 [(0, .ref (ad 0)), (1, .int a1)] := hl
  unfold mf_answer at hf
  refine lv_aload_n hx hb dX4_answer_0 rfl (lv_at hl 0 rfl) ?_
  refine lv_iload_n hx hb dX4_answer_1 rfl (lv_at hl 1 rfl) ?_
  obtain ⟨r_2, hc2, hf⟩ := bn_e hf
  refine m_calli hD hS hAA (va_runV (As := [.int a1]) (rest := []) ⟨hx, hb, hml, hown, hts⟩ (k_mf_isGame l dC dI cI cZ cG ad s.heap.size w a1 r_2 w hc2 rfl) (cwV 1 hts gX4_answer_X4_isGame rfl rfl rfl (by decide +kernel) ⟨Nat.le_of_ble_eq_true rfl, Nat.le_of_ble_eq_true rfl⟩) ⟨m_blind, va_recv hK hP (ci := 4) (q0 := 0) rfl rfl, fun U hU hW => m_pre hU hW hK hP hD⟩ rfl rfl hl.1 rfl (lv_room (Nat.le_of_ble_eq_true rfl)) dX4_answer_2 ⟨Nat.zero_le _, Nat.zero_le _⟩) (fun H locs hP hD hS => ?_)
  refine lv_if_ne (tgt := 12) hx hb dX4_answer_5 (by decide) (fun h5 => ?_) (fun h5 => ?_)
  · have hf := if_f h5 hf
    refine lv_aload_n hx hb dX4_answer_12 rfl (lv_at hl 0 rfl) ?_
    refine lv_iload_n hx hb dX4_answer_13 rfl (lv_at hl 1 rfl) ?_
    obtain ⟨w_14, hc14, hf⟩ := bn_e hf
    refine m_callv hD hS hAA (va_runV (As := [.int a1]) (rest := []) ⟨hx, hb, hml, hown, hts⟩ (k_mf_solve l dC dI cI cZ cG ad H.size w a1 w_14 hc14) (cwV 1 hts gX4_answer_X4_solve rfl rfl rfl (by decide +kernel) ⟨Nat.le_of_ble_eq_true rfl, Nat.le_of_ble_eq_true rfl⟩) ⟨m_blind, va_recv hK hP (ci := 4) (q0 := 0) rfl rfl, fun U hU hW => m_pre hU hW hK hP hD⟩ rfl rfl hl.1 rfl (lv_room (Nat.le_of_ble_eq_true rfl)) dX4_answer_14 ⟨Nat.zero_le _, Nat.zero_le _⟩) (fun H locs hP hD hS => ?_)
    refine lv_aload_n hx hb dX4_answer_17 rfl (lv_at hl 0 rfl) ?_
    refine lv_iload_n hx hb dX4_answer_18 rfl (lv_at hl 1 rfl) ?_
    obtain ⟨r_19, w_19, hc19, hf⟩ := bn2_e hf
    refine m_calli hD hS hAA (va_runV (As := [.int a1]) (rest := []) ⟨hx, hb, hml, hown, hts⟩ (k_mf_bitesOf l dC dI cI cZ cG ad H.size w_14 a1 r_19 w_19 hc19) (cwV 1 hts gX4_answer_X4_bitesOf rfl rfl rfl (by decide +kernel) ⟨Nat.le_of_ble_eq_true rfl, Nat.le_of_ble_eq_true rfl⟩) ⟨m_blind, va_recv hK hP (ci := 4) (q0 := 0) rfl rfl, fun U hU hW => m_pre hU hW hK hP hD⟩ rfl rfl hl.1 rfl (lv_room (Nat.le_of_ble_eq_true rfl)) dX4_answer_19 ⟨Nat.zero_le _, Nat.zero_le _⟩) (fun H locs hP hD hS => ?_)
    refine lv_istore_n (lv' := [(2, .int r_19), (0, .ref (ad 0)), (1, .int a1)]) hx hb dX4_answer_22 rfl hl (by decide) rfl (fun ls hl => ?_)
    refine lv_iload_n hx hb dX4_answer_23 rfl (lv_at hl 0 rfl) ?_
    refine lv_if_ne (tgt := 31) hx hb dX4_answer_24 (by decide) (fun h24 => ?_) (fun h24 => ?_)
    · have hf := if_f h24 hf
      refine lv_aload_n hx hb dX4_answer_31 rfl (lv_at hl 1 rfl) ?_
      refine va_get (D := (dC, dI)) (ci := 4) (v := .ref (ad 9)) (C := RX4) (T := TX4) (N := 21) hx hb hts inX4 hown hK hP 0 rfl rfl 9 (by decide) (hts (.fieldLink RX4 34 "BittenBoardsModel" "notedMany" "[I") (by decide +kernel)) (fun _ h9 => h9) rfl dX4_answer_32 ?_
      refine lv_iload_n hx hb dX4_answer_35 rfl (lv_at hl 2 rfl) ?_
      obtain ⟨hg36, hf⟩ := gi_e hf
      refine va_iald (f := (w_19.2 9)) hx hb hK hP 9 0 rfl rfl hg36 dX4_answer_36 ?_
      refine lv_bipush (v := (100 : Int32)) hx hb dX4_answer_37 (by decide) ?_
      refine lv_icmp_ne (tgt := 46) hx hb dX4_answer_39 (by decide) (fun h39 => ?_) (fun h39 => ?_)
      · have hf := if_f h39 hf
        refine lv_iconst (v := (-1 : Int32)) hx hb dX4_answer_46 (by decide) ?_
        refine lv_istore_n (lv' := [(3, .int (-1 : Int32)), (2, .int r_19), (0, .ref (ad 0)), (1, .int a1)]) hx hb dX4_answer_47 rfl hl (by decide) rfl (fun ls hl => ?_)
        refine lv_iconst (v := (0 : Int32)) hx hb dX4_answer_48 (by decide) ?_
        refine lv_istore (lv' := [(4, .int (0 : Int32)), (3, .int (-1 : Int32)), (2, .int r_19), (0, .ref (ad 0)), (1, .int a1)]) hx hb dX4_answer_49 hl (by decide) rfl (fun ls hl => ?_)
        refine lv_iload_n hx hb dX4_answer_51 rfl (lv_at hl 2 rfl) ?_
        refine lv_iconst (v := (1 : Int32)) hx hb dX4_answer_52 (by decide) ?_
        refine lv_isub hx hb dX4_answer_53 ?_
        obtain ⟨x5_54, ex5_54, hf⟩ := nm_x hf
        refine W.eq (g2 := F0 m 54 ls [.int x5_54]) (by rw [ex5_54]) ?_
        refine lv_istore (lv' := [(5, .int x5_54), (4, .int (0 : Int32)), (3, .int (-1 : Int32)), (2, .int r_19), (0, .ref (ad 0)), (1, .int a1)]) hx hb dX4_answer_54 hl (by decide) rfl (fun ls hl => ?_)
        exact C56 fu a1 (-1 : Int32) (0 : Int32) x5_54 w_19 hf _ _ _ hP hD hS (lv_sub hl [4, 5, 2, 1, 0] rfl)
      · have hf := if_t h39 hf
        refine lv_sipush (v := (-1004 : Int32)) hx hb dX4_answer_42 (by decide) ?_
        exact m_iret hx hb hr hlocks hK hP hD hS (so_2 hf) dX4_answer_45
    · have hf := if_t h24 hf
      refine lv_sipush (v := (-1003 : Int32)) hx hb dX4_answer_27 (by decide) ?_
      exact m_iret hx hb hr hlocks hK hP hD hS (so_2 hf) dX4_answer_30
  · have hf := if_t h5 hf
    refine lv_sipush (v := (-1001 : Int32)) hx hb dX4_answer_8 (by decide) ?_
    exact m_iret hx hb hr hlocks hK hP hD hS (so_2 hf) dX4_answer_11
set_option maxHeartbeats 4000000 in
set_option maxRecDepth 100000 in
theorem k_mf_back (l : Launch) (dC : Nat → ClassId) (dI : Nat → Nat → Nat) (cI cZ cG : ClassId) (ad : Nat → Nat) (sz : Nat) (w : mW) (a1 : Int32) (r0 : Int32) (w0 : mW) (hf : mf_back a1 w = some (r0, w0)) : Met l yX4_back wsX4_back ({ frames := 2, cells := 0, slots := 0, locals := 46 } : Room) (va_Pc [.ref (ad 0), .int a1] (mPre dC dI cI cZ cG ad sz w)) (va_Qi (fun (r : Int32) (u : mW) => r = r0 ∧ u = w0) (mB dC dI cI cZ cG ad (mA ad sz)) (mA ad sz)) 0 0 (mA ad sz) := by
  refine Met.ofW (cc := cX4_back) (maxL := 2) (ret := (some .int)) (by decide) rfl ?_
  intro p e s m args below meth c s₁ B hml hv
  obtain ⟨rfl, hsz, hP, hK, hD0⟩ := hv
  have hx := B.exec
  have hb := B.bytes
  have hr := B.returns
  have hts := atoms_spec (ws := wsX4_back) B.pre
  have hown : s.vm.findClass RX4 = some m.cls := findClass_of_methodNamed B.named
  have hlocks := B.notSynchronized
  have inX4 : ∀ w ∈ u_ws RX4 TX4 21, w ∈ wsX4_back := by decide +kernel
  subst hsz
  have hD : va_D (mA ad s.heap.size) (mc cI cZ ad w) := mD_self hD0
  have hAA : ∀ z q, s.heap.size ≤ z → mA ad z q → mA ad s.heap.size q := mA_mono
  generalize mA ad s.heap.size = A at hD hAA ⊢
  have hS : va_S A s.heap s.heap [] := va_S.rf
  have hl := lv_entry ([.ref (ad 0), .int a1]) (n := 2) (Nat.le_of_ble_eq_true rfl)
  rw [lg_entry_eq]
  generalize (lg_sl ([.ref (ad 0), .int a1]) ++ List.replicate (2 - (lg_sl ([.ref (ad 0), .int a1])).length) Slot.unset).toArray = ls at hl ⊢
  have hl : lv_has ls 2 [(0, .ref (ad 0)), (1, .int a1)] := hl
  unfold mf_back at hf
  refine lv_aload_n hx hb dX4_back_0 rfl (lv_at hl 0 rfl) ?_
  refine lv_iload_n hx hb dX4_back_1 rfl (lv_at hl 1 rfl) ?_
  obtain ⟨r_2, hc2, hf⟩ := bn_e hf
  refine m_calli hD hS hAA (va_runV (As := [.int a1]) (rest := []) ⟨hx, hb, hml, hown, hts⟩ (k_mf_isGame l dC dI cI cZ cG ad s.heap.size w a1 r_2 w hc2 rfl) (cwV 1 hts gX4_back_X4_isGame rfl rfl rfl (by decide +kernel) ⟨Nat.le_of_ble_eq_true rfl, Nat.le_of_ble_eq_true rfl⟩) ⟨m_blind, va_recv hK hP (ci := 4) (q0 := 0) rfl rfl, fun U hU hW => m_pre hU hW hK hP hD⟩ rfl rfl hl.1 rfl (lv_room (Nat.le_of_ble_eq_true rfl)) dX4_back_2 ⟨Nat.zero_le _, Nat.zero_le _⟩) (fun H locs hP hD hS => ?_)
  refine lv_if_ne (tgt := 12) hx hb dX4_back_5 (by decide) (fun h5 => ?_) (fun h5 => ?_)
  · have hf := if_f h5 hf
    refine lv_aload_n hx hb dX4_back_12 rfl (lv_at hl 0 rfl) ?_
    refine va_get (D := (dC, dI)) (ci := 4) (v := .ref (ad 9)) (C := RX4) (T := TX4) (N := 21) hx hb hts inX4 hown hK hP 0 rfl rfl 9 (by decide) (hts (.fieldLink RX4 34 "BittenBoardsModel" "notedMany" "[I") (by decide +kernel)) (fun _ h9 => h9) rfl dX4_back_13 ?_
    refine lv_iload_n hx hb dX4_back_16 rfl (lv_at hl 1 rfl) ?_
    obtain ⟨hg17, hf⟩ := gi_e hf
    refine va_iald (f := (w.2 9)) hx hb hK hP 9 0 rfl rfl hg17 dX4_back_17 ?_
    refine lv_if_ne (tgt := 25) hx hb dX4_back_18 (by decide) (fun h18 => ?_) (fun h18 => ?_)
    · have hf := if_f h18 hf
      refine lv_aload_n hx hb dX4_back_25 rfl (lv_at hl 0 rfl) ?_
      refine va_get (D := (dC, dI)) (ci := 4) (v := .ref (ad 9)) (C := RX4) (T := TX4) (N := 21) hx hb hts inX4 hown hK hP 0 rfl rfl 9 (by decide) (hts (.fieldLink RX4 34 "BittenBoardsModel" "notedMany" "[I") (by decide +kernel)) (fun _ h9 => h9) rfl dX4_back_26 ?_
      refine lv_iload_n hx hb dX4_back_29 rfl (lv_at hl 1 rfl) ?_
      refine lv_dup2_11 hx hb dX4_back_30 rfl rfl ?_
      obtain ⟨hg31, hf⟩ := gi_e hf
      refine va_iald (f := (w.2 9)) hx hb hK hP 9 0 rfl rfl hg31 dX4_back_31 ?_
      refine lv_iconst (v := (1 : Int32)) hx hb dX4_back_32 (by decide) ?_
      refine lv_isub hx hb dX4_back_33 ?_
      obtain ⟨hg34, hf⟩ := gi_e hf
      obtain ⟨w_34, ew_34, hf⟩ := nm_x hf
      refine va_iast (f := (w.2 9)) hx hb hK hP hD hS 9 0 rfl rfl hg34 dX4_back_34 (fun H locs hP hD hS => ?_)
      have hP : va_P (dC, dI) vwCl (mc cI cZ ad w_34) H := hP.eqs (by rw [ew_34]; rfl)
      have hD : va_D A (mc cI cZ ad w_34) := hD.eqs (by rw [ew_34]; rfl)
      refine lv_aload_n hx hb dX4_back_35 rfl (lv_at hl 0 rfl) ?_
      refine va_get (D := (dC, dI)) (ci := 4) (v := .ref (ad 3)) (C := RX4) (T := TX4) (N := 21) hx hb hts inX4 hown hK hP 0 rfl rfl 3 (by decide) (hts (.fieldLink RX4 16 "BittenBoardsModel" "states" "[I") (by decide +kernel)) (fun _ h9 => h9) rfl dX4_back_36 ?_
      refine lv_iload_n hx hb dX4_back_39 rfl (lv_at hl 1 rfl) ?_
      refine lv_aload_n hx hb dX4_back_40 rfl (lv_at hl 0 rfl) ?_
      refine va_get (D := (dC, dI)) (ci := 4) (v := .ref (ad 11)) (C := RX4) (T := TX4) (N := 21) hx hb hts inX4 hown hK hP 0 rfl rfl 11 (by decide) (hts (.fieldLink RX4 40 "BittenBoardsModel" "before" "[I") (by decide +kernel)) (fun _ h9 => h9) rfl dX4_back_41 ?_
      refine lv_bipush (v := (100 : Int32)) hx hb dX4_back_44 (by decide) ?_
      refine lv_iload_n hx hb dX4_back_46 rfl (lv_at hl 1 rfl) ?_
      refine lv_imul hx hb dX4_back_47 ?_
      refine lv_aload_n hx hb dX4_back_48 rfl (lv_at hl 0 rfl) ?_
      refine va_get (D := (dC, dI)) (ci := 4) (v := .ref (ad 9)) (C := RX4) (T := TX4) (N := 21) hx hb hts inX4 hown hK hP 0 rfl rfl 9 (by decide) (hts (.fieldLink RX4 34 "BittenBoardsModel" "notedMany" "[I") (by decide +kernel)) (fun _ h9 => h9) rfl dX4_back_49 ?_
      refine lv_iload_n hx hb dX4_back_52 rfl (lv_at hl 1 rfl) ?_
      obtain ⟨hg53, hf⟩ := gi_e hf
      refine va_iald (f := (w_34.2 9)) hx hb hK hP 9 0 rfl rfl hg53 dX4_back_53 ?_
      refine lv_iadd hx hb dX4_back_54 ?_
      obtain ⟨hg55, hf⟩ := gi_e hf
      refine va_iald (f := (w_34.2 11)) hx hb hK hP 11 0 rfl rfl hg55 dX4_back_55 ?_
      obtain ⟨hg56, hf⟩ := gi_e hf
      obtain ⟨w_56, ew_56, hf⟩ := nm_x hf
      refine va_iast (f := (w_34.2 3)) hx hb hK hP hD hS 3 0 rfl rfl hg56 dX4_back_56 (fun H locs hP hD hS => ?_)
      have hP : va_P (dC, dI) vwCl (mc cI cZ ad w_56) H := hP.eqs (by rw [ew_56]; rfl)
      have hD : va_D A (mc cI cZ ad w_56) := hD.eqs (by rw [ew_56]; rfl)
      refine lv_aload_n hx hb dX4_back_57 rfl (lv_at hl 0 rfl) ?_
      refine va_get (D := (dC, dI)) (ci := 4) (v := .ref (ad 9)) (C := RX4) (T := TX4) (N := 21) hx hb hts inX4 hown hK hP 0 rfl rfl 9 (by decide) (hts (.fieldLink RX4 34 "BittenBoardsModel" "notedMany" "[I") (by decide +kernel)) (fun _ h9 => h9) rfl dX4_back_58 ?_
      refine lv_iload_n hx hb dX4_back_61 rfl (lv_at hl 1 rfl) ?_
      obtain ⟨hg62, hf⟩ := gi_e hf
      refine va_iald (f := (w_56.2 9)) hx hb hK hP 9 0 rfl rfl hg62 dX4_back_62 ?_
      exact m_iret hx hb hr hlocks hK hP hD hS (so_2 hf) dX4_back_63
    · have hf := if_t h18 hf
      refine lv_sipush (v := (-1003 : Int32)) hx hb dX4_back_21 (by decide) ?_
      exact m_iret hx hb hr hlocks hK hP hD hS (so_2 hf) dX4_back_24
  · have hf := if_t h5 hf
    refine lv_sipush (v := (-1001 : Int32)) hx hb dX4_back_8 (by decide) ?_
    exact m_iret hx hb hr hlocks hK hP hD hS (so_2 hf) dX4_back_11
set_option maxHeartbeats 4000000 in
set_option maxRecDepth 100000 in
theorem k_mf_noted (l : Launch) (dC : Nat → ClassId) (dI : Nat → Nat → Nat) (cI cZ cG : ClassId) (ad : Nat → Nat) (sz : Nat) (w : mW) (a1 : Int32) (a2 : Int32) (r0 : Int32) (w0 : mW) (hf : mf_noted a1 a2 w = some r0) (hw0 : w = w0) : Met l yX4_noted wsX4_noted ({ frames := 2, cells := 0, slots := 0, locals := 46 } : Room) (va_Pc [.ref (ad 0), .int a1, .int a2] (mPre dC dI cI cZ cG ad sz w)) (va_Qi (fun (r : Int32) (u : mW) => r = r0 ∧ u = w0) (mB dC dI cI cZ cG ad (mA ad sz)) (mA ad sz)) 0 0 (mA ad sz) := by
  refine Met.ofW (cc := cX4_noted) (maxL := 3) (ret := (some .int)) (by decide) rfl ?_
  intro p e s m args below meth c s₁ B hml hv
  obtain ⟨rfl, hsz, hP, hK, hD0⟩ := hv
  have hx := B.exec
  have hb := B.bytes
  have hr := B.returns
  have hts := atoms_spec (ws := wsX4_noted) B.pre
  have hown : s.vm.findClass RX4 = some m.cls := findClass_of_methodNamed B.named
  have hlocks := B.notSynchronized
  have inX4 : ∀ w ∈ u_ws RX4 TX4 21, w ∈ wsX4_noted := by decide +kernel
  subst hsz
  have hD : va_D (mA ad s.heap.size) (mc cI cZ ad w) := mD_self hD0
  have hAA : ∀ z q, s.heap.size ≤ z → mA ad z q → mA ad s.heap.size q := mA_mono
  generalize mA ad s.heap.size = A at hD hAA ⊢
  have hS : va_S A s.heap s.heap [] := va_S.rf
  have hl := lv_entry ([.ref (ad 0), .int a1, .int a2]) (n := 3) (Nat.le_of_ble_eq_true rfl)
  rw [lg_entry_eq]
  generalize (lg_sl ([.ref (ad 0), .int a1, .int a2]) ++ List.replicate (3 - (lg_sl ([.ref (ad 0), .int a1, .int a2])).length) Slot.unset).toArray = ls at hl ⊢
  have hl : lv_has ls 3 [(0, .ref (ad 0)), (1, .int a1), (2, .int a2)] := hl
  unfold mf_noted at hf
  refine lv_aload_n hx hb dX4_noted_0 rfl (lv_at hl 0 rfl) ?_
  refine lv_iload_n hx hb dX4_noted_1 rfl (lv_at hl 1 rfl) ?_
  obtain ⟨r_2, hc2, hf⟩ := bn_e hf
  refine m_calli hD hS hAA (va_runV (As := [.int a1]) (rest := []) ⟨hx, hb, hml, hown, hts⟩ (k_mf_isGame l dC dI cI cZ cG ad s.heap.size w a1 r_2 w hc2 rfl) (cwV 1 hts gX4_noted_X4_isGame rfl rfl rfl (by decide +kernel) ⟨Nat.le_of_ble_eq_true rfl, Nat.le_of_ble_eq_true rfl⟩) ⟨m_blind, va_recv hK hP (ci := 4) (q0 := 0) rfl rfl, fun U hU hW => m_pre hU hW hK hP hD⟩ rfl rfl hl.1 rfl (lv_room (Nat.le_of_ble_eq_true rfl)) dX4_noted_2 ⟨Nat.zero_le _, Nat.zero_le _⟩) (fun H locs hP hD hS => ?_)
  refine lv_if_ne (tgt := 14) hx hb dX4_noted_5 (by decide) (fun h5 => ?_) (fun h5 => ?_)
  · have hf := if_f h5 hf
    refine lv_iload_n hx hb dX4_noted_14 rfl (lv_at hl 2 rfl) ?_
    refine lv_i2l hx hb dX4_noted_15 rfl ?_
    refine lv_lconst (v := (0 : Int64)) hx hb dX4_noted_16 (by decide) ?_
    refine lv_aload_n hx hb dX4_noted_17 rfl (lv_at hl 0 rfl) ?_
    refine va_get (D := (dC, dI)) (ci := 4) (v := .ref (ad 9)) (C := RX4) (T := TX4) (N := 21) hx hb hts inX4 hown hK hP 0 rfl rfl 9 (by decide) (hts (.fieldLink RX4 34 "BittenBoardsModel" "notedMany" "[I") (by decide +kernel)) (fun _ h9 => h9) rfl dX4_noted_18 ?_
    refine lv_iload_n hx hb dX4_noted_21 rfl (lv_at hl 1 rfl) ?_
    obtain ⟨hg22, hf⟩ := gi_e hf
    refine va_iald (f := (w.2 9)) hx hb hK hP 9 0 rfl rfl hg22 dX4_noted_22 ?_
    refine lv_iconst (v := (1 : Int32)) hx hb dX4_noted_23 (by decide) ?_
    refine lv_isub hx hb dX4_noted_24 ?_
    refine lv_i2l hx hb dX4_noted_25 rfl ?_
    obtain ⟨r_26, hc26, hf⟩ := bn_e hf
    refine m_calli hD hS hAA (va_runS (As := [.long (a2.toInt64), .long (0 : Int64), .long ((((w.2 9) a1.toNatClampNeg) - (1 : Int32)).toInt64)]) (rest := []) ⟨hx, hb, hml, hown, hts⟩ (k_mf_in l dC dI cI cZ cG ad H.size w (a2.toInt64) (0 : Int64) ((((w.2 9) a1.toNatClampNeg) - (1 : Int32)).toInt64) r_26 w hc26 rfl) (va_cwS 3 hts gX4_noted_X4_in rfl rfl rfl (by decide +kernel) ⟨Nat.le_of_ble_eq_true rfl, Nat.le_of_ble_eq_true rfl⟩) ⟨m_blind, fun U hU hW => m_pre hU hW hK hP hD⟩ rfl rfl hl.1 rfl (lv_room (Nat.le_of_ble_eq_true rfl)) dX4_noted_26 ⟨Nat.zero_le _, Nat.zero_le _⟩) (fun H locs hP hD hS => ?_)
    refine lv_if_eq (tgt := 46) hx hb dX4_noted_29 (by decide) (fun h29 => ?_) (fun h29 => ?_)
    · have hf := if_t h29 hf
      refine lv_iconst (v := (-1 : Int32)) hx hb dX4_noted_46 (by decide) ?_
      exact m_iret hx hb hr hlocks hK hP hD hS ⟨so_1 hf, hw0⟩ dX4_noted_47
    · have hf := if_f h29 hf
      refine lv_aload_n hx hb dX4_noted_32 rfl (lv_at hl 0 rfl) ?_
      refine va_get (D := (dC, dI)) (ci := 4) (v := .ref (ad 10)) (C := RX4) (T := TX4) (N := 21) hx hb hts inX4 hown hK hP 0 rfl rfl 10 (by decide) (hts (.fieldLink RX4 37 "BittenBoardsModel" "noted" "[I") (by decide +kernel)) (fun _ h9 => h9) rfl dX4_noted_33 ?_
      refine lv_bipush (v := (100 : Int32)) hx hb dX4_noted_36 (by decide) ?_
      refine lv_iload_n hx hb dX4_noted_38 rfl (lv_at hl 1 rfl) ?_
      refine lv_imul hx hb dX4_noted_39 ?_
      refine lv_iload_n hx hb dX4_noted_40 rfl (lv_at hl 2 rfl) ?_
      refine lv_iadd hx hb dX4_noted_41 ?_
      obtain ⟨hg42, hf⟩ := gi_e hf
      refine va_iald (f := (w.2 10)) hx hb hK hP 10 0 rfl rfl hg42 dX4_noted_42 ?_
      refine lv_goto (tgt := 47) hx hb dX4_noted_43 (by decide) ?_
      exact m_iret hx hb hr hlocks hK hP hD hS ⟨so_1 hf, hw0⟩ dX4_noted_47
  · have hf := if_t h5 hf
    refine lv_sipush (v := (-1001 : Int32)) hx hb dX4_noted_8 (by decide) ?_
    refine lv_goto (tgt := 47) hx hb dX4_noted_11 (by decide) ?_
    exact m_iret hx hb hr hlocks hK hP hD hS ⟨so_1 hf, hw0⟩ dX4_noted_47
set_option maxHeartbeats 4000000 in
set_option maxRecDepth 100000 in
theorem k_mf_isSet (l : Launch) (dC : Nat → ClassId) (dI : Nat → Nat → Nat) (cI cZ cG : ClassId) (ad : Nat → Nat) (sz : Nat) (w : mW) (a1 : Int32) (r0 : Int32) (w0 : mW) (hf : mf_isSet a1 w = some r0) (hw0 : w = w0) : Met l yX4_isSet wsX4_isSet ({ frames := 1, cells := 0, slots := 0, locals := 25 } : Room) (va_Pc [.ref (ad 0), .int a1] (mPre dC dI cI cZ cG ad sz w)) (va_Qi (fun (r : Int32) (u : mW) => r = r0 ∧ u = w0) (mB dC dI cI cZ cG ad (mA ad sz)) (mA ad sz)) 0 0 (mA ad sz) := by
  refine Met.ofW (cc := cX4_isSet) (maxL := 2) (ret := (some .boolean)) (by decide) rfl ?_
  intro p e s m args below meth c s₁ B hml hv
  obtain ⟨rfl, hsz, hP, hK, hD0⟩ := hv
  have hx := B.exec
  have hb := B.bytes
  have hr := B.returns
  have hts := atoms_spec (ws := wsX4_isSet) B.pre
  have hown : s.vm.findClass RX4 = some m.cls := findClass_of_methodNamed B.named
  have hlocks := B.notSynchronized
  have inX4 : ∀ w ∈ u_ws RX4 TX4 21, w ∈ wsX4_isSet := by decide +kernel
  subst hsz
  have hD : va_D (mA ad s.heap.size) (mc cI cZ ad w) := mD_self hD0
  have hAA : ∀ z q, s.heap.size ≤ z → mA ad z q → mA ad s.heap.size q := mA_mono
  generalize mA ad s.heap.size = A at hD hAA ⊢
  have hS : va_S A s.heap s.heap [] := va_S.rf
  have hl := lv_entry ([.ref (ad 0), .int a1]) (n := 2) (Nat.le_of_ble_eq_true rfl)
  rw [lg_entry_eq]
  generalize (lg_sl ([.ref (ad 0), .int a1]) ++ List.replicate (2 - (lg_sl ([.ref (ad 0), .int a1])).length) Slot.unset).toArray = ls at hl ⊢
  have hl : lv_has ls 2 [(0, .ref (ad 0)), (1, .int a1)] := hl
  unfold mf_isSet at hf
  refine lv_iload_n hx hb dX4_isSet_0 rfl (lv_at hl 1 rfl) ?_
  refine lv_i2l hx hb dX4_isSet_1 rfl ?_
  refine lv_lconst (v := (1 : Int64)) hx hb dX4_isSet_2 (by decide) ?_
  refine lv_iconst (v := (1 : Int32)) hx hb dX4_isSet_3 (by decide) ?_
  refine lv_aload_n hx hb dX4_isSet_4 rfl (lv_at hl 0 rfl) ?_
  refine va_get (D := (dC, dI)) (ci := 4) (v := .int (w.1 0)) (C := RX4) (T := TX4) (N := 21) hx hb hts inX4 hown hK hP 0 rfl rfl 0 (by decide) (hts (.fieldLink RX4 108 "BittenBoardsModel" "games" "I") (by decide +kernel)) (fun _ h9 => h9) rfl dX4_isSet_5 ?_
  refine lv_ishl hx hb dX4_isSet_8 ?_
  refine lv_iconst (v := (1 : Int32)) hx hb dX4_isSet_9 (by decide) ?_
  refine lv_isub hx hb dX4_isSet_10 ?_
  refine lv_i2l hx hb dX4_isSet_11 rfl ?_
  obtain ⟨r_12, hc12, hf⟩ := bn_e hf
  refine m_calli hD hS hAA (va_runS (As := [.long (a1.toInt64), .long (1 : Int64), .long ((((1 : Int32) <<< ((w.1 0) &&& 31)) - (1 : Int32)).toInt64)]) (rest := []) ⟨hx, hb, hml, hown, hts⟩ (k_mf_in l dC dI cI cZ cG ad s.heap.size w (a1.toInt64) (1 : Int64) ((((1 : Int32) <<< ((w.1 0) &&& 31)) - (1 : Int32)).toInt64) r_12 w hc12 rfl) (va_cwS 3 hts gX4_isSet_X4_in rfl rfl rfl (by decide +kernel) ⟨Nat.le_of_ble_eq_true rfl, Nat.le_of_ble_eq_true rfl⟩) ⟨m_blind, fun U hU hW => m_pre hU hW hK hP hD⟩ rfl rfl hl.1 rfl (lv_room (Nat.le_of_ble_eq_true rfl)) dX4_isSet_12 ⟨Nat.zero_le _, Nat.zero_le _⟩) (fun H locs hP hD hS => ?_)
  obtain ⟨hg15, hf⟩ := gd_e hf
  exact m_zret hx hb hr hlocks hg15 hK hP hD hS ⟨so_1 hf, hw0⟩ dX4_isSet_15
set_option maxHeartbeats 4000000 in
set_option maxRecDepth 100000 in
theorem k_mf_sumOf (l : Launch) (dC : Nat → ClassId) (dI : Nat → Nat → Nat) (cI cZ cG : ClassId) (ad : Nat → Nat) (sz : Nat) (w : mW) (a1 : Int32) (r0 : Int32) (w0 : mW) (hf : mf_sumOf a1 w = some (r0, w0)) : Met l yX4_sumOf wsX4_sumOf ({ frames := 7, cells := 0, slots := 0, locals := 165 } : Room) (va_Pc [.ref (ad 0), .int a1] (mPre dC dI cI cZ cG ad sz w)) (va_Qi (fun (r : Int32) (u : mW) => r = r0 ∧ u = w0) (mB dC dI cI cZ cG ad (mA ad sz)) (mA ad sz)) 0 0 (mA ad sz) := by
  refine Met.ofW (cc := cX4_sumOf) (maxL := 4) (ret := (some .int)) (by decide) rfl ?_
  intro p e s m args below meth c s₁ B hml hv
  obtain ⟨rfl, hsz, hP, hK, hD0⟩ := hv
  have hx := B.exec
  have hb := B.bytes
  have hr := B.returns
  have hts := atoms_spec (ws := wsX4_sumOf) B.pre
  have hown : s.vm.findClass RX4 = some m.cls := findClass_of_methodNamed B.named
  have hlocks := B.notSynchronized
  have inX4 : ∀ w ∈ u_ws RX4 TX4 21, w ∈ wsX4_sumOf := by decide +kernel
  subst hsz
  have hD : va_D (mA ad s.heap.size) (mc cI cZ ad w) := mD_self hD0
  have hAA : ∀ z q, s.heap.size ≤ z → mA ad z q → mA ad s.heap.size q := mA_mono
  generalize mA ad s.heap.size = A at hD hAA ⊢
  have hS : va_S A s.heap s.heap [] := va_S.rf
  have C4 : ∀ (n4 : Nat) (x1 : Int32) (x2 : Int32) (x3 : Int32) (w : mW), mf_sumOf_C4 n4 x1 x2 x3 w = some (r0, w0) → ∀ (H : Heap) (locs : List Loc) (ls : Array Slot), va_P (dC, dI) vwCl (mc cI cZ ad w) H → va_D A (mc cI cZ ad w) → va_S A s.heap H locs → lv_has ls 4 [(0, .ref (ad 0)), (1, .int x1), (2, .int x2), (3, .int x3)] → W p l e (headSpec wsX4_sumOf ({ frames := 7, cells := 0, slots := 0, locals := 165 } : Room)).room s m (List.toArray [Value.ref (ad 0), Value.int a1]) below meth c H locs 0 0 (MQ below (va_Qi (fun (r : Int32) (u : mW) => r = r0 ∧ u = w0) (mB dC dI cI cZ cG ad A) A) (List.toArray [Value.ref (ad 0), Value.int a1]) s 0 0 A) (F0 m 4 ls []) := by
    intro n4
    induction n4 with
    | zero => intro x1 x2 x3 w hf; cases hf
    | succ n4 ih4 =>
      intro x1 x2 x3 w hf H locs ls hP hD hS hl
      rw [mf_sumOf_C4] at hf
      refine lv_iload_n hx hb dX4_sumOf_4 rfl (lv_at hl 3 rfl) ?_
      refine lv_aload_n hx hb dX4_sumOf_5 rfl (lv_at hl 0 rfl) ?_
      refine va_get (D := (dC, dI)) (ci := 4) (v := .int (w.1 0)) (C := RX4) (T := TX4) (N := 21) hx hb hts inX4 hown hK hP 0 rfl rfl 0 (by decide) (hts (.fieldLink RX4 108 "BittenBoardsModel" "games" "I") (by decide +kernel)) (fun _ h9 => h9) rfl dX4_sumOf_6 ?_
      refine lv_icmp_ge (tgt := 39) hx hb dX4_sumOf_9 (by decide) (fun h9 => ?_) (fun h9 => ?_)
      · have hf := if_t h9 hf
        refine lv_iload_n hx hb dX4_sumOf_39 rfl (lv_at hl 2 rfl) ?_
        exact m_iret hx hb hr hlocks hK hP hD hS (so_2 hf) dX4_sumOf_40
      · have hf := if_f h9 hf
        refine lv_iload_n hx hb dX4_sumOf_12 rfl (lv_at hl 2 rfl) ?_
        refine lv_iload_n hx hb dX4_sumOf_13 rfl (lv_at hl 1 rfl) ?_
        refine lv_iload_n hx hb dX4_sumOf_14 rfl (lv_at hl 3 rfl) ?_
        refine lv_ishr hx hb dX4_sumOf_15 ?_
        refine lv_iconst (v := (1 : Int32)) hx hb dX4_sumOf_16 (by decide) ?_
        refine lv_iand hx hb dX4_sumOf_17 ?_
        refine lv_iconst (v := (1 : Int32)) hx hb dX4_sumOf_18 (by decide) ?_
        refine lv_icmp_ne (tgt := 30) hx hb dX4_sumOf_19 (by decide) (fun h19 => ?_) (fun h19 => ?_)
        · have hf := if_f h19 hf
          refine lv_iconst (v := (0 : Int32)) hx hb dX4_sumOf_30 (by decide) ?_
          refine lv_ixor hx hb dX4_sumOf_31 ?_
          obtain ⟨x2_32, ex2_32, hf⟩ := nm_x hf
          refine W.eq (g2 := F0 m 32 ls [.int x2_32]) (by rw [ex2_32]) ?_
          refine lv_istore_n (lv' := [(2, .int x2_32), (0, .ref (ad 0)), (1, .int x1), (3, .int x3)]) hx hb dX4_sumOf_32 rfl hl (by decide) rfl (fun ls hl => ?_)
          obtain ⟨x3_33, ex3_33, hf⟩ := nm_x hf
          refine lv_iinc (v := x3_33) (lv' := [(3, .int x3_33), (2, .int x2_32), (0, .ref (ad 0)), (1, .int x1)]) hx hb dX4_sumOf_33 hl (k := 3) rfl (by rw [ex3_33]; rfl) (by decide) rfl (fun ls hl => ?_)
          refine lv_goto (tgt := 4) hx hb dX4_sumOf_36 (by decide) ?_
          exact ih4 x1 x2_32 x3_33 w hf _ _ _ hP hD hS (lv_sub hl [2, 3, 1, 0] rfl)
        · have hf := if_t h19 hf
          refine lv_aload_n hx hb dX4_sumOf_22 rfl (lv_at hl 0 rfl) ?_
          refine lv_iload_n hx hb dX4_sumOf_23 rfl (lv_at hl 3 rfl) ?_
          obtain ⟨r_24, w_24, hc24, hf⟩ := bn2_e hf
          refine m_calli hD hS hAA (va_runV (As := [.int x3]) (rest := [.int x2]) ⟨hx, hb, hml, hown, hts⟩ (k_mf_worthOf l dC dI cI cZ cG ad H.size w x3 r_24 w_24 hc24) (cwV 1 hts gX4_sumOf_X4_worthOf rfl rfl rfl (by decide +kernel) ⟨Nat.le_of_ble_eq_true rfl, Nat.le_of_ble_eq_true rfl⟩) ⟨m_blind, va_recv hK hP (ci := 4) (q0 := 0) rfl rfl, fun U hU hW => m_pre hU hW hK hP hD⟩ rfl rfl hl.1 rfl (lv_room (Nat.le_of_ble_eq_true rfl)) dX4_sumOf_24 ⟨Nat.zero_le _, Nat.zero_le _⟩) (fun H locs hP hD hS => ?_)
          refine lv_goto (tgt := 31) hx hb dX4_sumOf_27 (by decide) ?_
          refine lv_ixor hx hb dX4_sumOf_31 ?_
          obtain ⟨x2_32, ex2_32, hf⟩ := nm_x hf
          refine W.eq (g2 := F0 m 32 ls [.int x2_32]) (by rw [ex2_32]) ?_
          refine lv_istore_n (lv' := [(2, .int x2_32), (0, .ref (ad 0)), (1, .int x1), (3, .int x3)]) hx hb dX4_sumOf_32 rfl hl (by decide) rfl (fun ls hl => ?_)
          obtain ⟨x3_33, ex3_33, hf⟩ := nm_x hf
          refine lv_iinc (v := x3_33) (lv' := [(3, .int x3_33), (2, .int x2_32), (0, .ref (ad 0)), (1, .int x1)]) hx hb dX4_sumOf_33 hl (k := 3) rfl (by rw [ex3_33]; rfl) (by decide) rfl (fun ls hl => ?_)
          refine lv_goto (tgt := 4) hx hb dX4_sumOf_36 (by decide) ?_
          exact ih4 x1 x2_32 x3_33 w_24 hf _ _ _ hP hD hS (lv_sub hl [2, 3, 1, 0] rfl)
  have hl := lv_entry ([.ref (ad 0), .int a1]) (n := 4) (Nat.le_of_ble_eq_true rfl)
  rw [lg_entry_eq]
  generalize (lg_sl ([.ref (ad 0), .int a1]) ++ List.replicate (4 - (lg_sl ([.ref (ad 0), .int a1])).length) Slot.unset).toArray = ls at hl ⊢
  have hl : lv_has ls 4 [(0, .ref (ad 0)), (1, .int a1)] := hl
  unfold mf_sumOf at hf
  refine lv_iconst (v := (0 : Int32)) hx hb dX4_sumOf_0 (by decide) ?_
  refine lv_istore_n (lv' := [(2, .int (0 : Int32)), (0, .ref (ad 0)), (1, .int a1)]) hx hb dX4_sumOf_1 rfl hl (by decide) rfl (fun ls hl => ?_)
  refine lv_iconst (v := (0 : Int32)) hx hb dX4_sumOf_2 (by decide) ?_
  refine lv_istore_n (lv' := [(3, .int (0 : Int32)), (2, .int (0 : Int32)), (0, .ref (ad 0)), (1, .int a1)]) hx hb dX4_sumOf_3 rfl hl (by decide) rfl (fun ls hl => ?_)
  exact C4 fu a1 (0 : Int32) (0 : Int32) w hf _ _ _ hP hD hS (lv_sub hl [2, 3, 1, 0] rfl)
set_option maxHeartbeats 4000000 in
set_option maxRecDepth 100000 in
theorem k_mf_sum (l : Launch) (dC : Nat → ClassId) (dI : Nat → Nat → Nat) (cI cZ cG : ClassId) (ad : Nat → Nat) (sz : Nat) (w : mW) (a1 : Int32) (r0 : Int32) (w0 : mW) (hf : mf_sum a1 w = some (r0, w0)) : Met l yX4_sum wsX4_sum ({ frames := 8, cells := 0, slots := 0, locals := 188 } : Room) (va_Pc [.ref (ad 0), .int a1] (mPre dC dI cI cZ cG ad sz w)) (va_Qi (fun (r : Int32) (u : mW) => r = r0 ∧ u = w0) (mB dC dI cI cZ cG ad (mA ad sz)) (mA ad sz)) 0 0 (mA ad sz) := by
  refine Met.ofW (cc := cX4_sum) (maxL := 2) (ret := (some .int)) (by decide) rfl ?_
  intro p e s m args below meth c s₁ B hml hv
  obtain ⟨rfl, hsz, hP, hK, hD0⟩ := hv
  have hx := B.exec
  have hb := B.bytes
  have hr := B.returns
  have hts := atoms_spec (ws := wsX4_sum) B.pre
  have hown : s.vm.findClass RX4 = some m.cls := findClass_of_methodNamed B.named
  have hlocks := B.notSynchronized
  subst hsz
  have hD : va_D (mA ad s.heap.size) (mc cI cZ ad w) := mD_self hD0
  have hAA : ∀ z q, s.heap.size ≤ z → mA ad z q → mA ad s.heap.size q := mA_mono
  generalize mA ad s.heap.size = A at hD hAA ⊢
  have hS : va_S A s.heap s.heap [] := va_S.rf
  have hl := lv_entry ([.ref (ad 0), .int a1]) (n := 2) (Nat.le_of_ble_eq_true rfl)
  rw [lg_entry_eq]
  generalize (lg_sl ([.ref (ad 0), .int a1]) ++ List.replicate (2 - (lg_sl ([.ref (ad 0), .int a1])).length) Slot.unset).toArray = ls at hl ⊢
  have hl : lv_has ls 2 [(0, .ref (ad 0)), (1, .int a1)] := hl
  unfold mf_sum at hf
  refine lv_aload_n hx hb dX4_sum_0 rfl (lv_at hl 0 rfl) ?_
  refine lv_iload_n hx hb dX4_sum_1 rfl (lv_at hl 1 rfl) ?_
  obtain ⟨r_2, hc2, hf⟩ := bn_e hf
  refine m_calli hD hS hAA (va_runV (As := [.int a1]) (rest := []) ⟨hx, hb, hml, hown, hts⟩ (k_mf_isSet l dC dI cI cZ cG ad s.heap.size w a1 r_2 w hc2 rfl) (cwV 1 hts gX4_sum_X4_isSet rfl rfl rfl (by decide +kernel) ⟨Nat.le_of_ble_eq_true rfl, Nat.le_of_ble_eq_true rfl⟩) ⟨m_blind, va_recv hK hP (ci := 4) (q0 := 0) rfl rfl, fun U hU hW => m_pre hU hW hK hP hD⟩ rfl rfl hl.1 rfl (lv_room (Nat.le_of_ble_eq_true rfl)) dX4_sum_2 ⟨Nat.zero_le _, Nat.zero_le _⟩) (fun H locs hP hD hS => ?_)
  refine lv_if_eq (tgt := 16) hx hb dX4_sum_5 (by decide) (fun h5 => ?_) (fun h5 => ?_)
  · have hf := if_t h5 hf
    refine lv_sipush (v := (-1002 : Int32)) hx hb dX4_sum_16 (by decide) ?_
    exact m_iret hx hb hr hlocks hK hP hD hS (so_2 hf) dX4_sum_19
  · have hf := if_f h5 hf
    refine lv_aload_n hx hb dX4_sum_8 rfl (lv_at hl 0 rfl) ?_
    refine lv_iload_n hx hb dX4_sum_9 rfl (lv_at hl 1 rfl) ?_
    obtain ⟨r_10, w_10, hc10, hf⟩ := bn2_e hf
    refine m_calli hD hS hAA (va_runV (As := [.int a1]) (rest := []) ⟨hx, hb, hml, hown, hts⟩ (k_mf_sumOf l dC dI cI cZ cG ad H.size w a1 r_10 w_10 hc10) (cwV 1 hts gX4_sum_X4_sumOf rfl rfl rfl (by decide +kernel) ⟨Nat.le_of_ble_eq_true rfl, Nat.le_of_ble_eq_true rfl⟩) ⟨m_blind, va_recv hK hP (ci := 4) (q0 := 0) rfl rfl, fun U hU hW => m_pre hU hW hK hP hD⟩ rfl rfl hl.1 rfl (lv_room (Nat.le_of_ble_eq_true rfl)) dX4_sum_10 ⟨Nat.zero_le _, Nat.zero_le _⟩) (fun H locs hP hD hS => ?_)
    refine lv_goto (tgt := 19) hx hb dX4_sum_13 (by decide) ?_
    exact m_iret hx hb hr hlocks hK hP hD hS (so_2 hf) dX4_sum_19
set_option maxHeartbeats 4000000 in
set_option maxRecDepth 100000 in
theorem k_mf_inSum (l : Launch) (dC : Nat → ClassId) (dI : Nat → Nat → Nat) (cI cZ cG : ClassId) (ad : Nat → Nat) (sz : Nat) (w : mW) (a1 : Int32) (a2 : Int32) (r0 : Int32) (w0 : mW) (hf : mf_inSum a1 a2 w = some (r0, w0)) : Met l yX4_inSum wsX4_inSum ({ frames := 8, cells := 0, slots := 0, locals := 188 } : Room) (va_Pc [.ref (ad 0), .int a1, .int a2] (mPre dC dI cI cZ cG ad sz w)) (va_Qi (fun (r : Int32) (u : mW) => r = r0 ∧ u = w0) (mB dC dI cI cZ cG ad (mA ad sz)) (mA ad sz)) 0 0 (mA ad sz) := by
  refine Met.ofW (cc := cX4_inSum) (maxL := 8) (ret := (some .int)) (by decide) rfl ?_
  intro p e s m args below meth c s₁ B hml hv
  obtain ⟨rfl, hsz, hP, hK, hD0⟩ := hv
  have hx := B.exec
  have hb := B.bytes
  have hr := B.returns
  have hts := atoms_spec (ws := wsX4_inSum) B.pre
  have hown : s.vm.findClass RX4 = some m.cls := findClass_of_methodNamed B.named
  have hlocks := B.notSynchronized
  have inX4 : ∀ w ∈ u_ws RX4 TX4 21, w ∈ wsX4_inSum := by decide +kernel
  subst hsz
  have hD : va_D (mA ad s.heap.size) (mc cI cZ ad w) := mD_self hD0
  have hAA : ∀ z q, s.heap.size ≤ z → mA ad z q → mA ad s.heap.size q := mA_mono
  generalize mA ad s.heap.size = A at hD hAA ⊢
  have hS : va_S A s.heap s.heap [] := va_S.rf
  have C31 : ∀ (n31 : Nat) (x1 : Int32) (x2 : Int32) (x3 : Int32) (x4 : Int32) (w : mW), mf_inSum_C31 n31 x1 x2 x3 x4 w = some (r0, w0) → ∀ (H : Heap) (locs : List Loc) (ls : Array Slot), va_P (dC, dI) vwCl (mc cI cZ ad w) H → va_D A (mc cI cZ ad w) → va_S A s.heap H locs → lv_has ls 8 [(0, .ref (ad 0)), (1, .int x1), (2, .int x2), (3, .int x3), (4, .int x4)] → W p l e (headSpec wsX4_inSum ({ frames := 8, cells := 0, slots := 0, locals := 188 } : Room)).room s m (List.toArray [Value.ref (ad 0), Value.int a1, Value.int a2]) below meth c H locs 0 0 (MQ below (va_Qi (fun (r : Int32) (u : mW) => r = r0 ∧ u = w0) (mB dC dI cI cZ cG ad A) A) (List.toArray [Value.ref (ad 0), Value.int a1, Value.int a2]) s 0 0 A) (F0 m 31 ls []) := by
    intro n31
    induction n31 with
    | zero => intro x1 x2 x3 x4 w hf; cases hf
    | succ n31 ih31 =>
      have C71 : ∀ (n71 : Nat) (x1 : Int32) (x2 : Int32) (x3 : Int32) (x4 : Int32) (x5 : Int32) (x6 : Int32) (x7 : Int32) (w : mW), mf_inSum_C71 (mf_inSum_C31 n31) n71 x1 x2 x3 x4 x5 x6 x7 w = some (r0, w0) → ∀ (H : Heap) (locs : List Loc) (ls : Array Slot), va_P (dC, dI) vwCl (mc cI cZ ad w) H → va_D A (mc cI cZ ad w) → va_S A s.heap H locs → lv_has ls 8 [(0, .ref (ad 0)), (1, .int x1), (2, .int x2), (3, .int x3), (4, .int x4), (5, .int x5), (6, .int x6), (7, .int x7)] → W p l e (headSpec wsX4_inSum ({ frames := 8, cells := 0, slots := 0, locals := 188 } : Room)).room s m (List.toArray [Value.ref (ad 0), Value.int a1, Value.int a2]) below meth c H locs 0 0 (MQ below (va_Qi (fun (r : Int32) (u : mW) => r = r0 ∧ u = w0) (mB dC dI cI cZ cG ad A) A) (List.toArray [Value.ref (ad 0), Value.int a1, Value.int a2]) s 0 0 A) (F0 m 71 ls []) := by
        intro n71
        induction n71 with
        | zero => intro x1 x2 x3 x4 x5 x6 x7 w hf; cases hf
        | succ n71 ih71 =>
          intro x1 x2 x3 x4 x5 x6 x7 w hf H locs ls hP hD hS hl
          rw [mf_inSum_C71] at hf
          refine lv_iload hx hb dX4_inSum_71 (lv_at hl 7 rfl) ?_
          refine lv_iload hx hb dX4_inSum_73 (lv_at hl 6 rfl) ?_
          refine lv_icmp_ge (tgt := 113) hx hb dX4_inSum_75 (by decide) (fun h75 => ?_) (fun h75 => ?_)
          · have hf := if_t h75 hf
            obtain ⟨x4_113, ex4_113, hf⟩ := nm_x hf
            refine lv_iinc (v := x4_113) (lv' := [(4, .int x4_113), (0, .ref (ad 0)), (1, .int x1), (2, .int x2), (3, .int x3), (5, .int x5), (6, .int x6), (7, .int x7)]) hx hb dX4_inSum_113 hl (k := 4) rfl (by rw [ex4_113]; rfl) (by decide) rfl (fun ls hl => ?_)
            refine lv_goto (tgt := 31) hx hb dX4_inSum_116 (by decide) ?_
            exact ih31 x1 x2 x3 x4_113 w hf _ _ _ hP hD hS (lv_sub hl [1, 2, 3, 4, 0] rfl)
          · have hf := if_f h75 hf
            refine lv_aload_n hx hb dX4_inSum_78 rfl (lv_at hl 0 rfl) ?_
            refine va_get (D := (dC, dI)) (ci := 4) (v := .ref (ad 14)) (C := RX4) (T := TX4) (N := 21) hx hb hts inX4 hown hK hP 0 rfl rfl 15 (by decide) (hts (.fieldLink RX4 55 "BittenBoardsModel" "worths" "[I") (by decide +kernel)) (fun _ h9 => h9) rfl dX4_inSum_79 ?_
            refine lv_aload_n hx hb dX4_inSum_82 rfl (lv_at hl 0 rfl) ?_
            refine va_get (D := (dC, dI)) (ci := 4) (v := .ref (ad 16)) (C := RX4) (T := TX4) (N := 21) hx hb hts inX4 hown hK hP 0 rfl rfl 17 (by decide) (hts (.fieldLink RX4 61 "BittenBoardsModel" "next" "[I") (by decide +kernel)) (fun _ h9 => h9) rfl dX4_inSum_83 ?_
            refine lv_iload hx hb dX4_inSum_86 (lv_at hl 7 rfl) ?_
            obtain ⟨hg88, hf⟩ := gi_e hf
            refine va_iald (f := (w.2 16)) hx hb hK hP 16 0 rfl rfl hg88 dX4_inSum_88 ?_
            obtain ⟨hg89, hf⟩ := gi_e hf
            refine va_iald (f := (w.2 14)) hx hb hK hP 14 0 rfl rfl hg89 dX4_inSum_89 ?_
            refine lv_iload hx hb dX4_inSum_90 (lv_at hl 5 rfl) ?_
            refine lv_icmp_ne (tgt := 107) hx hb dX4_inSum_92 (by decide) (fun h92 => ?_) (fun h92 => ?_)
            · have hf := if_f h92 hf
              obtain ⟨x7_107, ex7_107, hf⟩ := nm_x hf
              refine lv_iinc (v := x7_107) (lv' := [(7, .int x7_107), (0, .ref (ad 0)), (1, .int x1), (2, .int x2), (3, .int x3), (4, .int x4), (5, .int x5), (6, .int x6)]) hx hb dX4_inSum_107 hl (k := 7) rfl (by rw [ex7_107]; rfl) (by decide) rfl (fun ls hl => ?_)
              refine lv_goto (tgt := 71) hx hb dX4_inSum_110 (by decide) ?_
              exact ih71 x1 x2 x3 x4 x5 x6 x7_107 w hf _ _ _ hP hD hS (lv_sub hl [1, 2, 3, 4, 5, 6, 7, 0] rfl)
            · have hf := if_t h92 hf
              refine lv_iload_n hx hb dX4_inSum_95 rfl (lv_at hl 2 rfl) ?_
              refine lv_if_ne (tgt := 104) hx hb dX4_inSum_96 (by decide) (fun h96 => ?_) (fun h96 => ?_)
              · have hf := if_f h96 hf
                refine lv_iload hx hb dX4_inSum_104 (lv_at hl 7 rfl) ?_
                exact m_iret hx hb hr hlocks hK hP hD hS (so_2 hf) dX4_inSum_106
              · have hf := if_t h96 hf
                refine lv_iload hx hb dX4_inSum_99 (lv_at hl 4 rfl) ?_
                refine lv_goto (tgt := 106) hx hb dX4_inSum_101 (by decide) ?_
                exact m_iret hx hb hr hlocks hK hP hD hS (so_2 hf) dX4_inSum_106
      intro x1 x2 x3 x4 w hf H locs ls hP hD hS hl
      rw [mf_inSum_C31] at hf
      refine lv_iload hx hb dX4_inSum_31 (lv_at hl 4 rfl) ?_
      refine lv_aload_n hx hb dX4_inSum_33 rfl (lv_at hl 0 rfl) ?_
      refine va_get (D := (dC, dI)) (ci := 4) (v := .int (w.1 0)) (C := RX4) (T := TX4) (N := 21) hx hb hts inX4 hown hK hP 0 rfl rfl 0 (by decide) (hts (.fieldLink RX4 108 "BittenBoardsModel" "games" "I") (by decide +kernel)) (fun _ h9 => h9) rfl dX4_inSum_34 ?_
      refine lv_icmp_ge (tgt := 119) hx hb dX4_inSum_37 (by decide) (fun h37 => ?_) (fun h37 => ?_)
      · have hf := if_t h37 hf
        refine lv_iconst (v := (-1 : Int32)) hx hb dX4_inSum_119 (by decide) ?_
        exact m_iret hx hb hr hlocks hK hP hD hS (so_2 hf) dX4_inSum_120
      · have hf := if_f h37 hf
        refine lv_iload_n hx hb dX4_inSum_40 rfl (lv_at hl 1 rfl) ?_
        refine lv_iload hx hb dX4_inSum_41 (lv_at hl 4 rfl) ?_
        refine lv_ishr hx hb dX4_inSum_43 ?_
        refine lv_iconst (v := (1 : Int32)) hx hb dX4_inSum_44 (by decide) ?_
        refine lv_iand hx hb dX4_inSum_45 ?_
        refine lv_iconst (v := (1 : Int32)) hx hb dX4_inSum_46 (by decide) ?_
        refine lv_icmp_ne (tgt := 113) hx hb dX4_inSum_47 (by decide) (fun h47 => ?_) (fun h47 => ?_)
        · have hf := if_f h47 hf
          obtain ⟨x4_113, ex4_113, hf⟩ := nm_x hf
          refine lv_iinc (v := x4_113) (lv' := [(4, .int x4_113), (0, .ref (ad 0)), (1, .int x1), (2, .int x2), (3, .int x3)]) hx hb dX4_inSum_113 hl (k := 4) rfl (by rw [ex4_113]; rfl) (by decide) rfl (fun ls hl => ?_)
          refine lv_goto (tgt := 31) hx hb dX4_inSum_116 (by decide) ?_
          exact ih31 x1 x2 x3 x4_113 w hf _ _ _ hP hD hS (lv_sub hl [1, 2, 3, 4, 0] rfl)
        · have hf := if_t h47 hf
          refine lv_iload_n hx hb dX4_inSum_50 rfl (lv_at hl 3 rfl) ?_
          refine lv_aload_n hx hb dX4_inSum_51 rfl (lv_at hl 0 rfl) ?_
          refine lv_iload hx hb dX4_inSum_52 (lv_at hl 4 rfl) ?_
          obtain ⟨r_54, w_54, hc54, hf⟩ := bn2_e hf
          refine m_calli hD hS hAA (va_runV (As := [.int x4]) (rest := [.int x3]) ⟨hx, hb, hml, hown, hts⟩ (k_mf_worthOf l dC dI cI cZ cG ad H.size w x4 r_54 w_54 hc54) (cwV 1 hts gX4_inSum_X4_worthOf rfl rfl rfl (by decide +kernel) ⟨Nat.le_of_ble_eq_true rfl, Nat.le_of_ble_eq_true rfl⟩) ⟨m_blind, va_recv hK hP (ci := 4) (q0 := 0) rfl rfl, fun U hU hW => m_pre hU hW hK hP hD⟩ rfl rfl hl.1 rfl (lv_room (Nat.le_of_ble_eq_true rfl)) dX4_inSum_54 ⟨Nat.zero_le _, Nat.zero_le _⟩) (fun H locs hP hD hS => ?_)
          refine lv_ixor hx hb dX4_inSum_57 ?_
          obtain ⟨x5_58, ex5_58, hf⟩ := nm_x hf
          refine W.eq (g2 := F0 m 58 ls [.int x5_58]) (by rw [ex5_58]) ?_
          refine lv_istore (lv' := [(5, .int x5_58), (0, .ref (ad 0)), (1, .int x1), (2, .int x2), (3, .int x3), (4, .int x4)]) hx hb dX4_inSum_58 hl (by decide) rfl (fun ls hl => ?_)
          refine lv_aload_n hx hb dX4_inSum_60 rfl (lv_at hl 1 rfl) ?_
          refine lv_iload hx hb dX4_inSum_61 (lv_at hl 5 rfl) ?_
          obtain ⟨r_63, w_63, hc63, hf⟩ := bn2_e hf
          refine m_calli hD hS hAA (va_runV (As := [.int x4]) (rest := []) ⟨hx, hb, hml, hown, hts⟩ (k_mf_bitesOf l dC dI cI cZ cG ad H.size w_54 x4 r_63 w_63 hc63) (cwV 1 hts gX4_inSum_X4_bitesOf rfl rfl rfl (by decide +kernel) ⟨Nat.le_of_ble_eq_true rfl, Nat.le_of_ble_eq_true rfl⟩) ⟨m_blind, va_recv hK hP (ci := 4) (q0 := 0) rfl rfl, fun U hU hW => m_pre hU hW hK hP hD⟩ rfl rfl hl.1 rfl (lv_room (Nat.le_of_ble_eq_true rfl)) dX4_inSum_63 ⟨Nat.zero_le _, Nat.zero_le _⟩) (fun H locs hP hD hS => ?_)
          refine lv_istore (lv' := [(6, .int r_63), (5, .int x5_58), (0, .ref (ad 0)), (1, .int x1), (2, .int x2), (3, .int x3), (4, .int x4)]) hx hb dX4_inSum_66 hl (by decide) rfl (fun ls hl => ?_)
          refine lv_iconst (v := (0 : Int32)) hx hb dX4_inSum_68 (by decide) ?_
          refine lv_istore (lv' := [(7, .int (0 : Int32)), (6, .int r_63), (5, .int x5_58), (0, .ref (ad 0)), (1, .int x1), (2, .int x2), (3, .int x3), (4, .int x4)]) hx hb dX4_inSum_69 hl (by decide) rfl (fun ls hl => ?_)
          exact C71 fu x1 x2 x3 x4 x5_58 r_63 (0 : Int32) w_63 hf _ _ _ hP hD hS (lv_sub hl [3, 4, 5, 6, 7, 2, 1, 0] rfl)
  have hl := lv_entry ([.ref (ad 0), .int a1, .int a2]) (n := 8) (Nat.le_of_ble_eq_true rfl)
  rw [lg_entry_eq]
  generalize (lg_sl ([.ref (ad 0), .int a1, .int a2]) ++ List.replicate (8 - (lg_sl ([.ref (ad 0), .int a1, .int a2])).length) Slot.unset).toArray = ls at hl ⊢
  have hl : lv_has ls 8 [(0, .ref (ad 0)), (1, .int a1), (2, .int a2)] := hl
  unfold mf_inSum at hf
  refine lv_aload_n hx hb dX4_inSum_0 rfl (lv_at hl 0 rfl) ?_
  refine lv_iload_n hx hb dX4_inSum_1 rfl (lv_at hl 1 rfl) ?_
  obtain ⟨r_2, hc2, hf⟩ := bn_e hf
  refine m_calli hD hS hAA (va_runV (As := [.int a1]) (rest := []) ⟨hx, hb, hml, hown, hts⟩ (k_mf_isSet l dC dI cI cZ cG ad s.heap.size w a1 r_2 w hc2 rfl) (cwV 1 hts gX4_inSum_X4_isSet rfl rfl rfl (by decide +kernel) ⟨Nat.le_of_ble_eq_true rfl, Nat.le_of_ble_eq_true rfl⟩) ⟨m_blind, va_recv hK hP (ci := 4) (q0 := 0) rfl rfl, fun U hU hW => m_pre hU hW hK hP hD⟩ rfl rfl hl.1 rfl (lv_room (Nat.le_of_ble_eq_true rfl)) dX4_inSum_2 ⟨Nat.zero_le _, Nat.zero_le _⟩) (fun H locs hP hD hS => ?_)
  refine lv_if_eq (tgt := 18) hx hb dX4_inSum_5 (by decide) (fun h5 => ?_) (fun h5 => ?_)
  · have hf := if_t h5 hf
    refine lv_sipush (v := (-1002 : Int32)) hx hb dX4_inSum_18 (by decide) ?_
    exact m_iret hx hb hr hlocks hK hP hD hS (so_2 hf) dX4_inSum_21
  · have hf := if_f h5 hf
    refine lv_iload_n hx hb dX4_inSum_8 rfl (lv_at hl 2 rfl) ?_
    refine lv_i2l hx hb dX4_inSum_9 rfl ?_
    refine lv_lconst (v := (0 : Int64)) hx hb dX4_inSum_10 (by decide) ?_
    refine lv_lconst (v := (1 : Int64)) hx hb dX4_inSum_11 (by decide) ?_
    obtain ⟨r_12, hc12, hf⟩ := bn_e hf
    refine m_calli hD hS hAA (va_runS (As := [.long (a2.toInt64), .long (0 : Int64), .long (1 : Int64)]) (rest := []) ⟨hx, hb, hml, hown, hts⟩ (k_mf_in l dC dI cI cZ cG ad H.size w (a2.toInt64) (0 : Int64) (1 : Int64) r_12 w hc12 rfl) (va_cwS 3 hts gX4_inSum_X4_in rfl rfl rfl (by decide +kernel) ⟨Nat.le_of_ble_eq_true rfl, Nat.le_of_ble_eq_true rfl⟩) ⟨m_blind, fun U hU hW => m_pre hU hW hK hP hD⟩ rfl rfl hl.1 rfl (lv_room (Nat.le_of_ble_eq_true rfl)) dX4_inSum_12 ⟨Nat.zero_le _, Nat.zero_le _⟩) (fun H locs hP hD hS => ?_)
    refine lv_if_ne (tgt := 22) hx hb dX4_inSum_15 (by decide) (fun h15 => ?_) (fun h15 => ?_)
    · have hf := if_f h15 hf
      refine lv_aload_n hx hb dX4_inSum_22 rfl (lv_at hl 0 rfl) ?_
      refine lv_iload_n hx hb dX4_inSum_23 rfl (lv_at hl 1 rfl) ?_
      obtain ⟨r_24, w_24, hc24, hf⟩ := bn2_e hf
      refine m_calli hD hS hAA (va_runV (As := [.int a1]) (rest := []) ⟨hx, hb, hml, hown, hts⟩ (k_mf_sumOf l dC dI cI cZ cG ad H.size w a1 r_24 w_24 hc24) (cwV 1 hts gX4_inSum_X4_sumOf rfl rfl rfl (by decide +kernel) ⟨Nat.le_of_ble_eq_true rfl, Nat.le_of_ble_eq_true rfl⟩) ⟨m_blind, va_recv hK hP (ci := 4) (q0 := 0) rfl rfl, fun U hU hW => m_pre hU hW hK hP hD⟩ rfl rfl hl.1 rfl (lv_room (Nat.le_of_ble_eq_true rfl)) dX4_inSum_24 ⟨Nat.zero_le _, Nat.zero_le _⟩) (fun H locs hP hD hS => ?_)
      refine lv_istore_n (lv' := [(3, .int r_24), (0, .ref (ad 0)), (1, .int a1), (2, .int a2)]) hx hb dX4_inSum_27 rfl hl (by decide) rfl (fun ls hl => ?_)
      refine lv_iconst (v := (0 : Int32)) hx hb dX4_inSum_28 (by decide) ?_
      refine lv_istore (lv' := [(4, .int (0 : Int32)), (3, .int r_24), (0, .ref (ad 0)), (1, .int a1), (2, .int a2)]) hx hb dX4_inSum_29 hl (by decide) rfl (fun ls hl => ?_)
      exact C31 fu a1 a2 r_24 (0 : Int32) w_24 hf _ _ _ hP hD hS (lv_sub hl [2, 3, 4, 1, 0] rfl)
    · have hf := if_t h15 hf
      refine lv_sipush (v := (-1002 : Int32)) hx hb dX4_inSum_18 (by decide) ?_
      exact m_iret hx hb hr hlocks hK hP hD hS (so_2 hf) dX4_inSum_21
