set_option maxHeartbeats 4000000 in
set_option maxRecDepth 100000 in
theorem k_mf_isRule (l : Launch) (dC : Nat → ClassId) (dI : Nat → Nat → Nat) (cI cZ cG : ClassId) (ad : Nat → Nat) (sz : Nat) (w : mW) (a0 : Int32) (r0 : Int32) (w0 : mW) (hf : mf_isRule a0 = some r0) (hw0 : w = w0) : Met l yX4_isRule wsX4_isRule ({ frames := 1, cells := 0, slots := 0, locals := 25 } : Room) (va_Pc [.int a0] (mPre dC dI cI cZ cG ad sz w)) (va_Qi (fun (r : Int32) (u : mW) => r = r0 ∧ u = w0) (mB dC dI cI cZ cG ad (mA ad sz)) (mA ad sz)) 0 0 (mA ad sz) := by
  refine Met.ofW (cc := cX4_isRule) (maxL := 1) (ret := (some .boolean)) (by decide) rfl ?_
  intro p e s m args below meth c s₁ B hml hv
  obtain ⟨rfl, hsz, hP, hK, hD0⟩ := hv
  have hx := B.exec
  have hb := B.bytes
  have hr := B.returns
  have hts := atoms_spec (ws := wsX4_isRule) B.pre
  have hown : s.vm.findClass RX4 = some m.cls := findClass_of_methodNamed B.named
  have hlocks := B.notSynchronized
  subst hsz
  have hD : va_D (mA ad s.heap.size) (mc cI cZ ad w) := mD_self hD0
  have hAA : ∀ z q, s.heap.size ≤ z → mA ad z q → mA ad s.heap.size q := mA_mono
  generalize mA ad s.heap.size = A at hD hAA ⊢
  have hS : va_S A s.heap s.heap [] := va_S.rf
  have hl := lv_entry ([.int a0]) (n := 1) (Nat.le_of_ble_eq_true rfl)
  rw [lg_entry_eq]
  generalize (lg_sl ([.int a0]) ++ List.replicate (1 - (lg_sl ([.int a0])).length) Slot.unset).toArray = ls at hl ⊢
  have hl : lv_has ls 1 [(0, .int a0)] := hl
  unfold mf_isRule at hf
  refine lv_iload_n hx hb dX4_isRule_0 rfl (lv_at hl 0 rfl) ?_
  refine lv_i2l hx hb dX4_isRule_1 rfl ?_
  refine lv_lconst (v := (0 : Int64)) hx hb dX4_isRule_2 (by decide) ?_
  refine lv_lconst (v := (1 : Int64)) hx hb dX4_isRule_3 (by decide) ?_
  obtain ⟨r_4, hc4, hf⟩ := bn_e hf
  refine m_calli hD hS hAA (va_runS (As := [.long (a0.toInt64), .long (0 : Int64), .long (1 : Int64)]) (rest := []) ⟨hx, hb, hml, hown, hts⟩ (k_mf_in l dC dI cI cZ cG ad s.heap.size w (a0.toInt64) (0 : Int64) (1 : Int64) r_4 w hc4 rfl) (va_cwS 3 hts gX4_isRule_X4_in rfl rfl rfl (by decide +kernel) ⟨Nat.le_of_ble_eq_true rfl, Nat.le_of_ble_eq_true rfl⟩) ⟨m_blind, fun U hU hW => m_pre hU hW hK hP hD⟩ rfl rfl hl.1 rfl (lv_room (Nat.le_of_ble_eq_true rfl)) dX4_isRule_4 ⟨Nat.zero_le _, Nat.zero_le _⟩) (fun H locs hP hD hS => ?_)
  obtain ⟨hg7, hf⟩ := gd_e hf
  exact m_zret hx hb hr hlocks hg7 hK hP hD hS ⟨so_1 hf, hw0⟩ dX4_isRule_7
set_option maxHeartbeats 4000000 in
set_option maxRecDepth 100000 in
theorem k_mf_rows (l : Launch) (dC : Nat → ClassId) (dI : Nat → Nat → Nat) (cI cZ cG : ClassId) (ad : Nat → Nat) (sz : Nat) (w : mW) (a1 : Int32) (a2 : Int32) (a3 : Int32) (r0 : Int32) (w0 : mW) (hf : mf_rows a1 a2 a3 w = some (r0, w0)) : Met l yX4_rows wsX4_rows ({ frames := 2, cells := 0, slots := 0, locals := 46 } : Room) (va_Pc [.ref (ad 0), .int a1, .int a2, .int a3] (mPre dC dI cI cZ cG ad sz w)) (va_Qi (fun (r : Int32) (u : mW) => r = r0 ∧ u = w0) (mB dC dI cI cZ cG ad (mA ad sz)) (mA ad sz)) 0 0 (mA ad sz) := by
  refine Met.ofW (cc := cX4_rows) (maxL := 6) (ret := (some .int)) (by decide) rfl ?_
  intro p e s m args below meth c s₁ B hml hv
  obtain ⟨rfl, hsz, hP, hK, hD0⟩ := hv
  have hx := B.exec
  have hb := B.bytes
  have hr := B.returns
  have hts := atoms_spec (ws := wsX4_rows) B.pre
  have hown : s.vm.findClass RX4 = some m.cls := findClass_of_methodNamed B.named
  have hlocks := B.notSynchronized
  have inX4 : ∀ w ∈ u_ws RX4 TX4 21, w ∈ wsX4_rows := by decide +kernel
  subst hsz
  have hD : va_D (mA ad s.heap.size) (mc cI cZ ad w) := mD_self hD0
  have hAA : ∀ z q, s.heap.size ≤ z → mA ad z q → mA ad s.heap.size q := mA_mono
  generalize mA ad s.heap.size = A at hD hAA ⊢
  have hS : va_S A s.heap s.heap [] := va_S.rf
  have C59 : ∀ (n59 : Nat) (x1 : Int32) (x2 : Int32) (x4 : Int32) (x5 : Int32) (w : mW), mf_rows_C59 n59 x1 x2 x4 x5 w = some (r0, w0) → ∀ (H : Heap) (locs : List Loc) (ls : Array Slot), va_P (dC, dI) vwCl (mc cI cZ ad w) H → va_D A (mc cI cZ ad w) → va_S A s.heap H locs → lv_has ls 6 [(0, .ref (ad 0)), (1, .int x1), (2, .int x2), (4, .int x4), (5, .int x5)] → W p l e (headSpec wsX4_rows ({ frames := 2, cells := 0, slots := 0, locals := 46 } : Room)).room s m (List.toArray [Value.ref (ad 0), Value.int a1, Value.int a2, Value.int a3]) below meth c H locs 0 0 (MQ below (va_Qi (fun (r : Int32) (u : mW) => r = r0 ∧ u = w0) (mB dC dI cI cZ cG ad A) A) (List.toArray [Value.ref (ad 0), Value.int a1, Value.int a2, Value.int a3]) s 0 0 A) (F0 m 59 ls []) := by
    intro n59
    induction n59 with
    | zero => intro x1 x2 x4 x5 w hf; cases hf
    | succ n59 ih59 =>
      have C83 : ∀ (x1 : Int32) (x2 : Int32) (x4 : Int32) (x5 : Int32) (t1 : Int32) (t2 : Int32) (w : mW), mf_rows_C83 (mf_rows_C59 n59) x1 x2 x4 x5 t1 t2 w = some (r0, w0) → ∀ (H : Heap) (locs : List Loc) (ls : Array Slot), va_P (dC, dI) vwCl (mc cI cZ ad w) H → va_D A (mc cI cZ ad w) → va_S A s.heap H locs → lv_has ls 6 [(0, .ref (ad 0)), (1, .int x1), (2, .int x2), (4, .int x4), (5, .int x5)] → W p l e (headSpec wsX4_rows ({ frames := 2, cells := 0, slots := 0, locals := 46 } : Room)).room s m (List.toArray [Value.ref (ad 0), Value.int a1, Value.int a2, Value.int a3]) below meth c H locs 0 0 (MQ below (va_Qi (fun (r : Int32) (u : mW) => r = r0 ∧ u = w0) (mB dC dI cI cZ cG ad A) A) (List.toArray [Value.ref (ad 0), Value.int a1, Value.int a2, Value.int a3]) s 0 0 A) (F0 m 83 ls [.int t2, .int t1, .ref (ad 15)]) := by
        intro x1 x2 x4 x5 t1 t2 w hf H locs ls hP hD hS hl
        unfold mf_rows_C83 at hf
        obtain ⟨hg83, hf⟩ := gi_e hf
        obtain ⟨w_83, ew_83, hf⟩ := nm_x hf
        refine va_iast (f := (w.2 15)) hx hb hK hP hD hS 15 0 rfl rfl hg83 dX4_rows_83 (fun H locs hP hD hS => ?_)
        have hP : va_P (dC, dI) vwCl (mc cI cZ ad w_83) H := hP.eqs (by rw [ew_83]; rfl)
        have hD : va_D A (mc cI cZ ad w_83) := hD.eqs (by rw [ew_83]; rfl)
        obtain ⟨x5_84, ex5_84, hf⟩ := nm_x hf
        refine lv_iinc (v := x5_84) (lv' := [(5, .int x5_84), (0, .ref (ad 0)), (1, .int x1), (2, .int x2), (4, .int x4)]) hx hb dX4_rows_84 hl (k := 4) rfl (by rw [ex5_84]; rfl) (by decide) rfl (fun ls hl => ?_)
        refine lv_goto (tgt := 59) hx hb dX4_rows_87 (by decide) ?_
        exact ih59 x1 x2 x4 x5_84 w_83 hf _ _ _ hP hD hS (lv_sub hl [1, 2, 3, 4, 0] rfl)
      intro x1 x2 x4 x5 w hf H locs ls hP hD hS hl
      rw [mf_rows_C59] at hf
      refine lv_iload hx hb dX4_rows_59 (lv_at hl 4 rfl) ?_
      refine lv_bipush (v := (7 : Int32)) hx hb dX4_rows_61 (by decide) ?_
      refine lv_icmp_ge (tgt := 90) hx hb dX4_rows_63 (by decide) (fun h63 => ?_) (fun h63 => ?_)
      · have hf := if_t h63 hf
        refine lv_aload_n hx hb dX4_rows_90 rfl (lv_at hl 0 rfl) ?_
        refine va_get (D := (dC, dI)) (ci := 4) (v := .ref (ad 3)) (C := RX4) (T := TX4) (N := 21) hx hb hts inX4 hown hK hP 0 rfl rfl 3 (by decide) (hts (.fieldLink RX4 16 "BittenBoardsModel" "states" "[I") (by decide +kernel)) (fun _ h9 => h9) rfl dX4_rows_91 ?_
        refine lv_iload hx hb dX4_rows_94 (lv_at hl 3 rfl) ?_
        refine lv_aload_n hx hb dX4_rows_96 rfl (lv_at hl 0 rfl) ?_
        obtain ⟨r_97, hc97, hf⟩ := bn_e hf
        refine m_calli hD hS hAA (va_runV (As := []) (rest := [.int x4, .ref (ad 3)]) ⟨hx, hb, hml, hown, hts⟩ (k_mf_rankOf l dC dI cI cZ cG ad H.size w  r_97 w hc97 rfl) (cwV 0 hts gX4_rows_X4_rankOf rfl rfl rfl (by decide +kernel) ⟨Nat.le_of_ble_eq_true rfl, Nat.le_of_ble_eq_true rfl⟩) ⟨m_blind, va_recv hK hP (ci := 4) (q0 := 0) rfl rfl, fun U hU hW => m_pre hU hW hK hP hD⟩ rfl rfl hl.1 rfl (lv_room (Nat.le_of_ble_eq_true rfl)) dX4_rows_97 ⟨Nat.zero_le _, Nat.zero_le _⟩) (fun H locs hP hD hS => ?_)
        obtain ⟨hg100, hf⟩ := gi_e hf
        obtain ⟨w_100, ew_100, hf⟩ := nm_x hf
        refine va_iast (f := (w.2 3)) hx hb hK hP hD hS 3 0 rfl rfl hg100 dX4_rows_100 (fun H locs hP hD hS => ?_)
        have hP : va_P (dC, dI) vwCl (mc cI cZ ad w_100) H := hP.eqs (by rw [ew_100]; rfl)
        have hD : va_D A (mc cI cZ ad w_100) := hD.eqs (by rw [ew_100]; rfl)
        refine lv_iload hx hb dX4_rows_101 (lv_at hl 3 rfl) ?_
        exact m_iret hx hb hr hlocks hK hP hD hS (so_2 hf) dX4_rows_103
      · have hf := if_f h63 hf
        refine lv_aload_n hx hb dX4_rows_66 rfl (lv_at hl 0 rfl) ?_
        refine va_get (D := (dC, dI)) (ci := 4) (v := .ref (ad 15)) (C := RX4) (T := TX4) (N := 21) hx hb hts inX4 hown hK hP 0 rfl rfl 16 (by decide) (hts (.fieldLink RX4 58 "BittenBoardsModel" "board" "[I") (by decide +kernel)) (fun _ h9 => h9) rfl dX4_rows_67 ?_
        refine lv_iload hx hb dX4_rows_70 (lv_at hl 4 rfl) ?_
        refine lv_iload hx hb dX4_rows_72 (lv_at hl 4 rfl) ?_
        refine lv_iload_n hx hb dX4_rows_74 rfl (lv_at hl 1 rfl) ?_
        refine lv_icmp_ge (tgt := 82) hx hb dX4_rows_75 (by decide) (fun h75 => ?_) (fun h75 => ?_)
        · have hf := if_t h75 hf
          refine lv_iconst (v := (0 : Int32)) hx hb dX4_rows_82 (by decide) ?_
          exact C83 x1 x2 x4 x5 x5 (0 : Int32) w hf _ _ _ hP hD hS (lv_sub hl [0, 1, 2, 3, 4] rfl)
        · have hf := if_f h75 hf
          refine lv_iload_n hx hb dX4_rows_78 rfl (lv_at hl 2 rfl) ?_
          refine lv_goto (tgt := 83) hx hb dX4_rows_79 (by decide) ?_
          exact C83 x1 x2 x4 x5 x5 x2 w hf _ _ _ hP hD hS (lv_sub hl [0, 1, 2, 3, 4] rfl)
  have hl := lv_entry ([.ref (ad 0), .int a1, .int a2, .int a3]) (n := 6) (Nat.le_of_ble_eq_true rfl)
  rw [lg_entry_eq]
  generalize (lg_sl ([.ref (ad 0), .int a1, .int a2, .int a3]) ++ List.replicate (6 - (lg_sl ([.ref (ad 0), .int a1, .int a2, .int a3])).length) Slot.unset).toArray = ls at hl ⊢
  have hl : lv_has ls 6 [(0, .ref (ad 0)), (1, .int a1), (2, .int a2), (3, .int a3)] := hl
  unfold mf_rows at hf
  refine lv_iload_n hx hb dX4_rows_0 rfl (lv_at hl 1 rfl) ?_
  refine lv_i2l hx hb dX4_rows_1 rfl ?_
  refine lv_lconst (v := (1 : Int64)) hx hb dX4_rows_2 (by decide) ?_
  refine lv_ldc2 (v := (7 : Int64)) hx hb hown (hts (.constantLong RX4 115 (7 : Int64)) (by decide +kernel)) dX4_rows_3 ?_
  obtain ⟨r_6, hc6, hf⟩ := bn_e hf
  refine m_calli hD hS hAA (va_runS (As := [.long (a1.toInt64), .long (1 : Int64), .long (7 : Int64)]) (rest := []) ⟨hx, hb, hml, hown, hts⟩ (k_mf_in l dC dI cI cZ cG ad s.heap.size w (a1.toInt64) (1 : Int64) (7 : Int64) r_6 w hc6 rfl) (va_cwS 3 hts gX4_rows_X4_in rfl rfl rfl (by decide +kernel) ⟨Nat.le_of_ble_eq_true rfl, Nat.le_of_ble_eq_true rfl⟩) ⟨m_blind, fun U hU hW => m_pre hU hW hK hP hD⟩ rfl rfl hl.1 rfl (lv_room (Nat.le_of_ble_eq_true rfl)) dX4_rows_6 ⟨Nat.zero_le _, Nat.zero_le _⟩) (fun H locs hP hD hS => ?_)
  refine lv_if_eq (tgt := 31) hx hb dX4_rows_9 (by decide) (fun h9 => ?_) (fun h9 => ?_)
  · have hf := if_t h9 hf
    refine lv_sipush (v := (-1002 : Int32)) hx hb dX4_rows_31 (by decide) ?_
    exact m_iret hx hb hr hlocks hK hP hD hS (so_2 hf) dX4_rows_34
  · have hf := if_f h9 hf
    refine lv_iload_n hx hb dX4_rows_12 rfl (lv_at hl 2 rfl) ?_
    refine lv_i2l hx hb dX4_rows_13 rfl ?_
    refine lv_lconst (v := (1 : Int64)) hx hb dX4_rows_14 (by decide) ?_
    refine lv_ldc2 (v := (7 : Int64)) hx hb hown (hts (.constantLong RX4 115 (7 : Int64)) (by decide +kernel)) dX4_rows_15 ?_
    obtain ⟨r_18, hc18, hf⟩ := bn_e hf
    refine m_calli hD hS hAA (va_runS (As := [.long (a2.toInt64), .long (1 : Int64), .long (7 : Int64)]) (rest := []) ⟨hx, hb, hml, hown, hts⟩ (k_mf_in l dC dI cI cZ cG ad H.size w (a2.toInt64) (1 : Int64) (7 : Int64) r_18 w hc18 rfl) (va_cwS 3 hts gX4_rows_X4_in rfl rfl rfl (by decide +kernel) ⟨Nat.le_of_ble_eq_true rfl, Nat.le_of_ble_eq_true rfl⟩) ⟨m_blind, fun U hU hW => m_pre hU hW hK hP hD⟩ rfl rfl hl.1 rfl (lv_room (Nat.le_of_ble_eq_true rfl)) dX4_rows_18 ⟨Nat.zero_le _, Nat.zero_le _⟩) (fun H locs hP hD hS => ?_)
    refine lv_if_eq (tgt := 31) hx hb dX4_rows_21 (by decide) (fun h21 => ?_) (fun h21 => ?_)
    · have hf := if_t h21 hf
      refine lv_sipush (v := (-1002 : Int32)) hx hb dX4_rows_31 (by decide) ?_
      exact m_iret hx hb hr hlocks hK hP hD hS (so_2 hf) dX4_rows_34
    · have hf := if_f h21 hf
      refine lv_iload_n hx hb dX4_rows_24 rfl (lv_at hl 3 rfl) ?_
      obtain ⟨r_25, hc25, hf⟩ := bn_e hf
      refine m_calli hD hS hAA (va_runS (As := [.int a3]) (rest := []) ⟨hx, hb, hml, hown, hts⟩ (k_mf_isRule l dC dI cI cZ cG ad H.size w a3 r_25 w hc25 rfl) (va_cwS 1 hts gX4_rows_X4_isRule rfl rfl rfl (by decide +kernel) ⟨Nat.le_of_ble_eq_true rfl, Nat.le_of_ble_eq_true rfl⟩) ⟨m_blind, fun U hU hW => m_pre hU hW hK hP hD⟩ rfl rfl hl.1 rfl (lv_room (Nat.le_of_ble_eq_true rfl)) dX4_rows_25 ⟨Nat.zero_le _, Nat.zero_le _⟩) (fun H locs hP hD hS => ?_)
      refine lv_if_ne (tgt := 35) hx hb dX4_rows_28 (by decide) (fun h28 => ?_) (fun h28 => ?_)
      · have hf := if_f h28 hf
        refine lv_aload_n hx hb dX4_rows_35 rfl (lv_at hl 0 rfl) ?_
        refine va_get (D := (dC, dI)) (ci := 4) (v := .int (w.1 0)) (C := RX4) (T := TX4) (N := 21) hx hb hts inX4 hown hK hP 0 rfl rfl 0 (by decide) (hts (.fieldLink RX4 108 "BittenBoardsModel" "games" "I") (by decide +kernel)) (fun _ h9 => h9) rfl dX4_rows_36 ?_
        refine lv_bipush (v := (6 : Int32)) hx hb dX4_rows_39 (by decide) ?_
        refine lv_icmp_ne (tgt := 48) hx hb dX4_rows_41 (by decide) (fun h41 => ?_) (fun h41 => ?_)
        · have hf := if_f h41 hf
          refine lv_aload_n hx hb dX4_rows_48 rfl (lv_at hl 0 rfl) ?_
          refine lv_iconst (v := (0 : Int32)) hx hb dX4_rows_49 (by decide) ?_
          refine lv_iload_n hx hb dX4_rows_50 rfl (lv_at hl 3 rfl) ?_
          obtain ⟨r_51, w_51, hc51, hf⟩ := bn2_e hf
          refine m_calli hD hS hAA (va_runV (As := [.int (0 : Int32), .int a3]) (rest := []) ⟨hx, hb, hml, hown, hts⟩ (k_mf_fresh l dC dI cI cZ cG ad H.size w (0 : Int32) a3 r_51 w_51 hc51) (cwV 2 hts gX4_rows_X4_fresh rfl rfl rfl (by decide +kernel) ⟨Nat.le_of_ble_eq_true rfl, Nat.le_of_ble_eq_true rfl⟩) ⟨m_blind, va_recv hK hP (ci := 4) (q0 := 0) rfl rfl, fun U hU hW => m_pre hU hW hK hP hD⟩ rfl rfl hl.1 rfl (lv_room (Nat.le_of_ble_eq_true rfl)) dX4_rows_51 ⟨Nat.zero_le _, Nat.zero_le _⟩) (fun H locs hP hD hS => ?_)
          refine lv_istore (lv' := [(4, .int r_51), (0, .ref (ad 0)), (1, .int a1), (2, .int a2), (3, .int a3)]) hx hb dX4_rows_54 hl (by decide) rfl (fun ls hl => ?_)
          refine lv_iconst (v := (0 : Int32)) hx hb dX4_rows_56 (by decide) ?_
          refine lv_istore (lv' := [(5, .int (0 : Int32)), (4, .int r_51), (0, .ref (ad 0)), (1, .int a1), (2, .int a2), (3, .int a3)]) hx hb dX4_rows_57 hl (by decide) rfl (fun ls hl => ?_)
          exact C59 fu a1 a2 r_51 (0 : Int32) w_51 hf _ _ _ hP hD hS (lv_sub hl [2, 3, 4, 1, 0] rfl)
        · have hf := if_t h41 hf
          refine lv_sipush (v := (-1004 : Int32)) hx hb dX4_rows_44 (by decide) ?_
          exact m_iret hx hb hr hlocks hK hP hD hS (so_2 hf) dX4_rows_47
      · have hf := if_t h28 hf
        refine lv_sipush (v := (-1002 : Int32)) hx hb dX4_rows_31 (by decide) ?_
        exact m_iret hx hb hr hlocks hK hP hD hS (so_2 hf) dX4_rows_34
set_option maxHeartbeats 4000000 in
set_option maxRecDepth 100000 in
theorem k_mf_order (l : Launch) (dC : Nat → ClassId) (dI : Nat → Nat → Nat) (cI cZ cG : ClassId) (ad : Nat → Nat) (sz : Nat) (w : mW) (a1 : Int32) (r0 : Int32) (w0 : mW) (hf : mf_order a1 w = some (r0, w0)) : Met l yX4_order wsX4_order ({ frames := 2, cells := 0, slots := 0, locals := 45 } : Room) (va_Pc [.ref (ad 0), .int a1] (mPre dC dI cI cZ cG ad sz w)) (va_Qi (fun (r : Int32) (u : mW) => r = r0 ∧ u = w0) (mB dC dI cI cZ cG ad (mA ad sz)) (mA ad sz)) 0 0 (mA ad sz) := by
  refine Met.ofW (cc := cX4_order) (maxL := 2) (ret := (some .int)) (by decide) rfl ?_
  intro p e s m args below meth c s₁ B hml hv
  obtain ⟨rfl, hsz, hP, hK, hD0⟩ := hv
  have hx := B.exec
  have hb := B.bytes
  have hr := B.returns
  have hts := atoms_spec (ws := wsX4_order) B.pre
  have hown : s.vm.findClass RX4 = some m.cls := findClass_of_methodNamed B.named
  have hlocks := B.notSynchronized
  have inX4 : ∀ w ∈ u_ws RX4 TX4 21, w ∈ wsX4_order := by decide +kernel
  subst hsz
  have hD : va_D (mA ad s.heap.size) (mc cI cZ ad w) := mD_self hD0
  have hAA : ∀ z q, s.heap.size ≤ z → mA ad z q → mA ad s.heap.size q := mA_mono
  generalize mA ad s.heap.size = A at hD hAA ⊢
  have hS : va_S A s.heap s.heap [] := va_S.rf
  have hl := lv_entry ([.ref (ad 0), .int a1]) (n := 2) (Nat.le_of_ble_eq_true rfl)
  rw [lg_entry_eq]
  generalize (lg_sl ([.ref (ad 0), .int a1]) ++ List.replicate (2 - (lg_sl ([.ref (ad 0), .int a1])).length) Slot.unset).toArray = ls at hl ⊢
  have hl : lv_has ls 2 [(0, .ref (ad 0)), (1, .int a1)] := hl
  unfold mf_order at hf
  refine lv_iload_n hx hb dX4_order_0 rfl (lv_at hl 1 rfl) ?_
  obtain ⟨r_1, hc1, hf⟩ := bn_e hf
  refine m_calli hD hS hAA (va_runS (As := [.int a1]) (rest := []) ⟨hx, hb, hml, hown, hts⟩ (k_mf_isRule l dC dI cI cZ cG ad s.heap.size w a1 r_1 w hc1 rfl) (va_cwS 1 hts gX4_order_X4_isRule rfl rfl rfl (by decide +kernel) ⟨Nat.le_of_ble_eq_true rfl, Nat.le_of_ble_eq_true rfl⟩) ⟨m_blind, fun U hU hW => m_pre hU hW hK hP hD⟩ rfl rfl hl.1 rfl (lv_room (Nat.le_of_ble_eq_true rfl)) dX4_order_1 ⟨Nat.zero_le _, Nat.zero_le _⟩) (fun H locs hP hD hS => ?_)
  refine lv_if_ne (tgt := 13) hx hb dX4_order_4 (by decide) (fun h4 => ?_) (fun h4 => ?_)
  · have hf := if_f h4 hf
    refine lv_aload_n hx hb dX4_order_13 rfl (lv_at hl 0 rfl) ?_
    refine va_get (D := (dC, dI)) (ci := 4) (v := .int (w.1 0)) (C := RX4) (T := TX4) (N := 21) hx hb hts inX4 hown hK hP 0 rfl rfl 0 (by decide) (hts (.fieldLink RX4 108 "BittenBoardsModel" "games" "I") (by decide +kernel)) (fun _ h9 => h9) rfl dX4_order_14 ?_
    refine lv_bipush (v := (6 : Int32)) hx hb dX4_order_17 (by decide) ?_
    refine lv_icmp_ne (tgt := 28) hx hb dX4_order_19 (by decide) (fun h19 => ?_) (fun h19 => ?_)
    · have hf := if_f h19 hf
      refine lv_aload_n hx hb dX4_order_28 rfl (lv_at hl 0 rfl) ?_
      refine lv_iconst (v := (1 : Int32)) hx hb dX4_order_29 (by decide) ?_
      refine lv_iload_n hx hb dX4_order_30 rfl (lv_at hl 1 rfl) ?_
      obtain ⟨r_31, w_31, hc31, hf⟩ := bn2_e hf
      refine m_calli hD hS hAA (va_runV (As := [.int (1 : Int32), .int a1]) (rest := []) ⟨hx, hb, hml, hown, hts⟩ (k_mf_fresh l dC dI cI cZ cG ad H.size w (1 : Int32) a1 r_31 w_31 hc31) (cwV 2 hts gX4_order_X4_fresh rfl rfl rfl (by decide +kernel) ⟨Nat.le_of_ble_eq_true rfl, Nat.le_of_ble_eq_true rfl⟩) ⟨m_blind, va_recv hK hP (ci := 4) (q0 := 0) rfl rfl, fun U hU hW => m_pre hU hW hK hP hD⟩ rfl rfl hl.1 rfl (lv_room (Nat.le_of_ble_eq_true rfl)) dX4_order_31 ⟨Nat.zero_le _, Nat.zero_le _⟩) (fun H locs hP hD hS => ?_)
      exact m_iret hx hb hr hlocks hK hP hD hS (so_2 hf) dX4_order_34
    · have hf := if_t h19 hf
      refine lv_sipush (v := (-1004 : Int32)) hx hb dX4_order_22 (by decide) ?_
      refine lv_goto (tgt := 34) hx hb dX4_order_25 (by decide) ?_
      exact m_iret hx hb hr hlocks hK hP hD hS (so_2 hf) dX4_order_34
  · have hf := if_t h4 hf
    refine lv_sipush (v := (-1002 : Int32)) hx hb dX4_order_7 (by decide) ?_
    refine lv_goto (tgt := 34) hx hb dX4_order_10 (by decide) ?_
    exact m_iret hx hb hr hlocks hK hP hD hS (so_2 hf) dX4_order_34
set_option maxHeartbeats 4000000 in
set_option maxRecDepth 100000 in
theorem k_mf_divisors (l : Launch) (dC : Nat → ClassId) (dI : Nat → Nat → Nat) (cI cZ cG : ClassId) (ad : Nat → Nat) (sz : Nat) (w : mW) (a1 : Int32) (a2 : Int32) (r0 : Int32) (w0 : mW) (hf : mf_divisors a1 a2 w = some (r0, w0)) : Met l yX4_divisors wsX4_divisors ({ frames := 2, cells := 0, slots := 0, locals := 45 } : Room) (va_Pc [.ref (ad 0), .int a1, .int a2] (mPre dC dI cI cZ cG ad sz w)) (va_Qi (fun (r : Int32) (u : mW) => r = r0 ∧ u = w0) (mB dC dI cI cZ cG ad (mA ad sz)) (mA ad sz)) 0 0 (mA ad sz) := by
  refine Met.ofW (cc := cX4_divisors) (maxL := 9) (ret := (some .int)) (by decide) rfl ?_
  intro p e s m args below meth c s₁ B hml hv
  obtain ⟨rfl, hsz, hP, hK, hD0⟩ := hv
  have hx := B.exec
  have hb := B.bytes
  have hr := B.returns
  have hts := atoms_spec (ws := wsX4_divisors) B.pre
  have hown : s.vm.findClass RX4 = some m.cls := findClass_of_methodNamed B.named
  have hlocks := B.notSynchronized
  have inX4 : ∀ w ∈ u_ws RX4 TX4 21, w ∈ wsX4_divisors := by decide +kernel
  subst hsz
  have hD : va_D (mA ad s.heap.size) (mc cI cZ ad w) := mD_self hD0
  have hAA : ∀ z q, s.heap.size ≤ z → mA ad z q → mA ad s.heap.size q := mA_mono
  generalize mA ad s.heap.size = A at hD hAA ⊢
  have hS : va_S A s.heap s.heap [] := va_S.rf
  have C102 : ∀ (n102 : Nat) (x1 : Int32) (x4 : Int32) (x5 : Int32) (x6 : Int32) (w : mW), mf_divisors_C102 n102 x1 x4 x5 x6 w = some (r0, w0) → ∀ (H : Heap) (locs : List Loc) (ls : Array Slot), va_P (dC, dI) vwCl (mc cI cZ ad w) H → va_D A (mc cI cZ ad w) → va_S A s.heap H locs → lv_has ls 9 [(0, .ref (ad 0)), (1, .int x1), (4, .int x4), (5, .int x5), (6, .int x6)] → W p l e (headSpec wsX4_divisors ({ frames := 2, cells := 0, slots := 0, locals := 45 } : Room)).room s m (List.toArray [Value.ref (ad 0), Value.int a1, Value.int a2]) below meth c H locs 0 0 (MQ below (va_Qi (fun (r : Int32) (u : mW) => r = r0 ∧ u = w0) (mB dC dI cI cZ cG ad A) A) (List.toArray [Value.ref (ad 0), Value.int a1, Value.int a2]) s 0 0 A) (F0 m 102 ls []) := by
    intro n102
    induction n102 with
    | zero => intro x1 x4 x5 x6 w hf; cases hf
    | succ n102 ih102 =>
      have C134 : ∀ (n134 : Nat) (x1 : Int32) (x4 : Int32) (x5 : Int32) (x6 : Int32) (x7 : Int32) (x8 : Int32) (w : mW), mf_divisors_C134 (mf_divisors_C102 n102) n134 x1 x4 x5 x6 x7 x8 w = some (r0, w0) → ∀ (H : Heap) (locs : List Loc) (ls : Array Slot), va_P (dC, dI) vwCl (mc cI cZ ad w) H → va_D A (mc cI cZ ad w) → va_S A s.heap H locs → lv_has ls 9 [(0, .ref (ad 0)), (1, .int x1), (4, .int x4), (5, .int x5), (6, .int x6), (7, .int x7), (8, .int x8)] → W p l e (headSpec wsX4_divisors ({ frames := 2, cells := 0, slots := 0, locals := 45 } : Room)).room s m (List.toArray [Value.ref (ad 0), Value.int a1, Value.int a2]) below meth c H locs 0 0 (MQ below (va_Qi (fun (r : Int32) (u : mW) => r = r0 ∧ u = w0) (mB dC dI cI cZ cG ad A) A) (List.toArray [Value.ref (ad 0), Value.int a1, Value.int a2]) s 0 0 A) (F0 m 134 ls []) := by
        intro n134
        induction n134 with
        | zero => intro x1 x4 x5 x6 x7 x8 w hf; cases hf
        | succ n134 ih134 =>
          have C183 : ∀ (x1 : Int32) (x4 : Int32) (x5 : Int32) (x6 : Int32) (x7 : Int32) (x8 : Int32) (t1 : Int32) (t2 : Int32) (t3 : Int32) (w : mW), mf_divisors_C183 (mf_divisors_C102 n102) (mf_divisors_C134 (mf_divisors_C102 n102) n134) x1 x4 x5 x6 x7 x8 t1 t2 t3 w = some (r0, w0) → ∀ (H : Heap) (locs : List Loc) (ls : Array Slot), va_P (dC, dI) vwCl (mc cI cZ ad w) H → va_D A (mc cI cZ ad w) → va_S A s.heap H locs → lv_has ls 9 [(0, .ref (ad 0)), (1, .int x1), (4, .int x4), (5, .int x5), (6, .int x6), (7, .int x7), (8, .int x8)] → W p l e (headSpec wsX4_divisors ({ frames := 2, cells := 0, slots := 0, locals := 45 } : Room)).room s m (List.toArray [Value.ref (ad 0), Value.int a1, Value.int a2]) below meth c H locs 0 0 (MQ below (va_Qi (fun (r : Int32) (u : mW) => r = r0 ∧ u = w0) (mB dC dI cI cZ cG ad A) A) (List.toArray [Value.ref (ad 0), Value.int a1, Value.int a2]) s 0 0 A) (F0 m 183 ls [.int t3, .int t2, .int t1, .ref (ad 5)]) := by
            intro x1 x4 x5 x6 x7 x8 t1 t2 t3 w hf H locs ls hP hD hS hl
            unfold mf_divisors_C183 at hf
            refine lv_ior hx hb dX4_divisors_183 ?_
            obtain ⟨hg184, hf⟩ := gi_e hf
            obtain ⟨w_184, ew_184, hf⟩ := nm_x hf
            refine va_iast (f := (w.2 5)) hx hb hK hP hD hS 5 0 rfl rfl hg184 dX4_divisors_184 (fun H locs hP hD hS => ?_)
            have hP : va_P (dC, dI) vwCl (mc cI cZ ad w_184) H := hP.eqs (by rw [ew_184]; rfl)
            have hD : va_D A (mc cI cZ ad w_184) := hD.eqs (by rw [ew_184]; rfl)
            obtain ⟨x7_185, ex7_185, hf⟩ := nm_x hf
            refine lv_iinc (v := x7_185) (lv' := [(7, .int x7_185), (0, .ref (ad 0)), (1, .int x1), (4, .int x4), (5, .int x5), (6, .int x6), (8, .int x8)]) hx hb dX4_divisors_185 hl (k := 5) rfl (by rw [ex7_185]; rfl) (by decide) rfl (fun ls hl => ?_)
            obtain ⟨x8_188, ex8_188, hf⟩ := nm_x hf
            refine lv_iinc (v := x8_188) (lv' := [(8, .int x8_188), (7, .int x7_185), (0, .ref (ad 0)), (1, .int x1), (4, .int x4), (5, .int x5), (6, .int x6)]) hx hb dX4_divisors_188 hl (k := 6) rfl (by rw [ex8_188]; rfl) (by decide) rfl (fun ls hl => ?_)
            refine lv_goto (tgt := 134) hx hb dX4_divisors_191 (by decide) ?_
            exact ih134 x1 x4 x5 x6 x7_185 x8_188 w_184 hf _ _ _ hP hD hS (lv_sub hl [2, 3, 4, 5, 6, 1, 0] rfl)
          have C182 : ∀ (x1 : Int32) (x4 : Int32) (x5 : Int32) (x6 : Int32) (x7 : Int32) (x8 : Int32) (t1 : Int32) (t2 : Int32) (w : mW), mf_divisors_C182 (mf_divisors_C102 n102) (mf_divisors_C134 (mf_divisors_C102 n102) n134) x1 x4 x5 x6 x7 x8 t1 t2 w = some (r0, w0) → ∀ (H : Heap) (locs : List Loc) (ls : Array Slot), va_P (dC, dI) vwCl (mc cI cZ ad w) H → va_D A (mc cI cZ ad w) → va_S A s.heap H locs → lv_has ls 9 [(0, .ref (ad 0)), (1, .int x1), (4, .int x4), (5, .int x5), (6, .int x6), (7, .int x7), (8, .int x8)] → W p l e (headSpec wsX4_divisors ({ frames := 2, cells := 0, slots := 0, locals := 45 } : Room)).room s m (List.toArray [Value.ref (ad 0), Value.int a1, Value.int a2]) below meth c H locs 0 0 (MQ below (va_Qi (fun (r : Int32) (u : mW) => r = r0 ∧ u = w0) (mB dC dI cI cZ cG ad A) A) (List.toArray [Value.ref (ad 0), Value.int a1, Value.int a2]) s 0 0 A) (F0 m 182 ls [.int t2, .int t1, .ref (ad 5)]) := by
            intro x1 x4 x5 x6 x7 x8 t1 t2 w hf H locs ls hP hD hS hl
            unfold mf_divisors_C182 at hf
            refine lv_iconst (v := (0 : Int32)) hx hb dX4_divisors_182 (by decide) ?_
            exact C183 x1 x4 x5 x6 x7 x8 t1 t2 (0 : Int32) w hf _ _ _ hP hD hS (lv_sub hl [0, 1, 2, 3, 4, 5, 6] rfl)
          intro x1 x4 x5 x6 x7 x8 w hf H locs ls hP hD hS hl
          rw [mf_divisors_C134] at hf
          refine lv_iload hx hb dX4_divisors_134 (lv_at hl 6 rfl) ?_
          refine lv_iload_n hx hb dX4_divisors_136 rfl (lv_at hl 1 rfl) ?_
          refine lv_icmp_gt (tgt := 194) hx hb dX4_divisors_137 (by decide) (fun h137 => ?_) (fun h137 => ?_)
          · have hf := if_t h137 hf
            obtain ⟨x5_194, ex5_194, hf⟩ := nm_x hf
            refine lv_iinc (v := x5_194) (lv' := [(5, .int x5_194), (0, .ref (ad 0)), (1, .int x1), (4, .int x4), (6, .int x6), (7, .int x7), (8, .int x8)]) hx hb dX4_divisors_194 hl (k := 3) rfl (by rw [ex5_194]; rfl) (by decide) rfl (fun ls hl => ?_)
            obtain ⟨x6_197, ex6_197, hf⟩ := nm_x hf
            refine lv_iinc (v := x6_197) (lv' := [(6, .int x6_197), (5, .int x5_194), (0, .ref (ad 0)), (1, .int x1), (4, .int x4), (7, .int x7), (8, .int x8)]) hx hb dX4_divisors_197 hl (k := 4) rfl (by rw [ex6_197]; rfl) (by decide) rfl (fun ls hl => ?_)
            refine lv_goto (tgt := 102) hx hb dX4_divisors_200 (by decide) ?_
            exact ih102 x1 x4 x5_194 x6_197 w hf _ _ _ hP hD hS (lv_sub hl [2, 3, 4, 1, 0] rfl)
          · have hf := if_f h137 hf
            refine lv_iload_n hx hb dX4_divisors_140 rfl (lv_at hl 1 rfl) ?_
            refine lv_iload hx hb dX4_divisors_141 (lv_at hl 6 rfl) ?_
            obtain ⟨hg143, hf⟩ := gd_e hf
            refine lv_irem hx hb dX4_divisors_143 hg143 ?_
            refine lv_if_ne (tgt := 188) hx hb dX4_divisors_144 (by decide) (fun h144 => ?_) (fun h144 => ?_)
            · have hf := if_f h144 hf
              obtain ⟨x8_188, ex8_188, hf⟩ := nm_x hf
              refine lv_iinc (v := x8_188) (lv' := [(8, .int x8_188), (0, .ref (ad 0)), (1, .int x1), (4, .int x4), (5, .int x5), (6, .int x6), (7, .int x7)]) hx hb dX4_divisors_188 hl (k := 6) rfl (by rw [ex8_188]; rfl) (by decide) rfl (fun ls hl => ?_)
              refine lv_goto (tgt := 134) hx hb dX4_divisors_191 (by decide) ?_
              exact ih134 x1 x4 x5 x6 x7 x8_188 w hf _ _ _ hP hD hS (lv_sub hl [1, 2, 3, 4, 5, 6, 0] rfl)
            · have hf := if_t h144 hf
              refine lv_aload_n hx hb dX4_divisors_147 rfl (lv_at hl 0 rfl) ?_
              refine va_get (D := (dC, dI)) (ci := 4) (v := .ref (ad 5)) (C := RX4) (T := TX4) (N := 21) hx hb hts inX4 hown hK hP 0 rfl rfl 5 (by decide) (hts (.fieldLink RX4 22 "BittenBoardsModel" "above" "[I") (by decide +kernel)) (fun _ h9 => h9) rfl dX4_divisors_148 ?_
              refine lv_iload hx hb dX4_divisors_151 (lv_at hl 2 rfl) ?_
              refine lv_iload hx hb dX4_divisors_153 (lv_at hl 3 rfl) ?_
              obtain ⟨r_155, hc155, hf⟩ := bn_e hf
              refine m_calli hD hS hAA (va_runS (As := [.int x4, .int x5]) (rest := [.ref (ad 5)]) ⟨hx, hb, hml, hown, hts⟩ (k_mf_placeOf l dC dI cI cZ cG ad H.size w x4 x5 r_155 w hc155 rfl) (va_cwS 2 hts gX4_divisors_X4_placeOf rfl rfl rfl (by decide +kernel) ⟨Nat.le_of_ble_eq_true rfl, Nat.le_of_ble_eq_true rfl⟩) ⟨m_blind, fun U hU hW => m_pre hU hW hK hP hD⟩ rfl rfl hl.1 rfl (lv_room (Nat.le_of_ble_eq_true rfl)) dX4_divisors_155 ⟨Nat.zero_le _, Nat.zero_le _⟩) (fun H locs hP hD hS => ?_)
              refine lv_dup2_11 hx hb dX4_divisors_158 rfl rfl ?_
              obtain ⟨hg159, hf⟩ := gi_e hf
              refine va_iald (f := (w.2 5)) hx hb hK hP 5 0 rfl rfl hg159 dX4_divisors_159 ?_
              refine lv_iload hx hb dX4_divisors_160 (lv_at hl 6 rfl) ?_
              refine lv_iload hx hb dX4_divisors_162 (lv_at hl 4 rfl) ?_
              refine lv_icmp_eq (tgt := 182) hx hb dX4_divisors_164 (by decide) (fun h164 => ?_) (fun h164 => ?_)
              · have hf := if_t h164 hf
                exact C182 x1 x4 x5 x6 x7 x8 r_155 ((w.2 5) r_155.toNatClampNeg) w hf _ _ _ hP hD hS (lv_sub hl [0, 1, 2, 3, 4, 5, 6] rfl)
              · have hf := if_f h164 hf
                refine lv_iload hx hb dX4_divisors_167 (lv_at hl 6 rfl) ?_
                refine lv_iload hx hb dX4_divisors_169 (lv_at hl 4 rfl) ?_
                obtain ⟨hg171, hf⟩ := gd_e hf
                refine lv_irem hx hb dX4_divisors_171 hg171 ?_
                refine lv_if_ne (tgt := 182) hx hb dX4_divisors_172 (by decide) (fun h172 => ?_) (fun h172 => ?_)
                · have hf := if_f h172 hf
                  exact C182 x1 x4 x5 x6 x7 x8 r_155 ((w.2 5) r_155.toNatClampNeg) w hf _ _ _ hP hD hS (lv_sub hl [0, 1, 2, 3, 4, 5, 6] rfl)
                · have hf := if_t h172 hf
                  refine lv_iconst (v := (1 : Int32)) hx hb dX4_divisors_175 (by decide) ?_
                  refine lv_iload hx hb dX4_divisors_176 (lv_at hl 5 rfl) ?_
                  refine lv_ishl hx hb dX4_divisors_178 ?_
                  refine lv_goto (tgt := 183) hx hb dX4_divisors_179 (by decide) ?_
                  exact C183 x1 x4 x5 x6 x7 x8 r_155 ((w.2 5) r_155.toNatClampNeg) ((1 : Int32) <<< (x7 &&& 31)) w hf _ _ _ hP hD hS (lv_sub hl [0, 1, 2, 3, 4, 5, 6] rfl)
      intro x1 x4 x5 x6 w hf H locs ls hP hD hS hl
      rw [mf_divisors_C102] at hf
      refine lv_iload hx hb dX4_divisors_102 (lv_at hl 4 rfl) ?_
      refine lv_iload_n hx hb dX4_divisors_104 rfl (lv_at hl 1 rfl) ?_
      refine lv_icmp_gt (tgt := 203) hx hb dX4_divisors_105 (by decide) (fun h105 => ?_) (fun h105 => ?_)
      · have hf := if_t h105 hf
        refine lv_aload_n hx hb dX4_divisors_203 rfl (lv_at hl 0 rfl) ?_
        refine va_get (D := (dC, dI)) (ci := 4) (v := .ref (ad 3)) (C := RX4) (T := TX4) (N := 21) hx hb hts inX4 hown hK hP 0 rfl rfl 3 (by decide) (hts (.fieldLink RX4 16 "BittenBoardsModel" "states" "[I") (by decide +kernel)) (fun _ h9 => h9) rfl dX4_divisors_204 ?_
        refine lv_iload hx hb dX4_divisors_207 (lv_at hl 2 rfl) ?_
        refine lv_aload_n hx hb dX4_divisors_209 rfl (lv_at hl 0 rfl) ?_
        refine lv_iload hx hb dX4_divisors_210 (lv_at hl 2 rfl) ?_
        obtain ⟨r_212, hc212, hf⟩ := bn_e hf
        refine m_calli hD hS hAA (va_runV (As := [.int x4]) (rest := [.int x4, .ref (ad 3)]) ⟨hx, hb, hml, hown, hts⟩ (k_mf_fullOf l dC dI cI cZ cG ad H.size w x4 r_212 w hc212 rfl) (cwV 1 hts gX4_divisors_X4_fullOf rfl rfl rfl (by decide +kernel) ⟨Nat.le_of_ble_eq_true rfl, Nat.le_of_ble_eq_true rfl⟩) ⟨m_blind, va_recv hK hP (ci := 4) (q0 := 0) rfl rfl, fun U hU hW => m_pre hU hW hK hP hD⟩ rfl rfl hl.1 rfl (lv_room (Nat.le_of_ble_eq_true rfl)) dX4_divisors_212 ⟨Nat.zero_le _, Nat.zero_le _⟩) (fun H locs hP hD hS => ?_)
        obtain ⟨hg215, hf⟩ := gi_e hf
        obtain ⟨w_215, ew_215, hf⟩ := nm_x hf
        refine va_iast (f := (w.2 3)) hx hb hK hP hD hS 3 0 rfl rfl hg215 dX4_divisors_215 (fun H locs hP hD hS => ?_)
        have hP : va_P (dC, dI) vwCl (mc cI cZ ad w_215) H := hP.eqs (by rw [ew_215]; rfl)
        have hD : va_D A (mc cI cZ ad w_215) := hD.eqs (by rw [ew_215]; rfl)
        refine lv_iload hx hb dX4_divisors_216 (lv_at hl 2 rfl) ?_
        exact m_iret hx hb hr hlocks hK hP hD hS (so_2 hf) dX4_divisors_218
      · have hf := if_f h105 hf
        refine lv_iload_n hx hb dX4_divisors_108 rfl (lv_at hl 1 rfl) ?_
        refine lv_iload hx hb dX4_divisors_109 (lv_at hl 4 rfl) ?_
        obtain ⟨hg111, hf⟩ := gd_e hf
        refine lv_irem hx hb dX4_divisors_111 hg111 ?_
        refine lv_if_ne (tgt := 197) hx hb dX4_divisors_112 (by decide) (fun h112 => ?_) (fun h112 => ?_)
        · have hf := if_f h112 hf
          obtain ⟨x6_197, ex6_197, hf⟩ := nm_x hf
          refine lv_iinc (v := x6_197) (lv' := [(6, .int x6_197), (0, .ref (ad 0)), (1, .int x1), (4, .int x4), (5, .int x5)]) hx hb dX4_divisors_197 hl (k := 4) rfl (by rw [ex6_197]; rfl) (by decide) rfl (fun ls hl => ?_)
          refine lv_goto (tgt := 102) hx hb dX4_divisors_200 (by decide) ?_
          exact ih102 x1 x4 x5 x6_197 w hf _ _ _ hP hD hS (lv_sub hl [1, 2, 3, 4, 0] rfl)
        · have hf := if_t h112 hf
          refine lv_iconst (v := (0 : Int32)) hx hb dX4_divisors_115 (by decide) ?_
          refine lv_istore (lv' := [(7, .int (0 : Int32)), (0, .ref (ad 0)), (1, .int x1), (4, .int x4), (5, .int x5), (6, .int x6)]) hx hb dX4_divisors_116 hl (by decide) rfl (fun ls hl => ?_)
          refine lv_aload_n hx hb dX4_divisors_118 rfl (lv_at hl 1 rfl) ?_
          refine va_get (D := (dC, dI)) (ci := 4) (v := .ref (ad 5)) (C := RX4) (T := TX4) (N := 21) hx hb hts inX4 hown hK hP 0 rfl rfl 5 (by decide) (hts (.fieldLink RX4 22 "BittenBoardsModel" "above" "[I") (by decide +kernel)) (fun _ h9 => h9) rfl dX4_divisors_119 ?_
          refine lv_iload hx hb dX4_divisors_122 (lv_at hl 3 rfl) ?_
          refine lv_iload hx hb dX4_divisors_124 (lv_at hl 4 rfl) ?_
          obtain ⟨r_126, hc126, hf⟩ := bn_e hf
          refine m_calli hD hS hAA (va_runS (As := [.int x4, .int x5]) (rest := [.ref (ad 5)]) ⟨hx, hb, hml, hown, hts⟩ (k_mf_placeOf l dC dI cI cZ cG ad H.size w x4 x5 r_126 w hc126 rfl) (va_cwS 2 hts gX4_divisors_X4_placeOf rfl rfl rfl (by decide +kernel) ⟨Nat.le_of_ble_eq_true rfl, Nat.le_of_ble_eq_true rfl⟩) ⟨m_blind, fun U hU hW => m_pre hU hW hK hP hD⟩ rfl rfl hl.1 rfl (lv_room (Nat.le_of_ble_eq_true rfl)) dX4_divisors_126 ⟨Nat.zero_le _, Nat.zero_le _⟩) (fun H locs hP hD hS => ?_)
          refine lv_iconst (v := (0 : Int32)) hx hb dX4_divisors_129 (by decide) ?_
          obtain ⟨hg130, hf⟩ := gi_e hf
          obtain ⟨w_130, ew_130, hf⟩ := nm_x hf
          refine va_iast (f := (w.2 5)) hx hb hK hP hD hS 5 0 rfl rfl hg130 dX4_divisors_130 (fun H locs hP hD hS => ?_)
          have hP : va_P (dC, dI) vwCl (mc cI cZ ad w_130) H := hP.eqs (by rw [ew_130]; rfl)
          have hD : va_D A (mc cI cZ ad w_130) := hD.eqs (by rw [ew_130]; rfl)
          refine lv_iconst (v := (1 : Int32)) hx hb dX4_divisors_131 (by decide) ?_
          refine lv_istore (lv' := [(8, .int (1 : Int32)), (7, .int (0 : Int32)), (0, .ref (ad 0)), (1, .int x1), (4, .int x4), (5, .int x5), (6, .int x6)]) hx hb dX4_divisors_132 hl (by decide) rfl (fun ls hl => ?_)
          exact C134 fu x1 x4 x5 x6 (0 : Int32) (1 : Int32) w_130 hf _ _ _ hP hD hS (lv_sub hl [2, 3, 4, 5, 6, 1, 0] rfl)
  have C44 : ∀ (x1 : Int32) (x2 : Int32) (x3 : Int32) (w : mW), mf_divisors_C44 x1 x2 x3 w = some (r0, w0) → ∀ (H : Heap) (locs : List Loc) (ls : Array Slot), va_P (dC, dI) vwCl (mc cI cZ ad w) H → va_D A (mc cI cZ ad w) → va_S A s.heap H locs → lv_has ls 9 [(0, .ref (ad 0)), (1, .int x1), (2, .int x2), (3, .int x3)] → W p l e (headSpec wsX4_divisors ({ frames := 2, cells := 0, slots := 0, locals := 45 } : Room)).room s m (List.toArray [Value.ref (ad 0), Value.int a1, Value.int a2]) below meth c H locs 0 0 (MQ below (va_Qi (fun (r : Int32) (u : mW) => r = r0 ∧ u = w0) (mB dC dI cI cZ cG ad A) A) (List.toArray [Value.ref (ad 0), Value.int a1, Value.int a2]) s 0 0 A) (F0 m 44 ls []) := by
    intro x1 x2 x3 w hf H locs ls hP hD hS hl
    unfold mf_divisors_C44 at hf
    refine lv_iload_n hx hb dX4_divisors_44 rfl (lv_at hl 3 rfl) ?_
    refine lv_i2l hx hb dX4_divisors_45 rfl ?_
    refine lv_lconst (v := (1 : Int64)) hx hb dX4_divisors_46 (by decide) ?_
    refine lv_ldc2 (v := (12 : Int64)) hx hb hown (hts (.constantLong RX4 126 (12 : Int64)) (by decide +kernel)) dX4_divisors_47 ?_
    obtain ⟨r_50, hc50, hf⟩ := bn_e hf
    refine m_calli hD hS hAA (va_runS (As := [.long (x3.toInt64), .long (1 : Int64), .long (12 : Int64)]) (rest := []) ⟨hx, hb, hml, hown, hts⟩ (k_mf_in l dC dI cI cZ cG ad H.size w (x3.toInt64) (1 : Int64) (12 : Int64) r_50 w hc50 rfl) (va_cwS 3 hts gX4_divisors_X4_in rfl rfl rfl (by decide +kernel) ⟨Nat.le_of_ble_eq_true rfl, Nat.le_of_ble_eq_true rfl⟩) ⟨m_blind, fun U hU hW => m_pre hU hW hK hP hD⟩ rfl rfl hl.1 rfl (lv_room (Nat.le_of_ble_eq_true rfl)) dX4_divisors_50 ⟨Nat.zero_le _, Nat.zero_le _⟩) (fun H locs hP hD hS => ?_)
    refine lv_if_eq (tgt := 63) hx hb dX4_divisors_53 (by decide) (fun h53 => ?_) (fun h53 => ?_)
    · have hf := if_t h53 hf
      refine lv_sipush (v := (-1002 : Int32)) hx hb dX4_divisors_63 (by decide) ?_
      exact m_iret hx hb hr hlocks hK hP hD hS (so_2 hf) dX4_divisors_66
    · have hf := if_f h53 hf
      refine lv_iload_n hx hb dX4_divisors_56 rfl (lv_at hl 2 rfl) ?_
      obtain ⟨r_57, hc57, hf⟩ := bn_e hf
      refine m_calli hD hS hAA (va_runS (As := [.int x2]) (rest := []) ⟨hx, hb, hml, hown, hts⟩ (k_mf_isRule l dC dI cI cZ cG ad H.size w x2 r_57 w hc57 rfl) (va_cwS 1 hts gX4_divisors_X4_isRule rfl rfl rfl (by decide +kernel) ⟨Nat.le_of_ble_eq_true rfl, Nat.le_of_ble_eq_true rfl⟩) ⟨m_blind, fun U hU hW => m_pre hU hW hK hP hD⟩ rfl rfl hl.1 rfl (lv_room (Nat.le_of_ble_eq_true rfl)) dX4_divisors_57 ⟨Nat.zero_le _, Nat.zero_le _⟩) (fun H locs hP hD hS => ?_)
      refine lv_if_ne (tgt := 67) hx hb dX4_divisors_60 (by decide) (fun h60 => ?_) (fun h60 => ?_)
      · have hf := if_f h60 hf
        refine lv_aload_n hx hb dX4_divisors_67 rfl (lv_at hl 0 rfl) ?_
        refine va_get (D := (dC, dI)) (ci := 4) (v := .int (w.1 0)) (C := RX4) (T := TX4) (N := 21) hx hb hts inX4 hown hK hP 0 rfl rfl 0 (by decide) (hts (.fieldLink RX4 108 "BittenBoardsModel" "games" "I") (by decide +kernel)) (fun _ h9 => h9) rfl dX4_divisors_68 ?_
        refine lv_bipush (v := (6 : Int32)) hx hb dX4_divisors_71 (by decide) ?_
        refine lv_icmp_ne (tgt := 80) hx hb dX4_divisors_73 (by decide) (fun h73 => ?_) (fun h73 => ?_)
        · have hf := if_f h73 hf
          refine lv_aload_n hx hb dX4_divisors_80 rfl (lv_at hl 0 rfl) ?_
          refine lv_iconst (v := (1 : Int32)) hx hb dX4_divisors_81 (by decide) ?_
          refine lv_iload_n hx hb dX4_divisors_82 rfl (lv_at hl 2 rfl) ?_
          obtain ⟨r_83, w_83, hc83, hf⟩ := bn2_e hf
          refine m_calli hD hS hAA (va_runV (As := [.int (1 : Int32), .int x2]) (rest := []) ⟨hx, hb, hml, hown, hts⟩ (k_mf_fresh l dC dI cI cZ cG ad H.size w (1 : Int32) x2 r_83 w_83 hc83) (cwV 2 hts gX4_divisors_X4_fresh rfl rfl rfl (by decide +kernel) ⟨Nat.le_of_ble_eq_true rfl, Nat.le_of_ble_eq_true rfl⟩) ⟨m_blind, va_recv hK hP (ci := 4) (q0 := 0) rfl rfl, fun U hU hW => m_pre hU hW hK hP hD⟩ rfl rfl hl.1 rfl (lv_room (Nat.le_of_ble_eq_true rfl)) dX4_divisors_83 ⟨Nat.zero_le _, Nat.zero_le _⟩) (fun H locs hP hD hS => ?_)
          refine lv_istore (lv' := [(4, .int r_83), (0, .ref (ad 0)), (1, .int x1), (2, .int x2), (3, .int x3)]) hx hb dX4_divisors_86 hl (by decide) rfl (fun ls hl => ?_)
          refine lv_aload_n hx hb dX4_divisors_88 rfl (lv_at hl 1 rfl) ?_
          refine va_get (D := (dC, dI)) (ci := 4) (v := .ref (ad 4)) (C := RX4) (T := TX4) (N := 21) hx hb hts inX4 hown hK hP 0 rfl rfl 4 (by decide) (hts (.fieldLink RX4 19 "BittenBoardsModel" "things" "[I") (by decide +kernel)) (fun _ h9 => h9) rfl dX4_divisors_89 ?_
          refine lv_iload hx hb dX4_divisors_92 (lv_at hl 0 rfl) ?_
          refine lv_iload_n hx hb dX4_divisors_94 rfl (lv_at hl 4 rfl) ?_
          obtain ⟨hg95, hf⟩ := gi_e hf
          obtain ⟨w_95, ew_95, hf⟩ := nm_x hf
          refine va_iast (f := (w_83.2 4)) hx hb hK hP hD hS 4 0 rfl rfl hg95 dX4_divisors_95 (fun H locs hP hD hS => ?_)
          have hP : va_P (dC, dI) vwCl (mc cI cZ ad w_95) H := hP.eqs (by rw [ew_95]; rfl)
          have hD : va_D A (mc cI cZ ad w_95) := hD.eqs (by rw [ew_95]; rfl)
          refine lv_iconst (v := (0 : Int32)) hx hb dX4_divisors_96 (by decide) ?_
          refine lv_istore (lv' := [(5, .int (0 : Int32)), (4, .int r_83), (0, .ref (ad 0)), (1, .int x1), (2, .int x2), (3, .int x3)]) hx hb dX4_divisors_97 hl (by decide) rfl (fun ls hl => ?_)
          refine lv_iconst (v := (1 : Int32)) hx hb dX4_divisors_99 (by decide) ?_
          refine lv_istore (lv' := [(6, .int (1 : Int32)), (5, .int (0 : Int32)), (4, .int r_83), (0, .ref (ad 0)), (1, .int x1), (2, .int x2), (3, .int x3)]) hx hb dX4_divisors_100 hl (by decide) rfl (fun ls hl => ?_)
          exact C102 fu x1 r_83 (0 : Int32) (1 : Int32) w_95 hf _ _ _ hP hD hS (lv_sub hl [3, 4, 2, 1, 0] rfl)
        · have hf := if_t h73 hf
          refine lv_sipush (v := (-1004 : Int32)) hx hb dX4_divisors_76 (by decide) ?_
          exact m_iret hx hb hr hlocks hK hP hD hS (so_2 hf) dX4_divisors_79
      · have hf := if_t h60 hf
        refine lv_sipush (v := (-1002 : Int32)) hx hb dX4_divisors_63 (by decide) ?_
        exact m_iret hx hb hr hlocks hK hP hD hS (so_2 hf) dX4_divisors_66
  have C5 : ∀ (n5 : Nat) (x1 : Int32) (x2 : Int32) (x3 : Int32) (x4 : Int32) (w : mW), mf_divisors_C5 n5 x1 x2 x3 x4 w = some (r0, w0) → ∀ (H : Heap) (locs : List Loc) (ls : Array Slot), va_P (dC, dI) vwCl (mc cI cZ ad w) H → va_D A (mc cI cZ ad w) → va_S A s.heap H locs → lv_has ls 9 [(0, .ref (ad 0)), (1, .int x1), (2, .int x2), (3, .int x3), (4, .int x4)] → W p l e (headSpec wsX4_divisors ({ frames := 2, cells := 0, slots := 0, locals := 45 } : Room)).room s m (List.toArray [Value.ref (ad 0), Value.int a1, Value.int a2]) below meth c H locs 0 0 (MQ below (va_Qi (fun (r : Int32) (u : mW) => r = r0 ∧ u = w0) (mB dC dI cI cZ cG ad A) A) (List.toArray [Value.ref (ad 0), Value.int a1, Value.int a2]) s 0 0 A) (F0 m 5 ls []) := by
    intro n5
    induction n5 with
    | zero => intro x1 x2 x3 x4 w hf; cases hf
    | succ n5 ih5 =>
      intro x1 x2 x3 x4 w hf H locs ls hP hD hS hl
      rw [mf_divisors_C5] at hf
      refine lv_iload hx hb dX4_divisors_5 (lv_at hl 4 rfl) ?_
      refine lv_iload_n hx hb dX4_divisors_7 rfl (lv_at hl 1 rfl) ?_
      refine lv_icmp_gt (tgt := 44) hx hb dX4_divisors_8 (by decide) (fun h8 => ?_) (fun h8 => ?_)
      · have hf := if_t h8 hf
        exact C44 x1 x2 x3 w hf _ _ _ hP hD hS (lv_sub hl [0, 1, 2, 3] rfl)
      · have hf := if_f h8 hf
        refine lv_iload_n hx hb dX4_divisors_11 rfl (lv_at hl 1 rfl) ?_
        refine lv_i2l hx hb dX4_divisors_12 rfl ?_
        refine lv_lconst (v := (1 : Int64)) hx hb dX4_divisors_13 (by decide) ?_
        refine lv_ldc2 (v := (10000 : Int64)) hx hb hown (hts (.constantLong RX4 124 (10000 : Int64)) (by decide +kernel)) dX4_divisors_14 ?_
        obtain ⟨r_17, hc17, hf⟩ := bn_e hf
        refine m_calli hD hS hAA (va_runS (As := [.long (x1.toInt64), .long (1 : Int64), .long (10000 : Int64)]) (rest := []) ⟨hx, hb, hml, hown, hts⟩ (k_mf_in l dC dI cI cZ cG ad H.size w (x1.toInt64) (1 : Int64) (10000 : Int64) r_17 w hc17 rfl) (va_cwS 3 hts gX4_divisors_X4_in rfl rfl rfl (by decide +kernel) ⟨Nat.le_of_ble_eq_true rfl, Nat.le_of_ble_eq_true rfl⟩) ⟨m_blind, fun U hU hW => m_pre hU hW hK hP hD⟩ rfl rfl hl.1 rfl (lv_room (Nat.le_of_ble_eq_true rfl)) dX4_divisors_17 ⟨Nat.zero_le _, Nat.zero_le _⟩) (fun H locs hP hD hS => ?_)
        refine lv_if_eq (tgt := 44) hx hb dX4_divisors_20 (by decide) (fun h20 => ?_) (fun h20 => ?_)
        · have hf := if_t h20 hf
          exact C44 x1 x2 x3 w hf _ _ _ hP hD hS (lv_sub hl [0, 1, 2, 3] rfl)
        · have hf := if_f h20 hf
          refine lv_iload_n hx hb dX4_divisors_23 rfl (lv_at hl 3 rfl) ?_
          refine lv_iload_n hx hb dX4_divisors_24 rfl (lv_at hl 1 rfl) ?_
          refine lv_iload hx hb dX4_divisors_25 (lv_at hl 4 rfl) ?_
          obtain ⟨hg27, hf⟩ := gd_e hf
          refine lv_irem hx hb dX4_divisors_27 hg27 ?_
          refine lv_if_ne (tgt := 35) hx hb dX4_divisors_28 (by decide) (fun h28 => ?_) (fun h28 => ?_)
          · have hf := if_f h28 hf
            refine lv_iconst (v := (0 : Int32)) hx hb dX4_divisors_35 (by decide) ?_
            refine lv_iadd hx hb dX4_divisors_36 ?_
            obtain ⟨x3_37, ex3_37, hf⟩ := nm_x hf
            refine W.eq (g2 := F0 m 37 ls [.int x3_37]) (by rw [ex3_37]) ?_
            refine lv_istore_n (lv' := [(3, .int x3_37), (0, .ref (ad 0)), (1, .int x1), (2, .int x2), (4, .int x4)]) hx hb dX4_divisors_37 rfl hl (by decide) rfl (fun ls hl => ?_)
            obtain ⟨x4_38, ex4_38, hf⟩ := nm_x hf
            refine lv_iinc (v := x4_38) (lv' := [(4, .int x4_38), (3, .int x3_37), (0, .ref (ad 0)), (1, .int x1), (2, .int x2)]) hx hb dX4_divisors_38 hl (k := 4) rfl (by rw [ex4_38]; rfl) (by decide) rfl (fun ls hl => ?_)
            refine lv_goto (tgt := 5) hx hb dX4_divisors_41 (by decide) ?_
            exact ih5 x1 x2 x3_37 x4_38 w hf _ _ _ hP hD hS (lv_sub hl [2, 3, 4, 1, 0] rfl)
          · have hf := if_t h28 hf
            refine lv_iconst (v := (1 : Int32)) hx hb dX4_divisors_31 (by decide) ?_
            refine lv_goto (tgt := 36) hx hb dX4_divisors_32 (by decide) ?_
            refine lv_iadd hx hb dX4_divisors_36 ?_
            obtain ⟨x3_37, ex3_37, hf⟩ := nm_x hf
            refine W.eq (g2 := F0 m 37 ls [.int x3_37]) (by rw [ex3_37]) ?_
            refine lv_istore_n (lv' := [(3, .int x3_37), (0, .ref (ad 0)), (1, .int x1), (2, .int x2), (4, .int x4)]) hx hb dX4_divisors_37 rfl hl (by decide) rfl (fun ls hl => ?_)
            obtain ⟨x4_38, ex4_38, hf⟩ := nm_x hf
            refine lv_iinc (v := x4_38) (lv' := [(4, .int x4_38), (3, .int x3_37), (0, .ref (ad 0)), (1, .int x1), (2, .int x2)]) hx hb dX4_divisors_38 hl (k := 4) rfl (by rw [ex4_38]; rfl) (by decide) rfl (fun ls hl => ?_)
            refine lv_goto (tgt := 5) hx hb dX4_divisors_41 (by decide) ?_
            exact ih5 x1 x2 x3_37 x4_38 w hf _ _ _ hP hD hS (lv_sub hl [2, 3, 4, 1, 0] rfl)
  have hl := lv_entry ([.ref (ad 0), .int a1, .int a2]) (n := 9) (Nat.le_of_ble_eq_true rfl)
  rw [lg_entry_eq]
  generalize (lg_sl ([.ref (ad 0), .int a1, .int a2]) ++ List.replicate (9 - (lg_sl ([.ref (ad 0), .int a1, .int a2])).length) Slot.unset).toArray = ls at hl ⊢
  have hl : lv_has ls 9 [(0, .ref (ad 0)), (1, .int a1), (2, .int a2)] := hl
  unfold mf_divisors at hf
  refine lv_iconst (v := (0 : Int32)) hx hb dX4_divisors_0 (by decide) ?_
  refine lv_istore_n (lv' := [(3, .int (0 : Int32)), (0, .ref (ad 0)), (1, .int a1), (2, .int a2)]) hx hb dX4_divisors_1 rfl hl (by decide) rfl (fun ls hl => ?_)
  refine lv_iconst (v := (1 : Int32)) hx hb dX4_divisors_2 (by decide) ?_
  refine lv_istore (lv' := [(4, .int (1 : Int32)), (3, .int (0 : Int32)), (0, .ref (ad 0)), (1, .int a1), (2, .int a2)]) hx hb dX4_divisors_3 hl (by decide) rfl (fun ls hl => ?_)
  exact C5 fu a1 a2 (0 : Int32) (1 : Int32) w hf _ _ _ hP hD hS (lv_sub hl [2, 3, 4, 1, 0] rfl)
set_option maxHeartbeats 4000000 in
set_option maxRecDepth 100000 in
theorem k_mf_net (l : Launch) (dC : Nat → ClassId) (dI : Nat → Nat → Nat) (cI cZ cG : ClassId) (ad : Nat → Nat) (sz : Nat) (w : mW) (a1 : Int32) (r0 : Int32) (w0 : mW) (hf : mf_net a1 w = some (r0, w0)) : Met l yX4_net wsX4_net ({ frames := 2, cells := 0, slots := 0, locals := 45 } : Room) (va_Pc [.ref (ad 0), .int a1] (mPre dC dI cI cZ cG ad sz w)) (va_Qi (fun (r : Int32) (u : mW) => r = r0 ∧ u = w0) (mB dC dI cI cZ cG ad (mA ad sz)) (mA ad sz)) 0 0 (mA ad sz) := by
  refine Met.ofW (cc := cX4_net) (maxL := 2) (ret := (some .int)) (by decide) rfl ?_
  intro p e s m args below meth c s₁ B hml hv
  obtain ⟨rfl, hsz, hP, hK, hD0⟩ := hv
  have hx := B.exec
  have hb := B.bytes
  have hr := B.returns
  have hts := atoms_spec (ws := wsX4_net) B.pre
  have hown : s.vm.findClass RX4 = some m.cls := findClass_of_methodNamed B.named
  have hlocks := B.notSynchronized
  have inX4 : ∀ w ∈ u_ws RX4 TX4 21, w ∈ wsX4_net := by decide +kernel
  subst hsz
  have hD : va_D (mA ad s.heap.size) (mc cI cZ ad w) := mD_self hD0
  have hAA : ∀ z q, s.heap.size ≤ z → mA ad z q → mA ad s.heap.size q := mA_mono
  generalize mA ad s.heap.size = A at hD hAA ⊢
  have hS : va_S A s.heap s.heap [] := va_S.rf
  have hl := lv_entry ([.ref (ad 0), .int a1]) (n := 2) (Nat.le_of_ble_eq_true rfl)
  rw [lg_entry_eq]
  generalize (lg_sl ([.ref (ad 0), .int a1]) ++ List.replicate (2 - (lg_sl ([.ref (ad 0), .int a1])).length) Slot.unset).toArray = ls at hl ⊢
  have hl : lv_has ls 2 [(0, .ref (ad 0)), (1, .int a1)] := hl
  unfold mf_net at hf
  refine lv_iload_n hx hb dX4_net_0 rfl (lv_at hl 1 rfl) ?_
  obtain ⟨r_1, hc1, hf⟩ := bn_e hf
  refine m_calli hD hS hAA (va_runS (As := [.int a1]) (rest := []) ⟨hx, hb, hml, hown, hts⟩ (k_mf_isRule l dC dI cI cZ cG ad s.heap.size w a1 r_1 w hc1 rfl) (va_cwS 1 hts gX4_net_X4_isRule rfl rfl rfl (by decide +kernel) ⟨Nat.le_of_ble_eq_true rfl, Nat.le_of_ble_eq_true rfl⟩) ⟨m_blind, fun U hU hW => m_pre hU hW hK hP hD⟩ rfl rfl hl.1 rfl (lv_room (Nat.le_of_ble_eq_true rfl)) dX4_net_1 ⟨Nat.zero_le _, Nat.zero_le _⟩) (fun H locs hP hD hS => ?_)
  refine lv_if_ne (tgt := 13) hx hb dX4_net_4 (by decide) (fun h4 => ?_) (fun h4 => ?_)
  · have hf := if_f h4 hf
    refine lv_aload_n hx hb dX4_net_13 rfl (lv_at hl 0 rfl) ?_
    refine va_get (D := (dC, dI)) (ci := 4) (v := .int (w.1 0)) (C := RX4) (T := TX4) (N := 21) hx hb hts inX4 hown hK hP 0 rfl rfl 0 (by decide) (hts (.fieldLink RX4 108 "BittenBoardsModel" "games" "I") (by decide +kernel)) (fun _ h9 => h9) rfl dX4_net_14 ?_
    refine lv_bipush (v := (6 : Int32)) hx hb dX4_net_17 (by decide) ?_
    refine lv_icmp_ne (tgt := 28) hx hb dX4_net_19 (by decide) (fun h19 => ?_) (fun h19 => ?_)
    · have hf := if_f h19 hf
      refine lv_aload_n hx hb dX4_net_28 rfl (lv_at hl 0 rfl) ?_
      refine lv_iconst (v := (2 : Int32)) hx hb dX4_net_29 (by decide) ?_
      refine lv_iload_n hx hb dX4_net_30 rfl (lv_at hl 1 rfl) ?_
      obtain ⟨r_31, w_31, hc31, hf⟩ := bn2_e hf
      refine m_calli hD hS hAA (va_runV (As := [.int (2 : Int32), .int a1]) (rest := []) ⟨hx, hb, hml, hown, hts⟩ (k_mf_fresh l dC dI cI cZ cG ad H.size w (2 : Int32) a1 r_31 w_31 hc31) (cwV 2 hts gX4_net_X4_fresh rfl rfl rfl (by decide +kernel) ⟨Nat.le_of_ble_eq_true rfl, Nat.le_of_ble_eq_true rfl⟩) ⟨m_blind, va_recv hK hP (ci := 4) (q0 := 0) rfl rfl, fun U hU hW => m_pre hU hW hK hP hD⟩ rfl rfl hl.1 rfl (lv_room (Nat.le_of_ble_eq_true rfl)) dX4_net_31 ⟨Nat.zero_le _, Nat.zero_le _⟩) (fun H locs hP hD hS => ?_)
      exact m_iret hx hb hr hlocks hK hP hD hS (so_2 hf) dX4_net_34
    · have hf := if_t h19 hf
      refine lv_sipush (v := (-1004 : Int32)) hx hb dX4_net_22 (by decide) ?_
      refine lv_goto (tgt := 34) hx hb dX4_net_25 (by decide) ?_
      exact m_iret hx hb hr hlocks hK hP hD hS (so_2 hf) dX4_net_34
  · have hf := if_t h4 hf
    refine lv_sipush (v := (-1002 : Int32)) hx hb dX4_net_7 (by decide) ?_
    refine lv_goto (tgt := 34) hx hb dX4_net_10 (by decide) ?_
    exact m_iret hx hb hr hlocks hK hP hD hS (so_2 hf) dX4_net_34
set_option maxHeartbeats 4000000 in
set_option maxRecDepth 100000 in
theorem k_mf_clear (l : Launch) (dC : Nat → ClassId) (dI : Nat → Nat → Nat) (cI cZ cG : ClassId) (ad : Nat → Nat) (sz : Nat) (w : mW) (r0 : Int32) (w0 : mW) (hf : mf_clear w = some (r0, w0)) : Met l yX4_clear wsX4_clear ({ frames := 0, cells := 0, slots := 0, locals := 0 } : Room) (va_Pc [.ref (ad 0)] (mPre dC dI cI cZ cG ad sz w)) (va_Qi (fun (r : Int32) (u : mW) => r = r0 ∧ u = w0) (mB dC dI cI cZ cG ad (mA ad sz)) (mA ad sz)) 0 0 (mA ad sz) := by
  refine Met.ofW (cc := cX4_clear) (maxL := 2) (ret := (some .int)) (by decide) rfl ?_
  intro p e s m args below meth c s₁ B hml hv
  obtain ⟨rfl, hsz, hP, hK, hD0⟩ := hv
  have hx := B.exec
  have hb := B.bytes
  have hr := B.returns
  have hts := atoms_spec (ws := wsX4_clear) B.pre
  have hown : s.vm.findClass RX4 = some m.cls := findClass_of_methodNamed B.named
  have hlocks := B.notSynchronized
  have inX4 : ∀ w ∈ u_ws RX4 TX4 21, w ∈ wsX4_clear := by decide +kernel
  subst hsz
  have hD : va_D (mA ad s.heap.size) (mc cI cZ ad w) := mD_self hD0
  have hAA : ∀ z q, s.heap.size ≤ z → mA ad z q → mA ad s.heap.size q := mA_mono
  generalize mA ad s.heap.size = A at hD hAA ⊢
  have hS : va_S A s.heap s.heap [] := va_S.rf
  have hl := lv_entry ([.ref (ad 0)]) (n := 2) (Nat.le_of_ble_eq_true rfl)
  rw [lg_entry_eq]
  generalize (lg_sl ([.ref (ad 0)]) ++ List.replicate (2 - (lg_sl ([.ref (ad 0)])).length) Slot.unset).toArray = ls at hl ⊢
  have hl : lv_has ls 2 [(0, .ref (ad 0))] := hl
  unfold mf_clear at hf
  refine lv_aload_n hx hb dX4_clear_0 rfl (lv_at hl 0 rfl) ?_
  refine va_get (D := (dC, dI)) (ci := 4) (v := .int (w.1 0)) (C := RX4) (T := TX4) (N := 21) hx hb hts inX4 hown hK hP 0 rfl rfl 0 (by decide) (hts (.fieldLink RX4 108 "BittenBoardsModel" "games" "I") (by decide +kernel)) (fun _ h9 => h9) rfl dX4_clear_1 ?_
  obtain ⟨x1_4, ex1_4, hf⟩ := nm_x hf
  refine W.eq (g2 := F0 m 4 ls [.int x1_4]) (by rw [ex1_4]) ?_
  refine lv_istore_n (lv' := [(1, .int x1_4), (0, .ref (ad 0))]) hx hb dX4_clear_4 rfl hl (by decide) rfl (fun ls hl => ?_)
  refine lv_aload_n hx hb dX4_clear_5 rfl (lv_at hl 1 rfl) ?_
  refine lv_iconst (v := (0 : Int32)) hx hb dX4_clear_6 (by decide) ?_
  obtain ⟨w_7, ew_7, hf⟩ := nm_x hf
  refine va_put (D := (dC, dI)) (ci := 4) (v := .int (0 : Int32)) (ty := .int) (C := RX4) (T := TX4) (N := 21) hx hb hts inX4 tyX4 tyX4_ok nmX4 hown hK hP hD hS 0 rfl rfl 0 (by decide) (hts (.fieldLink RX4 108 "BittenBoardsModel" "games" "I") (by decide +kernel)) (fun _ h9 => h9) rfl (by decide +kernel) rfl rfl (Nat.le_of_ble_eq_true rfl) dX4_clear_7 (fun H locs hP hD hS => ?_)
  have hP : va_P (dC, dI) vwCl (mc cI cZ ad w_7) H := hP.eqs (by rw [ew_7]; rfl)
  have hD : va_D A (mc cI cZ ad w_7) := hD.eqs (by rw [ew_7]; rfl)
  refine lv_aload_n hx hb dX4_clear_10 rfl (lv_at hl 1 rfl) ?_
  refine lv_iconst (v := (-1 : Int32)) hx hb dX4_clear_11 (by decide) ?_
  obtain ⟨w_12, ew_12, hf⟩ := nm_x hf
  refine va_put (D := (dC, dI)) (ci := 4) (v := .int (-1 : Int32)) (ty := .int) (C := RX4) (T := TX4) (N := 21) hx hb hts inX4 tyX4 tyX4_ok nmX4 hown hK hP hD hS 0 rfl rfl 12 (by decide) (hts (.fieldLink RX4 43 "BittenBoardsModel" "solved" "I") (by decide +kernel)) (fun _ h9 => h9) rfl (by decide +kernel) rfl rfl (Nat.le_of_ble_eq_true rfl) dX4_clear_12 (fun H locs hP hD hS => ?_)
  have hP : va_P (dC, dI) vwCl (mc cI cZ ad w_12) H := hP.eqs (by rw [ew_12]; rfl)
  have hD : va_D A (mc cI cZ ad w_12) := hD.eqs (by rw [ew_12]; rfl)
  refine lv_iload_n hx hb dX4_clear_15 rfl (lv_at hl 0 rfl) ?_
  exact m_iret hx hb hr hlocks hK hP hD hS (so_2 hf) dX4_clear_16
set_option maxHeartbeats 4000000 in
set_option maxRecDepth 100000 in
theorem k_mf_isGame (l : Launch) (dC : Nat → ClassId) (dI : Nat → Nat → Nat) (cI cZ cG : ClassId) (ad : Nat → Nat) (sz : Nat) (w : mW) (a1 : Int32) (r0 : Int32) (w0 : mW) (hf : mf_isGame a1 w = some r0) (hw0 : w = w0) : Met l yX4_isGame wsX4_isGame ({ frames := 1, cells := 0, slots := 0, locals := 25 } : Room) (va_Pc [.ref (ad 0), .int a1] (mPre dC dI cI cZ cG ad sz w)) (va_Qi (fun (r : Int32) (u : mW) => r = r0 ∧ u = w0) (mB dC dI cI cZ cG ad (mA ad sz)) (mA ad sz)) 0 0 (mA ad sz) := by
  refine Met.ofW (cc := cX4_isGame) (maxL := 2) (ret := (some .boolean)) (by decide) rfl ?_
  intro p e s m args below meth c s₁ B hml hv
  obtain ⟨rfl, hsz, hP, hK, hD0⟩ := hv
  have hx := B.exec
  have hb := B.bytes
  have hr := B.returns
  have hts := atoms_spec (ws := wsX4_isGame) B.pre
  have hown : s.vm.findClass RX4 = some m.cls := findClass_of_methodNamed B.named
  have hlocks := B.notSynchronized
  have inX4 : ∀ w ∈ u_ws RX4 TX4 21, w ∈ wsX4_isGame := by decide +kernel
  subst hsz
  have hD : va_D (mA ad s.heap.size) (mc cI cZ ad w) := mD_self hD0
  have hAA : ∀ z q, s.heap.size ≤ z → mA ad z q → mA ad s.heap.size q := mA_mono
  generalize mA ad s.heap.size = A at hD hAA ⊢
  have hS : va_S A s.heap s.heap [] := va_S.rf
  have hl := lv_entry ([.ref (ad 0), .int a1]) (n := 2) (Nat.le_of_ble_eq_true rfl)
  rw [lg_entry_eq]
  generalize (lg_sl ([.ref (ad 0), .int a1]) ++ List.replicate (2 - (lg_sl ([.ref (ad 0), .int a1])).length) Slot.unset).toArray = ls at hl ⊢
  have hl : lv_has ls 2 [(0, .ref (ad 0)), (1, .int a1)] := hl
  unfold mf_isGame at hf
  refine lv_iload_n hx hb dX4_isGame_0 rfl (lv_at hl 1 rfl) ?_
  refine lv_i2l hx hb dX4_isGame_1 rfl ?_
  refine lv_lconst (v := (0 : Int64)) hx hb dX4_isGame_2 (by decide) ?_
  refine lv_aload_n hx hb dX4_isGame_3 rfl (lv_at hl 0 rfl) ?_
  refine va_get (D := (dC, dI)) (ci := 4) (v := .int (w.1 0)) (C := RX4) (T := TX4) (N := 21) hx hb hts inX4 hown hK hP 0 rfl rfl 0 (by decide) (hts (.fieldLink RX4 108 "BittenBoardsModel" "games" "I") (by decide +kernel)) (fun _ h9 => h9) rfl dX4_isGame_4 ?_
  refine lv_iconst (v := (1 : Int32)) hx hb dX4_isGame_7 (by decide) ?_
  refine lv_isub hx hb dX4_isGame_8 ?_
  refine lv_i2l hx hb dX4_isGame_9 rfl ?_
  obtain ⟨r_10, hc10, hf⟩ := bn_e hf
  refine m_calli hD hS hAA (va_runS (As := [.long (a1.toInt64), .long (0 : Int64), .long (((w.1 0) - (1 : Int32)).toInt64)]) (rest := []) ⟨hx, hb, hml, hown, hts⟩ (k_mf_in l dC dI cI cZ cG ad s.heap.size w (a1.toInt64) (0 : Int64) (((w.1 0) - (1 : Int32)).toInt64) r_10 w hc10 rfl) (va_cwS 3 hts gX4_isGame_X4_in rfl rfl rfl (by decide +kernel) ⟨Nat.le_of_ble_eq_true rfl, Nat.le_of_ble_eq_true rfl⟩) ⟨m_blind, fun U hU hW => m_pre hU hW hK hP hD⟩ rfl rfl hl.1 rfl (lv_room (Nat.le_of_ble_eq_true rfl)) dX4_isGame_10 ⟨Nat.zero_le _, Nat.zero_le _⟩) (fun H locs hP hD hS => ?_)
  obtain ⟨hg13, hf⟩ := gd_e hf
  exact m_zret hx hb hr hlocks hg13 hK hP hD hS ⟨so_1 hf, hw0⟩ dX4_isGame_13
set_option maxHeartbeats 4000000 in
set_option maxRecDepth 100000 in
theorem k_mf_isOf (l : Launch) (dC : Nat → ClassId) (dI : Nat → Nat → Nat) (cI cZ cG : ClassId) (ad : Nat → Nat) (sz : Nat) (w : mW) (a1 : Int32) (a2 : Int32) (r0 : Int32) (w0 : mW) (hf : mf_isOf a1 a2 w = some r0) (hw0 : w = w0) : Met l yX4_isOf wsX4_isOf ({ frames := 2, cells := 0, slots := 0, locals := 46 } : Room) (va_Pc [.ref (ad 0), .int a1, .int a2] (mPre dC dI cI cZ cG ad sz w)) (va_Qi (fun (r : Int32) (u : mW) => r = r0 ∧ u = w0) (mB dC dI cI cZ cG ad (mA ad sz)) (mA ad sz)) 0 0 (mA ad sz) := by
  refine Met.ofW (cc := cX4_isOf) (maxL := 3) (ret := (some .boolean)) (by decide) rfl ?_
  intro p e s m args below meth c s₁ B hml hv
  obtain ⟨rfl, hsz, hP, hK, hD0⟩ := hv
  have hx := B.exec
  have hb := B.bytes
  have hr := B.returns
  have hts := atoms_spec (ws := wsX4_isOf) B.pre
  have hown : s.vm.findClass RX4 = some m.cls := findClass_of_methodNamed B.named
  have hlocks := B.notSynchronized
  have inX4 : ∀ w ∈ u_ws RX4 TX4 21, w ∈ wsX4_isOf := by decide +kernel
  subst hsz
  have hD : va_D (mA ad s.heap.size) (mc cI cZ ad w) := mD_self hD0
  have hAA : ∀ z q, s.heap.size ≤ z → mA ad z q → mA ad s.heap.size q := mA_mono
  generalize mA ad s.heap.size = A at hD hAA ⊢
  have hS : va_S A s.heap s.heap [] := va_S.rf
  have hl := lv_entry ([.ref (ad 0), .int a1, .int a2]) (n := 3) (Nat.le_of_ble_eq_true rfl)
  rw [lg_entry_eq]
  generalize (lg_sl ([.ref (ad 0), .int a1, .int a2]) ++ List.replicate (3 - (lg_sl ([.ref (ad 0), .int a1, .int a2])).length) Slot.unset).toArray = ls at hl ⊢
  have hl : lv_has ls 3 [(0, .ref (ad 0)), (1, .int a1), (2, .int a2)] := hl
  unfold mf_isOf at hf
  refine lv_aload_n hx hb dX4_isOf_0 rfl (lv_at hl 0 rfl) ?_
  refine lv_iload_n hx hb dX4_isOf_1 rfl (lv_at hl 1 rfl) ?_
  obtain ⟨r_2, hc2, hf⟩ := bn_e hf
  refine m_calli hD hS hAA (va_runV (As := [.int a1]) (rest := []) ⟨hx, hb, hml, hown, hts⟩ (k_mf_isGame l dC dI cI cZ cG ad s.heap.size w a1 r_2 w hc2 rfl) (cwV 1 hts gX4_isOf_X4_isGame rfl rfl rfl (by decide +kernel) ⟨Nat.le_of_ble_eq_true rfl, Nat.le_of_ble_eq_true rfl⟩) ⟨m_blind, va_recv hK hP (ci := 4) (q0 := 0) rfl rfl, fun U hU hW => m_pre hU hW hK hP hD⟩ rfl rfl hl.1 rfl (lv_room (Nat.le_of_ble_eq_true rfl)) dX4_isOf_2 ⟨Nat.zero_le _, Nat.zero_le _⟩) (fun H locs hP hD hS => ?_)
  refine lv_if_eq (tgt := 22) hx hb dX4_isOf_5 (by decide) (fun h5 => ?_) (fun h5 => ?_)
  · have hf := if_t h5 hf
    refine lv_iconst (v := (0 : Int32)) hx hb dX4_isOf_22 (by decide) ?_
    obtain ⟨hg23, hf⟩ := gd_e hf
    exact m_zret hx hb hr hlocks hg23 hK hP hD hS ⟨so_1 hf, hw0⟩ dX4_isOf_23
  · have hf := if_f h5 hf
    refine lv_aload_n hx hb dX4_isOf_8 rfl (lv_at hl 0 rfl) ?_
    refine va_get (D := (dC, dI)) (ci := 4) (v := .ref (ad 1)) (C := RX4) (T := TX4) (N := 21) hx hb hts inX4 hown hK hP 0 rfl rfl 1 (by decide) (hts (.fieldLink RX4 7 "BittenBoardsModel" "kinds" "[I") (by decide +kernel)) (fun _ h9 => h9) rfl dX4_isOf_9 ?_
    refine lv_iload_n hx hb dX4_isOf_12 rfl (lv_at hl 1 rfl) ?_
    obtain ⟨hg13, hf⟩ := gi_e hf
    refine va_iald (f := (w.2 1)) hx hb hK hP 1 0 rfl rfl hg13 dX4_isOf_13 ?_
    refine lv_iload_n hx hb dX4_isOf_14 rfl (lv_at hl 2 rfl) ?_
    refine lv_icmp_ne (tgt := 22) hx hb dX4_isOf_15 (by decide) (fun h15 => ?_) (fun h15 => ?_)
    · have hf := if_f h15 hf
      refine lv_iconst (v := (0 : Int32)) hx hb dX4_isOf_22 (by decide) ?_
      obtain ⟨hg23, hf⟩ := gd_e hf
      exact m_zret hx hb hr hlocks hg23 hK hP hD hS ⟨so_1 hf, hw0⟩ dX4_isOf_23
    · have hf := if_t h15 hf
      refine lv_iconst (v := (1 : Int32)) hx hb dX4_isOf_18 (by decide) ?_
      refine lv_goto (tgt := 23) hx hb dX4_isOf_19 (by decide) ?_
      obtain ⟨hg23, hf⟩ := gd_e hf
      exact m_zret hx hb hr hlocks hg23 hK hP hD hS ⟨so_1 hf, hw0⟩ dX4_isOf_23
set_option maxHeartbeats 4000000 in
set_option maxRecDepth 100000 in
theorem k_mf_bitesOf (l : Launch) (dC : Nat → ClassId) (dI : Nat → Nat → Nat) (cI cZ cG : ClassId) (ad : Nat → Nat) (sz : Nat) (w : mW) (a1 : Int32) (r0 : Int32) (w0 : mW) (hf : mf_bitesOf a1 w = some (r0, w0)) : Met l yX4_bitesOf wsX4_bitesOf ({ frames := 4, cells := 0, slots := 0, locals := 94 } : Room) (va_Pc [.ref (ad 0), .int a1] (mPre dC dI cI cZ cG ad sz w)) (va_Qi (fun (r : Int32) (u : mW) => r = r0 ∧ u = w0) (mB dC dI cI cZ cG ad (mA ad sz)) (mA ad sz)) 0 0 (mA ad sz) := by
  refine Met.ofW (cc := cX4_bitesOf) (maxL := 2) (ret := (some .int)) (by decide) rfl ?_
  intro p e s m args below meth c s₁ B hml hv
  obtain ⟨rfl, hsz, hP, hK, hD0⟩ := hv
  have hx := B.exec
  have hb := B.bytes
  have hr := B.returns
  have hts := atoms_spec (ws := wsX4_bitesOf) B.pre
  have hown : s.vm.findClass RX4 = some m.cls := findClass_of_methodNamed B.named
  have hlocks := B.notSynchronized
  have inX4 : ∀ w ∈ u_ws RX4 TX4 21, w ∈ wsX4_bitesOf := by decide +kernel
  subst hsz
  have hD : va_D (mA ad s.heap.size) (mc cI cZ ad w) := mD_self hD0
  have hAA : ∀ z q, s.heap.size ≤ z → mA ad z q → mA ad s.heap.size q := mA_mono
  generalize mA ad s.heap.size = A at hD hAA ⊢
  have hS : va_S A s.heap s.heap [] := va_S.rf
  have hl := lv_entry ([.ref (ad 0), .int a1]) (n := 2) (Nat.le_of_ble_eq_true rfl)
  rw [lg_entry_eq]
  generalize (lg_sl ([.ref (ad 0), .int a1]) ++ List.replicate (2 - (lg_sl ([.ref (ad 0), .int a1])).length) Slot.unset).toArray = ls at hl ⊢
  have hl : lv_has ls 2 [(0, .ref (ad 0)), (1, .int a1)] := hl
  unfold mf_bitesOf at hf
  refine lv_aload_n hx hb dX4_bitesOf_0 rfl (lv_at hl 0 rfl) ?_
  refine lv_iload_n hx hb dX4_bitesOf_1 rfl (lv_at hl 1 rfl) ?_
  refine lv_aload_n hx hb dX4_bitesOf_2 rfl (lv_at hl 0 rfl) ?_
  refine va_get (D := (dC, dI)) (ci := 4) (v := .ref (ad 3)) (C := RX4) (T := TX4) (N := 21) hx hb hts inX4 hown hK hP 0 rfl rfl 3 (by decide) (hts (.fieldLink RX4 16 "BittenBoardsModel" "states" "[I") (by decide +kernel)) (fun _ h9 => h9) rfl dX4_bitesOf_3 ?_
  refine lv_iload_n hx hb dX4_bitesOf_6 rfl (lv_at hl 1 rfl) ?_
  obtain ⟨hg7, hf⟩ := gi_e hf
  refine va_iald (f := (w.2 3)) hx hb hK hP 3 0 rfl rfl hg7 dX4_bitesOf_7 ?_
  obtain ⟨w_8, hc8, hf⟩ := bn_e hf
  refine m_callv hD hS hAA (va_runV (As := [.int a1, .int ((w.2 3) a1.toNatClampNeg)]) (rest := []) ⟨hx, hb, hml, hown, hts⟩ (k_mf_findNext l dC dI cI cZ cG ad s.heap.size w a1 ((w.2 3) a1.toNatClampNeg) w_8 hc8) (cwV 2 hts gX4_bitesOf_X4_findNext rfl rfl rfl (by decide +kernel) ⟨Nat.le_of_ble_eq_true rfl, Nat.le_of_ble_eq_true rfl⟩) ⟨m_blind, va_recv hK hP (ci := 4) (q0 := 0) rfl rfl, fun U hU hW => m_pre hU hW hK hP hD⟩ rfl rfl hl.1 rfl (lv_room (Nat.le_of_ble_eq_true rfl)) dX4_bitesOf_8 ⟨Nat.zero_le _, Nat.zero_le _⟩) (fun H locs hP hD hS => ?_)
  refine lv_aload_n hx hb dX4_bitesOf_11 rfl (lv_at hl 0 rfl) ?_
  refine va_get (D := (dC, dI)) (ci := 4) (v := .int (w_8.1 2)) (C := RX4) (T := TX4) (N := 21) hx hb hts inX4 hown hK hP 0 rfl rfl 18 (by decide) (hts (.fieldLink RX4 74 "BittenBoardsModel" "nextMany" "I") (by decide +kernel)) (fun _ h9 => h9) rfl dX4_bitesOf_12 ?_
  exact m_iret hx hb hr hlocks hK hP hD hS (so_2 hf) dX4_bitesOf_15
set_option maxHeartbeats 4000000 in
set_option maxRecDepth 100000 in
theorem k_mf_row (l : Launch) (dC : Nat → ClassId) (dI : Nat → Nat → Nat) (cI cZ cG : ClassId) (ad : Nat → Nat) (sz : Nat) (w : mW) (a1 : Int32) (a2 : Int32) (a3 : Int32) (r0 : Int32) (w0 : mW) (hf : mf_row a1 a2 a3 w = some (r0, w0)) : Met l yX4_row wsX4_row ({ frames := 5, cells := 0, slots := 0, locals := 115 } : Room) (va_Pc [.ref (ad 0), .int a1, .int a2, .int a3] (mPre dC dI cI cZ cG ad sz w)) (va_Qi (fun (r : Int32) (u : mW) => r = r0 ∧ u = w0) (mB dC dI cI cZ cG ad (mA ad sz)) (mA ad sz)) 0 0 (mA ad sz) := by
  refine Met.ofW (cc := cX4_row) (maxL := 5) (ret := (some .int)) (by decide) rfl ?_
  intro p e s m args below meth c s₁ B hml hv
  obtain ⟨rfl, hsz, hP, hK, hD0⟩ := hv
  have hx := B.exec
  have hb := B.bytes
  have hr := B.returns
  have hts := atoms_spec (ws := wsX4_row) B.pre
  have hown : s.vm.findClass RX4 = some m.cls := findClass_of_methodNamed B.named
  have hlocks := B.notSynchronized
  have inX4 : ∀ w ∈ u_ws RX4 TX4 21, w ∈ wsX4_row := by decide +kernel
  subst hsz
  have hD : va_D (mA ad s.heap.size) (mc cI cZ ad w) := mD_self hD0
  have hAA : ∀ z q, s.heap.size ≤ z → mA ad z q → mA ad s.heap.size q := mA_mono
  generalize mA ad s.heap.size = A at hD hAA ⊢
  have hS : va_S A s.heap s.heap [] := va_S.rf
  have C83 : ∀ (n83 : Nat) (x1 : Int32) (x3 : Int32) (x4 : Int32) (w : mW), mf_row_C83 n83 x1 x3 x4 w = some (r0, w0) → ∀ (H : Heap) (locs : List Loc) (ls : Array Slot), va_P (dC, dI) vwCl (mc cI cZ ad w) H → va_D A (mc cI cZ ad w) → va_S A s.heap H locs → lv_has ls 5 [(0, .ref (ad 0)), (1, .int x1), (3, .int x3), (4, .int x4)] → W p l e (headSpec wsX4_row ({ frames := 5, cells := 0, slots := 0, locals := 115 } : Room)).room s m (List.toArray [Value.ref (ad 0), Value.int a1, Value.int a2, Value.int a3]) below meth c H locs 0 0 (MQ below (va_Qi (fun (r : Int32) (u : mW) => r = r0 ∧ u = w0) (mB dC dI cI cZ cG ad A) A) (List.toArray [Value.ref (ad 0), Value.int a1, Value.int a2, Value.int a3]) s 0 0 A) (F0 m 83 ls []) := by
    intro n83
    induction n83 with
    | zero => intro x1 x3 x4 w hf; cases hf
    | succ n83 ih83 =>
      have C118 : ∀ (x1 : Int32) (x3 : Int32) (x4 : Int32) (t1 : Int32) (t2 : Int32) (w : mW), mf_row_C118 (mf_row_C83 n83) x1 x3 x4 t1 t2 w = some (r0, w0) → ∀ (H : Heap) (locs : List Loc) (ls : Array Slot), va_P (dC, dI) vwCl (mc cI cZ ad w) H → va_D A (mc cI cZ ad w) → va_S A s.heap H locs → lv_has ls 5 [(0, .ref (ad 0)), (1, .int x1), (3, .int x3), (4, .int x4)] → W p l e (headSpec wsX4_row ({ frames := 5, cells := 0, slots := 0, locals := 115 } : Room)).room s m (List.toArray [Value.ref (ad 0), Value.int a1, Value.int a2, Value.int a3]) below meth c H locs 0 0 (MQ below (va_Qi (fun (r : Int32) (u : mW) => r = r0 ∧ u = w0) (mB dC dI cI cZ cG ad A) A) (List.toArray [Value.ref (ad 0), Value.int a1, Value.int a2, Value.int a3]) s 0 0 A) (F0 m 118 ls [.int t2, .int t1, .ref (ad 15)]) := by
        intro x1 x3 x4 t1 t2 w hf H locs ls hP hD hS hl
        unfold mf_row_C118 at hf
        obtain ⟨hg118, hf⟩ := gi_e hf
        obtain ⟨w_118, ew_118, hf⟩ := nm_x hf
        refine va_iast (f := (w.2 15)) hx hb hK hP hD hS 15 0 rfl rfl hg118 dX4_row_118 (fun H locs hP hD hS => ?_)
        have hP : va_P (dC, dI) vwCl (mc cI cZ ad w_118) H := hP.eqs (by rw [ew_118]; rfl)
        have hD : va_D A (mc cI cZ ad w_118) := hD.eqs (by rw [ew_118]; rfl)
        obtain ⟨x4_119, ex4_119, hf⟩ := nm_x hf
        refine lv_iinc (v := x4_119) (lv' := [(4, .int x4_119), (0, .ref (ad 0)), (1, .int x1), (3, .int x3)]) hx hb dX4_row_119 hl (k := 3) rfl (by rw [ex4_119]; rfl) (by decide) rfl (fun ls hl => ?_)
        refine lv_goto (tgt := 83) hx hb dX4_row_122 (by decide) ?_
        exact ih83 x1 x3 x4_119 w_118 hf _ _ _ hP hD hS (lv_sub hl [1, 2, 3, 0] rfl)
      intro x1 x3 x4 w hf H locs ls hP hD hS hl
      rw [mf_row_C83] at hf
      refine lv_iload hx hb dX4_row_83 (lv_at hl 3 rfl) ?_
      refine lv_bipush (v := (7 : Int32)) hx hb dX4_row_85 (by decide) ?_
      refine lv_icmp_ge (tgt := 125) hx hb dX4_row_87 (by decide) (fun h87 => ?_) (fun h87 => ?_)
      · have hf := if_t h87 hf
        refine lv_aload_n hx hb dX4_row_125 rfl (lv_at hl 0 rfl) ?_
        refine va_get (D := (dC, dI)) (ci := 4) (v := .ref (ad 3)) (C := RX4) (T := TX4) (N := 21) hx hb hts inX4 hown hK hP 0 rfl rfl 3 (by decide) (hts (.fieldLink RX4 16 "BittenBoardsModel" "states" "[I") (by decide +kernel)) (fun _ h9 => h9) rfl dX4_row_126 ?_
        refine lv_iload_n hx hb dX4_row_129 rfl (lv_at hl 1 rfl) ?_
        refine lv_aload_n hx hb dX4_row_130 rfl (lv_at hl 0 rfl) ?_
        obtain ⟨r_131, hc131, hf⟩ := bn_e hf
        refine m_calli hD hS hAA (va_runV (As := []) (rest := [.int x1, .ref (ad 3)]) ⟨hx, hb, hml, hown, hts⟩ (k_mf_rankOf l dC dI cI cZ cG ad H.size w  r_131 w hc131 rfl) (cwV 0 hts gX4_row_X4_rankOf rfl rfl rfl (by decide +kernel) ⟨Nat.le_of_ble_eq_true rfl, Nat.le_of_ble_eq_true rfl⟩) ⟨m_blind, va_recv hK hP (ci := 4) (q0 := 0) rfl rfl, fun U hU hW => m_pre hU hW hK hP hD⟩ rfl rfl hl.1 rfl (lv_room (Nat.le_of_ble_eq_true rfl)) dX4_row_131 ⟨Nat.zero_le _, Nat.zero_le _⟩) (fun H locs hP hD hS => ?_)
        obtain ⟨hg134, hf⟩ := gi_e hf
        obtain ⟨w_134, ew_134, hf⟩ := nm_x hf
        refine va_iast (f := (w.2 3)) hx hb hK hP hD hS 3 0 rfl rfl hg134 dX4_row_134 (fun H locs hP hD hS => ?_)
        have hP : va_P (dC, dI) vwCl (mc cI cZ ad w_134) H := hP.eqs (by rw [ew_134]; rfl)
        have hD : va_D A (mc cI cZ ad w_134) := hD.eqs (by rw [ew_134]; rfl)
        refine lv_aload_n hx hb dX4_row_135 rfl (lv_at hl 0 rfl) ?_
        refine va_get (D := (dC, dI)) (ci := 4) (v := .ref (ad 9)) (C := RX4) (T := TX4) (N := 21) hx hb hts inX4 hown hK hP 0 rfl rfl 9 (by decide) (hts (.fieldLink RX4 34 "BittenBoardsModel" "notedMany" "[I") (by decide +kernel)) (fun _ h9 => h9) rfl dX4_row_136 ?_
        refine lv_iload_n hx hb dX4_row_139 rfl (lv_at hl 1 rfl) ?_
        refine lv_iconst (v := (0 : Int32)) hx hb dX4_row_140 (by decide) ?_
        obtain ⟨hg141, hf⟩ := gi_e hf
        obtain ⟨w_141, ew_141, hf⟩ := nm_x hf
        refine va_iast (f := (w_134.2 9)) hx hb hK hP hD hS 9 0 rfl rfl hg141 dX4_row_141 (fun H locs hP hD hS => ?_)
        have hP : va_P (dC, dI) vwCl (mc cI cZ ad w_141) H := hP.eqs (by rw [ew_141]; rfl)
        have hD : va_D A (mc cI cZ ad w_141) := hD.eqs (by rw [ew_141]; rfl)
        refine lv_aload_n hx hb dX4_row_142 rfl (lv_at hl 0 rfl) ?_
        refine lv_iload_n hx hb dX4_row_143 rfl (lv_at hl 1 rfl) ?_
        obtain ⟨r_144, w_144, hc144, hf⟩ := bn2_e hf
        refine m_calli hD hS hAA (va_runV (As := [.int x1]) (rest := []) ⟨hx, hb, hml, hown, hts⟩ (k_mf_bitesOf l dC dI cI cZ cG ad H.size w_141 x1 r_144 w_144 hc144) (cwV 1 hts gX4_row_X4_bitesOf rfl rfl rfl (by decide +kernel) ⟨Nat.le_of_ble_eq_true rfl, Nat.le_of_ble_eq_true rfl⟩) ⟨m_blind, va_recv hK hP (ci := 4) (q0 := 0) rfl rfl, fun U hU hW => m_pre hU hW hK hP hD⟩ rfl rfl hl.1 rfl (lv_room (Nat.le_of_ble_eq_true rfl)) dX4_row_144 ⟨Nat.zero_le _, Nat.zero_le _⟩) (fun H locs hP hD hS => ?_)
        exact m_iret hx hb hr hlocks hK hP hD hS (so_2 hf) dX4_row_147
      · have hf := if_f h87 hf
        refine lv_aload_n hx hb dX4_row_90 rfl (lv_at hl 0 rfl) ?_
        refine va_get (D := (dC, dI)) (ci := 4) (v := .ref (ad 15)) (C := RX4) (T := TX4) (N := 21) hx hb hts inX4 hown hK hP 0 rfl rfl 16 (by decide) (hts (.fieldLink RX4 58 "BittenBoardsModel" "board" "[I") (by decide +kernel)) (fun _ h9 => h9) rfl dX4_row_91 ?_
        refine lv_iload hx hb dX4_row_94 (lv_at hl 3 rfl) ?_
        refine lv_aload_n hx hb dX4_row_96 rfl (lv_at hl 0 rfl) ?_
        refine va_get (D := (dC, dI)) (ci := 4) (v := .ref (ad 15)) (C := RX4) (T := TX4) (N := 21) hx hb hts inX4 hown hK hP 0 rfl rfl 16 (by decide) (hts (.fieldLink RX4 58 "BittenBoardsModel" "board" "[I") (by decide +kernel)) (fun _ h9 => h9) rfl dX4_row_97 ?_
        refine lv_iload hx hb dX4_row_100 (lv_at hl 3 rfl) ?_
        obtain ⟨hg102, hf⟩ := gi_e hf
        refine va_iald (f := (w.2 15)) hx hb hK hP 15 0 rfl rfl hg102 dX4_row_102 ?_
        refine lv_iload_n hx hb dX4_row_103 rfl (lv_at hl 2 rfl) ?_
        refine lv_icmp_le (tgt := 111) hx hb dX4_row_104 (by decide) (fun h104 => ?_) (fun h104 => ?_)
        · have hf := if_t h104 hf
          refine lv_aload_n hx hb dX4_row_111 rfl (lv_at hl 0 rfl) ?_
          refine va_get (D := (dC, dI)) (ci := 4) (v := .ref (ad 15)) (C := RX4) (T := TX4) (N := 21) hx hb hts inX4 hown hK hP 0 rfl rfl 16 (by decide) (hts (.fieldLink RX4 58 "BittenBoardsModel" "board" "[I") (by decide +kernel)) (fun _ h9 => h9) rfl dX4_row_112 ?_
          refine lv_iload hx hb dX4_row_115 (lv_at hl 3 rfl) ?_
          obtain ⟨hg117, hf⟩ := gi_e hf
          refine va_iald (f := (w.2 15)) hx hb hK hP 15 0 rfl rfl hg117 dX4_row_117 ?_
          exact C118 x1 x3 x4 x4 ((w.2 15) x4.toNatClampNeg) w hf _ _ _ hP hD hS (lv_sub hl [0, 1, 2, 3] rfl)
        · have hf := if_f h104 hf
          refine lv_iload_n hx hb dX4_row_107 rfl (lv_at hl 2 rfl) ?_
          refine lv_goto (tgt := 118) hx hb dX4_row_108 (by decide) ?_
          exact C118 x1 x3 x4 x4 x3 w hf _ _ _ hP hD hS (lv_sub hl [0, 1, 2, 3] rfl)
  have C71 : ∀ (x1 : Int32) (x2 : Int32) (x3 : Int32) (w : mW), mf_row_C71 x1 x2 x3 w = some (r0, w0) → ∀ (H : Heap) (locs : List Loc) (ls : Array Slot), va_P (dC, dI) vwCl (mc cI cZ ad w) H → va_D A (mc cI cZ ad w) → va_S A s.heap H locs → lv_has ls 5 [(0, .ref (ad 0)), (1, .int x1), (2, .int x2), (3, .int x3)] → W p l e (headSpec wsX4_row ({ frames := 5, cells := 0, slots := 0, locals := 115 } : Room)).room s m (List.toArray [Value.ref (ad 0), Value.int a1, Value.int a2, Value.int a3]) below meth c H locs 0 0 (MQ below (va_Qi (fun (r : Int32) (u : mW) => r = r0 ∧ u = w0) (mB dC dI cI cZ cG ad A) A) (List.toArray [Value.ref (ad 0), Value.int a1, Value.int a2, Value.int a3]) s 0 0 A) (F0 m 71 ls []) := by
    intro x1 x2 x3 w hf H locs ls hP hD hS hl
    unfold mf_row_C71 at hf
    refine lv_aload_n hx hb dX4_row_71 rfl (lv_at hl 0 rfl) ?_
    refine va_get (D := (dC, dI)) (ci := 4) (v := .ref (ad 15)) (C := RX4) (T := TX4) (N := 21) hx hb hts inX4 hown hK hP 0 rfl rfl 16 (by decide) (hts (.fieldLink RX4 58 "BittenBoardsModel" "board" "[I") (by decide +kernel)) (fun _ h9 => h9) rfl dX4_row_72 ?_
    refine lv_iload_n hx hb dX4_row_75 rfl (lv_at hl 2 rfl) ?_
    refine lv_iload_n hx hb dX4_row_76 rfl (lv_at hl 3 rfl) ?_
    obtain ⟨hg77, hf⟩ := gi_e hf
    obtain ⟨w_77, ew_77, hf⟩ := nm_x hf
    refine va_iast (f := (w.2 15)) hx hb hK hP hD hS 15 0 rfl rfl hg77 dX4_row_77 (fun H locs hP hD hS => ?_)
    have hP : va_P (dC, dI) vwCl (mc cI cZ ad w_77) H := hP.eqs (by rw [ew_77]; rfl)
    have hD : va_D A (mc cI cZ ad w_77) := hD.eqs (by rw [ew_77]; rfl)
    refine lv_iload_n hx hb dX4_row_78 rfl (lv_at hl 2 rfl) ?_
    refine lv_iconst (v := (1 : Int32)) hx hb dX4_row_79 (by decide) ?_
    refine lv_iadd hx hb dX4_row_80 ?_
    obtain ⟨x4_81, ex4_81, hf⟩ := nm_x hf
    refine W.eq (g2 := F0 m 81 ls [.int x4_81]) (by rw [ex4_81]) ?_
    refine lv_istore (lv' := [(4, .int x4_81), (0, .ref (ad 0)), (1, .int x1), (2, .int x2), (3, .int x3)]) hx hb dX4_row_81 hl (by decide) rfl (fun ls hl => ?_)
    exact C83 fu x1 x3 x4_81 w_77 hf _ _ _ hP hD hS (lv_sub hl [1, 2, 4, 0] rfl)
  have hl := lv_entry ([.ref (ad 0), .int a1, .int a2, .int a3]) (n := 5) (Nat.le_of_ble_eq_true rfl)
  rw [lg_entry_eq]
  generalize (lg_sl ([.ref (ad 0), .int a1, .int a2, .int a3]) ++ List.replicate (5 - (lg_sl ([.ref (ad 0), .int a1, .int a2, .int a3])).length) Slot.unset).toArray = ls at hl ⊢
  have hl : lv_has ls 5 [(0, .ref (ad 0)), (1, .int a1), (2, .int a2), (3, .int a3)] := hl
  unfold mf_row at hf
  refine lv_aload_n hx hb dX4_row_0 rfl (lv_at hl 0 rfl) ?_
  refine lv_iload_n hx hb dX4_row_1 rfl (lv_at hl 1 rfl) ?_
  refine lv_iconst (v := (0 : Int32)) hx hb dX4_row_2 (by decide) ?_
  obtain ⟨r_3, hc3, hf⟩ := bn_e hf
  refine m_calli hD hS hAA (va_runV (As := [.int a1, .int (0 : Int32)]) (rest := []) ⟨hx, hb, hml, hown, hts⟩ (k_mf_isOf l dC dI cI cZ cG ad s.heap.size w a1 (0 : Int32) r_3 w hc3 rfl) (cwV 2 hts gX4_row_X4_isOf rfl rfl rfl (by decide +kernel) ⟨Nat.le_of_ble_eq_true rfl, Nat.le_of_ble_eq_true rfl⟩) ⟨m_blind, va_recv hK hP (ci := 4) (q0 := 0) rfl rfl, fun U hU hW => m_pre hU hW hK hP hD⟩ rfl rfl hl.1 rfl (lv_room (Nat.le_of_ble_eq_true rfl)) dX4_row_3 ⟨Nat.zero_le _, Nat.zero_le _⟩) (fun H locs hP hD hS => ?_)
  refine lv_if_ne (tgt := 13) hx hb dX4_row_6 (by decide) (fun h6 => ?_) (fun h6 => ?_)
  · have hf := if_f h6 hf
    refine lv_iload_n hx hb dX4_row_13 rfl (lv_at hl 2 rfl) ?_
    refine lv_i2l hx hb dX4_row_14 rfl ?_
    refine lv_lconst (v := (0 : Int64)) hx hb dX4_row_15 (by decide) ?_
    refine lv_ldc2 (v := (6 : Int64)) hx hb hown (hts (.constantLong RX4 135 (6 : Int64)) (by decide +kernel)) dX4_row_16 ?_
    obtain ⟨r_19, hc19, hf⟩ := bn_e hf
    refine m_calli hD hS hAA (va_runS (As := [.long (a2.toInt64), .long (0 : Int64), .long (6 : Int64)]) (rest := []) ⟨hx, hb, hml, hown, hts⟩ (k_mf_in l dC dI cI cZ cG ad H.size w (a2.toInt64) (0 : Int64) (6 : Int64) r_19 w hc19 rfl) (va_cwS 3 hts gX4_row_X4_in rfl rfl rfl (by decide +kernel) ⟨Nat.le_of_ble_eq_true rfl, Nat.le_of_ble_eq_true rfl⟩) ⟨m_blind, fun U hU hW => m_pre hU hW hK hP hD⟩ rfl rfl hl.1 rfl (lv_room (Nat.le_of_ble_eq_true rfl)) dX4_row_19 ⟨Nat.zero_le _, Nat.zero_le _⟩) (fun H locs hP hD hS => ?_)
    refine lv_if_eq (tgt := 37) hx hb dX4_row_22 (by decide) (fun h22 => ?_) (fun h22 => ?_)
    · have hf := if_t h22 hf
      refine lv_sipush (v := (-1002 : Int32)) hx hb dX4_row_37 (by decide) ?_
      exact m_iret hx hb hr hlocks hK hP hD hS (so_2 hf) dX4_row_40
    · have hf := if_f h22 hf
      refine lv_iload_n hx hb dX4_row_25 rfl (lv_at hl 3 rfl) ?_
      refine lv_i2l hx hb dX4_row_26 rfl ?_
      refine lv_lconst (v := (0 : Int64)) hx hb dX4_row_27 (by decide) ?_
      refine lv_ldc2 (v := (7 : Int64)) hx hb hown (hts (.constantLong RX4 115 (7 : Int64)) (by decide +kernel)) dX4_row_28 ?_
      obtain ⟨r_31, hc31, hf⟩ := bn_e hf
      refine m_calli hD hS hAA (va_runS (As := [.long (a3.toInt64), .long (0 : Int64), .long (7 : Int64)]) (rest := []) ⟨hx, hb, hml, hown, hts⟩ (k_mf_in l dC dI cI cZ cG ad H.size w (a3.toInt64) (0 : Int64) (7 : Int64) r_31 w hc31 rfl) (va_cwS 3 hts gX4_row_X4_in rfl rfl rfl (by decide +kernel) ⟨Nat.le_of_ble_eq_true rfl, Nat.le_of_ble_eq_true rfl⟩) ⟨m_blind, fun U hU hW => m_pre hU hW hK hP hD⟩ rfl rfl hl.1 rfl (lv_room (Nat.le_of_ble_eq_true rfl)) dX4_row_31 ⟨Nat.zero_le _, Nat.zero_le _⟩) (fun H locs hP hD hS => ?_)
      refine lv_if_ne (tgt := 41) hx hb dX4_row_34 (by decide) (fun h34 => ?_) (fun h34 => ?_)
      · have hf := if_f h34 hf
        refine lv_aload_n hx hb dX4_row_41 rfl (lv_at hl 0 rfl) ?_
        refine lv_aload_n hx hb dX4_row_42 rfl (lv_at hl 0 rfl) ?_
        refine va_get (D := (dC, dI)) (ci := 4) (v := .ref (ad 3)) (C := RX4) (T := TX4) (N := 21) hx hb hts inX4 hown hK hP 0 rfl rfl 3 (by decide) (hts (.fieldLink RX4 16 "BittenBoardsModel" "states" "[I") (by decide +kernel)) (fun _ h9 => h9) rfl dX4_row_43 ?_
        refine lv_iload_n hx hb dX4_row_46 rfl (lv_at hl 1 rfl) ?_
        obtain ⟨hg47, hf⟩ := gi_e hf
        refine va_iald (f := (w.2 3)) hx hb hK hP 3 0 rfl rfl hg47 dX4_row_47 ?_
        obtain ⟨w_48, hc48, hf⟩ := bn_e hf
        refine m_callv hD hS hAA (va_runV (As := [.int ((w.2 3) a1.toNatClampNeg)]) (rest := []) ⟨hx, hb, hml, hown, hts⟩ (k_mf_unrank l dC dI cI cZ cG ad H.size w ((w.2 3) a1.toNatClampNeg) w_48 hc48) (cwV 1 hts gX4_row_X4_unrank rfl rfl rfl (by decide +kernel) ⟨Nat.le_of_ble_eq_true rfl, Nat.le_of_ble_eq_true rfl⟩) ⟨m_blind, va_recv hK hP (ci := 4) (q0 := 0) rfl rfl, fun U hU hW => m_pre hU hW hK hP hD⟩ rfl rfl hl.1 rfl (lv_room (Nat.le_of_ble_eq_true rfl)) dX4_row_48 ⟨Nat.zero_le _, Nat.zero_le _⟩) (fun H locs hP hD hS => ?_)
        refine lv_iload_n hx hb dX4_row_51 rfl (lv_at hl 2 rfl) ?_
        refine lv_if_le (tgt := 71) hx hb dX4_row_52 (by decide) (fun h52 => ?_) (fun h52 => ?_)
        · have hf := if_t h52 hf
          exact C71 a1 a2 a3 w_48 hf _ _ _ hP hD hS (lv_sub hl [0, 1, 2, 3] rfl)
        · have hf := if_f h52 hf
          refine lv_iload_n hx hb dX4_row_55 rfl (lv_at hl 3 rfl) ?_
          refine lv_aload_n hx hb dX4_row_56 rfl (lv_at hl 0 rfl) ?_
          refine va_get (D := (dC, dI)) (ci := 4) (v := .ref (ad 15)) (C := RX4) (T := TX4) (N := 21) hx hb hts inX4 hown hK hP 0 rfl rfl 16 (by decide) (hts (.fieldLink RX4 58 "BittenBoardsModel" "board" "[I") (by decide +kernel)) (fun _ h9 => h9) rfl dX4_row_57 ?_
          refine lv_iload_n hx hb dX4_row_60 rfl (lv_at hl 2 rfl) ?_
          refine lv_iconst (v := (1 : Int32)) hx hb dX4_row_61 (by decide) ?_
          refine lv_isub hx hb dX4_row_62 ?_
          obtain ⟨hg63, hf⟩ := gi_e hf
          refine va_iald (f := (w_48.2 15)) hx hb hK hP 15 0 rfl rfl hg63 dX4_row_63 ?_
          refine lv_icmp_le (tgt := 71) hx hb dX4_row_64 (by decide) (fun h64 => ?_) (fun h64 => ?_)
          · have hf := if_t h64 hf
            exact C71 a1 a2 a3 w_48 hf _ _ _ hP hD hS (lv_sub hl [0, 1, 2, 3] rfl)
          · have hf := if_f h64 hf
            refine lv_sipush (v := (-1003 : Int32)) hx hb dX4_row_67 (by decide) ?_
            exact m_iret hx hb hr hlocks hK hP hD hS (so_2 hf) dX4_row_70
      · have hf := if_t h34 hf
        refine lv_sipush (v := (-1002 : Int32)) hx hb dX4_row_37 (by decide) ?_
        exact m_iret hx hb hr hlocks hK hP hD hS (so_2 hf) dX4_row_40
  · have hf := if_t h6 hf
    refine lv_sipush (v := (-1001 : Int32)) hx hb dX4_row_9 (by decide) ?_
    exact m_iret hx hb hr hlocks hK hP hD hS (so_2 hf) dX4_row_12
set_option maxHeartbeats 4000000 in
set_option maxRecDepth 100000 in
theorem k_mf_again (l : Launch) (dC : Nat → ClassId) (dI : Nat → Nat → Nat) (cI cZ cG : ClassId) (ad : Nat → Nat) (sz : Nat) (w : mW) (a1 : Int32) (w0 : mW) (hf : mf_again a1 w = some w0) : Met l yX4_again wsX4_again ({ frames := 1, cells := 0, slots := 0, locals := 21 } : Room) (va_Pc [.ref (ad 0), .int a1] (mPre dC dI cI cZ cG ad sz w)) (va_Qv (fun (u : mW) => u = w0) (mB dC dI cI cZ cG ad (mA ad sz)) (mA ad sz)) 0 0 (mA ad sz) := by
  refine Met.ofW (cc := cX4_again) (maxL := 2) (ret := none) (by decide) rfl ?_
  intro p e s m args below meth c s₁ B hml hv
  obtain ⟨rfl, hsz, hP, hK, hD0⟩ := hv
  have hx := B.exec
  have hb := B.bytes
  have hr := B.returns
  have hts := atoms_spec (ws := wsX4_again) B.pre
  have hown : s.vm.findClass RX4 = some m.cls := findClass_of_methodNamed B.named
  have hlocks := B.notSynchronized
  have inX4 : ∀ w ∈ u_ws RX4 TX4 21, w ∈ wsX4_again := by decide +kernel
  subst hsz
  have hD : va_D (mA ad s.heap.size) (mc cI cZ ad w) := mD_self hD0
  have hAA : ∀ z q, s.heap.size ≤ z → mA ad z q → mA ad s.heap.size q := mA_mono
  generalize mA ad s.heap.size = A at hD hAA ⊢
  have hS : va_S A s.heap s.heap [] := va_S.rf
  have C35 : ∀ (t1 : Int32) (w : mW), mf_again_C35 t1 w = some w0 → ∀ (H : Heap) (locs : List Loc) (ls : Array Slot), va_P (dC, dI) vwCl (mc cI cZ ad w) H → va_D A (mc cI cZ ad w) → va_S A s.heap H locs → lv_has ls 2 [] → W p l e (headSpec wsX4_again ({ frames := 1, cells := 0, slots := 0, locals := 21 } : Room)).room s m (List.toArray [Value.ref (ad 0), Value.int a1]) below meth c H locs 0 0 (MQ below (va_Qv (fun (u : mW) => u = w0) (mB dC dI cI cZ cG ad A) A) (List.toArray [Value.ref (ad 0), Value.int a1]) s 0 0 A) (F0 m 35 ls [.int t1, .ref (ad 0)]) := by
    intro t1 w hf H locs ls hP hD hS hl
    unfold mf_again_C35 at hf
    obtain ⟨w_35, ew_35, hf⟩ := nm_x hf
    refine va_put (D := (dC, dI)) (ci := 4) (v := .int t1) (ty := .int) (C := RX4) (T := TX4) (N := 21) hx hb hts inX4 tyX4 tyX4_ok nmX4 hown hK hP hD hS 0 rfl rfl 12 (by decide) (hts (.fieldLink RX4 43 "BittenBoardsModel" "solved" "I") (by decide +kernel)) (fun _ h9 => h9) rfl (by decide +kernel) rfl rfl (Nat.le_of_ble_eq_true rfl) dX4_again_35 (fun H locs hP hD hS => ?_)
    have hP : va_P (dC, dI) vwCl (mc cI cZ ad w_35) H := hP.eqs (by rw [ew_35]; rfl)
    have hD : va_D A (mc cI cZ ad w_35) := hD.eqs (by rw [ew_35]; rfl)
    exact m_vret hx hb hr hlocks hK hP hD hS (so_1 hf) dX4_again_38
  have hl := lv_entry ([.ref (ad 0), .int a1]) (n := 2) (Nat.le_of_ble_eq_true rfl)
  rw [lg_entry_eq]
  generalize (lg_sl ([.ref (ad 0), .int a1]) ++ List.replicate (2 - (lg_sl ([.ref (ad 0), .int a1])).length) Slot.unset).toArray = ls at hl ⊢
  have hl : lv_has ls 2 [(0, .ref (ad 0)), (1, .int a1)] := hl
  unfold mf_again at hf
  refine lv_aload_n hx hb dX4_again_0 rfl (lv_at hl 0 rfl) ?_
  refine va_get (D := (dC, dI)) (ci := 4) (v := .ref (ad 3)) (C := RX4) (T := TX4) (N := 21) hx hb hts inX4 hown hK hP 0 rfl rfl 3 (by decide) (hts (.fieldLink RX4 16 "BittenBoardsModel" "states" "[I") (by decide +kernel)) (fun _ h9 => h9) rfl dX4_again_1 ?_
  refine lv_iload_n hx hb dX4_again_4 rfl (lv_at hl 1 rfl) ?_
  refine lv_aload_n hx hb dX4_again_5 rfl (lv_at hl 0 rfl) ?_
  refine lv_iload_n hx hb dX4_again_6 rfl (lv_at hl 1 rfl) ?_
  obtain ⟨r_7, hc7, hf⟩ := bn_e hf
  refine m_calli hD hS hAA (va_runV (As := [.int a1]) (rest := [.int a1, .ref (ad 3)]) ⟨hx, hb, hml, hown, hts⟩ (k_mf_fullOf l dC dI cI cZ cG ad s.heap.size w a1 r_7 w hc7 rfl) (cwV 1 hts gX4_again_X4_fullOf rfl rfl rfl (by decide +kernel) ⟨Nat.le_of_ble_eq_true rfl, Nat.le_of_ble_eq_true rfl⟩) ⟨m_blind, va_recv hK hP (ci := 4) (q0 := 0) rfl rfl, fun U hU hW => m_pre hU hW hK hP hD⟩ rfl rfl hl.1 rfl (lv_room (Nat.le_of_ble_eq_true rfl)) dX4_again_7 ⟨Nat.zero_le _, Nat.zero_le _⟩) (fun H locs hP hD hS => ?_)
  obtain ⟨hg10, hf⟩ := gi_e hf
  obtain ⟨w_10, ew_10, hf⟩ := nm_x hf
  refine va_iast (f := (w.2 3)) hx hb hK hP hD hS 3 0 rfl rfl hg10 dX4_again_10 (fun H locs hP hD hS => ?_)
  have hP : va_P (dC, dI) vwCl (mc cI cZ ad w_10) H := hP.eqs (by rw [ew_10]; rfl)
  have hD : va_D A (mc cI cZ ad w_10) := hD.eqs (by rw [ew_10]; rfl)
  refine lv_aload_n hx hb dX4_again_11 rfl (lv_at hl 0 rfl) ?_
  refine va_get (D := (dC, dI)) (ci := 4) (v := .ref (ad 9)) (C := RX4) (T := TX4) (N := 21) hx hb hts inX4 hown hK hP 0 rfl rfl 9 (by decide) (hts (.fieldLink RX4 34 "BittenBoardsModel" "notedMany" "[I") (by decide +kernel)) (fun _ h9 => h9) rfl dX4_again_12 ?_
  refine lv_iload_n hx hb dX4_again_15 rfl (lv_at hl 1 rfl) ?_
  refine lv_iconst (v := (0 : Int32)) hx hb dX4_again_16 (by decide) ?_
  obtain ⟨hg17, hf⟩ := gi_e hf
  obtain ⟨w_17, ew_17, hf⟩ := nm_x hf
  refine va_iast (f := (w_10.2 9)) hx hb hK hP hD hS 9 0 rfl rfl hg17 dX4_again_17 (fun H locs hP hD hS => ?_)
  have hP : va_P (dC, dI) vwCl (mc cI cZ ad w_17) H := hP.eqs (by rw [ew_17]; rfl)
  have hD : va_D A (mc cI cZ ad w_17) := hD.eqs (by rw [ew_17]; rfl)
  refine lv_aload_n hx hb dX4_again_18 rfl (lv_at hl 0 rfl) ?_
  refine lv_aload_n hx hb dX4_again_19 rfl (lv_at hl 0 rfl) ?_
  refine va_get (D := (dC, dI)) (ci := 4) (v := .int (w_17.1 1)) (C := RX4) (T := TX4) (N := 21) hx hb hts inX4 hown hK hP 0 rfl rfl 12 (by decide) (hts (.fieldLink RX4 43 "BittenBoardsModel" "solved" "I") (by decide +kernel)) (fun _ h9 => h9) rfl dX4_again_20 ?_
  refine lv_iload_n hx hb dX4_again_23 rfl (lv_at hl 1 rfl) ?_
  refine lv_icmp_ne (tgt := 31) hx hb dX4_again_24 (by decide) (fun h24 => ?_) (fun h24 => ?_)
  · have hf := if_f h24 hf
    refine lv_aload_n hx hb dX4_again_31 rfl (lv_at hl 0 rfl) ?_
    refine va_get (D := (dC, dI)) (ci := 4) (v := .int (w_17.1 1)) (C := RX4) (T := TX4) (N := 21) hx hb hts inX4 hown hK hP 0 rfl rfl 12 (by decide) (hts (.fieldLink RX4 43 "BittenBoardsModel" "solved" "I") (by decide +kernel)) (fun _ h9 => h9) rfl dX4_again_32 ?_
    exact C35 (w_17.1 1) w_17 hf _ _ _ hP hD hS (lv_sub hl [] rfl)
  · have hf := if_t h24 hf
    refine lv_iconst (v := (-1 : Int32)) hx hb dX4_again_27 (by decide) ?_
    refine lv_goto (tgt := 35) hx hb dX4_again_28 (by decide) ?_
    exact C35 (-1 : Int32) w_17 hf _ _ _ hP hD hS (lv_sub hl [] rfl)
set_option maxHeartbeats 4000000 in
set_option maxRecDepth 100000 in
theorem k_mf_thing (l : Launch) (dC : Nat → ClassId) (dI : Nat → Nat → Nat) (cI cZ cG : ClassId) (ad : Nat → Nat) (sz : Nat) (w : mW) (a1 : Int32) (r0 : Int32) (w0 : mW) (hf : mf_thing a1 w = some (r0, w0)) : Met l yX4_thing wsX4_thing ({ frames := 3, cells := 0, slots := 0, locals := 68 } : Room) (va_Pc [.ref (ad 0), .int a1] (mPre dC dI cI cZ cG ad sz w)) (va_Qi (fun (r : Int32) (u : mW) => r = r0 ∧ u = w0) (mB dC dI cI cZ cG ad (mA ad sz)) (mA ad sz)) 0 0 (mA ad sz) := by
  refine Met.ofW (cc := cX4_thing) (maxL := 2) (ret := (some .int)) (by decide) rfl ?_
  intro p e s m args below meth c s₁ B hml hv
  obtain ⟨rfl, hsz, hP, hK, hD0⟩ := hv
  have hx := B.exec
  have hb := B.bytes
  have hr := B.returns
  have hts := atoms_spec (ws := wsX4_thing) B.pre
  have hown : s.vm.findClass RX4 = some m.cls := findClass_of_methodNamed B.named
  have hlocks := B.notSynchronized
  have inX4 : ∀ w ∈ u_ws RX4 TX4 21, w ∈ wsX4_thing := by decide +kernel
  subst hsz
  have hD : va_D (mA ad s.heap.size) (mc cI cZ ad w) := mD_self hD0
  have hAA : ∀ z q, s.heap.size ≤ z → mA ad z q → mA ad s.heap.size q := mA_mono
  generalize mA ad s.heap.size = A at hD hAA ⊢
  have hS : va_S A s.heap s.heap [] := va_S.rf
  have hl := lv_entry ([.ref (ad 0), .int a1]) (n := 2) (Nat.le_of_ble_eq_true rfl)
  rw [lg_entry_eq]
  generalize (lg_sl ([.ref (ad 0), .int a1]) ++ List.replicate (2 - (lg_sl ([.ref (ad 0), .int a1])).length) Slot.unset).toArray = ls at hl ⊢
  have hl : lv_has ls 2 [(0, .ref (ad 0)), (1, .int a1)] := hl
  unfold mf_thing at hf
  refine lv_aload_n hx hb dX4_thing_0 rfl (lv_at hl 0 rfl) ?_
  refine lv_iload_n hx hb dX4_thing_1 rfl (lv_at hl 1 rfl) ?_
  refine lv_iconst (v := (1 : Int32)) hx hb dX4_thing_2 (by decide) ?_
  obtain ⟨r_3, hc3, hf⟩ := bn_e hf
  refine m_calli hD hS hAA (va_runV (As := [.int a1, .int (1 : Int32)]) (rest := []) ⟨hx, hb, hml, hown, hts⟩ (k_mf_isOf l dC dI cI cZ cG ad s.heap.size w a1 (1 : Int32) r_3 w hc3 rfl) (cwV 2 hts gX4_thing_X4_isOf rfl rfl rfl (by decide +kernel) ⟨Nat.le_of_ble_eq_true rfl, Nat.le_of_ble_eq_true rfl⟩) ⟨m_blind, va_recv hK hP (ci := 4) (q0 := 0) rfl rfl, fun U hU hW => m_pre hU hW hK hP hD⟩ rfl rfl hl.1 rfl (lv_room (Nat.le_of_ble_eq_true rfl)) dX4_thing_3 ⟨Nat.zero_le _, Nat.zero_le _⟩) (fun H locs hP hD hS => ?_)
  refine lv_if_ne (tgt := 13) hx hb dX4_thing_6 (by decide) (fun h6 => ?_) (fun h6 => ?_)
  · have hf := if_f h6 hf
    refine lv_aload_n hx hb dX4_thing_13 rfl (lv_at hl 0 rfl) ?_
    refine va_get (D := (dC, dI)) (ci := 4) (v := .ref (ad 4)) (C := RX4) (T := TX4) (N := 21) hx hb hts inX4 hown hK hP 0 rfl rfl 4 (by decide) (hts (.fieldLink RX4 19 "BittenBoardsModel" "things" "[I") (by decide +kernel)) (fun _ h9 => h9) rfl dX4_thing_14 ?_
    refine lv_iload_n hx hb dX4_thing_17 rfl (lv_at hl 1 rfl) ?_
    obtain ⟨hg18, hf⟩ := gi_e hf
    refine va_iald (f := (w.2 4)) hx hb hK hP 4 0 rfl rfl hg18 dX4_thing_18 ?_
    refine lv_bipush (v := (12 : Int32)) hx hb dX4_thing_19 (by decide) ?_
    refine lv_icmp_ne (tgt := 28) hx hb dX4_thing_21 (by decide) (fun h21 => ?_) (fun h21 => ?_)
    · have hf := if_f h21 hf
      refine lv_aload_n hx hb dX4_thing_28 rfl (lv_at hl 0 rfl) ?_
      refine va_get (D := (dC, dI)) (ci := 4) (v := .ref (ad 5)) (C := RX4) (T := TX4) (N := 21) hx hb hts inX4 hown hK hP 0 rfl rfl 5 (by decide) (hts (.fieldLink RX4 22 "BittenBoardsModel" "above" "[I") (by decide +kernel)) (fun _ h9 => h9) rfl dX4_thing_29 ?_
      refine lv_iload_n hx hb dX4_thing_32 rfl (lv_at hl 1 rfl) ?_
      refine lv_aload_n hx hb dX4_thing_33 rfl (lv_at hl 0 rfl) ?_
      refine va_get (D := (dC, dI)) (ci := 4) (v := .ref (ad 4)) (C := RX4) (T := TX4) (N := 21) hx hb hts inX4 hown hK hP 0 rfl rfl 4 (by decide) (hts (.fieldLink RX4 19 "BittenBoardsModel" "things" "[I") (by decide +kernel)) (fun _ h9 => h9) rfl dX4_thing_34 ?_
      refine lv_iload_n hx hb dX4_thing_37 rfl (lv_at hl 1 rfl) ?_
      obtain ⟨hg38, hf⟩ := gi_e hf
      refine va_iald (f := (w.2 4)) hx hb hK hP 4 0 rfl rfl hg38 dX4_thing_38 ?_
      obtain ⟨r_39, hc39, hf⟩ := bn_e hf
      refine m_calli hD hS hAA (va_runS (As := [.int a1, .int ((w.2 4) a1.toNatClampNeg)]) (rest := [.ref (ad 5)]) ⟨hx, hb, hml, hown, hts⟩ (k_mf_placeOf l dC dI cI cZ cG ad H.size w a1 ((w.2 4) a1.toNatClampNeg) r_39 w hc39 rfl) (va_cwS 2 hts gX4_thing_X4_placeOf rfl rfl rfl (by decide +kernel) ⟨Nat.le_of_ble_eq_true rfl, Nat.le_of_ble_eq_true rfl⟩) ⟨m_blind, fun U hU hW => m_pre hU hW hK hP hD⟩ rfl rfl hl.1 rfl (lv_room (Nat.le_of_ble_eq_true rfl)) dX4_thing_39 ⟨Nat.zero_le _, Nat.zero_le _⟩) (fun H locs hP hD hS => ?_)
      refine lv_iconst (v := (0 : Int32)) hx hb dX4_thing_42 (by decide) ?_
      obtain ⟨hg43, hf⟩ := gi_e hf
      obtain ⟨w_43, ew_43, hf⟩ := nm_x hf
      refine va_iast (f := (w.2 5)) hx hb hK hP hD hS 5 0 rfl rfl hg43 dX4_thing_43 (fun H locs hP hD hS => ?_)
      have hP : va_P (dC, dI) vwCl (mc cI cZ ad w_43) H := hP.eqs (by rw [ew_43]; rfl)
      have hD : va_D A (mc cI cZ ad w_43) := hD.eqs (by rw [ew_43]; rfl)
      refine lv_aload_n hx hb dX4_thing_44 rfl (lv_at hl 0 rfl) ?_
      refine va_get (D := (dC, dI)) (ci := 4) (v := .ref (ad 4)) (C := RX4) (T := TX4) (N := 21) hx hb hts inX4 hown hK hP 0 rfl rfl 4 (by decide) (hts (.fieldLink RX4 19 "BittenBoardsModel" "things" "[I") (by decide +kernel)) (fun _ h9 => h9) rfl dX4_thing_45 ?_
      refine lv_iload_n hx hb dX4_thing_48 rfl (lv_at hl 1 rfl) ?_
      refine lv_dup2_11 hx hb dX4_thing_49 rfl rfl ?_
      obtain ⟨hg50, hf⟩ := gi_e hf
      refine va_iald (f := (w_43.2 4)) hx hb hK hP 4 0 rfl rfl hg50 dX4_thing_50 ?_
      refine lv_iconst (v := (1 : Int32)) hx hb dX4_thing_51 (by decide) ?_
      refine lv_iadd hx hb dX4_thing_52 ?_
      obtain ⟨hg53, hf⟩ := gi_e hf
      obtain ⟨w_53, ew_53, hf⟩ := nm_x hf
      refine va_iast (f := (w_43.2 4)) hx hb hK hP hD hS 4 0 rfl rfl hg53 dX4_thing_53 (fun H locs hP hD hS => ?_)
      have hP : va_P (dC, dI) vwCl (mc cI cZ ad w_53) H := hP.eqs (by rw [ew_53]; rfl)
      have hD : va_D A (mc cI cZ ad w_53) := hD.eqs (by rw [ew_53]; rfl)
      refine lv_aload_n hx hb dX4_thing_54 rfl (lv_at hl 0 rfl) ?_
      refine lv_iload_n hx hb dX4_thing_55 rfl (lv_at hl 1 rfl) ?_
      obtain ⟨w_56, hc56, hf⟩ := bn_e hf
      refine m_callv hD hS hAA (va_runV (As := [.int a1]) (rest := []) ⟨hx, hb, hml, hown, hts⟩ (k_mf_again l dC dI cI cZ cG ad H.size w_53 a1 w_56 hc56) (cwV 1 hts gX4_thing_X4_again rfl rfl rfl (by decide +kernel) ⟨Nat.le_of_ble_eq_true rfl, Nat.le_of_ble_eq_true rfl⟩) ⟨m_blind, va_recv hK hP (ci := 4) (q0 := 0) rfl rfl, fun U hU hW => m_pre hU hW hK hP hD⟩ rfl rfl hl.1 rfl (lv_room (Nat.le_of_ble_eq_true rfl)) dX4_thing_56 ⟨Nat.zero_le _, Nat.zero_le _⟩) (fun H locs hP hD hS => ?_)
      refine lv_aload_n hx hb dX4_thing_59 rfl (lv_at hl 0 rfl) ?_
      refine va_get (D := (dC, dI)) (ci := 4) (v := .ref (ad 4)) (C := RX4) (T := TX4) (N := 21) hx hb hts inX4 hown hK hP 0 rfl rfl 4 (by decide) (hts (.fieldLink RX4 19 "BittenBoardsModel" "things" "[I") (by decide +kernel)) (fun _ h9 => h9) rfl dX4_thing_60 ?_
      refine lv_iload_n hx hb dX4_thing_63 rfl (lv_at hl 1 rfl) ?_
      obtain ⟨hg64, hf⟩ := gi_e hf
      refine va_iald (f := (w_56.2 4)) hx hb hK hP 4 0 rfl rfl hg64 dX4_thing_64 ?_
      refine lv_iconst (v := (1 : Int32)) hx hb dX4_thing_65 (by decide) ?_
      refine lv_isub hx hb dX4_thing_66 ?_
      exact m_iret hx hb hr hlocks hK hP hD hS (so_2 hf) dX4_thing_67
    · have hf := if_t h21 hf
      refine lv_sipush (v := (-1004 : Int32)) hx hb dX4_thing_24 (by decide) ?_
      exact m_iret hx hb hr hlocks hK hP hD hS (so_2 hf) dX4_thing_27
  · have hf := if_t h6 hf
    refine lv_sipush (v := (-1001 : Int32)) hx hb dX4_thing_9 (by decide) ?_
    exact m_iret hx hb hr hlocks hK hP hD hS (so_2 hf) dX4_thing_12
set_option maxHeartbeats 4000000 in
set_option maxRecDepth 100000 in
theorem k_mf_isThing (l : Launch) (dC : Nat → ClassId) (dI : Nat → Nat → Nat) (cI cZ cG : ClassId) (ad : Nat → Nat) (sz : Nat) (w : mW) (a1 : Int32) (a2 : Int32) (r0 : Int32) (w0 : mW) (hf : mf_isThing a1 a2 w = some r0) (hw0 : w = w0) : Met l yX4_isThing wsX4_isThing ({ frames := 3, cells := 0, slots := 0, locals := 68 } : Room) (va_Pc [.ref (ad 0), .int a1, .int a2] (mPre dC dI cI cZ cG ad sz w)) (va_Qi (fun (r : Int32) (u : mW) => r = r0 ∧ u = w0) (mB dC dI cI cZ cG ad (mA ad sz)) (mA ad sz)) 0 0 (mA ad sz) := by
  refine Met.ofW (cc := cX4_isThing) (maxL := 3) (ret := (some .boolean)) (by decide) rfl ?_
  intro p e s m args below meth c s₁ B hml hv
  obtain ⟨rfl, hsz, hP, hK, hD0⟩ := hv
  have hx := B.exec
  have hb := B.bytes
  have hr := B.returns
  have hts := atoms_spec (ws := wsX4_isThing) B.pre
  have hown : s.vm.findClass RX4 = some m.cls := findClass_of_methodNamed B.named
  have hlocks := B.notSynchronized
  have inX4 : ∀ w ∈ u_ws RX4 TX4 21, w ∈ wsX4_isThing := by decide +kernel
  subst hsz
  have hD : va_D (mA ad s.heap.size) (mc cI cZ ad w) := mD_self hD0
  have hAA : ∀ z q, s.heap.size ≤ z → mA ad z q → mA ad s.heap.size q := mA_mono
  generalize mA ad s.heap.size = A at hD hAA ⊢
  have hS : va_S A s.heap s.heap [] := va_S.rf
  have hl := lv_entry ([.ref (ad 0), .int a1, .int a2]) (n := 3) (Nat.le_of_ble_eq_true rfl)
  rw [lg_entry_eq]
  generalize (lg_sl ([.ref (ad 0), .int a1, .int a2]) ++ List.replicate (3 - (lg_sl ([.ref (ad 0), .int a1, .int a2])).length) Slot.unset).toArray = ls at hl ⊢
  have hl : lv_has ls 3 [(0, .ref (ad 0)), (1, .int a1), (2, .int a2)] := hl
  unfold mf_isThing at hf
  refine lv_aload_n hx hb dX4_isThing_0 rfl (lv_at hl 0 rfl) ?_
  refine lv_iload_n hx hb dX4_isThing_1 rfl (lv_at hl 1 rfl) ?_
  refine lv_iconst (v := (1 : Int32)) hx hb dX4_isThing_2 (by decide) ?_
  obtain ⟨r_3, hc3, hf⟩ := bn_e hf
  refine m_calli hD hS hAA (va_runV (As := [.int a1, .int (1 : Int32)]) (rest := []) ⟨hx, hb, hml, hown, hts⟩ (k_mf_isOf l dC dI cI cZ cG ad s.heap.size w a1 (1 : Int32) r_3 w hc3 rfl) (cwV 2 hts gX4_isThing_X4_isOf rfl rfl rfl (by decide +kernel) ⟨Nat.le_of_ble_eq_true rfl, Nat.le_of_ble_eq_true rfl⟩) ⟨m_blind, va_recv hK hP (ci := 4) (q0 := 0) rfl rfl, fun U hU hW => m_pre hU hW hK hP hD⟩ rfl rfl hl.1 rfl (lv_room (Nat.le_of_ble_eq_true rfl)) dX4_isThing_3 ⟨Nat.zero_le _, Nat.zero_le _⟩) (fun H locs hP hD hS => ?_)
  refine lv_if_eq (tgt := 31) hx hb dX4_isThing_6 (by decide) (fun h6 => ?_) (fun h6 => ?_)
  · have hf := if_t h6 hf
    refine lv_iconst (v := (0 : Int32)) hx hb dX4_isThing_31 (by decide) ?_
    obtain ⟨hg32, hf⟩ := gd_e hf
    exact m_zret hx hb hr hlocks hg32 hK hP hD hS ⟨so_1 hf, hw0⟩ dX4_isThing_32
  · have hf := if_f h6 hf
    refine lv_iload_n hx hb dX4_isThing_9 rfl (lv_at hl 2 rfl) ?_
    refine lv_i2l hx hb dX4_isThing_10 rfl ?_
    refine lv_lconst (v := (0 : Int64)) hx hb dX4_isThing_11 (by decide) ?_
    refine lv_aload_n hx hb dX4_isThing_12 rfl (lv_at hl 0 rfl) ?_
    refine va_get (D := (dC, dI)) (ci := 4) (v := .ref (ad 4)) (C := RX4) (T := TX4) (N := 21) hx hb hts inX4 hown hK hP 0 rfl rfl 4 (by decide) (hts (.fieldLink RX4 19 "BittenBoardsModel" "things" "[I") (by decide +kernel)) (fun _ h9 => h9) rfl dX4_isThing_13 ?_
    refine lv_iload_n hx hb dX4_isThing_16 rfl (lv_at hl 1 rfl) ?_
    obtain ⟨hg17, hf⟩ := gi_e hf
    refine va_iald (f := (w.2 4)) hx hb hK hP 4 0 rfl rfl hg17 dX4_isThing_17 ?_
    refine lv_iconst (v := (1 : Int32)) hx hb dX4_isThing_18 (by decide) ?_
    refine lv_isub hx hb dX4_isThing_19 ?_
    refine lv_i2l hx hb dX4_isThing_20 rfl ?_
    obtain ⟨r_21, hc21, hf⟩ := bn_e hf
    refine m_calli hD hS hAA (va_runS (As := [.long (a2.toInt64), .long (0 : Int64), .long ((((w.2 4) a1.toNatClampNeg) - (1 : Int32)).toInt64)]) (rest := []) ⟨hx, hb, hml, hown, hts⟩ (k_mf_in l dC dI cI cZ cG ad H.size w (a2.toInt64) (0 : Int64) ((((w.2 4) a1.toNatClampNeg) - (1 : Int32)).toInt64) r_21 w hc21 rfl) (va_cwS 3 hts gX4_isThing_X4_in rfl rfl rfl (by decide +kernel) ⟨Nat.le_of_ble_eq_true rfl, Nat.le_of_ble_eq_true rfl⟩) ⟨m_blind, fun U hU hW => m_pre hU hW hK hP hD⟩ rfl rfl hl.1 rfl (lv_room (Nat.le_of_ble_eq_true rfl)) dX4_isThing_21 ⟨Nat.zero_le _, Nat.zero_le _⟩) (fun H locs hP hD hS => ?_)
    refine lv_if_eq (tgt := 31) hx hb dX4_isThing_24 (by decide) (fun h24 => ?_) (fun h24 => ?_)
    · have hf := if_t h24 hf
      refine lv_iconst (v := (0 : Int32)) hx hb dX4_isThing_31 (by decide) ?_
      obtain ⟨hg32, hf⟩ := gd_e hf
      exact m_zret hx hb hr hlocks hg32 hK hP hD hS ⟨so_1 hf, hw0⟩ dX4_isThing_32
    · have hf := if_f h24 hf
      refine lv_iconst (v := (1 : Int32)) hx hb dX4_isThing_27 (by decide) ?_
      refine lv_goto (tgt := 32) hx hb dX4_isThing_28 (by decide) ?_
      obtain ⟨hg32, hf⟩ := gd_e hf
      exact m_zret hx hb hr hlocks hg32 hK hP hD hS ⟨so_1 hf, hw0⟩ dX4_isThing_32
set_option maxHeartbeats 4000000 in
set_option maxRecDepth 100000 in
theorem k_mf_lies (l : Launch) (dC : Nat → ClassId) (dI : Nat → Nat → Nat) (cI cZ cG : ClassId) (ad : Nat → Nat) (sz : Nat) (w : mW) (a1 : Int32) (a2 : Int32) (a3 : Int32) (r0 : Int32) (w0 : mW) (hf : mf_lies a1 a2 a3 w = some r0) (hw0 : w = w0) : Met l yX4_lies wsX4_lies ({ frames := 1, cells := 0, slots := 0, locals := 21 } : Room) (va_Pc [.ref (ad 0), .int a1, .int a2, .int a3] (mPre dC dI cI cZ cG ad sz w)) (va_Qi (fun (r : Int32) (u : mW) => r = r0 ∧ u = w0) (mB dC dI cI cZ cG ad (mA ad sz)) (mA ad sz)) 0 0 (mA ad sz) := by
  refine Met.ofW (cc := cX4_lies) (maxL := 4) (ret := (some .boolean)) (by decide) rfl ?_
  intro p e s m args below meth c s₁ B hml hv
  obtain ⟨rfl, hsz, hP, hK, hD0⟩ := hv
  have hx := B.exec
  have hb := B.bytes
  have hr := B.returns
  have hts := atoms_spec (ws := wsX4_lies) B.pre
  have hown : s.vm.findClass RX4 = some m.cls := findClass_of_methodNamed B.named
  have hlocks := B.notSynchronized
  have inX4 : ∀ w ∈ u_ws RX4 TX4 21, w ∈ wsX4_lies := by decide +kernel
  subst hsz
  have hD : va_D (mA ad s.heap.size) (mc cI cZ ad w) := mD_self hD0
  have hAA : ∀ z q, s.heap.size ≤ z → mA ad z q → mA ad s.heap.size q := mA_mono
  generalize mA ad s.heap.size = A at hD hAA ⊢
  have hS : va_S A s.heap s.heap [] := va_S.rf
  have hl := lv_entry ([.ref (ad 0), .int a1, .int a2, .int a3]) (n := 4) (Nat.le_of_ble_eq_true rfl)
  rw [lg_entry_eq]
  generalize (lg_sl ([.ref (ad 0), .int a1, .int a2, .int a3]) ++ List.replicate (4 - (lg_sl ([.ref (ad 0), .int a1, .int a2, .int a3])).length) Slot.unset).toArray = ls at hl ⊢
  have hl : lv_has ls 4 [(0, .ref (ad 0)), (1, .int a1), (2, .int a2), (3, .int a3)] := hl
  unfold mf_lies at hf
  refine lv_aload_n hx hb dX4_lies_0 rfl (lv_at hl 0 rfl) ?_
  refine va_get (D := (dC, dI)) (ci := 4) (v := .ref (ad 5)) (C := RX4) (T := TX4) (N := 21) hx hb hts inX4 hown hK hP 0 rfl rfl 5 (by decide) (hts (.fieldLink RX4 22 "BittenBoardsModel" "above" "[I") (by decide +kernel)) (fun _ h9 => h9) rfl dX4_lies_1 ?_
  refine lv_iload_n hx hb dX4_lies_4 rfl (lv_at hl 1 rfl) ?_
  refine lv_iload_n hx hb dX4_lies_5 rfl (lv_at hl 2 rfl) ?_
  obtain ⟨r_6, hc6, hf⟩ := bn_e hf
  refine m_calli hD hS hAA (va_runS (As := [.int a1, .int a2]) (rest := [.ref (ad 5)]) ⟨hx, hb, hml, hown, hts⟩ (k_mf_placeOf l dC dI cI cZ cG ad s.heap.size w a1 a2 r_6 w hc6 rfl) (va_cwS 2 hts gX4_lies_X4_placeOf rfl rfl rfl (by decide +kernel) ⟨Nat.le_of_ble_eq_true rfl, Nat.le_of_ble_eq_true rfl⟩) ⟨m_blind, fun U hU hW => m_pre hU hW hK hP hD⟩ rfl rfl hl.1 rfl (lv_room (Nat.le_of_ble_eq_true rfl)) dX4_lies_6 ⟨Nat.zero_le _, Nat.zero_le _⟩) (fun H locs hP hD hS => ?_)
  obtain ⟨hg9, hf⟩ := gi_e hf
  refine va_iald (f := (w.2 5)) hx hb hK hP 5 0 rfl rfl hg9 dX4_lies_9 ?_
  refine lv_iload_n hx hb dX4_lies_10 rfl (lv_at hl 3 rfl) ?_
  refine lv_ishr hx hb dX4_lies_11 ?_
  refine lv_iconst (v := (1 : Int32)) hx hb dX4_lies_12 (by decide) ?_
  refine lv_iand hx hb dX4_lies_13 ?_
  refine lv_iconst (v := (1 : Int32)) hx hb dX4_lies_14 (by decide) ?_
  refine lv_icmp_ne (tgt := 22) hx hb dX4_lies_15 (by decide) (fun h15 => ?_) (fun h15 => ?_)
  · have hf := if_f h15 hf
    refine lv_iconst (v := (0 : Int32)) hx hb dX4_lies_22 (by decide) ?_
    obtain ⟨hg23, hf⟩ := gd_e hf
    exact m_zret hx hb hr hlocks hg23 hK hP hD hS ⟨so_1 hf, hw0⟩ dX4_lies_23
  · have hf := if_t h15 hf
    refine lv_iconst (v := (1 : Int32)) hx hb dX4_lies_18 (by decide) ?_
    refine lv_goto (tgt := 23) hx hb dX4_lies_19 (by decide) ?_
    obtain ⟨hg23, hf⟩ := gd_e hf
    exact m_zret hx hb hr hlocks hg23 hK hP hD hS ⟨so_1 hf, hw0⟩ dX4_lies_23
