set_option maxHeartbeats 4000000 in
set_option maxRecDepth 100000 in
theorem k_mf_below (l : Launch) (dC : Nat → ClassId) (dI : Nat → Nat → Nat) (cI cZ cG : ClassId) (ad : Nat → Nat) (sz : Nat) (w : mW) (a1 : Int32) (a2 : Int32) (a3 : Int32) (r0 : Int32) (w0 : mW) (hf : mf_below a1 a2 a3 w = some (r0, w0)) : Met l yX4_below wsX4_below ({ frames := 4, cells := 0, slots := 0, locals := 90 } : Room) (va_Pc [.ref (ad 0), .int a1, .int a2, .int a3] (mPre dC dI cI cZ cG ad sz w)) (va_Qi (fun (r : Int32) (u : mW) => r = r0 ∧ u = w0) (mB dC dI cI cZ cG ad (mA ad sz)) (mA ad sz)) 0 0 (mA ad sz) := by
  refine Met.ofW (cc := cX4_below) (maxL := 7) (ret := (some .int)) (by decide) rfl ?_
  intro p e s m args below meth c s₁ B hml hv
  obtain ⟨rfl, hsz, hP, hK, hD0⟩ := hv
  have hx := B.exec
  have hb := B.bytes
  have hr := B.returns
  have hts := atoms_spec (ws := wsX4_below) B.pre
  have hown : s.vm.findClass RX4 = some m.cls := findClass_of_methodNamed B.named
  have hlocks := B.notSynchronized
  have inX4 : ∀ w ∈ u_ws RX4 TX4 21, w ∈ wsX4_below := by decide +kernel
  subst hsz
  have hD : va_D (mA ad s.heap.size) (mc cI cZ ad w) := mD_self hD0
  have hAA : ∀ z q, s.heap.size ≤ z → mA ad z q → mA ad s.heap.size q := mA_mono
  generalize mA ad s.heap.size = A at hD hAA ⊢
  have hS : va_S A s.heap s.heap [] := va_S.rf
  have C63 : ∀ (n63 : Nat) (x1 : Int32) (x2 : Int32) (x4 : Int32) (x5 : Int32) (x6 : Int32) (w : mW), mf_below_C63 n63 x1 x2 x4 x5 x6 w = some (r0, w0) → ∀ (H : Heap) (locs : List Loc) (ls : Array Slot), va_P (dC, dI) vwCl (mc cI cZ ad w) H → va_D A (mc cI cZ ad w) → va_S A s.heap H locs → lv_has ls 7 [(0, .ref (ad 0)), (1, .int x1), (2, .int x2), (4, .int x4), (5, .int x5), (6, .int x6)] → W p l e (headSpec wsX4_below ({ frames := 4, cells := 0, slots := 0, locals := 90 } : Room)).room s m (List.toArray [Value.ref (ad 0), Value.int a1, Value.int a2, Value.int a3]) below meth c H locs 0 0 (MQ below (va_Qi (fun (r : Int32) (u : mW) => r = r0 ∧ u = w0) (mB dC dI cI cZ cG ad A) A) (List.toArray [Value.ref (ad 0), Value.int a1, Value.int a2, Value.int a3]) s 0 0 A) (F0 m 63 ls []) := by
    intro n63
    induction n63 with
    | zero => intro x1 x2 x4 x5 x6 w hf; cases hf
    | succ n63 ih63 =>
      have C107 : ∀ (x1 : Int32) (x2 : Int32) (x4 : Int32) (x5 : Int32) (x6 : Int32) (w : mW), mf_below_C107 (mf_below_C63 n63) x1 x2 x4 x5 x6 w = some (r0, w0) → ∀ (H : Heap) (locs : List Loc) (ls : Array Slot), va_P (dC, dI) vwCl (mc cI cZ ad w) H → va_D A (mc cI cZ ad w) → va_S A s.heap H locs → lv_has ls 7 [(0, .ref (ad 0)), (1, .int x1), (2, .int x2), (4, .int x4), (5, .int x5), (6, .int x6)] → W p l e (headSpec wsX4_below ({ frames := 4, cells := 0, slots := 0, locals := 90 } : Room)).room s m (List.toArray [Value.ref (ad 0), Value.int a1, Value.int a2, Value.int a3]) below meth c H locs 0 0 (MQ below (va_Qi (fun (r : Int32) (u : mW) => r = r0 ∧ u = w0) (mB dC dI cI cZ cG ad A) A) (List.toArray [Value.ref (ad 0), Value.int a1, Value.int a2, Value.int a3]) s 0 0 A) (F0 m 107 ls []) := by
        intro x1 x2 x4 x5 x6 w hf H locs ls hP hD hS hl
        unfold mf_below_C107 at hf
        refine lv_iload hx hb dX4_below_107 (lv_at hl 4 rfl) ?_
        refine lv_aload_n hx hb dX4_below_109 rfl (lv_at hl 0 rfl) ?_
        refine va_get (D := (dC, dI)) (ci := 4) (v := .ref (ad 5)) (C := RX4) (T := TX4) (N := 21) hx hb hts inX4 hown hK hP 0 rfl rfl 5 (by decide) (hts (.fieldLink RX4 22 "BittenBoardsModel" "above" "[I") (by decide +kernel)) (fun _ h9 => h9) rfl dX4_below_110 ?_
        refine lv_iload_n hx hb dX4_below_113 rfl (lv_at hl 1 rfl) ?_
        refine lv_iload hx hb dX4_below_114 (lv_at hl 5 rfl) ?_
        obtain ⟨r_116, hc116, hf⟩ := bn_e hf
        refine m_calli hD hS hAA (va_runS (As := [.int x1, .int x6]) (rest := [.ref (ad 5), .int x5]) ⟨hx, hb, hml, hown, hts⟩ (k_mf_placeOf l dC dI cI cZ cG ad H.size w x1 x6 r_116 w hc116 rfl) (va_cwS 2 hts gX4_below_X4_placeOf rfl rfl rfl (by decide +kernel) ⟨Nat.le_of_ble_eq_true rfl, Nat.le_of_ble_eq_true rfl⟩) ⟨m_blind, fun U hU hW => m_pre hU hW hK hP hD⟩ rfl rfl hl.1 rfl (lv_room (Nat.le_of_ble_eq_true rfl)) dX4_below_116 ⟨Nat.zero_le _, Nat.zero_le _⟩) (fun H locs hP hD hS => ?_)
        obtain ⟨hg119, hf⟩ := gi_e hf
        refine va_iald (f := (w.2 5)) hx hb hK hP 5 0 rfl rfl hg119 dX4_below_119 ?_
        obtain ⟨r_120, hc120, hf⟩ := bn_e hf
        refine m_calli hD hS hAA (va_runS (As := [.int ((w.2 5) r_116.toNatClampNeg)]) (rest := [.int x5]) ⟨hx, hb, hml, hown, hts⟩ (k_mf_bits l dC dI cI cZ cG ad H.size w ((w.2 5) r_116.toNatClampNeg) r_120 w hc120 rfl) (va_cwS 1 hts gX4_below_X4_bits rfl rfl rfl (by decide +kernel) ⟨Nat.le_of_ble_eq_true rfl, Nat.le_of_ble_eq_true rfl⟩) ⟨m_blind, fun U hU hW => m_pre hU hW hK hP hD⟩ rfl rfl hl.1 rfl (lv_room (Nat.le_of_ble_eq_true rfl)) dX4_below_120 ⟨Nat.zero_le _, Nat.zero_le _⟩) (fun H locs hP hD hS => ?_)
        refine lv_iadd hx hb dX4_below_123 ?_
        obtain ⟨x5_124, ex5_124, hf⟩ := nm_x hf
        refine W.eq (g2 := F0 m 124 ls [.int x5_124]) (by rw [ex5_124]) ?_
        refine lv_istore (lv' := [(5, .int x5_124), (0, .ref (ad 0)), (1, .int x1), (2, .int x2), (4, .int x4), (6, .int x6)]) hx hb dX4_below_124 hl (by decide) rfl (fun ls hl => ?_)
        obtain ⟨x6_126, ex6_126, hf⟩ := nm_x hf
        refine lv_iinc (v := x6_126) (lv' := [(6, .int x6_126), (5, .int x5_124), (0, .ref (ad 0)), (1, .int x1), (2, .int x2), (4, .int x4)]) hx hb dX4_below_126 hl (k := 5) rfl (by rw [ex6_126]; rfl) (by decide) rfl (fun ls hl => ?_)
        refine lv_goto (tgt := 63) hx hb dX4_below_129 (by decide) ?_
        exact ih63 x1 x2 x4 x5_124 x6_126 w hf _ _ _ hP hD hS (lv_sub hl [2, 3, 4, 5, 1, 0] rfl)
      have C91 : ∀ (x1 : Int32) (x2 : Int32) (x4 : Int32) (x5 : Int32) (x6 : Int32) (w : mW), mf_below_C91 (mf_below_C63 n63) x1 x2 x4 x5 x6 w = some (r0, w0) → ∀ (H : Heap) (locs : List Loc) (ls : Array Slot), va_P (dC, dI) vwCl (mc cI cZ ad w) H → va_D A (mc cI cZ ad w) → va_S A s.heap H locs → lv_has ls 7 [(0, .ref (ad 0)), (1, .int x1), (2, .int x2), (4, .int x4), (5, .int x5), (6, .int x6)] → W p l e (headSpec wsX4_below ({ frames := 4, cells := 0, slots := 0, locals := 90 } : Room)).room s m (List.toArray [Value.ref (ad 0), Value.int a1, Value.int a2, Value.int a3]) below meth c H locs 0 0 (MQ below (va_Qi (fun (r : Int32) (u : mW) => r = r0 ∧ u = w0) (mB dC dI cI cZ cG ad A) A) (List.toArray [Value.ref (ad 0), Value.int a1, Value.int a2, Value.int a3]) s 0 0 A) (F0 m 91 ls []) := by
        intro x1 x2 x4 x5 x6 w hf H locs ls hP hD hS hl
        unfold mf_below_C91 at hf
        refine lv_aload_n hx hb dX4_below_91 rfl (lv_at hl 0 rfl) ?_
        refine va_get (D := (dC, dI)) (ci := 4) (v := .ref (ad 5)) (C := RX4) (T := TX4) (N := 21) hx hb hts inX4 hown hK hP 0 rfl rfl 5 (by decide) (hts (.fieldLink RX4 22 "BittenBoardsModel" "above" "[I") (by decide +kernel)) (fun _ h9 => h9) rfl dX4_below_92 ?_
        refine lv_iload_n hx hb dX4_below_95 rfl (lv_at hl 1 rfl) ?_
        refine lv_iload hx hb dX4_below_96 (lv_at hl 5 rfl) ?_
        obtain ⟨r_98, hc98, hf⟩ := bn_e hf
        refine m_calli hD hS hAA (va_runS (As := [.int x1, .int x6]) (rest := [.ref (ad 5)]) ⟨hx, hb, hml, hown, hts⟩ (k_mf_placeOf l dC dI cI cZ cG ad H.size w x1 x6 r_98 w hc98 rfl) (va_cwS 2 hts gX4_below_X4_placeOf rfl rfl rfl (by decide +kernel) ⟨Nat.le_of_ble_eq_true rfl, Nat.le_of_ble_eq_true rfl⟩) ⟨m_blind, fun U hU hW => m_pre hU hW hK hP hD⟩ rfl rfl hl.1 rfl (lv_room (Nat.le_of_ble_eq_true rfl)) dX4_below_98 ⟨Nat.zero_le _, Nat.zero_le _⟩) (fun H locs hP hD hS => ?_)
        refine lv_dup2_11 hx hb dX4_below_101 rfl rfl ?_
        obtain ⟨hg102, hf⟩ := gi_e hf
        refine va_iald (f := (w.2 5)) hx hb hK hP 5 0 rfl rfl hg102 dX4_below_102 ?_
        refine lv_iload hx hb dX4_below_103 (lv_at hl 3 rfl) ?_
        refine lv_ior hx hb dX4_below_105 ?_
        obtain ⟨hg106, hf⟩ := gi_e hf
        obtain ⟨w_106, ew_106, hf⟩ := nm_x hf
        refine va_iast (f := (w.2 5)) hx hb hK hP hD hS 5 0 rfl rfl hg106 dX4_below_106 (fun H locs hP hD hS => ?_)
        have hP : va_P (dC, dI) vwCl (mc cI cZ ad w_106) H := hP.eqs (by rw [ew_106]; rfl)
        have hD : va_D A (mc cI cZ ad w_106) := hD.eqs (by rw [ew_106]; rfl)
        exact C107 x1 x2 x4 x5 x6 w_106 hf _ _ _ hP hD hS (lv_sub hl [0, 1, 2, 3, 4, 5] rfl)
      intro x1 x2 x4 x5 x6 w hf H locs ls hP hD hS hl
      rw [mf_below_C63] at hf
      refine lv_iload hx hb dX4_below_63 (lv_at hl 5 rfl) ?_
      refine lv_aload_n hx hb dX4_below_65 rfl (lv_at hl 0 rfl) ?_
      refine va_get (D := (dC, dI)) (ci := 4) (v := .ref (ad 4)) (C := RX4) (T := TX4) (N := 21) hx hb hts inX4 hown hK hP 0 rfl rfl 4 (by decide) (hts (.fieldLink RX4 19 "BittenBoardsModel" "things" "[I") (by decide +kernel)) (fun _ h9 => h9) rfl dX4_below_66 ?_
      refine lv_iload_n hx hb dX4_below_69 rfl (lv_at hl 1 rfl) ?_
      obtain ⟨hg70, hf⟩ := gi_e hf
      refine va_iald (f := (w.2 4)) hx hb hK hP 4 0 rfl rfl hg70 dX4_below_70 ?_
      refine lv_icmp_ge (tgt := 132) hx hb dX4_below_71 (by decide) (fun h71 => ?_) (fun h71 => ?_)
      · have hf := if_t h71 hf
        refine lv_aload_n hx hb dX4_below_132 rfl (lv_at hl 0 rfl) ?_
        refine lv_iload_n hx hb dX4_below_133 rfl (lv_at hl 1 rfl) ?_
        obtain ⟨w_134, hc134, hf⟩ := bn_e hf
        refine m_callv hD hS hAA (va_runV (As := [.int x1]) (rest := []) ⟨hx, hb, hml, hown, hts⟩ (k_mf_again l dC dI cI cZ cG ad H.size w x1 w_134 hc134) (cwV 1 hts gX4_below_X4_again rfl rfl rfl (by decide +kernel) ⟨Nat.le_of_ble_eq_true rfl, Nat.le_of_ble_eq_true rfl⟩) ⟨m_blind, va_recv hK hP (ci := 4) (q0 := 0) rfl rfl, fun U hU hW => m_pre hU hW hK hP hD⟩ rfl rfl hl.1 rfl (lv_room (Nat.le_of_ble_eq_true rfl)) dX4_below_134 ⟨Nat.zero_le _, Nat.zero_le _⟩) (fun H locs hP hD hS => ?_)
        refine lv_iload hx hb dX4_below_137 (lv_at hl 4 rfl) ?_
        exact m_iret hx hb hr hlocks hK hP hD hS (so_2 hf) dX4_below_139
      · have hf := if_f h71 hf
        refine lv_iload hx hb dX4_below_74 (lv_at hl 5 rfl) ?_
        refine lv_iload_n hx hb dX4_below_76 rfl (lv_at hl 2 rfl) ?_
        refine lv_icmp_eq (tgt := 91) hx hb dX4_below_77 (by decide) (fun h77 => ?_) (fun h77 => ?_)
        · have hf := if_t h77 hf
          exact C91 x1 x2 x4 x5 x6 w hf _ _ _ hP hD hS (lv_sub hl [0, 1, 2, 3, 4, 5] rfl)
        · have hf := if_f h77 hf
          refine lv_aload_n hx hb dX4_below_80 rfl (lv_at hl 0 rfl) ?_
          refine lv_iload_n hx hb dX4_below_81 rfl (lv_at hl 1 rfl) ?_
          refine lv_iload hx hb dX4_below_82 (lv_at hl 5 rfl) ?_
          refine lv_iload_n hx hb dX4_below_84 rfl (lv_at hl 2 rfl) ?_
          obtain ⟨r_85, hc85, hf⟩ := bn_e hf
          refine m_calli hD hS hAA (va_runV (As := [.int x1, .int x6, .int x2]) (rest := []) ⟨hx, hb, hml, hown, hts⟩ (k_mf_lies l dC dI cI cZ cG ad H.size w x1 x6 x2 r_85 w hc85 rfl) (cwV 3 hts gX4_below_X4_lies rfl rfl rfl (by decide +kernel) ⟨Nat.le_of_ble_eq_true rfl, Nat.le_of_ble_eq_true rfl⟩) ⟨m_blind, va_recv hK hP (ci := 4) (q0 := 0) rfl rfl, fun U hU hW => m_pre hU hW hK hP hD⟩ rfl rfl hl.1 rfl (lv_room (Nat.le_of_ble_eq_true rfl)) dX4_below_85 ⟨Nat.zero_le _, Nat.zero_le _⟩) (fun H locs hP hD hS => ?_)
          refine lv_if_eq (tgt := 107) hx hb dX4_below_88 (by decide) (fun h88 => ?_) (fun h88 => ?_)
          · have hf := if_t h88 hf
            exact C107 x1 x2 x4 x5 x6 w hf _ _ _ hP hD hS (lv_sub hl [0, 1, 2, 3, 4, 5] rfl)
          · have hf := if_f h88 hf
            exact C91 x1 x2 x4 x5 x6 w hf _ _ _ hP hD hS (lv_sub hl [0, 1, 2, 3, 4, 5] rfl)
  have hl := lv_entry ([.ref (ad 0), .int a1, .int a2, .int a3]) (n := 7) (Nat.le_of_ble_eq_true rfl)
  rw [lg_entry_eq]
  generalize (lg_sl ([.ref (ad 0), .int a1, .int a2, .int a3]) ++ List.replicate (7 - (lg_sl ([.ref (ad 0), .int a1, .int a2, .int a3])).length) Slot.unset).toArray = ls at hl ⊢
  have hl : lv_has ls 7 [(0, .ref (ad 0)), (1, .int a1), (2, .int a2), (3, .int a3)] := hl
  unfold mf_below at hf
  refine lv_aload_n hx hb dX4_below_0 rfl (lv_at hl 0 rfl) ?_
  refine lv_iload_n hx hb dX4_below_1 rfl (lv_at hl 1 rfl) ?_
  refine lv_iload_n hx hb dX4_below_2 rfl (lv_at hl 2 rfl) ?_
  obtain ⟨r_3, hc3, hf⟩ := bn_e hf
  refine m_calli hD hS hAA (va_runV (As := [.int a1, .int a2]) (rest := []) ⟨hx, hb, hml, hown, hts⟩ (k_mf_isThing l dC dI cI cZ cG ad s.heap.size w a1 a2 r_3 w hc3 rfl) (cwV 2 hts gX4_below_X4_isThing rfl rfl rfl (by decide +kernel) ⟨Nat.le_of_ble_eq_true rfl, Nat.le_of_ble_eq_true rfl⟩) ⟨m_blind, va_recv hK hP (ci := 4) (q0 := 0) rfl rfl, fun U hU hW => m_pre hU hW hK hP hD⟩ rfl rfl hl.1 rfl (lv_room (Nat.le_of_ble_eq_true rfl)) dX4_below_3 ⟨Nat.zero_le _, Nat.zero_le _⟩) (fun H locs hP hD hS => ?_)
  refine lv_if_eq (tgt := 18) hx hb dX4_below_6 (by decide) (fun h6 => ?_) (fun h6 => ?_)
  · have hf := if_t h6 hf
    refine lv_sipush (v := (-1001 : Int32)) hx hb dX4_below_18 (by decide) ?_
    exact m_iret hx hb hr hlocks hK hP hD hS (so_2 hf) dX4_below_21
  · have hf := if_f h6 hf
    refine lv_aload_n hx hb dX4_below_9 rfl (lv_at hl 0 rfl) ?_
    refine lv_iload_n hx hb dX4_below_10 rfl (lv_at hl 1 rfl) ?_
    refine lv_iload_n hx hb dX4_below_11 rfl (lv_at hl 3 rfl) ?_
    obtain ⟨r_12, hc12, hf⟩ := bn_e hf
    refine m_calli hD hS hAA (va_runV (As := [.int a1, .int a3]) (rest := []) ⟨hx, hb, hml, hown, hts⟩ (k_mf_isThing l dC dI cI cZ cG ad H.size w a1 a3 r_12 w hc12 rfl) (cwV 2 hts gX4_below_X4_isThing rfl rfl rfl (by decide +kernel) ⟨Nat.le_of_ble_eq_true rfl, Nat.le_of_ble_eq_true rfl⟩) ⟨m_blind, va_recv hK hP (ci := 4) (q0 := 0) rfl rfl, fun U hU hW => m_pre hU hW hK hP hD⟩ rfl rfl hl.1 rfl (lv_room (Nat.le_of_ble_eq_true rfl)) dX4_below_12 ⟨Nat.zero_le _, Nat.zero_le _⟩) (fun H locs hP hD hS => ?_)
    refine lv_if_ne (tgt := 22) hx hb dX4_below_15 (by decide) (fun h15 => ?_) (fun h15 => ?_)
    · have hf := if_f h15 hf
      refine lv_iload_n hx hb dX4_below_22 rfl (lv_at hl 2 rfl) ?_
      refine lv_iload_n hx hb dX4_below_23 rfl (lv_at hl 3 rfl) ?_
      refine lv_icmp_eq (tgt := 37) hx hb dX4_below_24 (by decide) (fun h24 => ?_) (fun h24 => ?_)
      · have hf := if_t h24 hf
        refine lv_sipush (v := (-1003 : Int32)) hx hb dX4_below_37 (by decide) ?_
        exact m_iret hx hb hr hlocks hK hP hD hS (so_2 hf) dX4_below_40
      · have hf := if_f h24 hf
        refine lv_aload_n hx hb dX4_below_27 rfl (lv_at hl 0 rfl) ?_
        refine lv_iload_n hx hb dX4_below_28 rfl (lv_at hl 1 rfl) ?_
        refine lv_iload_n hx hb dX4_below_29 rfl (lv_at hl 3 rfl) ?_
        refine lv_iload_n hx hb dX4_below_30 rfl (lv_at hl 2 rfl) ?_
        obtain ⟨r_31, hc31, hf⟩ := bn_e hf
        refine m_calli hD hS hAA (va_runV (As := [.int a1, .int a3, .int a2]) (rest := []) ⟨hx, hb, hml, hown, hts⟩ (k_mf_lies l dC dI cI cZ cG ad H.size w a1 a3 a2 r_31 w hc31 rfl) (cwV 3 hts gX4_below_X4_lies rfl rfl rfl (by decide +kernel) ⟨Nat.le_of_ble_eq_true rfl, Nat.le_of_ble_eq_true rfl⟩) ⟨m_blind, va_recv hK hP (ci := 4) (q0 := 0) rfl rfl, fun U hU hW => m_pre hU hW hK hP hD⟩ rfl rfl hl.1 rfl (lv_room (Nat.le_of_ble_eq_true rfl)) dX4_below_31 ⟨Nat.zero_le _, Nat.zero_le _⟩) (fun H locs hP hD hS => ?_)
        refine lv_if_eq (tgt := 41) hx hb dX4_below_34 (by decide) (fun h34 => ?_) (fun h34 => ?_)
        · have hf := if_t h34 hf
          refine lv_iconst (v := (1 : Int32)) hx hb dX4_below_41 (by decide) ?_
          refine lv_iload_n hx hb dX4_below_42 rfl (lv_at hl 3 rfl) ?_
          refine lv_ishl hx hb dX4_below_43 ?_
          refine lv_aload_n hx hb dX4_below_44 rfl (lv_at hl 0 rfl) ?_
          refine va_get (D := (dC, dI)) (ci := 4) (v := .ref (ad 5)) (C := RX4) (T := TX4) (N := 21) hx hb hts inX4 hown hK hP 0 rfl rfl 5 (by decide) (hts (.fieldLink RX4 22 "BittenBoardsModel" "above" "[I") (by decide +kernel)) (fun _ h9 => h9) rfl dX4_below_45 ?_
          refine lv_iload_n hx hb dX4_below_48 rfl (lv_at hl 1 rfl) ?_
          refine lv_iload_n hx hb dX4_below_49 rfl (lv_at hl 3 rfl) ?_
          obtain ⟨r_50, hc50, hf⟩ := bn_e hf
          refine m_calli hD hS hAA (va_runS (As := [.int a1, .int a3]) (rest := [.ref (ad 5), .int ((1 : Int32) <<< (a3 &&& 31))]) ⟨hx, hb, hml, hown, hts⟩ (k_mf_placeOf l dC dI cI cZ cG ad H.size w a1 a3 r_50 w hc50 rfl) (va_cwS 2 hts gX4_below_X4_placeOf rfl rfl rfl (by decide +kernel) ⟨Nat.le_of_ble_eq_true rfl, Nat.le_of_ble_eq_true rfl⟩) ⟨m_blind, fun U hU hW => m_pre hU hW hK hP hD⟩ rfl rfl hl.1 rfl (lv_room (Nat.le_of_ble_eq_true rfl)) dX4_below_50 ⟨Nat.zero_le _, Nat.zero_le _⟩) (fun H locs hP hD hS => ?_)
          obtain ⟨hg53, hf⟩ := gi_e hf
          refine va_iald (f := (w.2 5)) hx hb hK hP 5 0 rfl rfl hg53 dX4_below_53 ?_
          refine lv_ior hx hb dX4_below_54 ?_
          obtain ⟨x4_55, ex4_55, hf⟩ := nm_x hf
          refine W.eq (g2 := F0 m 55 ls [.int x4_55]) (by rw [ex4_55]) ?_
          refine lv_istore (lv' := [(4, .int x4_55), (0, .ref (ad 0)), (1, .int a1), (2, .int a2), (3, .int a3)]) hx hb dX4_below_55 hl (by decide) rfl (fun ls hl => ?_)
          refine lv_iconst (v := (0 : Int32)) hx hb dX4_below_57 (by decide) ?_
          refine lv_istore (lv' := [(5, .int (0 : Int32)), (4, .int x4_55), (0, .ref (ad 0)), (1, .int a1), (2, .int a2), (3, .int a3)]) hx hb dX4_below_58 hl (by decide) rfl (fun ls hl => ?_)
          refine lv_iconst (v := (0 : Int32)) hx hb dX4_below_60 (by decide) ?_
          refine lv_istore (lv' := [(6, .int (0 : Int32)), (5, .int (0 : Int32)), (4, .int x4_55), (0, .ref (ad 0)), (1, .int a1), (2, .int a2), (3, .int a3)]) hx hb dX4_below_61 hl (by decide) rfl (fun ls hl => ?_)
          exact C63 fu a1 a2 x4_55 (0 : Int32) (0 : Int32) w hf _ _ _ hP hD hS (lv_sub hl [3, 4, 5, 2, 1, 0] rfl)
        · have hf := if_f h34 hf
          refine lv_sipush (v := (-1003 : Int32)) hx hb dX4_below_37 (by decide) ?_
          exact m_iret hx hb hr hlocks hK hP hD hS (so_2 hf) dX4_below_40
    · have hf := if_t h15 hf
      refine lv_sipush (v := (-1001 : Int32)) hx hb dX4_below_18 (by decide) ?_
      exact m_iret hx hb hr hlocks hK hP hD hS (so_2 hf) dX4_below_21
set_option maxHeartbeats 4000000 in
set_option maxRecDepth 100000 in
theorem k_mf_post (l : Launch) (dC : Nat → ClassId) (dI : Nat → Nat → Nat) (cI cZ cG : ClassId) (ad : Nat → Nat) (sz : Nat) (w : mW) (a1 : Int32) (r0 : Int32) (w0 : mW) (hf : mf_post a1 w = some (r0, w0)) : Met l yX4_post wsX4_post ({ frames := 3, cells := 0, slots := 0, locals := 68 } : Room) (va_Pc [.ref (ad 0), .int a1] (mPre dC dI cI cZ cG ad sz w)) (va_Qi (fun (r : Int32) (u : mW) => r = r0 ∧ u = w0) (mB dC dI cI cZ cG ad (mA ad sz)) (mA ad sz)) 0 0 (mA ad sz) := by
  refine Met.ofW (cc := cX4_post) (maxL := 2) (ret := (some .int)) (by decide) rfl ?_
  intro p e s m args below meth c s₁ B hml hv
  obtain ⟨rfl, hsz, hP, hK, hD0⟩ := hv
  have hx := B.exec
  have hb := B.bytes
  have hr := B.returns
  have hts := atoms_spec (ws := wsX4_post) B.pre
  have hown : s.vm.findClass RX4 = some m.cls := findClass_of_methodNamed B.named
  have hlocks := B.notSynchronized
  have inX4 : ∀ w ∈ u_ws RX4 TX4 21, w ∈ wsX4_post := by decide +kernel
  subst hsz
  have hD : va_D (mA ad s.heap.size) (mc cI cZ ad w) := mD_self hD0
  have hAA : ∀ z q, s.heap.size ≤ z → mA ad z q → mA ad s.heap.size q := mA_mono
  generalize mA ad s.heap.size = A at hD hAA ⊢
  have hS : va_S A s.heap s.heap [] := va_S.rf
  have hl := lv_entry ([.ref (ad 0), .int a1]) (n := 2) (Nat.le_of_ble_eq_true rfl)
  rw [lg_entry_eq]
  generalize (lg_sl ([.ref (ad 0), .int a1]) ++ List.replicate (2 - (lg_sl ([.ref (ad 0), .int a1])).length) Slot.unset).toArray = ls at hl ⊢
  have hl : lv_has ls 2 [(0, .ref (ad 0)), (1, .int a1)] := hl
  unfold mf_post at hf
  refine lv_aload_n hx hb dX4_post_0 rfl (lv_at hl 0 rfl) ?_
  refine lv_iload_n hx hb dX4_post_1 rfl (lv_at hl 1 rfl) ?_
  refine lv_iconst (v := (2 : Int32)) hx hb dX4_post_2 (by decide) ?_
  obtain ⟨r_3, hc3, hf⟩ := bn_e hf
  refine m_calli hD hS hAA (va_runV (As := [.int a1, .int (2 : Int32)]) (rest := []) ⟨hx, hb, hml, hown, hts⟩ (k_mf_isOf l dC dI cI cZ cG ad s.heap.size w a1 (2 : Int32) r_3 w hc3 rfl) (cwV 2 hts gX4_post_X4_isOf rfl rfl rfl (by decide +kernel) ⟨Nat.le_of_ble_eq_true rfl, Nat.le_of_ble_eq_true rfl⟩) ⟨m_blind, va_recv hK hP (ci := 4) (q0 := 0) rfl rfl, fun U hU hW => m_pre hU hW hK hP hD⟩ rfl rfl hl.1 rfl (lv_room (Nat.le_of_ble_eq_true rfl)) dX4_post_3 ⟨Nat.zero_le _, Nat.zero_le _⟩) (fun H locs hP hD hS => ?_)
  refine lv_if_ne (tgt := 13) hx hb dX4_post_6 (by decide) (fun h6 => ?_) (fun h6 => ?_)
  · have hf := if_f h6 hf
    refine lv_aload_n hx hb dX4_post_13 rfl (lv_at hl 0 rfl) ?_
    refine va_get (D := (dC, dI)) (ci := 4) (v := .ref (ad 6)) (C := RX4) (T := TX4) (N := 21) hx hb hts inX4 hown hK hP 0 rfl rfl 6 (by decide) (hts (.fieldLink RX4 25 "BittenBoardsModel" "posts" "[I") (by decide +kernel)) (fun _ h9 => h9) rfl dX4_post_14 ?_
    refine lv_iload_n hx hb dX4_post_17 rfl (lv_at hl 1 rfl) ?_
    obtain ⟨hg18, hf⟩ := gi_e hf
    refine va_iald (f := (w.2 6)) hx hb hK hP 6 0 rfl rfl hg18 dX4_post_18 ?_
    refine lv_bipush (v := (6 : Int32)) hx hb dX4_post_19 (by decide) ?_
    refine lv_icmp_ne (tgt := 28) hx hb dX4_post_21 (by decide) (fun h21 => ?_) (fun h21 => ?_)
    · have hf := if_f h21 hf
      refine lv_aload_n hx hb dX4_post_28 rfl (lv_at hl 0 rfl) ?_
      refine va_get (D := (dC, dI)) (ci := 4) (v := .ref (ad 6)) (C := RX4) (T := TX4) (N := 21) hx hb hts inX4 hown hK hP 0 rfl rfl 6 (by decide) (hts (.fieldLink RX4 25 "BittenBoardsModel" "posts" "[I") (by decide +kernel)) (fun _ h9 => h9) rfl dX4_post_29 ?_
      refine lv_iload_n hx hb dX4_post_32 rfl (lv_at hl 1 rfl) ?_
      refine lv_dup2_11 hx hb dX4_post_33 rfl rfl ?_
      obtain ⟨hg34, hf⟩ := gi_e hf
      refine va_iald (f := (w.2 6)) hx hb hK hP 6 0 rfl rfl hg34 dX4_post_34 ?_
      refine lv_iconst (v := (1 : Int32)) hx hb dX4_post_35 (by decide) ?_
      refine lv_iadd hx hb dX4_post_36 ?_
      obtain ⟨hg37, hf⟩ := gi_e hf
      obtain ⟨w_37, ew_37, hf⟩ := nm_x hf
      refine va_iast (f := (w.2 6)) hx hb hK hP hD hS 6 0 rfl rfl hg37 dX4_post_37 (fun H locs hP hD hS => ?_)
      have hP : va_P (dC, dI) vwCl (mc cI cZ ad w_37) H := hP.eqs (by rw [ew_37]; rfl)
      have hD : va_D A (mc cI cZ ad w_37) := hD.eqs (by rw [ew_37]; rfl)
      refine lv_aload_n hx hb dX4_post_38 rfl (lv_at hl 0 rfl) ?_
      refine lv_iload_n hx hb dX4_post_39 rfl (lv_at hl 1 rfl) ?_
      obtain ⟨w_40, hc40, hf⟩ := bn_e hf
      refine m_callv hD hS hAA (va_runV (As := [.int a1]) (rest := []) ⟨hx, hb, hml, hown, hts⟩ (k_mf_again l dC dI cI cZ cG ad H.size w_37 a1 w_40 hc40) (cwV 1 hts gX4_post_X4_again rfl rfl rfl (by decide +kernel) ⟨Nat.le_of_ble_eq_true rfl, Nat.le_of_ble_eq_true rfl⟩) ⟨m_blind, va_recv hK hP (ci := 4) (q0 := 0) rfl rfl, fun U hU hW => m_pre hU hW hK hP hD⟩ rfl rfl hl.1 rfl (lv_room (Nat.le_of_ble_eq_true rfl)) dX4_post_40 ⟨Nat.zero_le _, Nat.zero_le _⟩) (fun H locs hP hD hS => ?_)
      refine lv_aload_n hx hb dX4_post_43 rfl (lv_at hl 0 rfl) ?_
      refine va_get (D := (dC, dI)) (ci := 4) (v := .ref (ad 6)) (C := RX4) (T := TX4) (N := 21) hx hb hts inX4 hown hK hP 0 rfl rfl 6 (by decide) (hts (.fieldLink RX4 25 "BittenBoardsModel" "posts" "[I") (by decide +kernel)) (fun _ h9 => h9) rfl dX4_post_44 ?_
      refine lv_iload_n hx hb dX4_post_47 rfl (lv_at hl 1 rfl) ?_
      obtain ⟨hg48, hf⟩ := gi_e hf
      refine va_iald (f := (w_40.2 6)) hx hb hK hP 6 0 rfl rfl hg48 dX4_post_48 ?_
      refine lv_iconst (v := (1 : Int32)) hx hb dX4_post_49 (by decide) ?_
      refine lv_isub hx hb dX4_post_50 ?_
      exact m_iret hx hb hr hlocks hK hP hD hS (so_2 hf) dX4_post_51
    · have hf := if_t h21 hf
      refine lv_sipush (v := (-1004 : Int32)) hx hb dX4_post_24 (by decide) ?_
      exact m_iret hx hb hr hlocks hK hP hD hS (so_2 hf) dX4_post_27
  · have hf := if_t h6 hf
    refine lv_sipush (v := (-1001 : Int32)) hx hb dX4_post_9 (by decide) ?_
    exact m_iret hx hb hr hlocks hK hP hD hS (so_2 hf) dX4_post_12
set_option maxHeartbeats 4000000 in
set_option maxRecDepth 100000 in
theorem k_mf_road (l : Launch) (dC : Nat → ClassId) (dI : Nat → Nat → Nat) (cI cZ cG : ClassId) (ad : Nat → Nat) (sz : Nat) (w : mW) (a1 : Int32) (a2 : Int32) (a3 : Int32) (r0 : Int32) (w0 : mW) (hf : mf_road a1 a2 a3 w = some (r0, w0)) : Met l yX4_road wsX4_road ({ frames := 3, cells := 0, slots := 0, locals := 68 } : Room) (va_Pc [.ref (ad 0), .int a1, .int a2, .int a3] (mPre dC dI cI cZ cG ad sz w)) (va_Qi (fun (r : Int32) (u : mW) => r = r0 ∧ u = w0) (mB dC dI cI cZ cG ad (mA ad sz)) (mA ad sz)) 0 0 (mA ad sz) := by
  refine Met.ofW (cc := cX4_road) (maxL := 4) (ret := (some .int)) (by decide) rfl ?_
  intro p e s m args below meth c s₁ B hml hv
  obtain ⟨rfl, hsz, hP, hK, hD0⟩ := hv
  have hx := B.exec
  have hb := B.bytes
  have hr := B.returns
  have hts := atoms_spec (ws := wsX4_road) B.pre
  have hown : s.vm.findClass RX4 = some m.cls := findClass_of_methodNamed B.named
  have hlocks := B.notSynchronized
  have inX4 : ∀ w ∈ u_ws RX4 TX4 21, w ∈ wsX4_road := by decide +kernel
  subst hsz
  have hD : va_D (mA ad s.heap.size) (mc cI cZ ad w) := mD_self hD0
  have hAA : ∀ z q, s.heap.size ≤ z → mA ad z q → mA ad s.heap.size q := mA_mono
  generalize mA ad s.heap.size = A at hD hAA ⊢
  have hS : va_S A s.heap s.heap [] := va_S.rf
  have hl := lv_entry ([.ref (ad 0), .int a1, .int a2, .int a3]) (n := 4) (Nat.le_of_ble_eq_true rfl)
  rw [lg_entry_eq]
  generalize (lg_sl ([.ref (ad 0), .int a1, .int a2, .int a3]) ++ List.replicate (4 - (lg_sl ([.ref (ad 0), .int a1, .int a2, .int a3])).length) Slot.unset).toArray = ls at hl ⊢
  have hl : lv_has ls 4 [(0, .ref (ad 0)), (1, .int a1), (2, .int a2), (3, .int a3)] := hl
  unfold mf_road at hf
  refine lv_aload_n hx hb dX4_road_0 rfl (lv_at hl 0 rfl) ?_
  refine lv_iload_n hx hb dX4_road_1 rfl (lv_at hl 1 rfl) ?_
  refine lv_iconst (v := (2 : Int32)) hx hb dX4_road_2 (by decide) ?_
  obtain ⟨r_3, hc3, hf⟩ := bn_e hf
  refine m_calli hD hS hAA (va_runV (As := [.int a1, .int (2 : Int32)]) (rest := []) ⟨hx, hb, hml, hown, hts⟩ (k_mf_isOf l dC dI cI cZ cG ad s.heap.size w a1 (2 : Int32) r_3 w hc3 rfl) (cwV 2 hts gX4_road_X4_isOf rfl rfl rfl (by decide +kernel) ⟨Nat.le_of_ble_eq_true rfl, Nat.le_of_ble_eq_true rfl⟩) ⟨m_blind, va_recv hK hP (ci := 4) (q0 := 0) rfl rfl, fun U hU hW => m_pre hU hW hK hP hD⟩ rfl rfl hl.1 rfl (lv_room (Nat.le_of_ble_eq_true rfl)) dX4_road_3 ⟨Nat.zero_le _, Nat.zero_le _⟩) (fun H locs hP hD hS => ?_)
  refine lv_if_eq (tgt := 45) hx hb dX4_road_6 (by decide) (fun h6 => ?_) (fun h6 => ?_)
  · have hf := if_t h6 hf
    refine lv_sipush (v := (-1001 : Int32)) hx hb dX4_road_45 (by decide) ?_
    exact m_iret hx hb hr hlocks hK hP hD hS (so_2 hf) dX4_road_48
  · have hf := if_f h6 hf
    refine lv_iload_n hx hb dX4_road_9 rfl (lv_at hl 2 rfl) ?_
    refine lv_i2l hx hb dX4_road_10 rfl ?_
    refine lv_lconst (v := (0 : Int64)) hx hb dX4_road_11 (by decide) ?_
    refine lv_aload_n hx hb dX4_road_12 rfl (lv_at hl 0 rfl) ?_
    refine va_get (D := (dC, dI)) (ci := 4) (v := .ref (ad 6)) (C := RX4) (T := TX4) (N := 21) hx hb hts inX4 hown hK hP 0 rfl rfl 6 (by decide) (hts (.fieldLink RX4 25 "BittenBoardsModel" "posts" "[I") (by decide +kernel)) (fun _ h9 => h9) rfl dX4_road_13 ?_
    refine lv_iload_n hx hb dX4_road_16 rfl (lv_at hl 1 rfl) ?_
    obtain ⟨hg17, hf⟩ := gi_e hf
    refine va_iald (f := (w.2 6)) hx hb hK hP 6 0 rfl rfl hg17 dX4_road_17 ?_
    refine lv_iconst (v := (1 : Int32)) hx hb dX4_road_18 (by decide) ?_
    refine lv_isub hx hb dX4_road_19 ?_
    refine lv_i2l hx hb dX4_road_20 rfl ?_
    obtain ⟨r_21, hc21, hf⟩ := bn_e hf
    refine m_calli hD hS hAA (va_runS (As := [.long (a2.toInt64), .long (0 : Int64), .long ((((w.2 6) a1.toNatClampNeg) - (1 : Int32)).toInt64)]) (rest := []) ⟨hx, hb, hml, hown, hts⟩ (k_mf_in l dC dI cI cZ cG ad H.size w (a2.toInt64) (0 : Int64) ((((w.2 6) a1.toNatClampNeg) - (1 : Int32)).toInt64) r_21 w hc21 rfl) (va_cwS 3 hts gX4_road_X4_in rfl rfl rfl (by decide +kernel) ⟨Nat.le_of_ble_eq_true rfl, Nat.le_of_ble_eq_true rfl⟩) ⟨m_blind, fun U hU hW => m_pre hU hW hK hP hD⟩ rfl rfl hl.1 rfl (lv_room (Nat.le_of_ble_eq_true rfl)) dX4_road_21 ⟨Nat.zero_le _, Nat.zero_le _⟩) (fun H locs hP hD hS => ?_)
    refine lv_if_eq (tgt := 45) hx hb dX4_road_24 (by decide) (fun h24 => ?_) (fun h24 => ?_)
    · have hf := if_t h24 hf
      refine lv_sipush (v := (-1001 : Int32)) hx hb dX4_road_45 (by decide) ?_
      exact m_iret hx hb hr hlocks hK hP hD hS (so_2 hf) dX4_road_48
    · have hf := if_f h24 hf
      refine lv_iload_n hx hb dX4_road_27 rfl (lv_at hl 3 rfl) ?_
      refine lv_i2l hx hb dX4_road_28 rfl ?_
      refine lv_lconst (v := (0 : Int64)) hx hb dX4_road_29 (by decide) ?_
      refine lv_aload_n hx hb dX4_road_30 rfl (lv_at hl 0 rfl) ?_
      refine va_get (D := (dC, dI)) (ci := 4) (v := .ref (ad 6)) (C := RX4) (T := TX4) (N := 21) hx hb hts inX4 hown hK hP 0 rfl rfl 6 (by decide) (hts (.fieldLink RX4 25 "BittenBoardsModel" "posts" "[I") (by decide +kernel)) (fun _ h9 => h9) rfl dX4_road_31 ?_
      refine lv_iload_n hx hb dX4_road_34 rfl (lv_at hl 1 rfl) ?_
      obtain ⟨hg35, hf⟩ := gi_e hf
      refine va_iald (f := (w.2 6)) hx hb hK hP 6 0 rfl rfl hg35 dX4_road_35 ?_
      refine lv_iconst (v := (1 : Int32)) hx hb dX4_road_36 (by decide) ?_
      refine lv_isub hx hb dX4_road_37 ?_
      refine lv_i2l hx hb dX4_road_38 rfl ?_
      obtain ⟨r_39, hc39, hf⟩ := bn_e hf
      refine m_calli hD hS hAA (va_runS (As := [.long (a3.toInt64), .long (0 : Int64), .long ((((w.2 6) a1.toNatClampNeg) - (1 : Int32)).toInt64)]) (rest := []) ⟨hx, hb, hml, hown, hts⟩ (k_mf_in l dC dI cI cZ cG ad H.size w (a3.toInt64) (0 : Int64) ((((w.2 6) a1.toNatClampNeg) - (1 : Int32)).toInt64) r_39 w hc39 rfl) (va_cwS 3 hts gX4_road_X4_in rfl rfl rfl (by decide +kernel) ⟨Nat.le_of_ble_eq_true rfl, Nat.le_of_ble_eq_true rfl⟩) ⟨m_blind, fun U hU hW => m_pre hU hW hK hP hD⟩ rfl rfl hl.1 rfl (lv_room (Nat.le_of_ble_eq_true rfl)) dX4_road_39 ⟨Nat.zero_le _, Nat.zero_le _⟩) (fun H locs hP hD hS => ?_)
      refine lv_if_ne (tgt := 49) hx hb dX4_road_42 (by decide) (fun h42 => ?_) (fun h42 => ?_)
      · have hf := if_f h42 hf
        refine lv_iload_n hx hb dX4_road_49 rfl (lv_at hl 2 rfl) ?_
        refine lv_iload_n hx hb dX4_road_50 rfl (lv_at hl 3 rfl) ?_
        refine lv_icmp_ne (tgt := 58) hx hb dX4_road_51 (by decide) (fun h51 => ?_) (fun h51 => ?_)
        · have hf := if_f h51 hf
          refine lv_aload_n hx hb dX4_road_58 rfl (lv_at hl 0 rfl) ?_
          refine va_get (D := (dC, dI)) (ci := 4) (v := .ref (ad 7)) (C := RX4) (T := TX4) (N := 21) hx hb hts inX4 hown hK hP 0 rfl rfl 7 (by decide) (hts (.fieldLink RX4 28 "BittenBoardsModel" "roads" "[I") (by decide +kernel)) (fun _ h9 => h9) rfl dX4_road_59 ?_
          refine lv_iload_n hx hb dX4_road_62 rfl (lv_at hl 1 rfl) ?_
          obtain ⟨hg63, hf⟩ := gi_e hf
          refine va_iald (f := (w.2 7)) hx hb hK hP 7 0 rfl rfl hg63 dX4_road_63 ?_
          refine lv_bipush (v := (9 : Int32)) hx hb dX4_road_64 (by decide) ?_
          refine lv_icmp_ne (tgt := 73) hx hb dX4_road_66 (by decide) (fun h66 => ?_) (fun h66 => ?_)
          · have hf := if_f h66 hf
            refine lv_aload_n hx hb dX4_road_73 rfl (lv_at hl 0 rfl) ?_
            refine va_get (D := (dC, dI)) (ci := 4) (v := .ref (ad 8)) (C := RX4) (T := TX4) (N := 21) hx hb hts inX4 hown hK hP 0 rfl rfl 8 (by decide) (hts (.fieldLink RX4 31 "BittenBoardsModel" "ends" "[I") (by decide +kernel)) (fun _ h9 => h9) rfl dX4_road_74 ?_
            refine lv_bipush (v := (18 : Int32)) hx hb dX4_road_77 (by decide) ?_
            refine lv_iload_n hx hb dX4_road_79 rfl (lv_at hl 1 rfl) ?_
            refine lv_imul hx hb dX4_road_80 ?_
            refine lv_iconst (v := (2 : Int32)) hx hb dX4_road_81 (by decide) ?_
            refine lv_aload_n hx hb dX4_road_82 rfl (lv_at hl 0 rfl) ?_
            refine va_get (D := (dC, dI)) (ci := 4) (v := .ref (ad 7)) (C := RX4) (T := TX4) (N := 21) hx hb hts inX4 hown hK hP 0 rfl rfl 7 (by decide) (hts (.fieldLink RX4 28 "BittenBoardsModel" "roads" "[I") (by decide +kernel)) (fun _ h9 => h9) rfl dX4_road_83 ?_
            refine lv_iload_n hx hb dX4_road_86 rfl (lv_at hl 1 rfl) ?_
            obtain ⟨hg87, hf⟩ := gi_e hf
            refine va_iald (f := (w.2 7)) hx hb hK hP 7 0 rfl rfl hg87 dX4_road_87 ?_
            refine lv_imul hx hb dX4_road_88 ?_
            refine lv_iadd hx hb dX4_road_89 ?_
            refine lv_iload_n hx hb dX4_road_90 rfl (lv_at hl 2 rfl) ?_
            obtain ⟨hg91, hf⟩ := gi_e hf
            obtain ⟨w_91, ew_91, hf⟩ := nm_x hf
            refine va_iast (f := (w.2 8)) hx hb hK hP hD hS 8 0 rfl rfl hg91 dX4_road_91 (fun H locs hP hD hS => ?_)
            have hP : va_P (dC, dI) vwCl (mc cI cZ ad w_91) H := hP.eqs (by rw [ew_91]; rfl)
            have hD : va_D A (mc cI cZ ad w_91) := hD.eqs (by rw [ew_91]; rfl)
            refine lv_aload_n hx hb dX4_road_92 rfl (lv_at hl 0 rfl) ?_
            refine va_get (D := (dC, dI)) (ci := 4) (v := .ref (ad 8)) (C := RX4) (T := TX4) (N := 21) hx hb hts inX4 hown hK hP 0 rfl rfl 8 (by decide) (hts (.fieldLink RX4 31 "BittenBoardsModel" "ends" "[I") (by decide +kernel)) (fun _ h9 => h9) rfl dX4_road_93 ?_
            refine lv_bipush (v := (18 : Int32)) hx hb dX4_road_96 (by decide) ?_
            refine lv_iload_n hx hb dX4_road_98 rfl (lv_at hl 1 rfl) ?_
            refine lv_imul hx hb dX4_road_99 ?_
            refine lv_iconst (v := (2 : Int32)) hx hb dX4_road_100 (by decide) ?_
            refine lv_aload_n hx hb dX4_road_101 rfl (lv_at hl 0 rfl) ?_
            refine va_get (D := (dC, dI)) (ci := 4) (v := .ref (ad 7)) (C := RX4) (T := TX4) (N := 21) hx hb hts inX4 hown hK hP 0 rfl rfl 7 (by decide) (hts (.fieldLink RX4 28 "BittenBoardsModel" "roads" "[I") (by decide +kernel)) (fun _ h9 => h9) rfl dX4_road_102 ?_
            refine lv_iload_n hx hb dX4_road_105 rfl (lv_at hl 1 rfl) ?_
            obtain ⟨hg106, hf⟩ := gi_e hf
            refine va_iald (f := (w_91.2 7)) hx hb hK hP 7 0 rfl rfl hg106 dX4_road_106 ?_
            refine lv_imul hx hb dX4_road_107 ?_
            refine lv_iadd hx hb dX4_road_108 ?_
            refine lv_iconst (v := (1 : Int32)) hx hb dX4_road_109 (by decide) ?_
            refine lv_iadd hx hb dX4_road_110 ?_
            refine lv_iload_n hx hb dX4_road_111 rfl (lv_at hl 3 rfl) ?_
            obtain ⟨hg112, hf⟩ := gi_e hf
            obtain ⟨w_112, ew_112, hf⟩ := nm_x hf
            refine va_iast (f := (w_91.2 8)) hx hb hK hP hD hS 8 0 rfl rfl hg112 dX4_road_112 (fun H locs hP hD hS => ?_)
            have hP : va_P (dC, dI) vwCl (mc cI cZ ad w_112) H := hP.eqs (by rw [ew_112]; rfl)
            have hD : va_D A (mc cI cZ ad w_112) := hD.eqs (by rw [ew_112]; rfl)
            refine lv_aload_n hx hb dX4_road_113 rfl (lv_at hl 0 rfl) ?_
            refine va_get (D := (dC, dI)) (ci := 4) (v := .ref (ad 7)) (C := RX4) (T := TX4) (N := 21) hx hb hts inX4 hown hK hP 0 rfl rfl 7 (by decide) (hts (.fieldLink RX4 28 "BittenBoardsModel" "roads" "[I") (by decide +kernel)) (fun _ h9 => h9) rfl dX4_road_114 ?_
            refine lv_iload_n hx hb dX4_road_117 rfl (lv_at hl 1 rfl) ?_
            refine lv_dup2_11 hx hb dX4_road_118 rfl rfl ?_
            obtain ⟨hg119, hf⟩ := gi_e hf
            refine va_iald (f := (w_112.2 7)) hx hb hK hP 7 0 rfl rfl hg119 dX4_road_119 ?_
            refine lv_iconst (v := (1 : Int32)) hx hb dX4_road_120 (by decide) ?_
            refine lv_iadd hx hb dX4_road_121 ?_
            obtain ⟨hg122, hf⟩ := gi_e hf
            obtain ⟨w_122, ew_122, hf⟩ := nm_x hf
            refine va_iast (f := (w_112.2 7)) hx hb hK hP hD hS 7 0 rfl rfl hg122 dX4_road_122 (fun H locs hP hD hS => ?_)
            have hP : va_P (dC, dI) vwCl (mc cI cZ ad w_122) H := hP.eqs (by rw [ew_122]; rfl)
            have hD : va_D A (mc cI cZ ad w_122) := hD.eqs (by rw [ew_122]; rfl)
            refine lv_aload_n hx hb dX4_road_123 rfl (lv_at hl 0 rfl) ?_
            refine lv_iload_n hx hb dX4_road_124 rfl (lv_at hl 1 rfl) ?_
            obtain ⟨w_125, hc125, hf⟩ := bn_e hf
            refine m_callv hD hS hAA (va_runV (As := [.int a1]) (rest := []) ⟨hx, hb, hml, hown, hts⟩ (k_mf_again l dC dI cI cZ cG ad H.size w_122 a1 w_125 hc125) (cwV 1 hts gX4_road_X4_again rfl rfl rfl (by decide +kernel) ⟨Nat.le_of_ble_eq_true rfl, Nat.le_of_ble_eq_true rfl⟩) ⟨m_blind, va_recv hK hP (ci := 4) (q0 := 0) rfl rfl, fun U hU hW => m_pre hU hW hK hP hD⟩ rfl rfl hl.1 rfl (lv_room (Nat.le_of_ble_eq_true rfl)) dX4_road_125 ⟨Nat.zero_le _, Nat.zero_le _⟩) (fun H locs hP hD hS => ?_)
            refine lv_aload_n hx hb dX4_road_128 rfl (lv_at hl 0 rfl) ?_
            refine va_get (D := (dC, dI)) (ci := 4) (v := .ref (ad 7)) (C := RX4) (T := TX4) (N := 21) hx hb hts inX4 hown hK hP 0 rfl rfl 7 (by decide) (hts (.fieldLink RX4 28 "BittenBoardsModel" "roads" "[I") (by decide +kernel)) (fun _ h9 => h9) rfl dX4_road_129 ?_
            refine lv_iload_n hx hb dX4_road_132 rfl (lv_at hl 1 rfl) ?_
            obtain ⟨hg133, hf⟩ := gi_e hf
            refine va_iald (f := (w_125.2 7)) hx hb hK hP 7 0 rfl rfl hg133 dX4_road_133 ?_
            refine lv_iconst (v := (1 : Int32)) hx hb dX4_road_134 (by decide) ?_
            refine lv_isub hx hb dX4_road_135 ?_
            exact m_iret hx hb hr hlocks hK hP hD hS (so_2 hf) dX4_road_136
          · have hf := if_t h66 hf
            refine lv_sipush (v := (-1004 : Int32)) hx hb dX4_road_69 (by decide) ?_
            exact m_iret hx hb hr hlocks hK hP hD hS (so_2 hf) dX4_road_72
        · have hf := if_t h51 hf
          refine lv_sipush (v := (-1003 : Int32)) hx hb dX4_road_54 (by decide) ?_
          exact m_iret hx hb hr hlocks hK hP hD hS (so_2 hf) dX4_road_57
      · have hf := if_t h42 hf
        refine lv_sipush (v := (-1001 : Int32)) hx hb dX4_road_45 (by decide) ?_
        exact m_iret hx hb hr hlocks hK hP hD hS (so_2 hf) dX4_road_48
set_option maxHeartbeats 4000000 in
set_option maxRecDepth 100000 in
theorem k_mf_rule (l : Launch) (dC : Nat → ClassId) (dI : Nat → Nat → Nat) (cI cZ cG : ClassId) (ad : Nat → Nat) (sz : Nat) (w : mW) (a1 : Int32) (a2 : Int32) (r0 : Int32) (w0 : mW) (hf : mf_rule a1 a2 w = some (r0, w0)) : Met l yX4_rule wsX4_rule ({ frames := 2, cells := 0, slots := 0, locals := 46 } : Room) (va_Pc [.ref (ad 0), .int a1, .int a2] (mPre dC dI cI cZ cG ad sz w)) (va_Qi (fun (r : Int32) (u : mW) => r = r0 ∧ u = w0) (mB dC dI cI cZ cG ad (mA ad sz)) (mA ad sz)) 0 0 (mA ad sz) := by
  refine Met.ofW (cc := cX4_rule) (maxL := 4) (ret := (some .int)) (by decide) rfl ?_
  intro p e s m args below meth c s₁ B hml hv
  obtain ⟨rfl, hsz, hP, hK, hD0⟩ := hv
  have hx := B.exec
  have hb := B.bytes
  have hr := B.returns
  have hts := atoms_spec (ws := wsX4_rule) B.pre
  have hown : s.vm.findClass RX4 = some m.cls := findClass_of_methodNamed B.named
  have hlocks := B.notSynchronized
  have inX4 : ∀ w ∈ u_ws RX4 TX4 21, w ∈ wsX4_rule := by decide +kernel
  subst hsz
  have hD : va_D (mA ad s.heap.size) (mc cI cZ ad w) := mD_self hD0
  have hAA : ∀ z q, s.heap.size ≤ z → mA ad z q → mA ad s.heap.size q := mA_mono
  generalize mA ad s.heap.size = A at hD hAA ⊢
  have hS : va_S A s.heap s.heap [] := va_S.rf
  have C54 : ∀ (x3 : Int32) (t1 : Int32) (w : mW), mf_rule_C54 x3 t1 w = some (r0, w0) → ∀ (H : Heap) (locs : List Loc) (ls : Array Slot), va_P (dC, dI) vwCl (mc cI cZ ad w) H → va_D A (mc cI cZ ad w) → va_S A s.heap H locs → lv_has ls 4 [(3, .int x3)] → W p l e (headSpec wsX4_rule ({ frames := 2, cells := 0, slots := 0, locals := 46 } : Room)).room s m (List.toArray [Value.ref (ad 0), Value.int a1, Value.int a2]) below meth c H locs 0 0 (MQ below (va_Qi (fun (r : Int32) (u : mW) => r = r0 ∧ u = w0) (mB dC dI cI cZ cG ad A) A) (List.toArray [Value.ref (ad 0), Value.int a1, Value.int a2]) s 0 0 A) (F0 m 54 ls [.int t1, .ref (ad 0)]) := by
    intro x3 t1 w hf H locs ls hP hD hS hl
    unfold mf_rule_C54 at hf
    obtain ⟨w_54, ew_54, hf⟩ := nm_x hf
    refine va_put (D := (dC, dI)) (ci := 4) (v := .int t1) (ty := .int) (C := RX4) (T := TX4) (N := 21) hx hb hts inX4 tyX4 tyX4_ok nmX4 hown hK hP hD hS 0 rfl rfl 12 (by decide) (hts (.fieldLink RX4 43 "BittenBoardsModel" "solved" "I") (by decide +kernel)) (fun _ h9 => h9) rfl (by decide +kernel) rfl rfl (Nat.le_of_ble_eq_true rfl) dX4_rule_54 (fun H locs hP hD hS => ?_)
    have hP : va_P (dC, dI) vwCl (mc cI cZ ad w_54) H := hP.eqs (by rw [ew_54]; rfl)
    have hD : va_D A (mc cI cZ ad w_54) := hD.eqs (by rw [ew_54]; rfl)
    refine lv_iload_n hx hb dX4_rule_57 rfl (lv_at hl 0 rfl) ?_
    exact m_iret hx hb hr hlocks hK hP hD hS (so_2 hf) dX4_rule_58
  have hl := lv_entry ([.ref (ad 0), .int a1, .int a2]) (n := 4) (Nat.le_of_ble_eq_true rfl)
  rw [lg_entry_eq]
  generalize (lg_sl ([.ref (ad 0), .int a1, .int a2]) ++ List.replicate (4 - (lg_sl ([.ref (ad 0), .int a1, .int a2])).length) Slot.unset).toArray = ls at hl ⊢
  have hl : lv_has ls 4 [(0, .ref (ad 0)), (1, .int a1), (2, .int a2)] := hl
  unfold mf_rule at hf
  refine lv_aload_n hx hb dX4_rule_0 rfl (lv_at hl 0 rfl) ?_
  refine lv_iload_n hx hb dX4_rule_1 rfl (lv_at hl 1 rfl) ?_
  obtain ⟨r_2, hc2, hf⟩ := bn_e hf
  refine m_calli hD hS hAA (va_runV (As := [.int a1]) (rest := []) ⟨hx, hb, hml, hown, hts⟩ (k_mf_isGame l dC dI cI cZ cG ad s.heap.size w a1 r_2 w hc2 rfl) (cwV 1 hts gX4_rule_X4_isGame rfl rfl rfl (by decide +kernel) ⟨Nat.le_of_ble_eq_true rfl, Nat.le_of_ble_eq_true rfl⟩) ⟨m_blind, va_recv hK hP (ci := 4) (q0 := 0) rfl rfl, fun U hU hW => m_pre hU hW hK hP hD⟩ rfl rfl hl.1 rfl (lv_room (Nat.le_of_ble_eq_true rfl)) dX4_rule_2 ⟨Nat.zero_le _, Nat.zero_le _⟩) (fun H locs hP hD hS => ?_)
  refine lv_if_ne (tgt := 12) hx hb dX4_rule_5 (by decide) (fun h5 => ?_) (fun h5 => ?_)
  · have hf := if_f h5 hf
    refine lv_iload_n hx hb dX4_rule_12 rfl (lv_at hl 2 rfl) ?_
    obtain ⟨r_13, hc13, hf⟩ := bn_e hf
    refine m_calli hD hS hAA (va_runS (As := [.int a2]) (rest := []) ⟨hx, hb, hml, hown, hts⟩ (k_mf_isRule l dC dI cI cZ cG ad H.size w a2 r_13 w hc13 rfl) (va_cwS 1 hts gX4_rule_X4_isRule rfl rfl rfl (by decide +kernel) ⟨Nat.le_of_ble_eq_true rfl, Nat.le_of_ble_eq_true rfl⟩) ⟨m_blind, fun U hU hW => m_pre hU hW hK hP hD⟩ rfl rfl hl.1 rfl (lv_room (Nat.le_of_ble_eq_true rfl)) dX4_rule_13 ⟨Nat.zero_le _, Nat.zero_le _⟩) (fun H locs hP hD hS => ?_)
    refine lv_if_ne (tgt := 23) hx hb dX4_rule_16 (by decide) (fun h16 => ?_) (fun h16 => ?_)
    · have hf := if_f h16 hf
      refine lv_aload_n hx hb dX4_rule_23 rfl (lv_at hl 0 rfl) ?_
      refine va_get (D := (dC, dI)) (ci := 4) (v := .ref (ad 2)) (C := RX4) (T := TX4) (N := 21) hx hb hts inX4 hown hK hP 0 rfl rfl 2 (by decide) (hts (.fieldLink RX4 13 "BittenBoardsModel" "rules" "[I") (by decide +kernel)) (fun _ h9 => h9) rfl dX4_rule_24 ?_
      refine lv_iload_n hx hb dX4_rule_27 rfl (lv_at hl 1 rfl) ?_
      obtain ⟨hg28, hf⟩ := gi_e hf
      refine va_iald (f := (w.2 2)) hx hb hK hP 2 0 rfl rfl hg28 dX4_rule_28 ?_
      obtain ⟨x3_29, ex3_29, hf⟩ := nm_x hf
      refine W.eq (g2 := F0 m 29 ls [.int x3_29]) (by rw [ex3_29]) ?_
      refine lv_istore_n (lv' := [(3, .int x3_29), (0, .ref (ad 0)), (1, .int a1), (2, .int a2)]) hx hb dX4_rule_29 rfl hl (by decide) rfl (fun ls hl => ?_)
      refine lv_aload_n hx hb dX4_rule_30 rfl (lv_at hl 1 rfl) ?_
      refine va_get (D := (dC, dI)) (ci := 4) (v := .ref (ad 2)) (C := RX4) (T := TX4) (N := 21) hx hb hts inX4 hown hK hP 0 rfl rfl 2 (by decide) (hts (.fieldLink RX4 13 "BittenBoardsModel" "rules" "[I") (by decide +kernel)) (fun _ h9 => h9) rfl dX4_rule_31 ?_
      refine lv_iload_n hx hb dX4_rule_34 rfl (lv_at hl 2 rfl) ?_
      refine lv_iload_n hx hb dX4_rule_35 rfl (lv_at hl 3 rfl) ?_
      obtain ⟨hg36, hf⟩ := gi_e hf
      obtain ⟨w_36, ew_36, hf⟩ := nm_x hf
      refine va_iast (f := (w.2 2)) hx hb hK hP hD hS 2 0 rfl rfl hg36 dX4_rule_36 (fun H locs hP hD hS => ?_)
      have hP : va_P (dC, dI) vwCl (mc cI cZ ad w_36) H := hP.eqs (by rw [ew_36]; rfl)
      have hD : va_D A (mc cI cZ ad w_36) := hD.eqs (by rw [ew_36]; rfl)
      refine lv_aload_n hx hb dX4_rule_37 rfl (lv_at hl 1 rfl) ?_
      refine lv_aload_n hx hb dX4_rule_38 rfl (lv_at hl 1 rfl) ?_
      refine va_get (D := (dC, dI)) (ci := 4) (v := .int (w_36.1 1)) (C := RX4) (T := TX4) (N := 21) hx hb hts inX4 hown hK hP 0 rfl rfl 12 (by decide) (hts (.fieldLink RX4 43 "BittenBoardsModel" "solved" "I") (by decide +kernel)) (fun _ h9 => h9) rfl dX4_rule_39 ?_
      refine lv_iload_n hx hb dX4_rule_42 rfl (lv_at hl 2 rfl) ?_
      refine lv_icmp_ne (tgt := 50) hx hb dX4_rule_43 (by decide) (fun h43 => ?_) (fun h43 => ?_)
      · have hf := if_f h43 hf
        refine lv_aload_n hx hb dX4_rule_50 rfl (lv_at hl 1 rfl) ?_
        refine va_get (D := (dC, dI)) (ci := 4) (v := .int (w_36.1 1)) (C := RX4) (T := TX4) (N := 21) hx hb hts inX4 hown hK hP 0 rfl rfl 12 (by decide) (hts (.fieldLink RX4 43 "BittenBoardsModel" "solved" "I") (by decide +kernel)) (fun _ h9 => h9) rfl dX4_rule_51 ?_
        exact C54 x3_29 (w_36.1 1) w_36 hf _ _ _ hP hD hS (lv_sub hl [0] rfl)
      · have hf := if_t h43 hf
        refine lv_iconst (v := (-1 : Int32)) hx hb dX4_rule_46 (by decide) ?_
        refine lv_goto (tgt := 54) hx hb dX4_rule_47 (by decide) ?_
        exact C54 x3_29 (-1 : Int32) w_36 hf _ _ _ hP hD hS (lv_sub hl [0] rfl)
    · have hf := if_t h16 hf
      refine lv_sipush (v := (-1002 : Int32)) hx hb dX4_rule_19 (by decide) ?_
      exact m_iret hx hb hr hlocks hK hP hD hS (so_2 hf) dX4_rule_22
  · have hf := if_t h5 hf
    refine lv_sipush (v := (-1001 : Int32)) hx hb dX4_rule_8 (by decide) ?_
    exact m_iret hx hb hr hlocks hK hP hD hS (so_2 hf) dX4_rule_11
set_option maxHeartbeats 4000000 in
set_option maxRecDepth 100000 in
theorem k_mf_told (l : Launch) (dC : Nat → ClassId) (dI : Nat → Nat → Nat) (cI cZ cG : ClassId) (ad : Nat → Nat) (sz : Nat) (w : mW) (a1 : Int32) (a2 : Int32) (r0 : Int32) (w0 : mW) (hf : mf_told a1 a2 w = some (r0, w0)) : Met l yX4_told wsX4_told ({ frames := 5, cells := 0, slots := 0, locals := 115 } : Room) (va_Pc [.ref (ad 0), .int a1, .int a2] (mPre dC dI cI cZ cG ad sz w)) (va_Qi (fun (r : Int32) (u : mW) => r = r0 ∧ u = w0) (mB dC dI cI cZ cG ad (mA ad sz)) (mA ad sz)) 0 0 (mA ad sz) := by
  refine Met.ofW (cc := cX4_told) (maxL := 3) (ret := (some .int)) (by decide) rfl ?_
  intro p e s m args below meth c s₁ B hml hv
  obtain ⟨rfl, hsz, hP, hK, hD0⟩ := hv
  have hx := B.exec
  have hb := B.bytes
  have hr := B.returns
  have hts := atoms_spec (ws := wsX4_told) B.pre
  have hown : s.vm.findClass RX4 = some m.cls := findClass_of_methodNamed B.named
  have hlocks := B.notSynchronized
  have inX4 : ∀ w ∈ u_ws RX4 TX4 21, w ∈ wsX4_told := by decide +kernel
  subst hsz
  have hD : va_D (mA ad s.heap.size) (mc cI cZ ad w) := mD_self hD0
  have hAA : ∀ z q, s.heap.size ≤ z → mA ad z q → mA ad s.heap.size q := mA_mono
  generalize mA ad s.heap.size = A at hD hAA ⊢
  have hS : va_S A s.heap s.heap [] := va_S.rf
  have hl := lv_entry ([.ref (ad 0), .int a1, .int a2]) (n := 3) (Nat.le_of_ble_eq_true rfl)
  rw [lg_entry_eq]
  generalize (lg_sl ([.ref (ad 0), .int a1, .int a2]) ++ List.replicate (3 - (lg_sl ([.ref (ad 0), .int a1, .int a2])).length) Slot.unset).toArray = ls at hl ⊢
  have hl : lv_has ls 3 [(0, .ref (ad 0)), (1, .int a1), (2, .int a2)] := hl
  unfold mf_told at hf
  refine lv_aload_n hx hb dX4_told_0 rfl (lv_at hl 0 rfl) ?_
  refine lv_iload_n hx hb dX4_told_1 rfl (lv_at hl 1 rfl) ?_
  obtain ⟨r_2, hc2, hf⟩ := bn_e hf
  refine m_calli hD hS hAA (va_runV (As := [.int a1]) (rest := []) ⟨hx, hb, hml, hown, hts⟩ (k_mf_isGame l dC dI cI cZ cG ad s.heap.size w a1 r_2 w hc2 rfl) (cwV 1 hts gX4_told_X4_isGame rfl rfl rfl (by decide +kernel) ⟨Nat.le_of_ble_eq_true rfl, Nat.le_of_ble_eq_true rfl⟩) ⟨m_blind, va_recv hK hP (ci := 4) (q0 := 0) rfl rfl, fun U hU hW => m_pre hU hW hK hP hD⟩ rfl rfl hl.1 rfl (lv_room (Nat.le_of_ble_eq_true rfl)) dX4_told_2 ⟨Nat.zero_le _, Nat.zero_le _⟩) (fun H locs hP hD hS => ?_)
  refine lv_if_ne (tgt := 12) hx hb dX4_told_5 (by decide) (fun h5 => ?_) (fun h5 => ?_)
  · have hf := if_f h5 hf
    refine lv_iload_n hx hb dX4_told_12 rfl (lv_at hl 2 rfl) ?_
    by_cases h13_0 : a2 = 0
    · have hf := if_t h13_0 hf
      refine lv_tableIn (tgt := 52) hx hb dX4_told_13 (by rw [h13_0]; decide) (by rw [h13_0]; decide) (by rw [h13_0]; rfl) (by decide) ?_
      refine lv_aload_n hx hb dX4_told_52 rfl (lv_at hl 0 rfl) ?_
      refine va_get (D := (dC, dI)) (ci := 4) (v := .ref (ad 1)) (C := RX4) (T := TX4) (N := 21) hx hb hts inX4 hown hK hP 0 rfl rfl 1 (by decide) (hts (.fieldLink RX4 7 "BittenBoardsModel" "kinds" "[I") (by decide +kernel)) (fun _ h9 => h9) rfl dX4_told_53 ?_
      refine lv_iload_n hx hb dX4_told_56 rfl (lv_at hl 1 rfl) ?_
      obtain ⟨hg57, hf⟩ := gi_e hf
      refine va_iald (f := (w.2 1)) hx hb hK hP 1 0 rfl rfl hg57 dX4_told_57 ?_
      exact m_iret hx hb hr hlocks hK hP hD hS (so_2 hf) dX4_told_58
    have hf := if_f h13_0 hf
    by_cases h13_1 : a2 = 1
    · have hf := if_t h13_1 hf
      refine lv_tableIn (tgt := 59) hx hb dX4_told_13 (by rw [h13_1]; decide) (by rw [h13_1]; decide) (by rw [h13_1]; rfl) (by decide) ?_
      refine lv_aload_n hx hb dX4_told_59 rfl (lv_at hl 0 rfl) ?_
      refine va_get (D := (dC, dI)) (ci := 4) (v := .ref (ad 2)) (C := RX4) (T := TX4) (N := 21) hx hb hts inX4 hown hK hP 0 rfl rfl 2 (by decide) (hts (.fieldLink RX4 13 "BittenBoardsModel" "rules" "[I") (by decide +kernel)) (fun _ h9 => h9) rfl dX4_told_60 ?_
      refine lv_iload_n hx hb dX4_told_63 rfl (lv_at hl 1 rfl) ?_
      obtain ⟨hg64, hf⟩ := gi_e hf
      refine va_iald (f := (w.2 2)) hx hb hK hP 2 0 rfl rfl hg64 dX4_told_64 ?_
      exact m_iret hx hb hr hlocks hK hP hD hS (so_2 hf) dX4_told_65
    have hf := if_f h13_1 hf
    by_cases h13_2 : a2 = 2
    · have hf := if_t h13_2 hf
      refine lv_tableIn (tgt := 66) hx hb dX4_told_13 (by rw [h13_2]; decide) (by rw [h13_2]; decide) (by rw [h13_2]; rfl) (by decide) ?_
      refine lv_aload_n hx hb dX4_told_66 rfl (lv_at hl 0 rfl) ?_
      refine lv_iload_n hx hb dX4_told_67 rfl (lv_at hl 1 rfl) ?_
      obtain ⟨r_68, w_68, hc68, hf⟩ := bn2_e hf
      refine m_calli hD hS hAA (va_runV (As := [.int a1]) (rest := []) ⟨hx, hb, hml, hown, hts⟩ (k_mf_bitesOf l dC dI cI cZ cG ad H.size w a1 r_68 w_68 hc68) (cwV 1 hts gX4_told_X4_bitesOf rfl rfl rfl (by decide +kernel) ⟨Nat.le_of_ble_eq_true rfl, Nat.le_of_ble_eq_true rfl⟩) ⟨m_blind, va_recv hK hP (ci := 4) (q0 := 0) rfl rfl, fun U hU hW => m_pre hU hW hK hP hD⟩ rfl rfl hl.1 rfl (lv_room (Nat.le_of_ble_eq_true rfl)) dX4_told_68 ⟨Nat.zero_le _, Nat.zero_le _⟩) (fun H locs hP hD hS => ?_)
      exact m_iret hx hb hr hlocks hK hP hD hS (so_2 hf) dX4_told_71
    have hf := if_f h13_2 hf
    by_cases h13_3 : a2 = 3
    · have hf := if_t h13_3 hf
      refine lv_tableIn (tgt := 66) hx hb dX4_told_13 (by rw [h13_3]; decide) (by rw [h13_3]; decide) (by rw [h13_3]; rfl) (by decide) ?_
      refine lv_aload_n hx hb dX4_told_66 rfl (lv_at hl 0 rfl) ?_
      refine lv_iload_n hx hb dX4_told_67 rfl (lv_at hl 1 rfl) ?_
      obtain ⟨r_68, w_68, hc68, hf⟩ := bn2_e hf
      refine m_calli hD hS hAA (va_runV (As := [.int a1]) (rest := []) ⟨hx, hb, hml, hown, hts⟩ (k_mf_bitesOf l dC dI cI cZ cG ad H.size w a1 r_68 w_68 hc68) (cwV 1 hts gX4_told_X4_bitesOf rfl rfl rfl (by decide +kernel) ⟨Nat.le_of_ble_eq_true rfl, Nat.le_of_ble_eq_true rfl⟩) ⟨m_blind, va_recv hK hP (ci := 4) (q0 := 0) rfl rfl, fun U hU hW => m_pre hU hW hK hP hD⟩ rfl rfl hl.1 rfl (lv_room (Nat.le_of_ble_eq_true rfl)) dX4_told_68 ⟨Nat.zero_le _, Nat.zero_le _⟩) (fun H locs hP hD hS => ?_)
      exact m_iret hx hb hr hlocks hK hP hD hS (so_2 hf) dX4_told_71
    have hf := if_f h13_3 hf
    by_cases h13_4 : a2 = 4
    · have hf := if_t h13_4 hf
      refine lv_tableIn (tgt := 72) hx hb dX4_told_13 (by rw [h13_4]; decide) (by rw [h13_4]; decide) (by rw [h13_4]; rfl) (by decide) ?_
      refine lv_aload_n hx hb dX4_told_72 rfl (lv_at hl 0 rfl) ?_
      refine va_get (D := (dC, dI)) (ci := 4) (v := .ref (ad 9)) (C := RX4) (T := TX4) (N := 21) hx hb hts inX4 hown hK hP 0 rfl rfl 9 (by decide) (hts (.fieldLink RX4 34 "BittenBoardsModel" "notedMany" "[I") (by decide +kernel)) (fun _ h9 => h9) rfl dX4_told_73 ?_
      refine lv_iload_n hx hb dX4_told_76 rfl (lv_at hl 1 rfl) ?_
      obtain ⟨hg77, hf⟩ := gi_e hf
      refine va_iald (f := (w.2 9)) hx hb hK hP 9 0 rfl rfl hg77 dX4_told_77 ?_
      exact m_iret hx hb hr hlocks hK hP hD hS (so_2 hf) dX4_told_78
    have hf := if_f h13_4 hf
    by_cases h13_5 : a2 = 5
    · have hf := if_t h13_5 hf
      refine lv_tableIn (tgt := 79) hx hb dX4_told_13 (by rw [h13_5]; decide) (by rw [h13_5]; decide) (by rw [h13_5]; rfl) (by decide) ?_
      refine lv_aload_n hx hb dX4_told_79 rfl (lv_at hl 0 rfl) ?_
      refine va_get (D := (dC, dI)) (ci := 4) (v := .ref (ad 3)) (C := RX4) (T := TX4) (N := 21) hx hb hts inX4 hown hK hP 0 rfl rfl 3 (by decide) (hts (.fieldLink RX4 16 "BittenBoardsModel" "states" "[I") (by decide +kernel)) (fun _ h9 => h9) rfl dX4_told_80 ?_
      refine lv_iload_n hx hb dX4_told_83 rfl (lv_at hl 1 rfl) ?_
      obtain ⟨hg84, hf⟩ := gi_e hf
      refine va_iald (f := (w.2 3)) hx hb hK hP 3 0 rfl rfl hg84 dX4_told_84 ?_
      exact m_iret hx hb hr hlocks hK hP hD hS (so_2 hf) dX4_told_85
    have hf := if_f h13_5 hf
    refine lv_tableOut (tgt := 86) hx hb dX4_told_13 (sw_out 5 (by decide) (fun k hk => by match k, hk with | 0, _ => exact h13_0 | 1, _ => exact h13_1 | 2, _ => exact h13_2 | 3, _ => exact h13_3 | 4, _ => exact h13_4 | 5, _ => exact h13_5)) (by decide) ?_
    refine lv_sipush (v := (-1002 : Int32)) hx hb dX4_told_86 (by decide) ?_
    exact m_iret hx hb hr hlocks hK hP hD hS (so_2 hf) dX4_told_89
  · have hf := if_t h5 hf
    refine lv_sipush (v := (-1001 : Int32)) hx hb dX4_told_8 (by decide) ?_
    exact m_iret hx hb hr hlocks hK hP hD hS (so_2 hf) dX4_told_11
set_option maxHeartbeats 4000000 in
set_option maxRecDepth 100000 in
theorem k_mf_isBelow (l : Launch) (dC : Nat → ClassId) (dI : Nat → Nat → Nat) (cI cZ cG : ClassId) (ad : Nat → Nat) (sz : Nat) (w : mW) (a1 : Int32) (a2 : Int32) (a3 : Int32) (r0 : Int32) (w0 : mW) (hf : mf_isBelow a1 a2 a3 w = some r0) (hw0 : w = w0) : Met l yX4_isBelow wsX4_isBelow ({ frames := 4, cells := 0, slots := 0, locals := 90 } : Room) (va_Pc [.ref (ad 0), .int a1, .int a2, .int a3] (mPre dC dI cI cZ cG ad sz w)) (va_Qi (fun (r : Int32) (u : mW) => r = r0 ∧ u = w0) (mB dC dI cI cZ cG ad (mA ad sz)) (mA ad sz)) 0 0 (mA ad sz) := by
  refine Met.ofW (cc := cX4_isBelow) (maxL := 4) (ret := (some .int)) (by decide) rfl ?_
  intro p e s m args below meth c s₁ B hml hv
  obtain ⟨rfl, hsz, hP, hK, hD0⟩ := hv
  have hx := B.exec
  have hb := B.bytes
  have hr := B.returns
  have hts := atoms_spec (ws := wsX4_isBelow) B.pre
  have hown : s.vm.findClass RX4 = some m.cls := findClass_of_methodNamed B.named
  have hlocks := B.notSynchronized
  subst hsz
  have hD : va_D (mA ad s.heap.size) (mc cI cZ ad w) := mD_self hD0
  have hAA : ∀ z q, s.heap.size ≤ z → mA ad z q → mA ad s.heap.size q := mA_mono
  generalize mA ad s.heap.size = A at hD hAA ⊢
  have hS : va_S A s.heap s.heap [] := va_S.rf
  have hl := lv_entry ([.ref (ad 0), .int a1, .int a2, .int a3]) (n := 4) (Nat.le_of_ble_eq_true rfl)
  rw [lg_entry_eq]
  generalize (lg_sl ([.ref (ad 0), .int a1, .int a2, .int a3]) ++ List.replicate (4 - (lg_sl ([.ref (ad 0), .int a1, .int a2, .int a3])).length) Slot.unset).toArray = ls at hl ⊢
  have hl : lv_has ls 4 [(0, .ref (ad 0)), (1, .int a1), (2, .int a2), (3, .int a3)] := hl
  unfold mf_isBelow at hf
  refine lv_aload_n hx hb dX4_isBelow_0 rfl (lv_at hl 0 rfl) ?_
  refine lv_iload_n hx hb dX4_isBelow_1 rfl (lv_at hl 1 rfl) ?_
  refine lv_iload_n hx hb dX4_isBelow_2 rfl (lv_at hl 2 rfl) ?_
  obtain ⟨r_3, hc3, hf⟩ := bn_e hf
  refine m_calli hD hS hAA (va_runV (As := [.int a1, .int a2]) (rest := []) ⟨hx, hb, hml, hown, hts⟩ (k_mf_isThing l dC dI cI cZ cG ad s.heap.size w a1 a2 r_3 w hc3 rfl) (cwV 2 hts gX4_isBelow_X4_isThing rfl rfl rfl (by decide +kernel) ⟨Nat.le_of_ble_eq_true rfl, Nat.le_of_ble_eq_true rfl⟩) ⟨m_blind, va_recv hK hP (ci := 4) (q0 := 0) rfl rfl, fun U hU hW => m_pre hU hW hK hP hD⟩ rfl rfl hl.1 rfl (lv_room (Nat.le_of_ble_eq_true rfl)) dX4_isBelow_3 ⟨Nat.zero_le _, Nat.zero_le _⟩) (fun H locs hP hD hS => ?_)
  refine lv_if_eq (tgt := 18) hx hb dX4_isBelow_6 (by decide) (fun h6 => ?_) (fun h6 => ?_)
  · have hf := if_t h6 hf
    refine lv_sipush (v := (-1001 : Int32)) hx hb dX4_isBelow_18 (by decide) ?_
    refine lv_goto (tgt := 39) hx hb dX4_isBelow_21 (by decide) ?_
    exact m_iret hx hb hr hlocks hK hP hD hS ⟨so_1 hf, hw0⟩ dX4_isBelow_39
  · have hf := if_f h6 hf
    refine lv_aload_n hx hb dX4_isBelow_9 rfl (lv_at hl 0 rfl) ?_
    refine lv_iload_n hx hb dX4_isBelow_10 rfl (lv_at hl 1 rfl) ?_
    refine lv_iload_n hx hb dX4_isBelow_11 rfl (lv_at hl 3 rfl) ?_
    obtain ⟨r_12, hc12, hf⟩ := bn_e hf
    refine m_calli hD hS hAA (va_runV (As := [.int a1, .int a3]) (rest := []) ⟨hx, hb, hml, hown, hts⟩ (k_mf_isThing l dC dI cI cZ cG ad H.size w a1 a3 r_12 w hc12 rfl) (cwV 2 hts gX4_isBelow_X4_isThing rfl rfl rfl (by decide +kernel) ⟨Nat.le_of_ble_eq_true rfl, Nat.le_of_ble_eq_true rfl⟩) ⟨m_blind, va_recv hK hP (ci := 4) (q0 := 0) rfl rfl, fun U hU hW => m_pre hU hW hK hP hD⟩ rfl rfl hl.1 rfl (lv_room (Nat.le_of_ble_eq_true rfl)) dX4_isBelow_12 ⟨Nat.zero_le _, Nat.zero_le _⟩) (fun H locs hP hD hS => ?_)
    refine lv_if_ne (tgt := 24) hx hb dX4_isBelow_15 (by decide) (fun h15 => ?_) (fun h15 => ?_)
    · have hf := if_f h15 hf
      refine lv_aload_n hx hb dX4_isBelow_24 rfl (lv_at hl 0 rfl) ?_
      refine lv_iload_n hx hb dX4_isBelow_25 rfl (lv_at hl 1 rfl) ?_
      refine lv_iload_n hx hb dX4_isBelow_26 rfl (lv_at hl 2 rfl) ?_
      refine lv_iload_n hx hb dX4_isBelow_27 rfl (lv_at hl 3 rfl) ?_
      obtain ⟨r_28, hc28, hf⟩ := bn_e hf
      refine m_calli hD hS hAA (va_runV (As := [.int a1, .int a2, .int a3]) (rest := []) ⟨hx, hb, hml, hown, hts⟩ (k_mf_lies l dC dI cI cZ cG ad H.size w a1 a2 a3 r_28 w hc28 rfl) (cwV 3 hts gX4_isBelow_X4_lies rfl rfl rfl (by decide +kernel) ⟨Nat.le_of_ble_eq_true rfl, Nat.le_of_ble_eq_true rfl⟩) ⟨m_blind, va_recv hK hP (ci := 4) (q0 := 0) rfl rfl, fun U hU hW => m_pre hU hW hK hP hD⟩ rfl rfl hl.1 rfl (lv_room (Nat.le_of_ble_eq_true rfl)) dX4_isBelow_28 ⟨Nat.zero_le _, Nat.zero_le _⟩) (fun H locs hP hD hS => ?_)
      refine lv_if_eq (tgt := 38) hx hb dX4_isBelow_31 (by decide) (fun h31 => ?_) (fun h31 => ?_)
      · have hf := if_t h31 hf
        refine lv_iconst (v := (0 : Int32)) hx hb dX4_isBelow_38 (by decide) ?_
        exact m_iret hx hb hr hlocks hK hP hD hS ⟨so_1 hf, hw0⟩ dX4_isBelow_39
      · have hf := if_f h31 hf
        refine lv_iconst (v := (1 : Int32)) hx hb dX4_isBelow_34 (by decide) ?_
        refine lv_goto (tgt := 39) hx hb dX4_isBelow_35 (by decide) ?_
        exact m_iret hx hb hr hlocks hK hP hD hS ⟨so_1 hf, hw0⟩ dX4_isBelow_39
    · have hf := if_t h15 hf
      refine lv_sipush (v := (-1001 : Int32)) hx hb dX4_isBelow_18 (by decide) ?_
      refine lv_goto (tgt := 39) hx hb dX4_isBelow_21 (by decide) ?_
      exact m_iret hx hb hr hlocks hK hP hD hS ⟨so_1 hf, hw0⟩ dX4_isBelow_39
set_option maxHeartbeats 4000000 in
set_option maxRecDepth 100000 in
theorem k_mf_biteAt (l : Launch) (dC : Nat → ClassId) (dI : Nat → Nat → Nat) (cI cZ cG : ClassId) (ad : Nat → Nat) (sz : Nat) (w : mW) (a1 : Int32) (a2 : Int32) (a3 : Int32) (r0 : Int32) (w0 : mW) (hf : mf_biteAt a1 a2 a3 w = some (r0, w0)) : Met l yX4_biteAt wsX4_biteAt ({ frames := 2, cells := 0, slots := 0, locals := 47 } : Room) (va_Pc [.ref (ad 0), .int a1, .int a2, .int a3] (mPre dC dI cI cZ cG ad sz w)) (va_Qi (fun (r : Int32) (u : mW) => r = r0 ∧ u = w0) (mB dC dI cI cZ cG ad (mA ad sz)) (mA ad sz)) 0 0 (mA ad sz) := by
  refine Met.ofW (cc := cX4_biteAt) (maxL := 7) (ret := (some .int)) (by decide) rfl ?_
  intro p e s m args below meth c s₁ B hml hv
  obtain ⟨rfl, hsz, hP, hK, hD0⟩ := hv
  have hx := B.exec
  have hb := B.bytes
  have hr := B.returns
  have hts := atoms_spec (ws := wsX4_biteAt) B.pre
  have hown : s.vm.findClass RX4 = some m.cls := findClass_of_methodNamed B.named
  have hlocks := B.notSynchronized
  have inX4 : ∀ w ∈ u_ws RX4 TX4 21, w ∈ wsX4_biteAt := by decide +kernel
  subst hsz
  have hD : va_D (mA ad s.heap.size) (mc cI cZ ad w) := mD_self hD0
  have hAA : ∀ z q, s.heap.size ≤ z → mA ad z q → mA ad s.heap.size q := mA_mono
  generalize mA ad s.heap.size = A at hD hAA ⊢
  have hS : va_S A s.heap s.heap [] := va_S.rf
  have C80 : ∀ (n80 : Nat) (x1 : Int32) (x2 : Int32) (x3 : Int32) (x4 : Int32) (x5 : Int32) (x6 : Int32) (w : mW), mf_biteAt_C80 n80 x1 x2 x3 x4 x5 x6 w = some (r0, w0) → ∀ (H : Heap) (locs : List Loc) (ls : Array Slot), va_P (dC, dI) vwCl (mc cI cZ ad w) H → va_D A (mc cI cZ ad w) → va_S A s.heap H locs → lv_has ls 7 [(0, .ref (ad 0)), (1, .int x1), (2, .int x2), (3, .int x3), (4, .int x4), (5, .int x5), (6, .int x6)] → W p l e (headSpec wsX4_biteAt ({ frames := 2, cells := 0, slots := 0, locals := 47 } : Room)).room s m (List.toArray [Value.ref (ad 0), Value.int a1, Value.int a2, Value.int a3]) below meth c H locs 0 0 (MQ below (va_Qi (fun (r : Int32) (u : mW) => r = r0 ∧ u = w0) (mB dC dI cI cZ cG ad A) A) (List.toArray [Value.ref (ad 0), Value.int a1, Value.int a2, Value.int a3]) s 0 0 A) (F0 m 80 ls []) := by
    intro n80
    induction n80 with
    | zero => intro x1 x2 x3 x4 x5 x6 w hf; cases hf
    | succ n80 ih80 =>
      intro x1 x2 x3 x4 x5 x6 w hf H locs ls hP hD hS hl
      rw [mf_biteAt_C80] at hf
      refine lv_iload hx hb dX4_biteAt_80 (lv_at hl 6 rfl) ?_
      refine lv_iload hx hb dX4_biteAt_82 (lv_at hl 4 rfl) ?_
      refine lv_icmp_gt (tgt := 109) hx hb dX4_biteAt_84 (by decide) (fun h84 => ?_) (fun h84 => ?_)
      · have hf := if_t h84 hf
        refine lv_iload_n hx hb dX4_biteAt_109 rfl (lv_at hl 3 rfl) ?_
        refine lv_iconst (v := (1 : Int32)) hx hb dX4_biteAt_110 (by decide) ?_
        refine lv_icmp_ne (tgt := 135) hx hb dX4_biteAt_111 (by decide) (fun h111 => ?_) (fun h111 => ?_)
        · have hf := if_f h111 hf
          refine lv_aload_n hx hb dX4_biteAt_135 rfl (lv_at hl 0 rfl) ?_
          refine va_get (D := (dC, dI)) (ci := 4) (v := .ref (ad 1)) (C := RX4) (T := TX4) (N := 21) hx hb hts inX4 hown hK hP 0 rfl rfl 1 (by decide) (hts (.fieldLink RX4 7 "BittenBoardsModel" "kinds" "[I") (by decide +kernel)) (fun _ h9 => h9) rfl dX4_biteAt_136 ?_
          refine lv_iload_n hx hb dX4_biteAt_139 rfl (lv_at hl 1 rfl) ?_
          obtain ⟨hg140, hf⟩ := gi_e hf
          refine va_iald (f := (w.2 1)) hx hb hK hP 1 0 rfl rfl hg140 dX4_biteAt_140 ?_
          refine lv_iconst (v := (1 : Int32)) hx hb dX4_biteAt_141 (by decide) ?_
          refine lv_icmp_eq (tgt := 152) hx hb dX4_biteAt_142 (by decide) (fun h142 => ?_) (fun h142 => ?_)
          · have hf := if_t h142 hf
            refine lv_iload hx hb dX4_biteAt_152 (lv_at hl 5 rfl) ?_
            refine lv_goto (tgt := 161) hx hb dX4_biteAt_154 (by decide) ?_
            exact m_iret hx hb hr hlocks hK hP hD hS (so_2 hf) dX4_biteAt_161
          · have hf := if_f h142 hf
            refine lv_iload hx hb dX4_biteAt_145 (lv_at hl 5 rfl) ?_
            refine lv_bipush (v := (6 : Int32)) hx hb dX4_biteAt_147 (by decide) ?_
            refine lv_icmp_ge (tgt := 157) hx hb dX4_biteAt_149 (by decide) (fun h149 => ?_) (fun h149 => ?_)
            · have hf := if_t h149 hf
              refine lv_iload hx hb dX4_biteAt_157 (lv_at hl 5 rfl) ?_
              refine lv_iconst (v := (4 : Int32)) hx hb dX4_biteAt_159 (by decide) ?_
              refine lv_iadd hx hb dX4_biteAt_160 ?_
              exact m_iret hx hb hr hlocks hK hP hD hS (so_2 hf) dX4_biteAt_161
            · have hf := if_f h149 hf
              refine lv_iload hx hb dX4_biteAt_152 (lv_at hl 5 rfl) ?_
              refine lv_goto (tgt := 161) hx hb dX4_biteAt_154 (by decide) ?_
              exact m_iret hx hb hr hlocks hK hP hD hS (so_2 hf) dX4_biteAt_161
        · have hf := if_t h111 hf
          refine lv_aload_n hx hb dX4_biteAt_114 rfl (lv_at hl 0 rfl) ?_
          refine va_get (D := (dC, dI)) (ci := 4) (v := .ref (ad 3)) (C := RX4) (T := TX4) (N := 21) hx hb hts inX4 hown hK hP 0 rfl rfl 3 (by decide) (hts (.fieldLink RX4 16 "BittenBoardsModel" "states" "[I") (by decide +kernel)) (fun _ h9 => h9) rfl dX4_biteAt_115 ?_
          refine lv_iload_n hx hb dX4_biteAt_118 rfl (lv_at hl 1 rfl) ?_
          obtain ⟨hg119, hf⟩ := gi_e hf
          refine va_iald (f := (w.2 3)) hx hb hK hP 3 0 rfl rfl hg119 dX4_biteAt_119 ?_
          refine lv_aload_n hx hb dX4_biteAt_120 rfl (lv_at hl 0 rfl) ?_
          refine va_get (D := (dC, dI)) (ci := 4) (v := .ref (ad 16)) (C := RX4) (T := TX4) (N := 21) hx hb hts inX4 hown hK hP 0 rfl rfl 17 (by decide) (hts (.fieldLink RX4 61 "BittenBoardsModel" "next" "[I") (by decide +kernel)) (fun _ h9 => h9) rfl dX4_biteAt_121 ?_
          refine lv_iload_n hx hb dX4_biteAt_124 rfl (lv_at hl 2 rfl) ?_
          obtain ⟨hg125, hf⟩ := gi_e hf
          refine va_iald (f := (w.2 16)) hx hb hK hP 16 0 rfl rfl hg125 dX4_biteAt_125 ?_
          refine lv_iconst (v := (-1 : Int32)) hx hb dX4_biteAt_126 (by decide) ?_
          refine lv_ixor hx hb dX4_biteAt_127 ?_
          refine lv_iand hx hb dX4_biteAt_128 ?_
          obtain ⟨r_129, hc129, hf⟩ := bn_e hf
          refine m_calli hD hS hAA (va_runS (As := [.int (((w.2 3) x1.toNatClampNeg) &&& (((w.2 16) x2.toNatClampNeg) ^^^ (-1 : Int32)))]) (rest := []) ⟨hx, hb, hml, hown, hts⟩ (k_mf_bits l dC dI cI cZ cG ad H.size w (((w.2 3) x1.toNatClampNeg) &&& (((w.2 16) x2.toNatClampNeg) ^^^ (-1 : Int32))) r_129 w hc129 rfl) (va_cwS 1 hts gX4_biteAt_X4_bits rfl rfl rfl (by decide +kernel) ⟨Nat.le_of_ble_eq_true rfl, Nat.le_of_ble_eq_true rfl⟩) ⟨m_blind, fun U hU hW => m_pre hU hW hK hP hD⟩ rfl rfl hl.1 rfl (lv_room (Nat.le_of_ble_eq_true rfl)) dX4_biteAt_129 ⟨Nat.zero_le _, Nat.zero_le _⟩) (fun H locs hP hD hS => ?_)
          refine lv_goto (tgt := 161) hx hb dX4_biteAt_132 (by decide) ?_
          exact m_iret hx hb hr hlocks hK hP hD hS (so_2 hf) dX4_biteAt_161
      · have hf := if_f h84 hf
        obtain ⟨x5_87, ex5_87, hf⟩ := nm_x hf
        refine lv_iinc (v := x5_87) (lv' := [(5, .int x5_87), (0, .ref (ad 0)), (1, .int x1), (2, .int x2), (3, .int x3), (4, .int x4), (6, .int x6)]) hx hb dX4_biteAt_87 hl (k := 5) rfl (by rw [ex5_87]; rfl) (by decide) rfl (fun ls hl => ?_)
        refine lv_iload hx hb dX4_biteAt_90 (lv_at hl 6 rfl) ?_
        refine lv_aload_n hx hb dX4_biteAt_92 rfl (lv_at hl 1 rfl) ?_
        refine va_get (D := (dC, dI)) (ci := 4) (v := .ref (ad 3)) (C := RX4) (T := TX4) (N := 21) hx hb hts inX4 hown hK hP 0 rfl rfl 3 (by decide) (hts (.fieldLink RX4 16 "BittenBoardsModel" "states" "[I") (by decide +kernel)) (fun _ h9 => h9) rfl dX4_biteAt_93 ?_
        refine lv_iload_n hx hb dX4_biteAt_96 rfl (lv_at hl 2 rfl) ?_
        obtain ⟨hg97, hf⟩ := gi_e hf
        refine va_iald (f := (w.2 3)) hx hb hK hP 3 0 rfl rfl hg97 dX4_biteAt_97 ?_
        refine lv_iload hx hb dX4_biteAt_98 (lv_at hl 0 rfl) ?_
        refine lv_ishr hx hb dX4_biteAt_100 ?_
        refine lv_iconst (v := (1 : Int32)) hx hb dX4_biteAt_101 (by decide) ?_
        refine lv_iand hx hb dX4_biteAt_102 ?_
        refine lv_iadd hx hb dX4_biteAt_103 ?_
        obtain ⟨x6_104, ex6_104, hf⟩ := nm_x hf
        refine W.eq (g2 := F0 m 104 ls [.int x6_104]) (by rw [ex6_104]) ?_
        refine lv_istore (lv' := [(6, .int x6_104), (5, .int x5_87), (0, .ref (ad 0)), (1, .int x1), (2, .int x2), (3, .int x3), (4, .int x4)]) hx hb dX4_biteAt_104 hl (by decide) rfl (fun ls hl => ?_)
        refine lv_goto (tgt := 80) hx hb dX4_biteAt_106 (by decide) ?_
        exact ih80 x1 x2 x3 x4 x5_87 x6_104 w hf _ _ _ hP hD hS (lv_sub hl [2, 3, 4, 5, 6, 1, 0] rfl)
  have C25 : ∀ (n25 : Nat) (x3 : Int32) (x4 : Int32) (x5 : Int32) (w : mW), mf_biteAt_C25 n25 x3 x4 x5 w = some (r0, w0) → ∀ (H : Heap) (locs : List Loc) (ls : Array Slot), va_P (dC, dI) vwCl (mc cI cZ ad w) H → va_D A (mc cI cZ ad w) → va_S A s.heap H locs → lv_has ls 7 [(0, .ref (ad 0)), (3, .int x3), (4, .int x4), (5, .int x5)] → W p l e (headSpec wsX4_biteAt ({ frames := 2, cells := 0, slots := 0, locals := 47 } : Room)).room s m (List.toArray [Value.ref (ad 0), Value.int a1, Value.int a2, Value.int a3]) below meth c H locs 0 0 (MQ below (va_Qi (fun (r : Int32) (u : mW) => r = r0 ∧ u = w0) (mB dC dI cI cZ cG ad A) A) (List.toArray [Value.ref (ad 0), Value.int a1, Value.int a2, Value.int a3]) s 0 0 A) (F0 m 25 ls []) := by
    intro n25
    induction n25 with
    | zero => intro x3 x4 x5 w hf; cases hf
    | succ n25 ih25 =>
      intro x3 x4 x5 w hf H locs ls hP hD hS hl
      rw [mf_biteAt_C25] at hf
      refine lv_iload hx hb dX4_biteAt_25 (lv_at hl 2 rfl) ?_
      refine lv_aload_n hx hb dX4_biteAt_27 rfl (lv_at hl 0 rfl) ?_
      refine va_get (D := (dC, dI)) (ci := 4) (v := .ref (ad 15)) (C := RX4) (T := TX4) (N := 21) hx hb hts inX4 hown hK hP 0 rfl rfl 16 (by decide) (hts (.fieldLink RX4 58 "BittenBoardsModel" "board" "[I") (by decide +kernel)) (fun _ h9 => h9) rfl dX4_biteAt_28 ?_
      refine lv_iload hx hb dX4_biteAt_31 (lv_at hl 3 rfl) ?_
      obtain ⟨hg33, hf⟩ := gi_e hf
      refine va_iald (f := (w.2 15)) hx hb hK hP 15 0 rfl rfl hg33 dX4_biteAt_33 ?_
      refine lv_icmp_lt (tgt := 55) hx hb dX4_biteAt_34 (by decide) (fun h34 => ?_) (fun h34 => ?_)
      · have hf := if_t h34 hf
        refine lv_iload_n hx hb dX4_biteAt_55 rfl (lv_at hl 1 rfl) ?_
        refine lv_if_ne (tgt := 64) hx hb dX4_biteAt_56 (by decide) (fun h56 => ?_) (fun h56 => ?_)
        · have hf := if_f h56 hf
          refine lv_iload hx hb dX4_biteAt_64 (lv_at hl 2 rfl) ?_
          exact m_iret hx hb hr hlocks hK hP hD hS (so_2 hf) dX4_biteAt_66
        · have hf := if_t h56 hf
          refine lv_iload hx hb dX4_biteAt_59 (lv_at hl 3 rfl) ?_
          refine lv_goto (tgt := 66) hx hb dX4_biteAt_61 (by decide) ?_
          exact m_iret hx hb hr hlocks hK hP hD hS (so_2 hf) dX4_biteAt_66
      · have hf := if_f h34 hf
        refine lv_iload hx hb dX4_biteAt_37 (lv_at hl 2 rfl) ?_
        refine lv_aload_n hx hb dX4_biteAt_39 rfl (lv_at hl 0 rfl) ?_
        refine va_get (D := (dC, dI)) (ci := 4) (v := .ref (ad 15)) (C := RX4) (T := TX4) (N := 21) hx hb hts inX4 hown hK hP 0 rfl rfl 16 (by decide) (hts (.fieldLink RX4 58 "BittenBoardsModel" "board" "[I") (by decide +kernel)) (fun _ h9 => h9) rfl dX4_biteAt_40 ?_
        refine lv_iload hx hb dX4_biteAt_43 (lv_at hl 3 rfl) ?_
        obtain ⟨hg45, hf⟩ := gi_e hf
        refine va_iald (f := (w.2 15)) hx hb hK hP 15 0 rfl rfl hg45 dX4_biteAt_45 ?_
        refine lv_isub hx hb dX4_biteAt_46 ?_
        obtain ⟨x4_47, ex4_47, hf⟩ := nm_x hf
        refine W.eq (g2 := F0 m 47 ls [.int x4_47]) (by rw [ex4_47]) ?_
        refine lv_istore (lv' := [(4, .int x4_47), (0, .ref (ad 0)), (3, .int x3), (5, .int x5)]) hx hb dX4_biteAt_47 hl (by decide) rfl (fun ls hl => ?_)
        obtain ⟨x5_49, ex5_49, hf⟩ := nm_x hf
        refine lv_iinc (v := x5_49) (lv' := [(5, .int x5_49), (4, .int x4_47), (0, .ref (ad 0)), (3, .int x3)]) hx hb dX4_biteAt_49 hl (k := 3) rfl (by rw [ex5_49]; rfl) (by decide) rfl (fun ls hl => ?_)
        refine lv_goto (tgt := 25) hx hb dX4_biteAt_52 (by decide) ?_
        exact ih25 x3 x4_47 x5_49 w hf _ _ _ hP hD hS (lv_sub hl [2, 3, 1, 0] rfl)
  have hl := lv_entry ([.ref (ad 0), .int a1, .int a2, .int a3]) (n := 7) (Nat.le_of_ble_eq_true rfl)
  rw [lg_entry_eq]
  generalize (lg_sl ([.ref (ad 0), .int a1, .int a2, .int a3]) ++ List.replicate (7 - (lg_sl ([.ref (ad 0), .int a1, .int a2, .int a3])).length) Slot.unset).toArray = ls at hl ⊢
  have hl : lv_has ls 7 [(0, .ref (ad 0)), (1, .int a1), (2, .int a2), (3, .int a3)] := hl
  unfold mf_biteAt at hf
  refine lv_iload_n hx hb dX4_biteAt_0 rfl (lv_at hl 2 rfl) ?_
  refine lv_istore (lv' := [(4, .int a2), (0, .ref (ad 0)), (1, .int a1), (2, .int a2), (3, .int a3)]) hx hb dX4_biteAt_1 hl (by decide) rfl (fun ls hl => ?_)
  refine lv_aload_n hx hb dX4_biteAt_3 rfl (lv_at hl 1 rfl) ?_
  refine va_get (D := (dC, dI)) (ci := 4) (v := .ref (ad 1)) (C := RX4) (T := TX4) (N := 21) hx hb hts inX4 hown hK hP 0 rfl rfl 1 (by decide) (hts (.fieldLink RX4 7 "BittenBoardsModel" "kinds" "[I") (by decide +kernel)) (fun _ h9 => h9) rfl dX4_biteAt_4 ?_
  refine lv_iload_n hx hb dX4_biteAt_7 rfl (lv_at hl 2 rfl) ?_
  obtain ⟨hg8, hf⟩ := gi_e hf
  refine va_iald (f := (w.2 1)) hx hb hK hP 1 0 rfl rfl hg8 dX4_biteAt_8 ?_
  refine lv_if_ne (tgt := 67) hx hb dX4_biteAt_9 (by decide) (fun h9 => ?_) (fun h9 => ?_)
  · have hf := if_f h9 hf
    refine lv_iconst (v := (0 : Int32)) hx hb dX4_biteAt_67 (by decide) ?_
    refine lv_istore (lv' := [(5, .int (0 : Int32)), (4, .int a2), (0, .ref (ad 0)), (1, .int a1), (2, .int a2), (3, .int a3)]) hx hb dX4_biteAt_68 hl (by decide) rfl (fun ls hl => ?_)
    refine lv_aload_n hx hb dX4_biteAt_70 rfl (lv_at hl 2 rfl) ?_
    refine va_get (D := (dC, dI)) (ci := 4) (v := .ref (ad 3)) (C := RX4) (T := TX4) (N := 21) hx hb hts inX4 hown hK hP 0 rfl rfl 3 (by decide) (hts (.fieldLink RX4 16 "BittenBoardsModel" "states" "[I") (by decide +kernel)) (fun _ h9 => h9) rfl dX4_biteAt_71 ?_
    refine lv_iload_n hx hb dX4_biteAt_74 rfl (lv_at hl 3 rfl) ?_
    obtain ⟨hg75, hf⟩ := gi_e hf
    refine va_iald (f := (w.2 3)) hx hb hK hP 3 0 rfl rfl hg75 dX4_biteAt_75 ?_
    refine lv_iconst (v := (1 : Int32)) hx hb dX4_biteAt_76 (by decide) ?_
    refine lv_iand hx hb dX4_biteAt_77 ?_
    obtain ⟨x6_78, ex6_78, hf⟩ := nm_x hf
    refine W.eq (g2 := F0 m 78 ls [.int x6_78]) (by rw [ex6_78]) ?_
    refine lv_istore (lv' := [(6, .int x6_78), (5, .int (0 : Int32)), (4, .int a2), (0, .ref (ad 0)), (1, .int a1), (2, .int a2), (3, .int a3)]) hx hb dX4_biteAt_78 hl (by decide) rfl (fun ls hl => ?_)
    exact C80 fu a1 a2 a3 a2 (0 : Int32) x6_78 w hf _ _ _ hP hD hS (lv_sub hl [3, 4, 5, 6, 2, 1, 0] rfl)
  · have hf := if_t h9 hf
    refine lv_aload_n hx hb dX4_biteAt_12 rfl (lv_at hl 1 rfl) ?_
    refine lv_aload_n hx hb dX4_biteAt_13 rfl (lv_at hl 1 rfl) ?_
    refine va_get (D := (dC, dI)) (ci := 4) (v := .ref (ad 3)) (C := RX4) (T := TX4) (N := 21) hx hb hts inX4 hown hK hP 0 rfl rfl 3 (by decide) (hts (.fieldLink RX4 16 "BittenBoardsModel" "states" "[I") (by decide +kernel)) (fun _ h9 => h9) rfl dX4_biteAt_14 ?_
    refine lv_iload_n hx hb dX4_biteAt_17 rfl (lv_at hl 2 rfl) ?_
    obtain ⟨hg18, hf⟩ := gi_e hf
    refine va_iald (f := (w.2 3)) hx hb hK hP 3 0 rfl rfl hg18 dX4_biteAt_18 ?_
    obtain ⟨w_19, hc19, hf⟩ := bn_e hf
    refine m_callv hD hS hAA (va_runV (As := [.int ((w.2 3) a1.toNatClampNeg)]) (rest := []) ⟨hx, hb, hml, hown, hts⟩ (k_mf_unrank l dC dI cI cZ cG ad s.heap.size w ((w.2 3) a1.toNatClampNeg) w_19 hc19) (cwV 1 hts gX4_biteAt_X4_unrank rfl rfl rfl (by decide +kernel) ⟨Nat.le_of_ble_eq_true rfl, Nat.le_of_ble_eq_true rfl⟩) ⟨m_blind, va_recv hK hP (ci := 4) (q0 := 0) rfl rfl, fun U hU hW => m_pre hU hW hK hP hD⟩ rfl rfl hl.1 rfl (lv_room (Nat.le_of_ble_eq_true rfl)) dX4_biteAt_19 ⟨Nat.zero_le _, Nat.zero_le _⟩) (fun H locs hP hD hS => ?_)
    refine lv_iconst (v := (0 : Int32)) hx hb dX4_biteAt_22 (by decide) ?_
    refine lv_istore (lv' := [(5, .int (0 : Int32)), (4, .int a2), (0, .ref (ad 0)), (1, .int a1), (2, .int a2), (3, .int a3)]) hx hb dX4_biteAt_23 hl (by decide) rfl (fun ls hl => ?_)
    exact C25 fu a3 a2 (0 : Int32) w_19 hf _ _ _ hP hD hS (lv_sub hl [2, 5, 1, 0] rfl)
set_option maxHeartbeats 4000000 in
set_option maxRecDepth 100000 in
theorem k_mf_bite (l : Launch) (dC : Nat → ClassId) (dI : Nat → Nat → Nat) (cI cZ cG : ClassId) (ad : Nat → Nat) (sz : Nat) (w : mW) (a1 : Int32) (a2 : Int32) (a3 : Int32) (r0 : Int32) (w0 : mW) (hf : mf_bite a1 a2 a3 w = some (r0, w0)) : Met l yX4_bite wsX4_bite ({ frames := 6, cells := 0, slots := 0, locals := 144 } : Room) (va_Pc [.ref (ad 0), .int a1, .int a2, .int a3] (mPre dC dI cI cZ cG ad sz w)) (va_Qi (fun (r : Int32) (u : mW) => r = r0 ∧ u = w0) (mB dC dI cI cZ cG ad (mA ad sz)) (mA ad sz)) 0 0 (mA ad sz) := by
  refine Met.ofW (cc := cX4_bite) (maxL := 4) (ret := (some .int)) (by decide) rfl ?_
  intro p e s m args below meth c s₁ B hml hv
  obtain ⟨rfl, hsz, hP, hK, hD0⟩ := hv
  have hx := B.exec
  have hb := B.bytes
  have hr := B.returns
  have hts := atoms_spec (ws := wsX4_bite) B.pre
  have hown : s.vm.findClass RX4 = some m.cls := findClass_of_methodNamed B.named
  have hlocks := B.notSynchronized
  have inX4 : ∀ w ∈ u_ws RX4 TX4 21, w ∈ wsX4_bite := by decide +kernel
  subst hsz
  have hD : va_D (mA ad s.heap.size) (mc cI cZ ad w) := mD_self hD0
  have hAA : ∀ z q, s.heap.size ≤ z → mA ad z q → mA ad s.heap.size q := mA_mono
  generalize mA ad s.heap.size = A at hD hAA ⊢
  have hS : va_S A s.heap s.heap [] := va_S.rf
  have hl := lv_entry ([.ref (ad 0), .int a1, .int a2, .int a3]) (n := 4) (Nat.le_of_ble_eq_true rfl)
  rw [lg_entry_eq]
  generalize (lg_sl ([.ref (ad 0), .int a1, .int a2, .int a3]) ++ List.replicate (4 - (lg_sl ([.ref (ad 0), .int a1, .int a2, .int a3])).length) Slot.unset).toArray = ls at hl ⊢
  have hl : lv_has ls 4 [(0, .ref (ad 0)), (1, .int a1), (2, .int a2), (3, .int a3)] := hl
  unfold mf_bite at hf
  refine lv_aload_n hx hb dX4_bite_0 rfl (lv_at hl 0 rfl) ?_
  refine lv_iload_n hx hb dX4_bite_1 rfl (lv_at hl 1 rfl) ?_
  obtain ⟨r_2, hc2, hf⟩ := bn_e hf
  refine m_calli hD hS hAA (va_runV (As := [.int a1]) (rest := []) ⟨hx, hb, hml, hown, hts⟩ (k_mf_isGame l dC dI cI cZ cG ad s.heap.size w a1 r_2 w hc2 rfl) (cwV 1 hts gX4_bite_X4_isGame rfl rfl rfl (by decide +kernel) ⟨Nat.le_of_ble_eq_true rfl, Nat.le_of_ble_eq_true rfl⟩) ⟨m_blind, va_recv hK hP (ci := 4) (q0 := 0) rfl rfl, fun U hU hW => m_pre hU hW hK hP hD⟩ rfl rfl hl.1 rfl (lv_room (Nat.le_of_ble_eq_true rfl)) dX4_bite_2 ⟨Nat.zero_le _, Nat.zero_le _⟩) (fun H locs hP hD hS => ?_)
  refine lv_if_ne (tgt := 12) hx hb dX4_bite_5 (by decide) (fun h5 => ?_) (fun h5 => ?_)
  · have hf := if_f h5 hf
    refine lv_iload_n hx hb dX4_bite_12 rfl (lv_at hl 3 rfl) ?_
    refine lv_i2l hx hb dX4_bite_13 rfl ?_
    refine lv_lconst (v := (0 : Int64)) hx hb dX4_bite_14 (by decide) ?_
    refine lv_ldc2 (v := (2 : Int64)) hx hb hown (hts (.constantLong RX4 153 (2 : Int64)) (by decide +kernel)) dX4_bite_15 ?_
    obtain ⟨r_18, hc18, hf⟩ := bn_e hf
    refine m_calli hD hS hAA (va_runS (As := [.long (a3.toInt64), .long (0 : Int64), .long (2 : Int64)]) (rest := []) ⟨hx, hb, hml, hown, hts⟩ (k_mf_in l dC dI cI cZ cG ad H.size w (a3.toInt64) (0 : Int64) (2 : Int64) r_18 w hc18 rfl) (va_cwS 3 hts gX4_bite_X4_in rfl rfl rfl (by decide +kernel) ⟨Nat.le_of_ble_eq_true rfl, Nat.le_of_ble_eq_true rfl⟩) ⟨m_blind, fun U hU hW => m_pre hU hW hK hP hD⟩ rfl rfl hl.1 rfl (lv_room (Nat.le_of_ble_eq_true rfl)) dX4_bite_18 ⟨Nat.zero_le _, Nat.zero_le _⟩) (fun H locs hP hD hS => ?_)
    refine lv_if_ne (tgt := 28) hx hb dX4_bite_21 (by decide) (fun h21 => ?_) (fun h21 => ?_)
    · have hf := if_f h21 hf
      refine lv_aload_n hx hb dX4_bite_28 rfl (lv_at hl 0 rfl) ?_
      refine lv_iload_n hx hb dX4_bite_29 rfl (lv_at hl 1 rfl) ?_
      obtain ⟨w_30, hc30, hf⟩ := bn_e hf
      refine m_callv hD hS hAA (va_runV (As := [.int a1]) (rest := []) ⟨hx, hb, hml, hown, hts⟩ (k_mf_solve l dC dI cI cZ cG ad H.size w a1 w_30 hc30) (cwV 1 hts gX4_bite_X4_solve rfl rfl rfl (by decide +kernel) ⟨Nat.le_of_ble_eq_true rfl, Nat.le_of_ble_eq_true rfl⟩) ⟨m_blind, va_recv hK hP (ci := 4) (q0 := 0) rfl rfl, fun U hU hW => m_pre hU hW hK hP hD⟩ rfl rfl hl.1 rfl (lv_room (Nat.le_of_ble_eq_true rfl)) dX4_bite_30 ⟨Nat.zero_le _, Nat.zero_le _⟩) (fun H locs hP hD hS => ?_)
      refine lv_iload_n hx hb dX4_bite_33 rfl (lv_at hl 2 rfl) ?_
      refine lv_i2l hx hb dX4_bite_34 rfl ?_
      refine lv_lconst (v := (0 : Int64)) hx hb dX4_bite_35 (by decide) ?_
      refine lv_aload_n hx hb dX4_bite_36 rfl (lv_at hl 0 rfl) ?_
      refine lv_iload_n hx hb dX4_bite_37 rfl (lv_at hl 1 rfl) ?_
      obtain ⟨r_38, w_38, hc38, hf⟩ := bn2_e hf
      refine m_calli hD hS hAA (va_runV (As := [.int a1]) (rest := [.long (0 : Int64), .long (a2.toInt64)]) ⟨hx, hb, hml, hown, hts⟩ (k_mf_bitesOf l dC dI cI cZ cG ad H.size w_30 a1 r_38 w_38 hc38) (cwV 1 hts gX4_bite_X4_bitesOf rfl rfl rfl (by decide +kernel) ⟨Nat.le_of_ble_eq_true rfl, Nat.le_of_ble_eq_true rfl⟩) ⟨m_blind, va_recv hK hP (ci := 4) (q0 := 0) rfl rfl, fun U hU hW => m_pre hU hW hK hP hD⟩ rfl rfl hl.1 rfl (lv_room (Nat.le_of_ble_eq_true rfl)) dX4_bite_38 ⟨Nat.zero_le _, Nat.zero_le _⟩) (fun H locs hP hD hS => ?_)
      refine lv_iconst (v := (1 : Int32)) hx hb dX4_bite_41 (by decide) ?_
      refine lv_isub hx hb dX4_bite_42 ?_
      refine lv_i2l hx hb dX4_bite_43 rfl ?_
      obtain ⟨r_44, hc44, hf⟩ := bn_e hf
      refine m_calli hD hS hAA (va_runS (As := [.long (a2.toInt64), .long (0 : Int64), .long ((r_38 - (1 : Int32)).toInt64)]) (rest := []) ⟨hx, hb, hml, hown, hts⟩ (k_mf_in l dC dI cI cZ cG ad H.size w_38 (a2.toInt64) (0 : Int64) ((r_38 - (1 : Int32)).toInt64) r_44 w_38 hc44 rfl) (va_cwS 3 hts gX4_bite_X4_in rfl rfl rfl (by decide +kernel) ⟨Nat.le_of_ble_eq_true rfl, Nat.le_of_ble_eq_true rfl⟩) ⟨m_blind, fun U hU hW => m_pre hU hW hK hP hD⟩ rfl rfl hl.1 rfl (lv_room (Nat.le_of_ble_eq_true rfl)) dX4_bite_44 ⟨Nat.zero_le _, Nat.zero_le _⟩) (fun H locs hP hD hS => ?_)
      refine lv_if_ne (tgt := 52) hx hb dX4_bite_47 (by decide) (fun h47 => ?_) (fun h47 => ?_)
      · have hf := if_f h47 hf
        refine lv_iload_n hx hb dX4_bite_52 rfl (lv_at hl 3 rfl) ?_
        refine lv_iconst (v := (2 : Int32)) hx hb dX4_bite_53 (by decide) ?_
        refine lv_icmp_ne (tgt := 79) hx hb dX4_bite_54 (by decide) (fun h54 => ?_) (fun h54 => ?_)
        · have hf := if_f h54 hf
          refine lv_aload_n hx hb dX4_bite_79 rfl (lv_at hl 0 rfl) ?_
          refine lv_iload_n hx hb dX4_bite_80 rfl (lv_at hl 1 rfl) ?_
          refine lv_iload_n hx hb dX4_bite_81 rfl (lv_at hl 2 rfl) ?_
          refine lv_iload_n hx hb dX4_bite_82 rfl (lv_at hl 3 rfl) ?_
          obtain ⟨r_83, w_83, hc83, hf⟩ := bn2_e hf
          refine m_calli hD hS hAA (va_runV (As := [.int a1, .int a2, .int a3]) (rest := []) ⟨hx, hb, hml, hown, hts⟩ (k_mf_biteAt l dC dI cI cZ cG ad H.size w_38 a1 a2 a3 r_83 w_83 hc83) (cwV 3 hts gX4_bite_X4_biteAt rfl rfl rfl (by decide +kernel) ⟨Nat.le_of_ble_eq_true rfl, Nat.le_of_ble_eq_true rfl⟩) ⟨m_blind, va_recv hK hP (ci := 4) (q0 := 0) rfl rfl, fun U hU hW => m_pre hU hW hK hP hD⟩ rfl rfl hl.1 rfl (lv_room (Nat.le_of_ble_eq_true rfl)) dX4_bite_83 ⟨Nat.zero_le _, Nat.zero_le _⟩) (fun H locs hP hD hS => ?_)
          exact m_iret hx hb hr hlocks hK hP hD hS (so_2 hf) dX4_bite_86
        · have hf := if_t h54 hf
          refine lv_aload_n hx hb dX4_bite_57 rfl (lv_at hl 0 rfl) ?_
          refine va_get (D := (dC, dI)) (ci := 4) (v := .ref (ad 12)) (C := RX4) (T := TX4) (N := 21) hx hb hts inX4 hown hK hP 0 rfl rfl 13 (by decide) (hts (.fieldLink RX4 48 "BittenBoardsModel" "isWon" "[Z") (by decide +kernel)) (fun _ h9 => h9) rfl dX4_bite_58 ?_
          refine lv_aload_n hx hb dX4_bite_61 rfl (lv_at hl 0 rfl) ?_
          refine va_get (D := (dC, dI)) (ci := 4) (v := .ref (ad 16)) (C := RX4) (T := TX4) (N := 21) hx hb hts inX4 hown hK hP 0 rfl rfl 17 (by decide) (hts (.fieldLink RX4 61 "BittenBoardsModel" "next" "[I") (by decide +kernel)) (fun _ h9 => h9) rfl dX4_bite_62 ?_
          refine lv_iload_n hx hb dX4_bite_65 rfl (lv_at hl 2 rfl) ?_
          obtain ⟨hg66, hf⟩ := gi_e hf
          refine va_iald (f := (w_38.2 16)) hx hb hK hP 16 0 rfl rfl hg66 dX4_bite_66 ?_
          obtain ⟨hg67, hf⟩ := gi_e hf
          refine va_zald (f := (w_38.2 12)) hx hb hK hP 12 1 rfl rfl hg67 dX4_bite_67 ?_
          refine lv_if_eq (tgt := 75) hx hb dX4_bite_68 (by decide) (fun h68 => ?_) (fun h68 => ?_)
          · have hf := if_t h68 hf
            refine lv_iconst (v := (1 : Int32)) hx hb dX4_bite_75 (by decide) ?_
            refine lv_goto (tgt := 86) hx hb dX4_bite_76 (by decide) ?_
            exact m_iret hx hb hr hlocks hK hP hD hS (so_2 hf) dX4_bite_86
          · have hf := if_f h68 hf
            refine lv_iconst (v := (0 : Int32)) hx hb dX4_bite_71 (by decide) ?_
            refine lv_goto (tgt := 86) hx hb dX4_bite_72 (by decide) ?_
            exact m_iret hx hb hr hlocks hK hP hD hS (so_2 hf) dX4_bite_86
      · have hf := if_t h47 hf
        refine lv_iconst (v := (-1 : Int32)) hx hb dX4_bite_50 (by decide) ?_
        exact m_iret hx hb hr hlocks hK hP hD hS (so_2 hf) dX4_bite_51
    · have hf := if_t h21 hf
      refine lv_sipush (v := (-1002 : Int32)) hx hb dX4_bite_24 (by decide) ?_
      exact m_iret hx hb hr hlocks hK hP hD hS (so_2 hf) dX4_bite_27
  · have hf := if_t h5 hf
    refine lv_sipush (v := (-1001 : Int32)) hx hb dX4_bite_8 (by decide) ?_
    exact m_iret hx hb hr hlocks hK hP hD hS (so_2 hf) dX4_bite_11
set_option maxHeartbeats 4000000 in
set_option maxRecDepth 100000 in
theorem k_mf_won (l : Launch) (dC : Nat → ClassId) (dI : Nat → Nat → Nat) (cI cZ cG : ClassId) (ad : Nat → Nat) (sz : Nat) (w : mW) (a1 : Int32) (r0 : Int32) (w0 : mW) (hf : mf_won a1 w = some (r0, w0)) : Met l yX4_won wsX4_won ({ frames := 6, cells := 0, slots := 0, locals := 144 } : Room) (va_Pc [.ref (ad 0), .int a1] (mPre dC dI cI cZ cG ad sz w)) (va_Qi (fun (r : Int32) (u : mW) => r = r0 ∧ u = w0) (mB dC dI cI cZ cG ad (mA ad sz)) (mA ad sz)) 0 0 (mA ad sz) := by
  refine Met.ofW (cc := cX4_won) (maxL := 2) (ret := (some .int)) (by decide) rfl ?_
  intro p e s m args below meth c s₁ B hml hv
  obtain ⟨rfl, hsz, hP, hK, hD0⟩ := hv
  have hx := B.exec
  have hb := B.bytes
  have hr := B.returns
  have hts := atoms_spec (ws := wsX4_won) B.pre
  have hown : s.vm.findClass RX4 = some m.cls := findClass_of_methodNamed B.named
  have hlocks := B.notSynchronized
  have inX4 : ∀ w ∈ u_ws RX4 TX4 21, w ∈ wsX4_won := by decide +kernel
  subst hsz
  have hD : va_D (mA ad s.heap.size) (mc cI cZ ad w) := mD_self hD0
  have hAA : ∀ z q, s.heap.size ≤ z → mA ad z q → mA ad s.heap.size q := mA_mono
  generalize mA ad s.heap.size = A at hD hAA ⊢
  have hS : va_S A s.heap s.heap [] := va_S.rf
  have hl := lv_entry ([.ref (ad 0), .int a1]) (n := 2) (Nat.le_of_ble_eq_true rfl)
  rw [lg_entry_eq]
  generalize (lg_sl ([.ref (ad 0), .int a1]) ++ List.replicate (2 - (lg_sl ([.ref (ad 0), .int a1])).length) Slot.unset).toArray = ls at hl ⊢
  have hl : lv_has ls 2 [(0, .ref (ad 0)), (1, .int a1)] := hl
  unfold mf_won at hf
  refine lv_aload_n hx hb dX4_won_0 rfl (lv_at hl 0 rfl) ?_
  refine lv_iload_n hx hb dX4_won_1 rfl (lv_at hl 1 rfl) ?_
  obtain ⟨r_2, hc2, hf⟩ := bn_e hf
  refine m_calli hD hS hAA (va_runV (As := [.int a1]) (rest := []) ⟨hx, hb, hml, hown, hts⟩ (k_mf_isGame l dC dI cI cZ cG ad s.heap.size w a1 r_2 w hc2 rfl) (cwV 1 hts gX4_won_X4_isGame rfl rfl rfl (by decide +kernel) ⟨Nat.le_of_ble_eq_true rfl, Nat.le_of_ble_eq_true rfl⟩) ⟨m_blind, va_recv hK hP (ci := 4) (q0 := 0) rfl rfl, fun U hU hW => m_pre hU hW hK hP hD⟩ rfl rfl hl.1 rfl (lv_room (Nat.le_of_ble_eq_true rfl)) dX4_won_2 ⟨Nat.zero_le _, Nat.zero_le _⟩) (fun H locs hP hD hS => ?_)
  refine lv_if_ne (tgt := 12) hx hb dX4_won_5 (by decide) (fun h5 => ?_) (fun h5 => ?_)
  · have hf := if_f h5 hf
    refine lv_aload_n hx hb dX4_won_12 rfl (lv_at hl 0 rfl) ?_
    refine lv_iload_n hx hb dX4_won_13 rfl (lv_at hl 1 rfl) ?_
    obtain ⟨w_14, hc14, hf⟩ := bn_e hf
    refine m_callv hD hS hAA (va_runV (As := [.int a1]) (rest := []) ⟨hx, hb, hml, hown, hts⟩ (k_mf_solve l dC dI cI cZ cG ad H.size w a1 w_14 hc14) (cwV 1 hts gX4_won_X4_solve rfl rfl rfl (by decide +kernel) ⟨Nat.le_of_ble_eq_true rfl, Nat.le_of_ble_eq_true rfl⟩) ⟨m_blind, va_recv hK hP (ci := 4) (q0 := 0) rfl rfl, fun U hU hW => m_pre hU hW hK hP hD⟩ rfl rfl hl.1 rfl (lv_room (Nat.le_of_ble_eq_true rfl)) dX4_won_14 ⟨Nat.zero_le _, Nat.zero_le _⟩) (fun H locs hP hD hS => ?_)
    refine lv_aload_n hx hb dX4_won_17 rfl (lv_at hl 0 rfl) ?_
    refine va_get (D := (dC, dI)) (ci := 4) (v := .ref (ad 12)) (C := RX4) (T := TX4) (N := 21) hx hb hts inX4 hown hK hP 0 rfl rfl 13 (by decide) (hts (.fieldLink RX4 48 "BittenBoardsModel" "isWon" "[Z") (by decide +kernel)) (fun _ h9 => h9) rfl dX4_won_18 ?_
    refine lv_aload_n hx hb dX4_won_21 rfl (lv_at hl 0 rfl) ?_
    refine va_get (D := (dC, dI)) (ci := 4) (v := .ref (ad 3)) (C := RX4) (T := TX4) (N := 21) hx hb hts inX4 hown hK hP 0 rfl rfl 3 (by decide) (hts (.fieldLink RX4 16 "BittenBoardsModel" "states" "[I") (by decide +kernel)) (fun _ h9 => h9) rfl dX4_won_22 ?_
    refine lv_iload_n hx hb dX4_won_25 rfl (lv_at hl 1 rfl) ?_
    obtain ⟨hg26, hf⟩ := gi_e hf
    refine va_iald (f := (w_14.2 3)) hx hb hK hP 3 0 rfl rfl hg26 dX4_won_26 ?_
    obtain ⟨hg27, hf⟩ := gi_e hf
    refine va_zald (f := (w_14.2 12)) hx hb hK hP 12 1 rfl rfl hg27 dX4_won_27 ?_
    refine lv_if_eq (tgt := 35) hx hb dX4_won_28 (by decide) (fun h28 => ?_) (fun h28 => ?_)
    · have hf := if_t h28 hf
      refine lv_iconst (v := (0 : Int32)) hx hb dX4_won_35 (by decide) ?_
      exact m_iret hx hb hr hlocks hK hP hD hS (so_2 hf) dX4_won_36
    · have hf := if_f h28 hf
      refine lv_iconst (v := (1 : Int32)) hx hb dX4_won_31 (by decide) ?_
      refine lv_goto (tgt := 36) hx hb dX4_won_32 (by decide) ?_
      exact m_iret hx hb hr hlocks hK hP hD hS (so_2 hf) dX4_won_36
  · have hf := if_t h5 hf
    refine lv_sipush (v := (-1001 : Int32)) hx hb dX4_won_8 (by decide) ?_
    exact m_iret hx hb hr hlocks hK hP hD hS (so_2 hf) dX4_won_11
set_option maxHeartbeats 4000000 in
set_option maxRecDepth 100000 in
theorem k_mf_worthOf (l : Launch) (dC : Nat → ClassId) (dI : Nat → Nat → Nat) (cI cZ cG : ClassId) (ad : Nat → Nat) (sz : Nat) (w : mW) (a1 : Int32) (r0 : Int32) (w0 : mW) (hf : mf_worthOf a1 w = some (r0, w0)) : Met l yX4_worthOf wsX4_worthOf ({ frames := 6, cells := 0, slots := 0, locals := 144 } : Room) (va_Pc [.ref (ad 0), .int a1] (mPre dC dI cI cZ cG ad sz w)) (va_Qi (fun (r : Int32) (u : mW) => r = r0 ∧ u = w0) (mB dC dI cI cZ cG ad (mA ad sz)) (mA ad sz)) 0 0 (mA ad sz) := by
  refine Met.ofW (cc := cX4_worthOf) (maxL := 2) (ret := (some .int)) (by decide) rfl ?_
  intro p e s m args below meth c s₁ B hml hv
  obtain ⟨rfl, hsz, hP, hK, hD0⟩ := hv
  have hx := B.exec
  have hb := B.bytes
  have hr := B.returns
  have hts := atoms_spec (ws := wsX4_worthOf) B.pre
  have hown : s.vm.findClass RX4 = some m.cls := findClass_of_methodNamed B.named
  have hlocks := B.notSynchronized
  have inX4 : ∀ w ∈ u_ws RX4 TX4 21, w ∈ wsX4_worthOf := by decide +kernel
  subst hsz
  have hD : va_D (mA ad s.heap.size) (mc cI cZ ad w) := mD_self hD0
  have hAA : ∀ z q, s.heap.size ≤ z → mA ad z q → mA ad s.heap.size q := mA_mono
  generalize mA ad s.heap.size = A at hD hAA ⊢
  have hS : va_S A s.heap s.heap [] := va_S.rf
  have hl := lv_entry ([.ref (ad 0), .int a1]) (n := 2) (Nat.le_of_ble_eq_true rfl)
  rw [lg_entry_eq]
  generalize (lg_sl ([.ref (ad 0), .int a1]) ++ List.replicate (2 - (lg_sl ([.ref (ad 0), .int a1])).length) Slot.unset).toArray = ls at hl ⊢
  have hl : lv_has ls 2 [(0, .ref (ad 0)), (1, .int a1)] := hl
  unfold mf_worthOf at hf
  refine lv_aload_n hx hb dX4_worthOf_0 rfl (lv_at hl 0 rfl) ?_
  refine lv_iload_n hx hb dX4_worthOf_1 rfl (lv_at hl 1 rfl) ?_
  obtain ⟨w_2, hc2, hf⟩ := bn_e hf
  refine m_callv hD hS hAA (va_runV (As := [.int a1]) (rest := []) ⟨hx, hb, hml, hown, hts⟩ (k_mf_solve l dC dI cI cZ cG ad s.heap.size w a1 w_2 hc2) (cwV 1 hts gX4_worthOf_X4_solve rfl rfl rfl (by decide +kernel) ⟨Nat.le_of_ble_eq_true rfl, Nat.le_of_ble_eq_true rfl⟩) ⟨m_blind, va_recv hK hP (ci := 4) (q0 := 0) rfl rfl, fun U hU hW => m_pre hU hW hK hP hD⟩ rfl rfl hl.1 rfl (lv_room (Nat.le_of_ble_eq_true rfl)) dX4_worthOf_2 ⟨Nat.zero_le _, Nat.zero_le _⟩) (fun H locs hP hD hS => ?_)
  refine lv_aload_n hx hb dX4_worthOf_5 rfl (lv_at hl 0 rfl) ?_
  refine va_get (D := (dC, dI)) (ci := 4) (v := .ref (ad 14)) (C := RX4) (T := TX4) (N := 21) hx hb hts inX4 hown hK hP 0 rfl rfl 15 (by decide) (hts (.fieldLink RX4 55 "BittenBoardsModel" "worths" "[I") (by decide +kernel)) (fun _ h9 => h9) rfl dX4_worthOf_6 ?_
  refine lv_aload_n hx hb dX4_worthOf_9 rfl (lv_at hl 0 rfl) ?_
  refine va_get (D := (dC, dI)) (ci := 4) (v := .ref (ad 3)) (C := RX4) (T := TX4) (N := 21) hx hb hts inX4 hown hK hP 0 rfl rfl 3 (by decide) (hts (.fieldLink RX4 16 "BittenBoardsModel" "states" "[I") (by decide +kernel)) (fun _ h9 => h9) rfl dX4_worthOf_10 ?_
  refine lv_iload_n hx hb dX4_worthOf_13 rfl (lv_at hl 1 rfl) ?_
  obtain ⟨hg14, hf⟩ := gi_e hf
  refine va_iald (f := (w_2.2 3)) hx hb hK hP 3 0 rfl rfl hg14 dX4_worthOf_14 ?_
  obtain ⟨hg15, hf⟩ := gi_e hf
  refine va_iald (f := (w_2.2 14)) hx hb hK hP 14 0 rfl rfl hg15 dX4_worthOf_15 ?_
  exact m_iret hx hb hr hlocks hK hP hD hS (so_2 hf) dX4_worthOf_16
set_option maxHeartbeats 4000000 in
set_option maxRecDepth 100000 in
theorem k_mf_worth (l : Launch) (dC : Nat → ClassId) (dI : Nat → Nat → Nat) (cI cZ cG : ClassId) (ad : Nat → Nat) (sz : Nat) (w : mW) (a1 : Int32) (r0 : Int32) (w0 : mW) (hf : mf_worth a1 w = some (r0, w0)) : Met l yX4_worth wsX4_worth ({ frames := 7, cells := 0, slots := 0, locals := 165 } : Room) (va_Pc [.ref (ad 0), .int a1] (mPre dC dI cI cZ cG ad sz w)) (va_Qi (fun (r : Int32) (u : mW) => r = r0 ∧ u = w0) (mB dC dI cI cZ cG ad (mA ad sz)) (mA ad sz)) 0 0 (mA ad sz) := by
  refine Met.ofW (cc := cX4_worth) (maxL := 2) (ret := (some .int)) (by decide) rfl ?_
  intro p e s m args below meth c s₁ B hml hv
  obtain ⟨rfl, hsz, hP, hK, hD0⟩ := hv
  have hx := B.exec
  have hb := B.bytes
  have hr := B.returns
  have hts := atoms_spec (ws := wsX4_worth) B.pre
  have hown : s.vm.findClass RX4 = some m.cls := findClass_of_methodNamed B.named
  have hlocks := B.notSynchronized
  subst hsz
  have hD : va_D (mA ad s.heap.size) (mc cI cZ ad w) := mD_self hD0
  have hAA : ∀ z q, s.heap.size ≤ z → mA ad z q → mA ad s.heap.size q := mA_mono
  generalize mA ad s.heap.size = A at hD hAA ⊢
  have hS : va_S A s.heap s.heap [] := va_S.rf
  have hl := lv_entry ([.ref (ad 0), .int a1]) (n := 2) (Nat.le_of_ble_eq_true rfl)
  rw [lg_entry_eq]
  generalize (lg_sl ([.ref (ad 0), .int a1]) ++ List.replicate (2 - (lg_sl ([.ref (ad 0), .int a1])).length) Slot.unset).toArray = ls at hl ⊢
  have hl : lv_has ls 2 [(0, .ref (ad 0)), (1, .int a1)] := hl
  unfold mf_worth at hf
  refine lv_aload_n hx hb dX4_worth_0 rfl (lv_at hl 0 rfl) ?_
  refine lv_iload_n hx hb dX4_worth_1 rfl (lv_at hl 1 rfl) ?_
  obtain ⟨r_2, hc2, hf⟩ := bn_e hf
  refine m_calli hD hS hAA (va_runV (As := [.int a1]) (rest := []) ⟨hx, hb, hml, hown, hts⟩ (k_mf_isGame l dC dI cI cZ cG ad s.heap.size w a1 r_2 w hc2 rfl) (cwV 1 hts gX4_worth_X4_isGame rfl rfl rfl (by decide +kernel) ⟨Nat.le_of_ble_eq_true rfl, Nat.le_of_ble_eq_true rfl⟩) ⟨m_blind, va_recv hK hP (ci := 4) (q0 := 0) rfl rfl, fun U hU hW => m_pre hU hW hK hP hD⟩ rfl rfl hl.1 rfl (lv_room (Nat.le_of_ble_eq_true rfl)) dX4_worth_2 ⟨Nat.zero_le _, Nat.zero_le _⟩) (fun H locs hP hD hS => ?_)
  refine lv_if_eq (tgt := 16) hx hb dX4_worth_5 (by decide) (fun h5 => ?_) (fun h5 => ?_)
  · have hf := if_t h5 hf
    refine lv_sipush (v := (-1001 : Int32)) hx hb dX4_worth_16 (by decide) ?_
    exact m_iret hx hb hr hlocks hK hP hD hS (so_2 hf) dX4_worth_19
  · have hf := if_f h5 hf
    refine lv_aload_n hx hb dX4_worth_8 rfl (lv_at hl 0 rfl) ?_
    refine lv_iload_n hx hb dX4_worth_9 rfl (lv_at hl 1 rfl) ?_
    obtain ⟨r_10, w_10, hc10, hf⟩ := bn2_e hf
    refine m_calli hD hS hAA (va_runV (As := [.int a1]) (rest := []) ⟨hx, hb, hml, hown, hts⟩ (k_mf_worthOf l dC dI cI cZ cG ad H.size w a1 r_10 w_10 hc10) (cwV 1 hts gX4_worth_X4_worthOf rfl rfl rfl (by decide +kernel) ⟨Nat.le_of_ble_eq_true rfl, Nat.le_of_ble_eq_true rfl⟩) ⟨m_blind, va_recv hK hP (ci := 4) (q0 := 0) rfl rfl, fun U hU hW => m_pre hU hW hK hP hD⟩ rfl rfl hl.1 rfl (lv_room (Nat.le_of_ble_eq_true rfl)) dX4_worth_10 ⟨Nat.zero_le _, Nat.zero_le _⟩) (fun H locs hP hD hS => ?_)
    refine lv_goto (tgt := 19) hx hb dX4_worth_13 (by decide) ?_
    exact m_iret hx hb hr hlocks hK hP hD hS (so_2 hf) dX4_worth_19
set_option maxHeartbeats 4000000 in
set_option maxRecDepth 100000 in
theorem k_mf_length (l : Launch) (dC : Nat → ClassId) (dI : Nat → Nat → Nat) (cI cZ cG : ClassId) (ad : Nat → Nat) (sz : Nat) (w : mW) (a1 : Int32) (r0 : Int32) (w0 : mW) (hf : mf_length a1 w = some (r0, w0)) : Met l yX4_length wsX4_length ({ frames := 6, cells := 0, slots := 0, locals := 144 } : Room) (va_Pc [.ref (ad 0), .int a1] (mPre dC dI cI cZ cG ad sz w)) (va_Qi (fun (r : Int32) (u : mW) => r = r0 ∧ u = w0) (mB dC dI cI cZ cG ad (mA ad sz)) (mA ad sz)) 0 0 (mA ad sz) := by
  refine Met.ofW (cc := cX4_length) (maxL := 2) (ret := (some .int)) (by decide) rfl ?_
  intro p e s m args below meth c s₁ B hml hv
  obtain ⟨rfl, hsz, hP, hK, hD0⟩ := hv
  have hx := B.exec
  have hb := B.bytes
  have hr := B.returns
  have hts := atoms_spec (ws := wsX4_length) B.pre
  have hown : s.vm.findClass RX4 = some m.cls := findClass_of_methodNamed B.named
  have hlocks := B.notSynchronized
  have inX4 : ∀ w ∈ u_ws RX4 TX4 21, w ∈ wsX4_length := by decide +kernel
  subst hsz
  have hD : va_D (mA ad s.heap.size) (mc cI cZ ad w) := mD_self hD0
  have hAA : ∀ z q, s.heap.size ≤ z → mA ad z q → mA ad s.heap.size q := mA_mono
  generalize mA ad s.heap.size = A at hD hAA ⊢
  have hS : va_S A s.heap s.heap [] := va_S.rf
  have hl := lv_entry ([.ref (ad 0), .int a1]) (n := 2) (Nat.le_of_ble_eq_true rfl)
  rw [lg_entry_eq]
  generalize (lg_sl ([.ref (ad 0), .int a1]) ++ List.replicate (2 - (lg_sl ([.ref (ad 0), .int a1])).length) Slot.unset).toArray = ls at hl ⊢
  have hl : lv_has ls 2 [(0, .ref (ad 0)), (1, .int a1)] := hl
  unfold mf_length at hf
  refine lv_aload_n hx hb dX4_length_0 rfl (lv_at hl 0 rfl) ?_
  refine lv_iload_n hx hb dX4_length_1 rfl (lv_at hl 1 rfl) ?_
  obtain ⟨r_2, hc2, hf⟩ := bn_e hf
  refine m_calli hD hS hAA (va_runV (As := [.int a1]) (rest := []) ⟨hx, hb, hml, hown, hts⟩ (k_mf_isGame l dC dI cI cZ cG ad s.heap.size w a1 r_2 w hc2 rfl) (cwV 1 hts gX4_length_X4_isGame rfl rfl rfl (by decide +kernel) ⟨Nat.le_of_ble_eq_true rfl, Nat.le_of_ble_eq_true rfl⟩) ⟨m_blind, va_recv hK hP (ci := 4) (q0 := 0) rfl rfl, fun U hU hW => m_pre hU hW hK hP hD⟩ rfl rfl hl.1 rfl (lv_room (Nat.le_of_ble_eq_true rfl)) dX4_length_2 ⟨Nat.zero_le _, Nat.zero_le _⟩) (fun H locs hP hD hS => ?_)
  refine lv_if_ne (tgt := 12) hx hb dX4_length_5 (by decide) (fun h5 => ?_) (fun h5 => ?_)
  · have hf := if_f h5 hf
    refine lv_aload_n hx hb dX4_length_12 rfl (lv_at hl 0 rfl) ?_
    refine lv_iload_n hx hb dX4_length_13 rfl (lv_at hl 1 rfl) ?_
    obtain ⟨w_14, hc14, hf⟩ := bn_e hf
    refine m_callv hD hS hAA (va_runV (As := [.int a1]) (rest := []) ⟨hx, hb, hml, hown, hts⟩ (k_mf_solve l dC dI cI cZ cG ad H.size w a1 w_14 hc14) (cwV 1 hts gX4_length_X4_solve rfl rfl rfl (by decide +kernel) ⟨Nat.le_of_ble_eq_true rfl, Nat.le_of_ble_eq_true rfl⟩) ⟨m_blind, va_recv hK hP (ci := 4) (q0 := 0) rfl rfl, fun U hU hW => m_pre hU hW hK hP hD⟩ rfl rfl hl.1 rfl (lv_room (Nat.le_of_ble_eq_true rfl)) dX4_length_14 ⟨Nat.zero_le _, Nat.zero_le _⟩) (fun H locs hP hD hS => ?_)
    refine lv_aload_n hx hb dX4_length_17 rfl (lv_at hl 0 rfl) ?_
    refine va_get (D := (dC, dI)) (ci := 4) (v := .ref (ad 13)) (C := RX4) (T := TX4) (N := 21) hx hb hts inX4 hown hK hP 0 rfl rfl 14 (by decide) (hts (.fieldLink RX4 52 "BittenBoardsModel" "lengths" "[I") (by decide +kernel)) (fun _ h9 => h9) rfl dX4_length_18 ?_
    refine lv_aload_n hx hb dX4_length_21 rfl (lv_at hl 0 rfl) ?_
    refine va_get (D := (dC, dI)) (ci := 4) (v := .ref (ad 3)) (C := RX4) (T := TX4) (N := 21) hx hb hts inX4 hown hK hP 0 rfl rfl 3 (by decide) (hts (.fieldLink RX4 16 "BittenBoardsModel" "states" "[I") (by decide +kernel)) (fun _ h9 => h9) rfl dX4_length_22 ?_
    refine lv_iload_n hx hb dX4_length_25 rfl (lv_at hl 1 rfl) ?_
    obtain ⟨hg26, hf⟩ := gi_e hf
    refine va_iald (f := (w_14.2 3)) hx hb hK hP 3 0 rfl rfl hg26 dX4_length_26 ?_
    obtain ⟨hg27, hf⟩ := gi_e hf
    refine va_iald (f := (w_14.2 13)) hx hb hK hP 13 0 rfl rfl hg27 dX4_length_27 ?_
    exact m_iret hx hb hr hlocks hK hP hD hS (so_2 hf) dX4_length_28
  · have hf := if_t h5 hf
    refine lv_sipush (v := (-1001 : Int32)) hx hb dX4_length_8 (by decide) ?_
    exact m_iret hx hb hr hlocks hK hP hD hS (so_2 hf) dX4_length_11
set_option maxHeartbeats 4000000 in
set_option maxRecDepth 100000 in
theorem k_mf_winning (l : Launch) (dC : Nat → ClassId) (dI : Nat → Nat → Nat) (cI cZ cG : ClassId) (ad : Nat → Nat) (sz : Nat) (w : mW) (a1 : Int32) (r0 : Int32) (w0 : mW) (hf : mf_winning a1 w = some (r0, w0)) : Met l yX4_winning wsX4_winning ({ frames := 6, cells := 0, slots := 0, locals := 144 } : Room) (va_Pc [.ref (ad 0), .int a1] (mPre dC dI cI cZ cG ad sz w)) (va_Qi (fun (r : Int32) (u : mW) => r = r0 ∧ u = w0) (mB dC dI cI cZ cG ad (mA ad sz)) (mA ad sz)) 0 0 (mA ad sz) := by
  refine Met.ofW (cc := cX4_winning) (maxL := 4) (ret := (some .int)) (by decide) rfl ?_
  intro p e s m args below meth c s₁ B hml hv
  obtain ⟨rfl, hsz, hP, hK, hD0⟩ := hv
  have hx := B.exec
  have hb := B.bytes
  have hr := B.returns
  have hts := atoms_spec (ws := wsX4_winning) B.pre
  have hown : s.vm.findClass RX4 = some m.cls := findClass_of_methodNamed B.named
  have hlocks := B.notSynchronized
  have inX4 : ∀ w ∈ u_ws RX4 TX4 21, w ∈ wsX4_winning := by decide +kernel
  subst hsz
  have hD : va_D (mA ad s.heap.size) (mc cI cZ ad w) := mD_self hD0
  have hAA : ∀ z q, s.heap.size ≤ z → mA ad z q → mA ad s.heap.size q := mA_mono
  generalize mA ad s.heap.size = A at hD hAA ⊢
  have hS : va_S A s.heap s.heap [] := va_S.rf
  have C27 : ∀ (n27 : Nat) (x2 : Int32) (x3 : Int32) (w : mW), mf_winning_C27 n27 x2 x3 w = some (r0, w0) → ∀ (H : Heap) (locs : List Loc) (ls : Array Slot), va_P (dC, dI) vwCl (mc cI cZ ad w) H → va_D A (mc cI cZ ad w) → va_S A s.heap H locs → lv_has ls 4 [(0, .ref (ad 0)), (2, .int x2), (3, .int x3)] → W p l e (headSpec wsX4_winning ({ frames := 6, cells := 0, slots := 0, locals := 144 } : Room)).room s m (List.toArray [Value.ref (ad 0), Value.int a1]) below meth c H locs 0 0 (MQ below (va_Qi (fun (r : Int32) (u : mW) => r = r0 ∧ u = w0) (mB dC dI cI cZ cG ad A) A) (List.toArray [Value.ref (ad 0), Value.int a1]) s 0 0 A) (F0 m 27 ls []) := by
    intro n27
    induction n27 with
    | zero => intro x2 x3 w hf; cases hf
    | succ n27 ih27 =>
      intro x2 x3 w hf H locs ls hP hD hS hl
      rw [mf_winning_C27] at hf
      refine lv_iload_n hx hb dX4_winning_27 rfl (lv_at hl 2 rfl) ?_
      refine lv_if_lt (tgt := 59) hx hb dX4_winning_28 (by decide) (fun h28 => ?_) (fun h28 => ?_)
      · have hf := if_t h28 hf
        refine lv_iload_n hx hb dX4_winning_59 rfl (lv_at hl 1 rfl) ?_
        exact m_iret hx hb hr hlocks hK hP hD hS (so_2 hf) dX4_winning_60
      · have hf := if_f h28 hf
        refine lv_iload_n hx hb dX4_winning_31 rfl (lv_at hl 1 rfl) ?_
        refine lv_aload_n hx hb dX4_winning_32 rfl (lv_at hl 0 rfl) ?_
        refine va_get (D := (dC, dI)) (ci := 4) (v := .ref (ad 12)) (C := RX4) (T := TX4) (N := 21) hx hb hts inX4 hown hK hP 0 rfl rfl 13 (by decide) (hts (.fieldLink RX4 48 "BittenBoardsModel" "isWon" "[Z") (by decide +kernel)) (fun _ h9 => h9) rfl dX4_winning_33 ?_
        refine lv_aload_n hx hb dX4_winning_36 rfl (lv_at hl 0 rfl) ?_
        refine va_get (D := (dC, dI)) (ci := 4) (v := .ref (ad 16)) (C := RX4) (T := TX4) (N := 21) hx hb hts inX4 hown hK hP 0 rfl rfl 17 (by decide) (hts (.fieldLink RX4 61 "BittenBoardsModel" "next" "[I") (by decide +kernel)) (fun _ h9 => h9) rfl dX4_winning_37 ?_
        refine lv_iload_n hx hb dX4_winning_40 rfl (lv_at hl 2 rfl) ?_
        obtain ⟨hg41, hf⟩ := gi_e hf
        refine va_iald (f := (w.2 16)) hx hb hK hP 16 0 rfl rfl hg41 dX4_winning_41 ?_
        obtain ⟨hg42, hf⟩ := gi_e hf
        refine va_zald (f := (w.2 12)) hx hb hK hP 12 1 rfl rfl hg42 dX4_winning_42 ?_
        refine lv_if_eq (tgt := 50) hx hb dX4_winning_43 (by decide) (fun h43 => ?_) (fun h43 => ?_)
        · have hf := if_t h43 hf
          refine lv_iconst (v := (1 : Int32)) hx hb dX4_winning_50 (by decide) ?_
          refine lv_iadd hx hb dX4_winning_51 ?_
          obtain ⟨x2_52, ex2_52, hf⟩ := nm_x hf
          refine W.eq (g2 := F0 m 52 ls [.int x2_52]) (by rw [ex2_52]) ?_
          refine lv_istore_n (lv' := [(2, .int x2_52), (0, .ref (ad 0)), (3, .int x3)]) hx hb dX4_winning_52 rfl hl (by decide) rfl (fun ls hl => ?_)
          obtain ⟨x3_53, ex3_53, hf⟩ := nm_x hf
          refine lv_iinc (v := x3_53) (lv' := [(3, .int x3_53), (2, .int x2_52), (0, .ref (ad 0))]) hx hb dX4_winning_53 hl (k := 2) rfl (by rw [ex3_53]; rfl) (by decide) rfl (fun ls hl => ?_)
          refine lv_goto (tgt := 27) hx hb dX4_winning_56 (by decide) ?_
          exact ih27 x2_52 x3_53 w hf _ _ _ hP hD hS (lv_sub hl [2, 1, 0] rfl)
        · have hf := if_f h43 hf
          refine lv_iconst (v := (0 : Int32)) hx hb dX4_winning_46 (by decide) ?_
          refine lv_goto (tgt := 51) hx hb dX4_winning_47 (by decide) ?_
          refine lv_iadd hx hb dX4_winning_51 ?_
          obtain ⟨x2_52, ex2_52, hf⟩ := nm_x hf
          refine W.eq (g2 := F0 m 52 ls [.int x2_52]) (by rw [ex2_52]) ?_
          refine lv_istore_n (lv' := [(2, .int x2_52), (0, .ref (ad 0)), (3, .int x3)]) hx hb dX4_winning_52 rfl hl (by decide) rfl (fun ls hl => ?_)
          obtain ⟨x3_53, ex3_53, hf⟩ := nm_x hf
          refine lv_iinc (v := x3_53) (lv' := [(3, .int x3_53), (2, .int x2_52), (0, .ref (ad 0))]) hx hb dX4_winning_53 hl (k := 2) rfl (by rw [ex3_53]; rfl) (by decide) rfl (fun ls hl => ?_)
          refine lv_goto (tgt := 27) hx hb dX4_winning_56 (by decide) ?_
          exact ih27 x2_52 x3_53 w hf _ _ _ hP hD hS (lv_sub hl [2, 1, 0] rfl)
  have hl := lv_entry ([.ref (ad 0), .int a1]) (n := 4) (Nat.le_of_ble_eq_true rfl)
  rw [lg_entry_eq]
  generalize (lg_sl ([.ref (ad 0), .int a1]) ++ List.replicate (4 - (lg_sl ([.ref (ad 0), .int a1])).length) Slot.unset).toArray = ls at hl ⊢
  have hl : lv_has ls 4 [(0, .ref (ad 0)), (1, .int a1)] := hl
  unfold mf_winning at hf
  refine lv_aload_n hx hb dX4_winning_0 rfl (lv_at hl 0 rfl) ?_
  refine lv_iload_n hx hb dX4_winning_1 rfl (lv_at hl 1 rfl) ?_
  obtain ⟨r_2, hc2, hf⟩ := bn_e hf
  refine m_calli hD hS hAA (va_runV (As := [.int a1]) (rest := []) ⟨hx, hb, hml, hown, hts⟩ (k_mf_isGame l dC dI cI cZ cG ad s.heap.size w a1 r_2 w hc2 rfl) (cwV 1 hts gX4_winning_X4_isGame rfl rfl rfl (by decide +kernel) ⟨Nat.le_of_ble_eq_true rfl, Nat.le_of_ble_eq_true rfl⟩) ⟨m_blind, va_recv hK hP (ci := 4) (q0 := 0) rfl rfl, fun U hU hW => m_pre hU hW hK hP hD⟩ rfl rfl hl.1 rfl (lv_room (Nat.le_of_ble_eq_true rfl)) dX4_winning_2 ⟨Nat.zero_le _, Nat.zero_le _⟩) (fun H locs hP hD hS => ?_)
  refine lv_if_ne (tgt := 12) hx hb dX4_winning_5 (by decide) (fun h5 => ?_) (fun h5 => ?_)
  · have hf := if_f h5 hf
    refine lv_aload_n hx hb dX4_winning_12 rfl (lv_at hl 0 rfl) ?_
    refine lv_iload_n hx hb dX4_winning_13 rfl (lv_at hl 1 rfl) ?_
    obtain ⟨w_14, hc14, hf⟩ := bn_e hf
    refine m_callv hD hS hAA (va_runV (As := [.int a1]) (rest := []) ⟨hx, hb, hml, hown, hts⟩ (k_mf_solve l dC dI cI cZ cG ad H.size w a1 w_14 hc14) (cwV 1 hts gX4_winning_X4_solve rfl rfl rfl (by decide +kernel) ⟨Nat.le_of_ble_eq_true rfl, Nat.le_of_ble_eq_true rfl⟩) ⟨m_blind, va_recv hK hP (ci := 4) (q0 := 0) rfl rfl, fun U hU hW => m_pre hU hW hK hP hD⟩ rfl rfl hl.1 rfl (lv_room (Nat.le_of_ble_eq_true rfl)) dX4_winning_14 ⟨Nat.zero_le _, Nat.zero_le _⟩) (fun H locs hP hD hS => ?_)
    refine lv_iconst (v := (0 : Int32)) hx hb dX4_winning_17 (by decide) ?_
    refine lv_istore_n (lv' := [(2, .int (0 : Int32)), (0, .ref (ad 0)), (1, .int a1)]) hx hb dX4_winning_18 rfl hl (by decide) rfl (fun ls hl => ?_)
    refine lv_aload_n hx hb dX4_winning_19 rfl (lv_at hl 1 rfl) ?_
    refine lv_iload_n hx hb dX4_winning_20 rfl (lv_at hl 2 rfl) ?_
    obtain ⟨r_21, w_21, hc21, hf⟩ := bn2_e hf
    refine m_calli hD hS hAA (va_runV (As := [.int a1]) (rest := []) ⟨hx, hb, hml, hown, hts⟩ (k_mf_bitesOf l dC dI cI cZ cG ad H.size w_14 a1 r_21 w_21 hc21) (cwV 1 hts gX4_winning_X4_bitesOf rfl rfl rfl (by decide +kernel) ⟨Nat.le_of_ble_eq_true rfl, Nat.le_of_ble_eq_true rfl⟩) ⟨m_blind, va_recv hK hP (ci := 4) (q0 := 0) rfl rfl, fun U hU hW => m_pre hU hW hK hP hD⟩ rfl rfl hl.1 rfl (lv_room (Nat.le_of_ble_eq_true rfl)) dX4_winning_21 ⟨Nat.zero_le _, Nat.zero_le _⟩) (fun H locs hP hD hS => ?_)
    refine lv_iconst (v := (1 : Int32)) hx hb dX4_winning_24 (by decide) ?_
    refine lv_isub hx hb dX4_winning_25 ?_
    obtain ⟨x3_26, ex3_26, hf⟩ := nm_x hf
    refine W.eq (g2 := F0 m 26 ls [.int x3_26]) (by rw [ex3_26]) ?_
    refine lv_istore_n (lv' := [(3, .int x3_26), (2, .int (0 : Int32)), (0, .ref (ad 0)), (1, .int a1)]) hx hb dX4_winning_26 rfl hl (by decide) rfl (fun ls hl => ?_)
    exact C27 fu (0 : Int32) x3_26 w_21 hf _ _ _ hP hD hS (lv_sub hl [2, 1, 0] rfl)
  · have hf := if_t h5 hf
    refine lv_sipush (v := (-1001 : Int32)) hx hb dX4_winning_8 (by decide) ?_
    exact m_iret hx hb hr hlocks hK hP hD hS (so_2 hf) dX4_winning_11
set_option maxHeartbeats 4000000 in
set_option maxRecDepth 100000 in
theorem k_mf_boards (l : Launch) (dC : Nat → ClassId) (dI : Nat → Nat → Nat) (cI cZ cG : ClassId) (ad : Nat → Nat) (sz : Nat) (w : mW) (a1 : Int32) (a2 : Int32) (a3 : Int32) (r0 : Int32) (w0 : mW) (hf : mf_boards a1 a2 a3 w = some (r0, w0)) : Met l yX4_boards wsX4_boards ({ frames := 6, cells := 0, slots := 0, locals := 144 } : Room) (va_Pc [.ref (ad 0), .int a1, .int a2, .int a3] (mPre dC dI cI cZ cG ad sz w)) (va_Qi (fun (r : Int32) (u : mW) => r = r0 ∧ u = w0) (mB dC dI cI cZ cG ad (mA ad sz)) (mA ad sz)) 0 0 (mA ad sz) := by
  refine Met.ofW (cc := cX4_boards) (maxL := 10) (ret := (some .int)) (by decide) rfl ?_
  intro p e s m args below meth c s₁ B hml hv
  obtain ⟨rfl, hsz, hP, hK, hD0⟩ := hv
  have hx := B.exec
  have hb := B.bytes
  have hr := B.returns
  have hts := atoms_spec (ws := wsX4_boards) B.pre
  have hown : s.vm.findClass RX4 = some m.cls := findClass_of_methodNamed B.named
  have hlocks := B.notSynchronized
  have inX4 : ∀ w ∈ u_ws RX4 TX4 21, w ∈ wsX4_boards := by decide +kernel
  subst hsz
  have hD : va_D (mA ad s.heap.size) (mc cI cZ ad w) := mD_self hD0
  have hAA : ∀ z q, s.heap.size ≤ z → mA ad z q → mA ad s.heap.size q := mA_mono
  generalize mA ad s.heap.size = A at hD hAA ⊢
  have hS : va_S A s.heap s.heap [] := va_S.rf
  have C113 : ∀ (n113 : Nat) (x1 : Int32) (x2 : Int32) (x3 : Int32) (x6 : Int32) (x7 : Int32) (x8 : Int32) (x9 : Int32) (w : mW), mf_boards_C113 n113 x1 x2 x3 x6 x7 x8 x9 w = some (r0, w0) → ∀ (H : Heap) (locs : List Loc) (ls : Array Slot), va_P (dC, dI) vwCl (mc cI cZ ad w) H → va_D A (mc cI cZ ad w) → va_S A s.heap H locs → lv_has ls 10 [(0, .ref (ad 0)), (1, .int x1), (2, .int x2), (3, .int x3), (6, .int x6), (7, .int x7), (8, .int x8), (9, .int x9)] → W p l e (headSpec wsX4_boards ({ frames := 6, cells := 0, slots := 0, locals := 144 } : Room)).room s m (List.toArray [Value.ref (ad 0), Value.int a1, Value.int a2, Value.int a3]) below meth c H locs 0 0 (MQ below (va_Qi (fun (r : Int32) (u : mW) => r = r0 ∧ u = w0) (mB dC dI cI cZ cG ad A) A) (List.toArray [Value.ref (ad 0), Value.int a1, Value.int a2, Value.int a3]) s 0 0 A) (F0 m 113 ls []) := by
    intro n113
    induction n113 with
    | zero => intro x1 x2 x3 x6 x7 x8 x9 w hf; cases hf
    | succ n113 ih113 =>
      have C172 : ∀ (x1 : Int32) (x2 : Int32) (x3 : Int32) (x6 : Int32) (x8 : Int32) (x9 : Int32) (t0 : Int32) (t1 : Int32) (w : mW), mf_boards_C172 (mf_boards_C113 n113) x1 x2 x3 x6 x8 x9 t0 t1 w = some (r0, w0) → ∀ (H : Heap) (locs : List Loc) (ls : Array Slot), va_P (dC, dI) vwCl (mc cI cZ ad w) H → va_D A (mc cI cZ ad w) → va_S A s.heap H locs → lv_has ls 10 [(0, .ref (ad 0)), (1, .int x1), (2, .int x2), (3, .int x3), (6, .int x6), (8, .int x8), (9, .int x9)] → W p l e (headSpec wsX4_boards ({ frames := 6, cells := 0, slots := 0, locals := 144 } : Room)).room s m (List.toArray [Value.ref (ad 0), Value.int a1, Value.int a2, Value.int a3]) below meth c H locs 0 0 (MQ below (va_Qi (fun (r : Int32) (u : mW) => r = r0 ∧ u = w0) (mB dC dI cI cZ cG ad A) A) (List.toArray [Value.ref (ad 0), Value.int a1, Value.int a2, Value.int a3]) s 0 0 A) (F0 m 172 ls [.int t1, .int t0]) := by
        intro x1 x2 x3 x6 x8 x9 t0 t1 w hf H locs ls hP hD hS hl
        unfold mf_boards_C172 at hf
        refine lv_iadd hx hb dX4_boards_172 ?_
        obtain ⟨x7_173, ex7_173, hf⟩ := nm_x hf
        refine W.eq (g2 := F0 m 173 ls [.int x7_173]) (by rw [ex7_173]) ?_
        refine lv_istore (lv' := [(7, .int x7_173), (0, .ref (ad 0)), (1, .int x1), (2, .int x2), (3, .int x3), (6, .int x6), (8, .int x8), (9, .int x9)]) hx hb dX4_boards_173 hl (by decide) rfl (fun ls hl => ?_)
        refine lv_aload_n hx hb dX4_boards_175 rfl (lv_at hl 1 rfl) ?_
        refine va_get (D := (dC, dI)) (ci := 4) (v := .ref (ad 14)) (C := RX4) (T := TX4) (N := 21) hx hb hts inX4 hown hK hP 0 rfl rfl 15 (by decide) (hts (.fieldLink RX4 55 "BittenBoardsModel" "worths" "[I") (by decide +kernel)) (fun _ h9 => h9) rfl dX4_boards_176 ?_
        refine lv_iload hx hb dX4_boards_179 (lv_at hl 7 rfl) ?_
        obtain ⟨hg181, hf⟩ := gi_e hf
        refine va_iald (f := (w.2 14)) hx hb hK hP 14 0 rfl rfl hg181 dX4_boards_181 ?_
        refine lv_iload hx hb dX4_boards_182 (lv_at hl 6 rfl) ?_
        refine lv_icmp_le (tgt := 197) hx hb dX4_boards_184 (by decide) (fun h184 => ?_) (fun h184 => ?_)
        · have hf := if_t h184 hf
          refine lv_iload hx hb dX4_boards_197 (lv_at hl 6 rfl) ?_
          refine lv_istore (lv' := [(8, .int x8), (7, .int x7_173), (0, .ref (ad 0)), (1, .int x1), (2, .int x2), (3, .int x3), (6, .int x6), (9, .int x9)]) hx hb dX4_boards_199 hl (by decide) rfl (fun ls hl => ?_)
          obtain ⟨x9_201, ex9_201, hf⟩ := nm_x hf
          refine lv_iinc (v := x9_201) (lv' := [(9, .int x9_201), (8, .int x8), (7, .int x7_173), (0, .ref (ad 0)), (1, .int x1), (2, .int x2), (3, .int x3), (6, .int x6)]) hx hb dX4_boards_201 hl (k := 7) rfl (by rw [ex9_201]; rfl) (by decide) rfl (fun ls hl => ?_)
          refine lv_goto (tgt := 113) hx hb dX4_boards_204 (by decide) ?_
          exact ih113 x1 x2 x3 x6 x7_173 x8 x9_201 w hf _ _ _ hP hD hS (lv_sub hl [3, 4, 5, 6, 7, 2, 1, 0] rfl)
        · have hf := if_f h184 hf
          refine lv_aload_n hx hb dX4_boards_187 rfl (lv_at hl 1 rfl) ?_
          refine va_get (D := (dC, dI)) (ci := 4) (v := .ref (ad 14)) (C := RX4) (T := TX4) (N := 21) hx hb hts inX4 hown hK hP 0 rfl rfl 15 (by decide) (hts (.fieldLink RX4 55 "BittenBoardsModel" "worths" "[I") (by decide +kernel)) (fun _ h9 => h9) rfl dX4_boards_188 ?_
          refine lv_iload hx hb dX4_boards_191 (lv_at hl 7 rfl) ?_
          obtain ⟨hg193, hf⟩ := gi_e hf
          refine va_iald (f := (w.2 14)) hx hb hK hP 14 0 rfl rfl hg193 dX4_boards_193 ?_
          refine lv_goto (tgt := 199) hx hb dX4_boards_194 (by decide) ?_
          obtain ⟨x8_199, ex8_199, hf⟩ := nm_x hf
          refine W.eq (g2 := F0 m 199 ls [.int x8_199]) (by rw [ex8_199]) ?_
          refine lv_istore (lv' := [(8, .int x8_199), (7, .int x7_173), (0, .ref (ad 0)), (1, .int x1), (2, .int x2), (3, .int x3), (6, .int x6), (9, .int x9)]) hx hb dX4_boards_199 hl (by decide) rfl (fun ls hl => ?_)
          obtain ⟨x9_201, ex9_201, hf⟩ := nm_x hf
          refine lv_iinc (v := x9_201) (lv' := [(9, .int x9_201), (8, .int x8_199), (7, .int x7_173), (0, .ref (ad 0)), (1, .int x1), (2, .int x2), (3, .int x3), (6, .int x6)]) hx hb dX4_boards_201 hl (k := 7) rfl (by rw [ex9_201]; rfl) (by decide) rfl (fun ls hl => ?_)
          refine lv_goto (tgt := 113) hx hb dX4_boards_204 (by decide) ?_
          exact ih113 x1 x2 x3 x6 x7_173 x8_199 x9_201 w hf _ _ _ hP hD hS (lv_sub hl [3, 4, 5, 6, 7, 2, 1, 0] rfl)
      have C152 : ∀ (x1 : Int32) (x2 : Int32) (x3 : Int32) (x6 : Int32) (x7 : Int32) (x8 : Int32) (x9 : Int32) (w : mW), mf_boards_C152 (mf_boards_C113 n113) x1 x2 x3 x6 x7 x8 x9 w = some (r0, w0) → ∀ (H : Heap) (locs : List Loc) (ls : Array Slot), va_P (dC, dI) vwCl (mc cI cZ ad w) H → va_D A (mc cI cZ ad w) → va_S A s.heap H locs → lv_has ls 10 [(0, .ref (ad 0)), (1, .int x1), (2, .int x2), (3, .int x3), (6, .int x6), (7, .int x7), (8, .int x8), (9, .int x9)] → W p l e (headSpec wsX4_boards ({ frames := 6, cells := 0, slots := 0, locals := 144 } : Room)).room s m (List.toArray [Value.ref (ad 0), Value.int a1, Value.int a2, Value.int a3]) below meth c H locs 0 0 (MQ below (va_Qi (fun (r : Int32) (u : mW) => r = r0 ∧ u = w0) (mB dC dI cI cZ cG ad A) A) (List.toArray [Value.ref (ad 0), Value.int a1, Value.int a2, Value.int a3]) s 0 0 A) (F0 m 152 ls []) := by
        intro x1 x2 x3 x6 x7 x8 x9 w hf H locs ls hP hD hS hl
        unfold mf_boards_C152 at hf
        obtain ⟨x6_152, ex6_152, hf⟩ := nm_x hf
        refine lv_iinc (v := x6_152) (lv' := [(6, .int x6_152), (0, .ref (ad 0)), (1, .int x1), (2, .int x2), (3, .int x3), (7, .int x7), (8, .int x8), (9, .int x9)]) hx hb dX4_boards_152 hl (k := 4) rfl (by rw [ex6_152]; rfl) (by decide) rfl (fun ls hl => ?_)
        refine lv_iload hx hb dX4_boards_155 (lv_at hl 5 rfl) ?_
        refine lv_aload_n hx hb dX4_boards_157 rfl (lv_at hl 1 rfl) ?_
        refine va_get (D := (dC, dI)) (ci := 4) (v := .ref (ad 12)) (C := RX4) (T := TX4) (N := 21) hx hb hts inX4 hown hK hP 0 rfl rfl 13 (by decide) (hts (.fieldLink RX4 48 "BittenBoardsModel" "isWon" "[Z") (by decide +kernel)) (fun _ h9 => h9) rfl dX4_boards_158 ?_
        refine lv_iload hx hb dX4_boards_161 (lv_at hl 7 rfl) ?_
        obtain ⟨hg163, hf⟩ := gi_e hf
        refine va_zald (f := (w.2 12)) hx hb hK hP 12 1 rfl rfl hg163 dX4_boards_163 ?_
        refine lv_if_eq (tgt := 171) hx hb dX4_boards_164 (by decide) (fun h164 => ?_) (fun h164 => ?_)
        · have hf := if_t h164 hf
          refine lv_iconst (v := (1 : Int32)) hx hb dX4_boards_171 (by decide) ?_
          exact C172 x1 x2 x3 x6_152 x8 x9 x7 (1 : Int32) w hf _ _ _ hP hD hS (lv_sub hl [1, 2, 3, 4, 0, 6, 7] rfl)
        · have hf := if_f h164 hf
          refine lv_iconst (v := (0 : Int32)) hx hb dX4_boards_167 (by decide) ?_
          refine lv_goto (tgt := 172) hx hb dX4_boards_168 (by decide) ?_
          exact C172 x1 x2 x3 x6_152 x8 x9 x7 (0 : Int32) w hf _ _ _ hP hD hS (lv_sub hl [1, 2, 3, 4, 0, 6, 7] rfl)
      intro x1 x2 x3 x6 x7 x8 x9 w hf H locs ls hP hD hS hl
      rw [mf_boards_C113] at hf
      refine lv_iload hx hb dX4_boards_113 (lv_at hl 7 rfl) ?_
      refine lv_sipush (v := (3432 : Int32)) hx hb dX4_boards_115 (by decide) ?_
      refine lv_icmp_ge (tgt := 207) hx hb dX4_boards_118 (by decide) (fun h118 => ?_) (fun h118 => ?_)
      · have hf := if_t h118 hf
        refine lv_iload_n hx hb dX4_boards_207 rfl (lv_at hl 3 rfl) ?_
        refine lv_if_ne (tgt := 216) hx hb dX4_boards_208 (by decide) (fun h208 => ?_) (fun h208 => ?_)
        · have hf := if_f h208 hf
          refine lv_iload_n hx hb dX4_boards_216 rfl (lv_at hl 3 rfl) ?_
          refine lv_iconst (v := (1 : Int32)) hx hb dX4_boards_217 (by decide) ?_
          refine lv_icmp_ne (tgt := 226) hx hb dX4_boards_218 (by decide) (fun h218 => ?_) (fun h218 => ?_)
          · have hf := if_f h218 hf
            refine lv_iload hx hb dX4_boards_226 (lv_at hl 6 rfl) ?_
            exact m_iret hx hb hr hlocks hK hP hD hS (so_2 hf) dX4_boards_228
          · have hf := if_t h218 hf
            refine lv_iload hx hb dX4_boards_221 (lv_at hl 5 rfl) ?_
            refine lv_goto (tgt := 228) hx hb dX4_boards_223 (by decide) ?_
            exact m_iret hx hb hr hlocks hK hP hD hS (so_2 hf) dX4_boards_228
        · have hf := if_t h208 hf
          refine lv_iload hx hb dX4_boards_211 (lv_at hl 4 rfl) ?_
          refine lv_goto (tgt := 228) hx hb dX4_boards_213 (by decide) ?_
          exact m_iret hx hb hr hlocks hK hP hD hS (so_2 hf) dX4_boards_228
      · have hf := if_f h118 hf
        refine lv_aload_n hx hb dX4_boards_121 rfl (lv_at hl 0 rfl) ?_
        refine lv_iload hx hb dX4_boards_122 (lv_at hl 7 rfl) ?_
        obtain ⟨w_124, hc124, hf⟩ := bn_e hf
        refine m_callv hD hS hAA (va_runV (As := [.int x9]) (rest := []) ⟨hx, hb, hml, hown, hts⟩ (k_mf_unrank l dC dI cI cZ cG ad H.size w x9 w_124 hc124) (cwV 1 hts gX4_boards_X4_unrank rfl rfl rfl (by decide +kernel) ⟨Nat.le_of_ble_eq_true rfl, Nat.le_of_ble_eq_true rfl⟩) ⟨m_blind, va_recv hK hP (ci := 4) (q0 := 0) rfl rfl, fun U hU hW => m_pre hU hW hK hP hD⟩ rfl rfl hl.1 rfl (lv_room (Nat.le_of_ble_eq_true rfl)) dX4_boards_124 ⟨Nat.zero_le _, Nat.zero_le _⟩) (fun H locs hP hD hS => ?_)
        refine lv_aload_n hx hb dX4_boards_127 rfl (lv_at hl 0 rfl) ?_
        refine va_get (D := (dC, dI)) (ci := 4) (v := .ref (ad 15)) (C := RX4) (T := TX4) (N := 21) hx hb hts inX4 hown hK hP 0 rfl rfl 16 (by decide) (hts (.fieldLink RX4 58 "BittenBoardsModel" "board" "[I") (by decide +kernel)) (fun _ h9 => h9) rfl dX4_boards_128 ?_
        refine lv_iconst (v := (0 : Int32)) hx hb dX4_boards_131 (by decide) ?_
        obtain ⟨hg132, hf⟩ := gi_e hf
        refine va_iald (f := (w_124.2 15)) hx hb hK hP 15 0 rfl rfl hg132 dX4_boards_132 ?_
        refine lv_iload_n hx hb dX4_boards_133 rfl (lv_at hl 2 rfl) ?_
        refine lv_icmp_gt (tgt := 201) hx hb dX4_boards_134 (by decide) (fun h134 => ?_) (fun h134 => ?_)
        · have hf := if_t h134 hf
          obtain ⟨x9_201, ex9_201, hf⟩ := nm_x hf
          refine lv_iinc (v := x9_201) (lv' := [(9, .int x9_201), (0, .ref (ad 0)), (1, .int x1), (2, .int x2), (3, .int x3), (6, .int x6), (7, .int x7), (8, .int x8)]) hx hb dX4_boards_201 hl (k := 7) rfl (by rw [ex9_201]; rfl) (by decide) rfl (fun ls hl => ?_)
          refine lv_goto (tgt := 113) hx hb dX4_boards_204 (by decide) ?_
          exact ih113 x1 x2 x3 x6 x7 x8 x9_201 w_124 hf _ _ _ hP hD hS (lv_sub hl [1, 2, 3, 4, 5, 6, 7, 0] rfl)
        · have hf := if_f h134 hf
          refine lv_iload_n hx hb dX4_boards_137 rfl (lv_at hl 1 rfl) ?_
          refine lv_bipush (v := (7 : Int32)) hx hb dX4_boards_138 (by decide) ?_
          refine lv_icmp_eq (tgt := 152) hx hb dX4_boards_140 (by decide) (fun h140 => ?_) (fun h140 => ?_)
          · have hf := if_t h140 hf
            exact C152 x1 x2 x3 x6 x7 x8 x9 w_124 hf _ _ _ hP hD hS (lv_sub hl [0, 1, 2, 3, 4, 5, 6, 7] rfl)
          · have hf := if_f h140 hf
            refine lv_aload_n hx hb dX4_boards_143 rfl (lv_at hl 0 rfl) ?_
            refine va_get (D := (dC, dI)) (ci := 4) (v := .ref (ad 15)) (C := RX4) (T := TX4) (N := 21) hx hb hts inX4 hown hK hP 0 rfl rfl 16 (by decide) (hts (.fieldLink RX4 58 "BittenBoardsModel" "board" "[I") (by decide +kernel)) (fun _ h9 => h9) rfl dX4_boards_144 ?_
            refine lv_iload_n hx hb dX4_boards_147 rfl (lv_at hl 1 rfl) ?_
            obtain ⟨hg148, hf⟩ := gi_e hf
            refine va_iald (f := (w_124.2 15)) hx hb hK hP 15 0 rfl rfl hg148 dX4_boards_148 ?_
            refine lv_if_ne (tgt := 201) hx hb dX4_boards_149 (by decide) (fun h149 => ?_) (fun h149 => ?_)
            · have hf := if_f h149 hf
              obtain ⟨x9_201, ex9_201, hf⟩ := nm_x hf
              refine lv_iinc (v := x9_201) (lv' := [(9, .int x9_201), (0, .ref (ad 0)), (1, .int x1), (2, .int x2), (3, .int x3), (6, .int x6), (7, .int x7), (8, .int x8)]) hx hb dX4_boards_201 hl (k := 7) rfl (by rw [ex9_201]; rfl) (by decide) rfl (fun ls hl => ?_)
              refine lv_goto (tgt := 113) hx hb dX4_boards_204 (by decide) ?_
              exact ih113 x1 x2 x3 x6 x7 x8 x9_201 w_124 hf _ _ _ hP hD hS (lv_sub hl [1, 2, 3, 4, 5, 6, 7, 0] rfl)
            · have hf := if_t h149 hf
              exact C152 x1 x2 x3 x6 x7 x8 x9 w_124 hf _ _ _ hP hD hS (lv_sub hl [0, 1, 2, 3, 4, 5, 6, 7] rfl)
  have hl := lv_entry ([.ref (ad 0), .int a1, .int a2, .int a3]) (n := 10) (Nat.le_of_ble_eq_true rfl)
  rw [lg_entry_eq]
  generalize (lg_sl ([.ref (ad 0), .int a1, .int a2, .int a3]) ++ List.replicate (10 - (lg_sl ([.ref (ad 0), .int a1, .int a2, .int a3])).length) Slot.unset).toArray = ls at hl ⊢
  have hl : lv_has ls 10 [(0, .ref (ad 0)), (1, .int a1), (2, .int a2), (3, .int a3)] := hl
  unfold mf_boards at hf
  refine lv_iload_n hx hb dX4_boards_0 rfl (lv_at hl 1 rfl) ?_
  refine lv_i2l hx hb dX4_boards_1 rfl ?_
  refine lv_lconst (v := (0 : Int64)) hx hb dX4_boards_2 (by decide) ?_
  refine lv_ldc2 (v := (7 : Int64)) hx hb hown (hts (.constantLong RX4 115 (7 : Int64)) (by decide +kernel)) dX4_boards_3 ?_
  obtain ⟨r_6, hc6, hf⟩ := bn_e hf
  refine m_calli hD hS hAA (va_runS (As := [.long (a1.toInt64), .long (0 : Int64), .long (7 : Int64)]) (rest := []) ⟨hx, hb, hml, hown, hts⟩ (k_mf_in l dC dI cI cZ cG ad s.heap.size w (a1.toInt64) (0 : Int64) (7 : Int64) r_6 w hc6 rfl) (va_cwS 3 hts gX4_boards_X4_in rfl rfl rfl (by decide +kernel) ⟨Nat.le_of_ble_eq_true rfl, Nat.le_of_ble_eq_true rfl⟩) ⟨m_blind, fun U hU hW => m_pre hU hW hK hP hD⟩ rfl rfl hl.1 rfl (lv_room (Nat.le_of_ble_eq_true rfl)) dX4_boards_6 ⟨Nat.zero_le _, Nat.zero_le _⟩) (fun H locs hP hD hS => ?_)
  refine lv_if_eq (tgt := 36) hx hb dX4_boards_9 (by decide) (fun h9 => ?_) (fun h9 => ?_)
  · have hf := if_t h9 hf
    refine lv_sipush (v := (-1002 : Int32)) hx hb dX4_boards_36 (by decide) ?_
    exact m_iret hx hb hr hlocks hK hP hD hS (so_2 hf) dX4_boards_39
  · have hf := if_f h9 hf
    refine lv_iload_n hx hb dX4_boards_12 rfl (lv_at hl 2 rfl) ?_
    refine lv_i2l hx hb dX4_boards_13 rfl ?_
    refine lv_lconst (v := (0 : Int64)) hx hb dX4_boards_14 (by decide) ?_
    refine lv_ldc2 (v := (7 : Int64)) hx hb hown (hts (.constantLong RX4 115 (7 : Int64)) (by decide +kernel)) dX4_boards_15 ?_
    obtain ⟨r_18, hc18, hf⟩ := bn_e hf
    refine m_calli hD hS hAA (va_runS (As := [.long (a2.toInt64), .long (0 : Int64), .long (7 : Int64)]) (rest := []) ⟨hx, hb, hml, hown, hts⟩ (k_mf_in l dC dI cI cZ cG ad H.size w (a2.toInt64) (0 : Int64) (7 : Int64) r_18 w hc18 rfl) (va_cwS 3 hts gX4_boards_X4_in rfl rfl rfl (by decide +kernel) ⟨Nat.le_of_ble_eq_true rfl, Nat.le_of_ble_eq_true rfl⟩) ⟨m_blind, fun U hU hW => m_pre hU hW hK hP hD⟩ rfl rfl hl.1 rfl (lv_room (Nat.le_of_ble_eq_true rfl)) dX4_boards_18 ⟨Nat.zero_le _, Nat.zero_le _⟩) (fun H locs hP hD hS => ?_)
    refine lv_if_eq (tgt := 36) hx hb dX4_boards_21 (by decide) (fun h21 => ?_) (fun h21 => ?_)
    · have hf := if_t h21 hf
      refine lv_sipush (v := (-1002 : Int32)) hx hb dX4_boards_36 (by decide) ?_
      exact m_iret hx hb hr hlocks hK hP hD hS (so_2 hf) dX4_boards_39
    · have hf := if_f h21 hf
      refine lv_iload_n hx hb dX4_boards_24 rfl (lv_at hl 3 rfl) ?_
      refine lv_i2l hx hb dX4_boards_25 rfl ?_
      refine lv_lconst (v := (0 : Int64)) hx hb dX4_boards_26 (by decide) ?_
      refine lv_ldc2 (v := (2 : Int64)) hx hb hown (hts (.constantLong RX4 153 (2 : Int64)) (by decide +kernel)) dX4_boards_27 ?_
      obtain ⟨r_30, hc30, hf⟩ := bn_e hf
      refine m_calli hD hS hAA (va_runS (As := [.long (a3.toInt64), .long (0 : Int64), .long (2 : Int64)]) (rest := []) ⟨hx, hb, hml, hown, hts⟩ (k_mf_in l dC dI cI cZ cG ad H.size w (a3.toInt64) (0 : Int64) (2 : Int64) r_30 w hc30 rfl) (va_cwS 3 hts gX4_boards_X4_in rfl rfl rfl (by decide +kernel) ⟨Nat.le_of_ble_eq_true rfl, Nat.le_of_ble_eq_true rfl⟩) ⟨m_blind, fun U hU hW => m_pre hU hW hK hP hD⟩ rfl rfl hl.1 rfl (lv_room (Nat.le_of_ble_eq_true rfl)) dX4_boards_30 ⟨Nat.zero_le _, Nat.zero_le _⟩) (fun H locs hP hD hS => ?_)
      refine lv_if_ne (tgt := 40) hx hb dX4_boards_33 (by decide) (fun h33 => ?_) (fun h33 => ?_)
      · have hf := if_f h33 hf
        refine lv_aload_n hx hb dX4_boards_40 rfl (lv_at hl 0 rfl) ?_
        refine va_get (D := (dC, dI)) (ci := 4) (v := .ref (ad 1)) (C := RX4) (T := TX4) (N := 21) hx hb hts inX4 hown hK hP 0 rfl rfl 1 (by decide) (hts (.fieldLink RX4 7 "BittenBoardsModel" "kinds" "[I") (by decide +kernel)) (fun _ h9 => h9) rfl dX4_boards_41 ?_
        refine lv_iconst (v := (5 : Int32)) hx hb dX4_boards_44 (by decide) ?_
        obtain ⟨hg45, hf⟩ := gi_e hf
        refine va_iald (f := (w.2 1)) hx hb hK hP 1 0 rfl rfl hg45 dX4_boards_45 ?_
        obtain ⟨x4_46, ex4_46, hf⟩ := nm_x hf
        refine W.eq (g2 := F0 m 46 ls [.int x4_46]) (by rw [ex4_46]) ?_
        refine lv_istore (lv' := [(4, .int x4_46), (0, .ref (ad 0)), (1, .int a1), (2, .int a2), (3, .int a3)]) hx hb dX4_boards_46 hl (by decide) rfl (fun ls hl => ?_)
        refine lv_aload_n hx hb dX4_boards_48 rfl (lv_at hl 1 rfl) ?_
        refine va_get (D := (dC, dI)) (ci := 4) (v := .ref (ad 2)) (C := RX4) (T := TX4) (N := 21) hx hb hts inX4 hown hK hP 0 rfl rfl 2 (by decide) (hts (.fieldLink RX4 13 "BittenBoardsModel" "rules" "[I") (by decide +kernel)) (fun _ h9 => h9) rfl dX4_boards_49 ?_
        refine lv_iconst (v := (5 : Int32)) hx hb dX4_boards_52 (by decide) ?_
        obtain ⟨hg53, hf⟩ := gi_e hf
        refine va_iald (f := (w.2 2)) hx hb hK hP 2 0 rfl rfl hg53 dX4_boards_53 ?_
        obtain ⟨x5_54, ex5_54, hf⟩ := nm_x hf
        refine W.eq (g2 := F0 m 54 ls [.int x5_54]) (by rw [ex5_54]) ?_
        refine lv_istore (lv' := [(5, .int x5_54), (4, .int x4_46), (0, .ref (ad 0)), (1, .int a1), (2, .int a2), (3, .int a3)]) hx hb dX4_boards_54 hl (by decide) rfl (fun ls hl => ?_)
        refine lv_aload_n hx hb dX4_boards_56 rfl (lv_at hl 2 rfl) ?_
        refine va_get (D := (dC, dI)) (ci := 4) (v := .ref (ad 1)) (C := RX4) (T := TX4) (N := 21) hx hb hts inX4 hown hK hP 0 rfl rfl 1 (by decide) (hts (.fieldLink RX4 7 "BittenBoardsModel" "kinds" "[I") (by decide +kernel)) (fun _ h9 => h9) rfl dX4_boards_57 ?_
        refine lv_iconst (v := (5 : Int32)) hx hb dX4_boards_60 (by decide) ?_
        refine lv_iconst (v := (0 : Int32)) hx hb dX4_boards_61 (by decide) ?_
        obtain ⟨hg62, hf⟩ := gi_e hf
        obtain ⟨w_62, ew_62, hf⟩ := nm_x hf
        refine va_iast (f := (w.2 1)) hx hb hK hP hD hS 1 0 rfl rfl hg62 dX4_boards_62 (fun H locs hP hD hS => ?_)
        have hP : va_P (dC, dI) vwCl (mc cI cZ ad w_62) H := hP.eqs (by rw [ew_62]; rfl)
        have hD : va_D A (mc cI cZ ad w_62) := hD.eqs (by rw [ew_62]; rfl)
        refine lv_aload_n hx hb dX4_boards_63 rfl (lv_at hl 2 rfl) ?_
        refine va_get (D := (dC, dI)) (ci := 4) (v := .ref (ad 2)) (C := RX4) (T := TX4) (N := 21) hx hb hts inX4 hown hK hP 0 rfl rfl 2 (by decide) (hts (.fieldLink RX4 13 "BittenBoardsModel" "rules" "[I") (by decide +kernel)) (fun _ h9 => h9) rfl dX4_boards_64 ?_
        refine lv_iconst (v := (5 : Int32)) hx hb dX4_boards_67 (by decide) ?_
        refine lv_iconst (v := (0 : Int32)) hx hb dX4_boards_68 (by decide) ?_
        obtain ⟨hg69, hf⟩ := gi_e hf
        obtain ⟨w_69, ew_69, hf⟩ := nm_x hf
        refine va_iast (f := (w_62.2 2)) hx hb hK hP hD hS 2 0 rfl rfl hg69 dX4_boards_69 (fun H locs hP hD hS => ?_)
        have hP : va_P (dC, dI) vwCl (mc cI cZ ad w_69) H := hP.eqs (by rw [ew_69]; rfl)
        have hD : va_D A (mc cI cZ ad w_69) := hD.eqs (by rw [ew_69]; rfl)
        refine lv_aload_n hx hb dX4_boards_70 rfl (lv_at hl 2 rfl) ?_
        refine lv_iconst (v := (-1 : Int32)) hx hb dX4_boards_71 (by decide) ?_
        obtain ⟨w_72, ew_72, hf⟩ := nm_x hf
        refine va_put (D := (dC, dI)) (ci := 4) (v := .int (-1 : Int32)) (ty := .int) (C := RX4) (T := TX4) (N := 21) hx hb hts inX4 tyX4 tyX4_ok nmX4 hown hK hP hD hS 0 rfl rfl 12 (by decide) (hts (.fieldLink RX4 43 "BittenBoardsModel" "solved" "I") (by decide +kernel)) (fun _ h9 => h9) rfl (by decide +kernel) rfl rfl (Nat.le_of_ble_eq_true rfl) dX4_boards_72 (fun H locs hP hD hS => ?_)
        have hP : va_P (dC, dI) vwCl (mc cI cZ ad w_72) H := hP.eqs (by rw [ew_72]; rfl)
        have hD : va_D A (mc cI cZ ad w_72) := hD.eqs (by rw [ew_72]; rfl)
        refine lv_aload_n hx hb dX4_boards_75 rfl (lv_at hl 2 rfl) ?_
        refine lv_iconst (v := (5 : Int32)) hx hb dX4_boards_76 (by decide) ?_
        obtain ⟨w_77, hc77, hf⟩ := bn_e hf
        refine m_callv hD hS hAA (va_runV (As := [.int (5 : Int32)]) (rest := []) ⟨hx, hb, hml, hown, hts⟩ (k_mf_solve l dC dI cI cZ cG ad H.size w_72 (5 : Int32) w_77 hc77) (cwV 1 hts gX4_boards_X4_solve rfl rfl rfl (by decide +kernel) ⟨Nat.le_of_ble_eq_true rfl, Nat.le_of_ble_eq_true rfl⟩) ⟨m_blind, va_recv hK hP (ci := 4) (q0 := 0) rfl rfl, fun U hU hW => m_pre hU hW hK hP hD⟩ rfl rfl hl.1 rfl (lv_room (Nat.le_of_ble_eq_true rfl)) dX4_boards_77 ⟨Nat.zero_le _, Nat.zero_le _⟩) (fun H locs hP hD hS => ?_)
        refine lv_aload_n hx hb dX4_boards_80 rfl (lv_at hl 2 rfl) ?_
        refine va_get (D := (dC, dI)) (ci := 4) (v := .ref (ad 1)) (C := RX4) (T := TX4) (N := 21) hx hb hts inX4 hown hK hP 0 rfl rfl 1 (by decide) (hts (.fieldLink RX4 7 "BittenBoardsModel" "kinds" "[I") (by decide +kernel)) (fun _ h9 => h9) rfl dX4_boards_81 ?_
        refine lv_iconst (v := (5 : Int32)) hx hb dX4_boards_84 (by decide) ?_
        refine lv_iload hx hb dX4_boards_85 (lv_at hl 1 rfl) ?_
        obtain ⟨hg87, hf⟩ := gi_e hf
        obtain ⟨w_87, ew_87, hf⟩ := nm_x hf
        refine va_iast (f := (w_77.2 1)) hx hb hK hP hD hS 1 0 rfl rfl hg87 dX4_boards_87 (fun H locs hP hD hS => ?_)
        have hP : va_P (dC, dI) vwCl (mc cI cZ ad w_87) H := hP.eqs (by rw [ew_87]; rfl)
        have hD : va_D A (mc cI cZ ad w_87) := hD.eqs (by rw [ew_87]; rfl)
        refine lv_aload_n hx hb dX4_boards_88 rfl (lv_at hl 2 rfl) ?_
        refine va_get (D := (dC, dI)) (ci := 4) (v := .ref (ad 2)) (C := RX4) (T := TX4) (N := 21) hx hb hts inX4 hown hK hP 0 rfl rfl 2 (by decide) (hts (.fieldLink RX4 13 "BittenBoardsModel" "rules" "[I") (by decide +kernel)) (fun _ h9 => h9) rfl dX4_boards_89 ?_
        refine lv_iconst (v := (5 : Int32)) hx hb dX4_boards_92 (by decide) ?_
        refine lv_iload hx hb dX4_boards_93 (lv_at hl 0 rfl) ?_
        obtain ⟨hg95, hf⟩ := gi_e hf
        obtain ⟨w_95, ew_95, hf⟩ := nm_x hf
        refine va_iast (f := (w_87.2 2)) hx hb hK hP hD hS 2 0 rfl rfl hg95 dX4_boards_95 (fun H locs hP hD hS => ?_)
        have hP : va_P (dC, dI) vwCl (mc cI cZ ad w_95) H := hP.eqs (by rw [ew_95]; rfl)
        have hD : va_D A (mc cI cZ ad w_95) := hD.eqs (by rw [ew_95]; rfl)
        refine lv_aload_n hx hb dX4_boards_96 rfl (lv_at hl 2 rfl) ?_
        refine lv_iconst (v := (-1 : Int32)) hx hb dX4_boards_97 (by decide) ?_
        obtain ⟨w_98, ew_98, hf⟩ := nm_x hf
        refine va_put (D := (dC, dI)) (ci := 4) (v := .int (-1 : Int32)) (ty := .int) (C := RX4) (T := TX4) (N := 21) hx hb hts inX4 tyX4 tyX4_ok nmX4 hown hK hP hD hS 0 rfl rfl 12 (by decide) (hts (.fieldLink RX4 43 "BittenBoardsModel" "solved" "I") (by decide +kernel)) (fun _ h9 => h9) rfl (by decide +kernel) rfl rfl (Nat.le_of_ble_eq_true rfl) dX4_boards_98 (fun H locs hP hD hS => ?_)
        have hP : va_P (dC, dI) vwCl (mc cI cZ ad w_98) H := hP.eqs (by rw [ew_98]; rfl)
        have hD : va_D A (mc cI cZ ad w_98) := hD.eqs (by rw [ew_98]; rfl)
        refine lv_iconst (v := (0 : Int32)) hx hb dX4_boards_101 (by decide) ?_
        refine lv_istore (lv' := [(6, .int (0 : Int32)), (5, .int x5_54), (4, .int x4_46), (0, .ref (ad 0)), (1, .int a1), (2, .int a2), (3, .int a3)]) hx hb dX4_boards_102 hl (by decide) rfl (fun ls hl => ?_)
        refine lv_iconst (v := (0 : Int32)) hx hb dX4_boards_104 (by decide) ?_
        refine lv_istore (lv' := [(7, .int (0 : Int32)), (6, .int (0 : Int32)), (5, .int x5_54), (4, .int x4_46), (0, .ref (ad 0)), (1, .int a1), (2, .int a2), (3, .int a3)]) hx hb dX4_boards_105 hl (by decide) rfl (fun ls hl => ?_)
        refine lv_iconst (v := (0 : Int32)) hx hb dX4_boards_107 (by decide) ?_
        refine lv_istore (lv' := [(8, .int (0 : Int32)), (7, .int (0 : Int32)), (6, .int (0 : Int32)), (5, .int x5_54), (4, .int x4_46), (0, .ref (ad 0)), (1, .int a1), (2, .int a2), (3, .int a3)]) hx hb dX4_boards_108 hl (by decide) rfl (fun ls hl => ?_)
        refine lv_iconst (v := (0 : Int32)) hx hb dX4_boards_110 (by decide) ?_
        refine lv_istore (lv' := [(9, .int (0 : Int32)), (8, .int (0 : Int32)), (7, .int (0 : Int32)), (6, .int (0 : Int32)), (5, .int x5_54), (4, .int x4_46), (0, .ref (ad 0)), (1, .int a1), (2, .int a2), (3, .int a3)]) hx hb dX4_boards_111 hl (by decide) rfl (fun ls hl => ?_)
        exact C113 fu a1 a2 a3 (0 : Int32) (0 : Int32) (0 : Int32) (0 : Int32) w_98 hf _ _ _ hP hD hS (lv_sub hl [6, 7, 8, 9, 3, 2, 1, 0] rfl)
      · have hf := if_t h33 hf
        refine lv_sipush (v := (-1002 : Int32)) hx hb dX4_boards_36 (by decide) ?_
        exact m_iret hx hb hr hlocks hK hP hD hS (so_2 hf) dX4_boards_39
