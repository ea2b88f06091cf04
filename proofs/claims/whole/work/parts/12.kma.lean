set_option maxHeartbeats 4000000 in
set_option maxRecDepth 100000 in
theorem k_mf_in (l : Launch) (dC : Nat → ClassId) (dI : Nat → Nat → Nat) (cI cZ cG : ClassId) (ad : Nat → Nat) (sz : Nat) (w : mW) (a0 : Int64) (a2 : Int64) (a4 : Int64) (r0 : Int32) (w0 : mW) (hf : mf_in a0 a2 a4 = some r0) (hw0 : w = w0) : Met l yX4_in wsX4_in ({ frames := 0, cells := 0, slots := 0, locals := 0 } : Room) (va_Pc [.long a0, .long a2, .long a4] (mPre dC dI cI cZ cG ad sz w)) (va_Qi (fun (r : Int32) (u : mW) => r = r0 ∧ u = w0) (mB dC dI cI cZ cG ad (mA ad sz)) (mA ad sz)) 0 0 (mA ad sz) := by
  refine Met.ofW (cc := cX4_in) (maxL := 6) (ret := (some .boolean)) (by decide) rfl ?_
  intro p e s m args below meth c s₁ B hml hv
  obtain ⟨rfl, hsz, hP, hK, hD0⟩ := hv
  have hx := B.exec
  have hb := B.bytes
  have hr := B.returns
  have hts := atoms_spec (ws := wsX4_in) B.pre
  have hown : s.vm.findClass RX4 = some m.cls := findClass_of_methodNamed B.named
  have hlocks := B.notSynchronized
  subst hsz
  have hD : va_D (mA ad s.heap.size) (mc cI cZ ad w) := mD_self hD0
  have hAA : ∀ z q, s.heap.size ≤ z → mA ad z q → mA ad s.heap.size q := mA_mono
  generalize mA ad s.heap.size = A at hD hAA ⊢
  have hS : va_S A s.heap s.heap [] := va_S.rf
  have hl := lv_entry ([.long a0, .long a2, .long a4]) (n := 6) (Nat.le_of_ble_eq_true rfl)
  rw [lg_entry_eq]
  generalize (lg_sl ([.long a0, .long a2, .long a4]) ++ List.replicate (6 - (lg_sl ([.long a0, .long a2, .long a4])).length) Slot.unset).toArray = ls at hl ⊢
  have hl : lv_has ls 6 [(0, .long a0), (2, .long a2), (4, .long a4)] := hl
  unfold mf_in at hf
  refine lv_lload_n hx hb dX4_in_0 rfl (lv_at hl 0 rfl) ?_
  refine lv_lload_n hx hb dX4_in_1 rfl (lv_at hl 1 rfl) ?_
  refine W.lcmp hx hb dX4_in_2 ?_
  refine lv_if_lt (tgt := 17) hx hb dX4_in_3 (by decide) (fun h3 => ?_) (fun h3 => ?_)
  · have hf := if_t h3 hf
    refine lv_iconst (v := (0 : Int32)) hx hb dX4_in_17 (by decide) ?_
    obtain ⟨hg18, hf⟩ := gd_e hf
    exact m_zret hx hb hr hlocks hg18 hK hP hD hS ⟨so_1 hf, hw0⟩ dX4_in_18
  · have hf := if_f h3 hf
    refine lv_lload_n hx hb dX4_in_6 rfl (lv_at hl 0 rfl) ?_
    refine lv_lload hx hb dX4_in_7 (lv_at hl 2 rfl) ?_
    refine W.lcmp hx hb dX4_in_9 ?_
    refine lv_if_gt (tgt := 17) hx hb dX4_in_10 (by decide) (fun h10 => ?_) (fun h10 => ?_)
    · have hf := if_t h10 hf
      refine lv_iconst (v := (0 : Int32)) hx hb dX4_in_17 (by decide) ?_
      obtain ⟨hg18, hf⟩ := gd_e hf
      exact m_zret hx hb hr hlocks hg18 hK hP hD hS ⟨so_1 hf, hw0⟩ dX4_in_18
    · have hf := if_f h10 hf
      refine lv_iconst (v := (1 : Int32)) hx hb dX4_in_13 (by decide) ?_
      refine lv_goto (tgt := 18) hx hb dX4_in_14 (by decide) ?_
      obtain ⟨hg18, hf⟩ := gd_e hf
      exact m_zret hx hb hr hlocks hg18 hK hP hD hS ⟨so_1 hf, hw0⟩ dX4_in_18
set_option maxHeartbeats 4000000 in
set_option maxRecDepth 100000 in
theorem k_mf_bits (l : Launch) (dC : Nat → ClassId) (dI : Nat → Nat → Nat) (cI cZ cG : ClassId) (ad : Nat → Nat) (sz : Nat) (w : mW) (a0 : Int32) (r0 : Int32) (w0 : mW) (hf : mf_bits a0 = some r0) (hw0 : w = w0) : Met l yX4_bits wsX4_bits ({ frames := 0, cells := 0, slots := 0, locals := 0 } : Room) (va_Pc [.int a0] (mPre dC dI cI cZ cG ad sz w)) (va_Qi (fun (r : Int32) (u : mW) => r = r0 ∧ u = w0) (mB dC dI cI cZ cG ad (mA ad sz)) (mA ad sz)) 0 0 (mA ad sz) := by
  refine Met.ofW (cc := cX4_bits) (maxL := 3) (ret := (some .int)) (by decide) rfl ?_
  intro p e s m args below meth c s₁ B hml hv
  obtain ⟨rfl, hsz, hP, hK, hD0⟩ := hv
  have hx := B.exec
  have hb := B.bytes
  have hr := B.returns
  have hts := atoms_spec (ws := wsX4_bits) B.pre
  have hown : s.vm.findClass RX4 = some m.cls := findClass_of_methodNamed B.named
  have hlocks := B.notSynchronized
  subst hsz
  have hD : va_D (mA ad s.heap.size) (mc cI cZ ad w) := mD_self hD0
  have hAA : ∀ z q, s.heap.size ≤ z → mA ad z q → mA ad s.heap.size q := mA_mono
  generalize mA ad s.heap.size = A at hD hAA ⊢
  have hS : va_S A s.heap s.heap [] := va_S.rf
  have C4 : ∀ (n4 : Nat) (x0 : Int32) (x1 : Int32) (x2 : Int32), mf_bits_C4 n4 x0 x1 x2 = some r0 → ∀ (H : Heap) (locs : List Loc) (ls : Array Slot), va_P (dC, dI) vwCl (mc cI cZ ad w) H → va_D A (mc cI cZ ad w) → va_S A s.heap H locs → lv_has ls 3 [(0, .int x0), (1, .int x1), (2, .int x2)] → W p l e (headSpec wsX4_bits ({ frames := 0, cells := 0, slots := 0, locals := 0 } : Room)).room s m (List.toArray [Value.int a0]) below meth c H locs 0 0 (MQ below (va_Qi (fun (r : Int32) (u : mW) => r = r0 ∧ u = w0) (mB dC dI cI cZ cG ad A) A) (List.toArray [Value.int a0]) s 0 0 A) (F0 m 4 ls []) := by
    intro n4
    induction n4 with
    | zero => intro x0 x1 x2 hf; cases hf
    | succ n4 ih4 =>
      intro x0 x1 x2 hf H locs ls hP hD hS hl
      rw [mf_bits_C4] at hf
      refine lv_iload_n hx hb dX4_bits_4 rfl (lv_at hl 2 rfl) ?_
      refine lv_bipush (v := (16 : Int32)) hx hb dX4_bits_5 (by decide) ?_
      refine lv_icmp_ge (tgt := 24) hx hb dX4_bits_7 (by decide) (fun h7 => ?_) (fun h7 => ?_)
      · have hf := if_t h7 hf
        refine lv_iload_n hx hb dX4_bits_24 rfl (lv_at hl 1 rfl) ?_
        exact m_iret hx hb hr hlocks hK hP hD hS ⟨so_1 hf, hw0⟩ dX4_bits_25
      · have hf := if_f h7 hf
        refine lv_iload_n hx hb dX4_bits_10 rfl (lv_at hl 1 rfl) ?_
        refine lv_iload_n hx hb dX4_bits_11 rfl (lv_at hl 0 rfl) ?_
        refine lv_iload_n hx hb dX4_bits_12 rfl (lv_at hl 2 rfl) ?_
        refine lv_ishr hx hb dX4_bits_13 ?_
        refine lv_iconst (v := (1 : Int32)) hx hb dX4_bits_14 (by decide) ?_
        refine lv_iand hx hb dX4_bits_15 ?_
        refine lv_iadd hx hb dX4_bits_16 ?_
        obtain ⟨x1_17, ex1_17, hf⟩ := nm_x hf
        refine W.eq (g2 := F0 m 17 ls [.int x1_17]) (by rw [ex1_17]) ?_
        refine lv_istore_n (lv' := [(1, .int x1_17), (0, .int x0), (2, .int x2)]) hx hb dX4_bits_17 rfl hl (by decide) rfl (fun ls hl => ?_)
        obtain ⟨x2_18, ex2_18, hf⟩ := nm_x hf
        refine lv_iinc (v := x2_18) (lv' := [(2, .int x2_18), (1, .int x1_17), (0, .int x0)]) hx hb dX4_bits_18 hl (k := 2) rfl (by rw [ex2_18]; rfl) (by decide) rfl (fun ls hl => ?_)
        refine lv_goto (tgt := 4) hx hb dX4_bits_21 (by decide) ?_
        exact ih4 x0 x1_17 x2_18 hf _ _ _ hP hD hS (lv_sub hl [2, 1, 0] rfl)
  have hl := lv_entry ([.int a0]) (n := 3) (Nat.le_of_ble_eq_true rfl)
  rw [lg_entry_eq]
  generalize (lg_sl ([.int a0]) ++ List.replicate (3 - (lg_sl ([.int a0])).length) Slot.unset).toArray = ls at hl ⊢
  have hl : lv_has ls 3 [(0, .int a0)] := hl
  unfold mf_bits at hf
  refine lv_iconst (v := (0 : Int32)) hx hb dX4_bits_0 (by decide) ?_
  refine lv_istore_n (lv' := [(1, .int (0 : Int32)), (0, .int a0)]) hx hb dX4_bits_1 rfl hl (by decide) rfl (fun ls hl => ?_)
  refine lv_iconst (v := (0 : Int32)) hx hb dX4_bits_2 (by decide) ?_
  refine lv_istore_n (lv' := [(2, .int (0 : Int32)), (1, .int (0 : Int32)), (0, .int a0)]) hx hb dX4_bits_3 rfl hl (by decide) rfl (fun ls hl => ?_)
  exact C4 fu a0 (0 : Int32) (0 : Int32) hf _ _ _ hP hD hS (lv_sub hl [2, 1, 0] rfl)
set_option maxHeartbeats 4000000 in
set_option maxRecDepth 100000 in
theorem k_mf_rowsOf (l : Launch) (dC : Nat → ClassId) (dI : Nat → Nat → Nat) (cI cZ cG : ClassId) (ad : Nat → Nat) (sz : Nat) (w : mW) (a0 : Int32) (a1 : Int32) (r0 : Int32) (w0 : mW) (hf : mf_rowsOf a0 a1 = some r0) (hw0 : w = w0) : Met l yX4_rowsOf wsX4_rowsOf ({ frames := 0, cells := 0, slots := 0, locals := 0 } : Room) (va_Pc [.int a0, .int a1] (mPre dC dI cI cZ cG ad sz w)) (va_Qi (fun (r : Int32) (u : mW) => r = r0 ∧ u = w0) (mB dC dI cI cZ cG ad (mA ad sz)) (mA ad sz)) 0 0 (mA ad sz) := by
  refine Met.ofW (cc := cX4_rowsOf) (maxL := 4) (ret := (some .int)) (by decide) rfl ?_
  intro p e s m args below meth c s₁ B hml hv
  obtain ⟨rfl, hsz, hP, hK, hD0⟩ := hv
  have hx := B.exec
  have hb := B.bytes
  have hr := B.returns
  have hts := atoms_spec (ws := wsX4_rowsOf) B.pre
  have hown : s.vm.findClass RX4 = some m.cls := findClass_of_methodNamed B.named
  have hlocks := B.notSynchronized
  subst hsz
  have hD : va_D (mA ad s.heap.size) (mc cI cZ ad w) := mD_self hD0
  have hAA : ∀ z q, s.heap.size ≤ z → mA ad z q → mA ad s.heap.size q := mA_mono
  generalize mA ad s.heap.size = A at hD hAA ⊢
  have hS : va_S A s.heap s.heap [] := va_S.rf
  have C4 : ∀ (n4 : Nat) (x0 : Int32) (x1 : Int32) (x2 : Int32) (x3 : Int32), mf_rowsOf_C4 n4 x0 x1 x2 x3 = some r0 → ∀ (H : Heap) (locs : List Loc) (ls : Array Slot), va_P (dC, dI) vwCl (mc cI cZ ad w) H → va_D A (mc cI cZ ad w) → va_S A s.heap H locs → lv_has ls 4 [(0, .int x0), (1, .int x1), (2, .int x2), (3, .int x3)] → W p l e (headSpec wsX4_rowsOf ({ frames := 0, cells := 0, slots := 0, locals := 0 } : Room)).room s m (List.toArray [Value.int a0, Value.int a1]) below meth c H locs 0 0 (MQ below (va_Qi (fun (r : Int32) (u : mW) => r = r0 ∧ u = w0) (mB dC dI cI cZ cG ad A) A) (List.toArray [Value.int a0, Value.int a1]) s 0 0 A) (F0 m 4 ls []) := by
    intro n4
    induction n4 with
    | zero => intro x0 x1 x2 x3 hf; cases hf
    | succ n4 ih4 =>
      intro x0 x1 x2 x3 hf H locs ls hP hD hS hl
      rw [mf_rowsOf_C4] at hf
      refine lv_iload_n hx hb dX4_rowsOf_4 rfl (lv_at hl 3 rfl) ?_
      refine lv_iload_n hx hb dX4_rowsOf_5 rfl (lv_at hl 0 rfl) ?_
      refine lv_icmp_gt (tgt := 23) hx hb dX4_rowsOf_6 (by decide) (fun h6 => ?_) (fun h6 => ?_)
      · have hf := if_t h6 hf
        refine lv_iload_n hx hb dX4_rowsOf_23 rfl (lv_at hl 2 rfl) ?_
        exact m_iret hx hb hr hlocks hK hP hD hS ⟨so_1 hf, hw0⟩ dX4_rowsOf_24
      · have hf := if_f h6 hf
        refine lv_iload_n hx hb dX4_rowsOf_9 rfl (lv_at hl 2 rfl) ?_
        refine lv_iload_n hx hb dX4_rowsOf_10 rfl (lv_at hl 1 rfl) ?_
        refine lv_iload_n hx hb dX4_rowsOf_11 rfl (lv_at hl 3 rfl) ?_
        refine lv_iadd hx hb dX4_rowsOf_12 ?_
        refine lv_imul hx hb dX4_rowsOf_13 ?_
        refine lv_iload_n hx hb dX4_rowsOf_14 rfl (lv_at hl 3 rfl) ?_
        obtain ⟨hg15, hf⟩ := gd_e hf
        refine lv_idiv hx hb dX4_rowsOf_15 hg15 ?_
        obtain ⟨x2_16, ex2_16, hf⟩ := nm_x hf
        refine W.eq (g2 := F0 m 16 ls [.int x2_16]) (by rw [ex2_16]) ?_
        refine lv_istore_n (lv' := [(2, .int x2_16), (0, .int x0), (1, .int x1), (3, .int x3)]) hx hb dX4_rowsOf_16 rfl hl (by decide) rfl (fun ls hl => ?_)
        obtain ⟨x3_17, ex3_17, hf⟩ := nm_x hf
        refine lv_iinc (v := x3_17) (lv' := [(3, .int x3_17), (2, .int x2_16), (0, .int x0), (1, .int x1)]) hx hb dX4_rowsOf_17 hl (k := 3) rfl (by rw [ex3_17]; rfl) (by decide) rfl (fun ls hl => ?_)
        refine lv_goto (tgt := 4) hx hb dX4_rowsOf_20 (by decide) ?_
        exact ih4 x0 x1 x2_16 x3_17 hf _ _ _ hP hD hS (lv_sub hl [2, 3, 1, 0] rfl)
  have hl := lv_entry ([.int a0, .int a1]) (n := 4) (Nat.le_of_ble_eq_true rfl)
  rw [lg_entry_eq]
  generalize (lg_sl ([.int a0, .int a1]) ++ List.replicate (4 - (lg_sl ([.int a0, .int a1])).length) Slot.unset).toArray = ls at hl ⊢
  have hl : lv_has ls 4 [(0, .int a0), (1, .int a1)] := hl
  unfold mf_rowsOf at hf
  refine lv_iconst (v := (1 : Int32)) hx hb dX4_rowsOf_0 (by decide) ?_
  refine lv_istore_n (lv' := [(2, .int (1 : Int32)), (0, .int a0), (1, .int a1)]) hx hb dX4_rowsOf_1 rfl hl (by decide) rfl (fun ls hl => ?_)
  refine lv_iconst (v := (1 : Int32)) hx hb dX4_rowsOf_2 (by decide) ?_
  refine lv_istore_n (lv' := [(3, .int (1 : Int32)), (2, .int (1 : Int32)), (0, .int a0), (1, .int a1)]) hx hb dX4_rowsOf_3 rfl hl (by decide) rfl (fun ls hl => ?_)
  exact C4 fu a0 a1 (1 : Int32) (1 : Int32) hf _ _ _ hP hD hS (lv_sub hl [2, 3, 1, 0] rfl)
set_option maxHeartbeats 4000000 in
set_option maxRecDepth 100000 in
theorem k_mf_rankOf (l : Launch) (dC : Nat → ClassId) (dI : Nat → Nat → Nat) (cI cZ cG : ClassId) (ad : Nat → Nat) (sz : Nat) (w : mW) (r0 : Int32) (w0 : mW) (hf : mf_rankOf w = some r0) (hw0 : w = w0) : Met l yX4_rankOf wsX4_rankOf ({ frames := 1, cells := 0, slots := 0, locals := 23 } : Room) (va_Pc [.ref (ad 0)] (mPre dC dI cI cZ cG ad sz w)) (va_Qi (fun (r : Int32) (u : mW) => r = r0 ∧ u = w0) (mB dC dI cI cZ cG ad (mA ad sz)) (mA ad sz)) 0 0 (mA ad sz) := by
  refine Met.ofW (cc := cX4_rankOf) (maxL := 4) (ret := (some .int)) (by decide) rfl ?_
  intro p e s m args below meth c s₁ B hml hv
  obtain ⟨rfl, hsz, hP, hK, hD0⟩ := hv
  have hx := B.exec
  have hb := B.bytes
  have hr := B.returns
  have hts := atoms_spec (ws := wsX4_rankOf) B.pre
  have hown : s.vm.findClass RX4 = some m.cls := findClass_of_methodNamed B.named
  have hlocks := B.notSynchronized
  have inX4 : ∀ w ∈ u_ws RX4 TX4 21, w ∈ wsX4_rankOf := by decide +kernel
  subst hsz
  have hD : va_D (mA ad s.heap.size) (mc cI cZ ad w) := mD_self hD0
  have hAA : ∀ z q, s.heap.size ≤ z → mA ad z q → mA ad s.heap.size q := mA_mono
  generalize mA ad s.heap.size = A at hD hAA ⊢
  have hS : va_S A s.heap s.heap [] := va_S.rf
  have C4 : ∀ (n4 : Nat) (x1 : Int32) (x2 : Int32), mf_rankOf_C4 w n4 x1 x2 = some r0 → ∀ (H : Heap) (locs : List Loc) (ls : Array Slot), va_P (dC, dI) vwCl (mc cI cZ ad w) H → va_D A (mc cI cZ ad w) → va_S A s.heap H locs → lv_has ls 4 [(0, .ref (ad 0)), (1, .int x1), (2, .int x2)] → W p l e (headSpec wsX4_rankOf ({ frames := 1, cells := 0, slots := 0, locals := 23 } : Room)).room s m (List.toArray [Value.ref (ad 0)]) below meth c H locs 0 0 (MQ below (va_Qi (fun (r : Int32) (u : mW) => r = r0 ∧ u = w0) (mB dC dI cI cZ cG ad A) A) (List.toArray [Value.ref (ad 0)]) s 0 0 A) (F0 m 4 ls []) := by
    intro n4
    induction n4 with
    | zero => intro x1 x2 hf; cases hf
    | succ n4 ih4 =>
      have C12 : ∀ (n12 : Nat) (x1 : Int32) (x2 : Int32) (x3 : Int32), mf_rankOf_C12 w (mf_rankOf_C4 w n4) n12 x1 x2 x3 = some r0 → ∀ (H : Heap) (locs : List Loc) (ls : Array Slot), va_P (dC, dI) vwCl (mc cI cZ ad w) H → va_D A (mc cI cZ ad w) → va_S A s.heap H locs → lv_has ls 4 [(0, .ref (ad 0)), (1, .int x1), (2, .int x2), (3, .int x3)] → W p l e (headSpec wsX4_rankOf ({ frames := 1, cells := 0, slots := 0, locals := 23 } : Room)).room s m (List.toArray [Value.ref (ad 0)]) below meth c H locs 0 0 (MQ below (va_Qi (fun (r : Int32) (u : mW) => r = r0 ∧ u = w0) (mB dC dI cI cZ cG ad A) A) (List.toArray [Value.ref (ad 0)]) s 0 0 A) (F0 m 12 ls []) := by
        intro n12
        induction n12 with
        | zero => intro x1 x2 x3 hf; cases hf
        | succ n12 ih12 =>
          intro x1 x2 x3 hf H locs ls hP hD hS hl
          rw [mf_rankOf_C12] at hf
          refine lv_iload_n hx hb dX4_rankOf_12 rfl (lv_at hl 3 rfl) ?_
          refine lv_aload_n hx hb dX4_rankOf_13 rfl (lv_at hl 0 rfl) ?_
          refine va_get (D := (dC, dI)) (ci := 4) (v := .ref (ad 15)) (C := RX4) (T := TX4) (N := 21) hx hb hts inX4 hown hK hP 0 rfl rfl 16 (by decide) (hts (.fieldLink RX4 58 "BittenBoardsModel" "board" "[I") (by decide +kernel)) (fun _ h9 => h9) rfl dX4_rankOf_14 ?_
          refine lv_iload_n hx hb dX4_rankOf_17 rfl (lv_at hl 2 rfl) ?_
          obtain ⟨hg18, hf⟩ := gi_e hf
          refine va_iald (f := (w.2 15)) hx hb hK hP 15 0 rfl rfl hg18 dX4_rankOf_18 ?_
          refine lv_icmp_ge (tgt := 39) hx hb dX4_rankOf_19 (by decide) (fun h19 => ?_) (fun h19 => ?_)
          · have hf := if_t h19 hf
            obtain ⟨x2_39, ex2_39, hf⟩ := nm_x hf
            refine lv_iinc (v := x2_39) (lv' := [(2, .int x2_39), (0, .ref (ad 0)), (1, .int x1), (3, .int x3)]) hx hb dX4_rankOf_39 hl (k := 2) rfl (by rw [ex2_39]; rfl) (by decide) rfl (fun ls hl => ?_)
            refine lv_goto (tgt := 4) hx hb dX4_rankOf_42 (by decide) ?_
            exact ih4 x1 x2_39 hf _ _ _ hP hD hS (lv_sub hl [1, 2, 0] rfl)
          · have hf := if_f h19 hf
            refine lv_iload_n hx hb dX4_rankOf_22 rfl (lv_at hl 1 rfl) ?_
            refine lv_bipush (v := (6 : Int32)) hx hb dX4_rankOf_23 (by decide) ?_
            refine lv_iload_n hx hb dX4_rankOf_25 rfl (lv_at hl 2 rfl) ?_
            refine lv_isub hx hb dX4_rankOf_26 ?_
            refine lv_iload_n hx hb dX4_rankOf_27 rfl (lv_at hl 3 rfl) ?_
            obtain ⟨r_28, hc28, hf⟩ := bn_e hf
            refine m_calli hD hS hAA (va_runS (As := [.int ((6 : Int32) - x2), .int x3]) (rest := [.int x1]) ⟨hx, hb, hml, hown, hts⟩ (k_mf_rowsOf l dC dI cI cZ cG ad H.size w ((6 : Int32) - x2) x3 r_28 w hc28 rfl) (va_cwS 2 hts gX4_rankOf_X4_rowsOf rfl rfl rfl (by decide +kernel) ⟨Nat.le_of_ble_eq_true rfl, Nat.le_of_ble_eq_true rfl⟩) ⟨m_blind, fun U hU hW => m_pre hU hW hK hP hD⟩ rfl rfl hl.1 rfl (lv_room (Nat.le_of_ble_eq_true rfl)) dX4_rankOf_28 ⟨Nat.zero_le _, Nat.zero_le _⟩) (fun H locs hP hD hS => ?_)
            refine lv_iadd hx hb dX4_rankOf_31 ?_
            obtain ⟨x1_32, ex1_32, hf⟩ := nm_x hf
            refine W.eq (g2 := F0 m 32 ls [.int x1_32]) (by rw [ex1_32]) ?_
            refine lv_istore_n (lv' := [(1, .int x1_32), (0, .ref (ad 0)), (2, .int x2), (3, .int x3)]) hx hb dX4_rankOf_32 rfl hl (by decide) rfl (fun ls hl => ?_)
            obtain ⟨x3_33, ex3_33, hf⟩ := nm_x hf
            refine lv_iinc (v := x3_33) (lv' := [(3, .int x3_33), (1, .int x1_32), (0, .ref (ad 0)), (2, .int x2)]) hx hb dX4_rankOf_33 hl (k := 3) rfl (by rw [ex3_33]; rfl) (by decide) rfl (fun ls hl => ?_)
            refine lv_goto (tgt := 12) hx hb dX4_rankOf_36 (by decide) ?_
            exact ih12 x1_32 x2 x3_33 hf _ _ _ hP hD hS (lv_sub hl [2, 1, 3, 0] rfl)
      intro x1 x2 hf H locs ls hP hD hS hl
      rw [mf_rankOf_C4] at hf
      refine lv_iload_n hx hb dX4_rankOf_4 rfl (lv_at hl 2 rfl) ?_
      refine lv_bipush (v := (7 : Int32)) hx hb dX4_rankOf_5 (by decide) ?_
      refine lv_icmp_ge (tgt := 45) hx hb dX4_rankOf_7 (by decide) (fun h7 => ?_) (fun h7 => ?_)
      · have hf := if_t h7 hf
        refine lv_iload_n hx hb dX4_rankOf_45 rfl (lv_at hl 1 rfl) ?_
        exact m_iret hx hb hr hlocks hK hP hD hS ⟨so_1 hf, hw0⟩ dX4_rankOf_46
      · have hf := if_f h7 hf
        refine lv_iconst (v := (0 : Int32)) hx hb dX4_rankOf_10 (by decide) ?_
        refine lv_istore_n (lv' := [(3, .int (0 : Int32)), (0, .ref (ad 0)), (1, .int x1), (2, .int x2)]) hx hb dX4_rankOf_11 rfl hl (by decide) rfl (fun ls hl => ?_)
        exact C12 fu x1 x2 (0 : Int32) hf _ _ _ hP hD hS (lv_sub hl [1, 2, 3, 0] rfl)
  have hl := lv_entry ([.ref (ad 0)]) (n := 4) (Nat.le_of_ble_eq_true rfl)
  rw [lg_entry_eq]
  generalize (lg_sl ([.ref (ad 0)]) ++ List.replicate (4 - (lg_sl ([.ref (ad 0)])).length) Slot.unset).toArray = ls at hl ⊢
  have hl : lv_has ls 4 [(0, .ref (ad 0))] := hl
  unfold mf_rankOf at hf
  refine lv_iconst (v := (0 : Int32)) hx hb dX4_rankOf_0 (by decide) ?_
  refine lv_istore_n (lv' := [(1, .int (0 : Int32)), (0, .ref (ad 0))]) hx hb dX4_rankOf_1 rfl hl (by decide) rfl (fun ls hl => ?_)
  refine lv_iconst (v := (0 : Int32)) hx hb dX4_rankOf_2 (by decide) ?_
  refine lv_istore_n (lv' := [(2, .int (0 : Int32)), (1, .int (0 : Int32)), (0, .ref (ad 0))]) hx hb dX4_rankOf_3 rfl hl (by decide) rfl (fun ls hl => ?_)
  exact C4 fu (0 : Int32) (0 : Int32) hf _ _ _ hP hD hS (lv_sub hl [2, 1, 0] rfl)
set_option maxHeartbeats 4000000 in
set_option maxRecDepth 100000 in
theorem k_mf_unrank (l : Launch) (dC : Nat → ClassId) (dI : Nat → Nat → Nat) (cI cZ cG : ClassId) (ad : Nat → Nat) (sz : Nat) (w : mW) (a1 : Int32) (w0 : mW) (hf : mf_unrank a1 w = some w0) : Met l yX4_unrank wsX4_unrank ({ frames := 1, cells := 0, slots := 0, locals := 23 } : Room) (va_Pc [.ref (ad 0), .int a1] (mPre dC dI cI cZ cG ad sz w)) (va_Qv (fun (u : mW) => u = w0) (mB dC dI cI cZ cG ad (mA ad sz)) (mA ad sz)) 0 0 (mA ad sz) := by
  refine Met.ofW (cc := cX4_unrank) (maxL := 5) (ret := none) (by decide) rfl ?_
  intro p e s m args below meth c s₁ B hml hv
  obtain ⟨rfl, hsz, hP, hK, hD0⟩ := hv
  have hx := B.exec
  have hb := B.bytes
  have hr := B.returns
  have hts := atoms_spec (ws := wsX4_unrank) B.pre
  have hown : s.vm.findClass RX4 = some m.cls := findClass_of_methodNamed B.named
  have hlocks := B.notSynchronized
  have inX4 : ∀ w ∈ u_ws RX4 TX4 21, w ∈ wsX4_unrank := by decide +kernel
  subst hsz
  have hD : va_D (mA ad s.heap.size) (mc cI cZ ad w) := mD_self hD0
  have hAA : ∀ z q, s.heap.size ≤ z → mA ad z q → mA ad s.heap.size q := mA_mono
  generalize mA ad s.heap.size = A at hD hAA ⊢
  have hS : va_S A s.heap s.heap [] := va_S.rf
  have C4 : ∀ (n4 : Nat) (x2 : Int32) (x3 : Int32) (w : mW), mf_unrank_C4 n4 x2 x3 w = some w0 → ∀ (H : Heap) (locs : List Loc) (ls : Array Slot), va_P (dC, dI) vwCl (mc cI cZ ad w) H → va_D A (mc cI cZ ad w) → va_S A s.heap H locs → lv_has ls 5 [(0, .ref (ad 0)), (2, .int x2), (3, .int x3)] → W p l e (headSpec wsX4_unrank ({ frames := 1, cells := 0, slots := 0, locals := 23 } : Room)).room s m (List.toArray [Value.ref (ad 0), Value.int a1]) below meth c H locs 0 0 (MQ below (va_Qv (fun (u : mW) => u = w0) (mB dC dI cI cZ cG ad A) A) (List.toArray [Value.ref (ad 0), Value.int a1]) s 0 0 A) (F0 m 4 ls []) := by
    intro n4
    induction n4 with
    | zero => intro x2 x3 w hf; cases hf
    | succ n4 ih4 =>
      have C13 : ∀ (n13 : Nat) (x2 : Int32) (x3 : Int32) (x4 : Int32) (w : mW), mf_unrank_C13 (mf_unrank_C4 n4) n13 x2 x3 x4 w = some w0 → ∀ (H : Heap) (locs : List Loc) (ls : Array Slot), va_P (dC, dI) vwCl (mc cI cZ ad w) H → va_D A (mc cI cZ ad w) → va_S A s.heap H locs → lv_has ls 5 [(0, .ref (ad 0)), (2, .int x2), (3, .int x3), (4, .int x4)] → W p l e (headSpec wsX4_unrank ({ frames := 1, cells := 0, slots := 0, locals := 23 } : Room)).room s m (List.toArray [Value.ref (ad 0), Value.int a1]) below meth c H locs 0 0 (MQ below (va_Qv (fun (u : mW) => u = w0) (mB dC dI cI cZ cG ad A) A) (List.toArray [Value.ref (ad 0), Value.int a1]) s 0 0 A) (F0 m 13 ls []) := by
        intro n13
        induction n13 with
        | zero => intro x2 x3 x4 w hf; cases hf
        | succ n13 ih13 =>
          intro x2 x3 x4 w hf H locs ls hP hD hS hl
          rw [mf_unrank_C13] at hf
          refine lv_iload_n hx hb dX4_unrank_13 rfl (lv_at hl 1 rfl) ?_
          refine lv_bipush (v := (6 : Int32)) hx hb dX4_unrank_14 (by decide) ?_
          refine lv_iload_n hx hb dX4_unrank_16 rfl (lv_at hl 2 rfl) ?_
          refine lv_isub hx hb dX4_unrank_17 ?_
          refine lv_iload hx hb dX4_unrank_18 (lv_at hl 3 rfl) ?_
          obtain ⟨r_20, hc20, hf⟩ := bn_e hf
          refine m_calli hD hS hAA (va_runS (As := [.int ((6 : Int32) - x3), .int x4]) (rest := [.int x2]) ⟨hx, hb, hml, hown, hts⟩ (k_mf_rowsOf l dC dI cI cZ cG ad H.size w ((6 : Int32) - x3) x4 r_20 w hc20 rfl) (va_cwS 2 hts gX4_unrank_X4_rowsOf rfl rfl rfl (by decide +kernel) ⟨Nat.le_of_ble_eq_true rfl, Nat.le_of_ble_eq_true rfl⟩) ⟨m_blind, fun U hU hW => m_pre hU hW hK hP hD⟩ rfl rfl hl.1 rfl (lv_room (Nat.le_of_ble_eq_true rfl)) dX4_unrank_20 ⟨Nat.zero_le _, Nat.zero_le _⟩) (fun H locs hP hD hS => ?_)
          refine lv_icmp_lt (tgt := 44) hx hb dX4_unrank_23 (by decide) (fun h23 => ?_) (fun h23 => ?_)
          · have hf := if_t h23 hf
            refine lv_aload_n hx hb dX4_unrank_44 rfl (lv_at hl 0 rfl) ?_
            refine va_get (D := (dC, dI)) (ci := 4) (v := .ref (ad 15)) (C := RX4) (T := TX4) (N := 21) hx hb hts inX4 hown hK hP 0 rfl rfl 16 (by decide) (hts (.fieldLink RX4 58 "BittenBoardsModel" "board" "[I") (by decide +kernel)) (fun _ h9 => h9) rfl dX4_unrank_45 ?_
            refine lv_iload_n hx hb dX4_unrank_48 rfl (lv_at hl 2 rfl) ?_
            refine lv_iload hx hb dX4_unrank_49 (lv_at hl 3 rfl) ?_
            obtain ⟨hg51, hf⟩ := gi_e hf
            obtain ⟨w_51, ew_51, hf⟩ := nm_x hf
            refine va_iast (f := (w.2 15)) hx hb hK hP hD hS 15 0 rfl rfl hg51 dX4_unrank_51 (fun H locs hP hD hS => ?_)
            have hP : va_P (dC, dI) vwCl (mc cI cZ ad w_51) H := hP.eqs (by rw [ew_51]; rfl)
            have hD : va_D A (mc cI cZ ad w_51) := hD.eqs (by rw [ew_51]; rfl)
            obtain ⟨x3_52, ex3_52, hf⟩ := nm_x hf
            refine lv_iinc (v := x3_52) (lv' := [(3, .int x3_52), (0, .ref (ad 0)), (2, .int x2), (4, .int x4)]) hx hb dX4_unrank_52 hl (k := 2) rfl (by rw [ex3_52]; rfl) (by decide) rfl (fun ls hl => ?_)
            refine lv_goto (tgt := 4) hx hb dX4_unrank_55 (by decide) ?_
            exact ih4 x2 x3_52 w_51 hf _ _ _ hP hD hS (lv_sub hl [1, 2, 0] rfl)
          · have hf := if_f h23 hf
            refine lv_iload_n hx hb dX4_unrank_26 rfl (lv_at hl 1 rfl) ?_
            refine lv_bipush (v := (6 : Int32)) hx hb dX4_unrank_27 (by decide) ?_
            refine lv_iload_n hx hb dX4_unrank_29 rfl (lv_at hl 2 rfl) ?_
            refine lv_isub hx hb dX4_unrank_30 ?_
            refine lv_iload hx hb dX4_unrank_31 (lv_at hl 3 rfl) ?_
            obtain ⟨r_33, hc33, hf⟩ := bn_e hf
            refine m_calli hD hS hAA (va_runS (As := [.int ((6 : Int32) - x3), .int x4]) (rest := [.int x2]) ⟨hx, hb, hml, hown, hts⟩ (k_mf_rowsOf l dC dI cI cZ cG ad H.size w ((6 : Int32) - x3) x4 r_33 w hc33 rfl) (va_cwS 2 hts gX4_unrank_X4_rowsOf rfl rfl rfl (by decide +kernel) ⟨Nat.le_of_ble_eq_true rfl, Nat.le_of_ble_eq_true rfl⟩) ⟨m_blind, fun U hU hW => m_pre hU hW hK hP hD⟩ rfl rfl hl.1 rfl (lv_room (Nat.le_of_ble_eq_true rfl)) dX4_unrank_33 ⟨Nat.zero_le _, Nat.zero_le _⟩) (fun H locs hP hD hS => ?_)
            refine lv_isub hx hb dX4_unrank_36 ?_
            obtain ⟨x2_37, ex2_37, hf⟩ := nm_x hf
            refine W.eq (g2 := F0 m 37 ls [.int x2_37]) (by rw [ex2_37]) ?_
            refine lv_istore_n (lv' := [(2, .int x2_37), (0, .ref (ad 0)), (3, .int x3), (4, .int x4)]) hx hb dX4_unrank_37 rfl hl (by decide) rfl (fun ls hl => ?_)
            obtain ⟨x4_38, ex4_38, hf⟩ := nm_x hf
            refine lv_iinc (v := x4_38) (lv' := [(4, .int x4_38), (2, .int x2_37), (0, .ref (ad 0)), (3, .int x3)]) hx hb dX4_unrank_38 hl (k := 3) rfl (by rw [ex4_38]; rfl) (by decide) rfl (fun ls hl => ?_)
            refine lv_goto (tgt := 13) hx hb dX4_unrank_41 (by decide) ?_
            exact ih13 x2_37 x3 x4_38 w hf _ _ _ hP hD hS (lv_sub hl [2, 1, 3, 0] rfl)
      intro x2 x3 w hf H locs ls hP hD hS hl
      rw [mf_unrank_C4] at hf
      refine lv_iload_n hx hb dX4_unrank_4 rfl (lv_at hl 2 rfl) ?_
      refine lv_bipush (v := (7 : Int32)) hx hb dX4_unrank_5 (by decide) ?_
      refine lv_icmp_ge (tgt := 58) hx hb dX4_unrank_7 (by decide) (fun h7 => ?_) (fun h7 => ?_)
      · have hf := if_t h7 hf
        exact m_vret hx hb hr hlocks hK hP hD hS (so_1 hf) dX4_unrank_58
      · have hf := if_f h7 hf
        refine lv_iconst (v := (0 : Int32)) hx hb dX4_unrank_10 (by decide) ?_
        refine lv_istore (lv' := [(4, .int (0 : Int32)), (0, .ref (ad 0)), (2, .int x2), (3, .int x3)]) hx hb dX4_unrank_11 hl (by decide) rfl (fun ls hl => ?_)
        exact C13 fu x2 x3 (0 : Int32) w hf _ _ _ hP hD hS (lv_sub hl [1, 2, 3, 0] rfl)
  have hl := lv_entry ([.ref (ad 0), .int a1]) (n := 5) (Nat.le_of_ble_eq_true rfl)
  rw [lg_entry_eq]
  generalize (lg_sl ([.ref (ad 0), .int a1]) ++ List.replicate (5 - (lg_sl ([.ref (ad 0), .int a1])).length) Slot.unset).toArray = ls at hl ⊢
  have hl : lv_has ls 5 [(0, .ref (ad 0)), (1, .int a1)] := hl
  unfold mf_unrank at hf
  refine lv_iload_n hx hb dX4_unrank_0 rfl (lv_at hl 1 rfl) ?_
  refine lv_istore_n (lv' := [(2, .int a1), (0, .ref (ad 0)), (1, .int a1)]) hx hb dX4_unrank_1 rfl hl (by decide) rfl (fun ls hl => ?_)
  refine lv_iconst (v := (0 : Int32)) hx hb dX4_unrank_2 (by decide) ?_
  refine lv_istore_n (lv' := [(3, .int (0 : Int32)), (2, .int a1), (0, .ref (ad 0)), (1, .int a1)]) hx hb dX4_unrank_3 rfl hl (by decide) rfl (fun ls hl => ?_)
  exact C4 fu a1 (0 : Int32) w hf _ _ _ hP hD hS (lv_sub hl [2, 1, 0] rfl)
set_option maxHeartbeats 4000000 in
set_option maxRecDepth 100000 in
theorem k_mf_placeOf (l : Launch) (dC : Nat → ClassId) (dI : Nat → Nat → Nat) (cI cZ cG : ClassId) (ad : Nat → Nat) (sz : Nat) (w : mW) (a0 : Int32) (a1 : Int32) (r0 : Int32) (w0 : mW) (hf : mf_placeOf a0 a1 = some r0) (hw0 : w = w0) : Met l yX4_placeOf wsX4_placeOf ({ frames := 0, cells := 0, slots := 0, locals := 0 } : Room) (va_Pc [.int a0, .int a1] (mPre dC dI cI cZ cG ad sz w)) (va_Qi (fun (r : Int32) (u : mW) => r = r0 ∧ u = w0) (mB dC dI cI cZ cG ad (mA ad sz)) (mA ad sz)) 0 0 (mA ad sz) := by
  refine Met.ofW (cc := cX4_placeOf) (maxL := 2) (ret := (some .int)) (by decide) rfl ?_
  intro p e s m args below meth c s₁ B hml hv
  obtain ⟨rfl, hsz, hP, hK, hD0⟩ := hv
  have hx := B.exec
  have hb := B.bytes
  have hr := B.returns
  have hts := atoms_spec (ws := wsX4_placeOf) B.pre
  have hown : s.vm.findClass RX4 = some m.cls := findClass_of_methodNamed B.named
  have hlocks := B.notSynchronized
  subst hsz
  have hD : va_D (mA ad s.heap.size) (mc cI cZ ad w) := mD_self hD0
  have hAA : ∀ z q, s.heap.size ≤ z → mA ad z q → mA ad s.heap.size q := mA_mono
  generalize mA ad s.heap.size = A at hD hAA ⊢
  have hS : va_S A s.heap s.heap [] := va_S.rf
  have hl := lv_entry ([.int a0, .int a1]) (n := 2) (Nat.le_of_ble_eq_true rfl)
  rw [lg_entry_eq]
  generalize (lg_sl ([.int a0, .int a1]) ++ List.replicate (2 - (lg_sl ([.int a0, .int a1])).length) Slot.unset).toArray = ls at hl ⊢
  have hl : lv_has ls 2 [(0, .int a0), (1, .int a1)] := hl
  unfold mf_placeOf at hf
  refine lv_bipush (v := (12 : Int32)) hx hb dX4_placeOf_0 (by decide) ?_
  refine lv_iload_n hx hb dX4_placeOf_2 rfl (lv_at hl 0 rfl) ?_
  refine lv_imul hx hb dX4_placeOf_3 ?_
  refine lv_iload_n hx hb dX4_placeOf_4 rfl (lv_at hl 1 rfl) ?_
  refine lv_iadd hx hb dX4_placeOf_5 ?_
  exact m_iret hx hb hr hlocks hK hP hD hS ⟨so_1 hf, hw0⟩ dX4_placeOf_6
set_option maxHeartbeats 4000000 in
set_option maxRecDepth 100000 in
theorem k_mf_withPost (l : Launch) (dC : Nat → ClassId) (dI : Nat → Nat → Nat) (cI cZ cG : ClassId) (ad : Nat → Nat) (sz : Nat) (w : mW) (a1 : Int32) (a2 : Int32) (r0 : Int32) (w0 : mW) (hf : mf_withPost a1 a2 w = some r0) (hw0 : w = w0) : Met l yX4_withPost wsX4_withPost ({ frames := 0, cells := 0, slots := 0, locals := 0 } : Room) (va_Pc [.ref (ad 0), .int a1, .int a2] (mPre dC dI cI cZ cG ad sz w)) (va_Qi (fun (r : Int32) (u : mW) => r = r0 ∧ u = w0) (mB dC dI cI cZ cG ad (mA ad sz)) (mA ad sz)) 0 0 (mA ad sz) := by
  refine Met.ofW (cc := cX4_withPost) (maxL := 6) (ret := (some .int)) (by decide) rfl ?_
  intro p e s m args below meth c s₁ B hml hv
  obtain ⟨rfl, hsz, hP, hK, hD0⟩ := hv
  have hx := B.exec
  have hb := B.bytes
  have hr := B.returns
  have hts := atoms_spec (ws := wsX4_withPost) B.pre
  have hown : s.vm.findClass RX4 = some m.cls := findClass_of_methodNamed B.named
  have hlocks := B.notSynchronized
  have inX4 : ∀ w ∈ u_ws RX4 TX4 21, w ∈ wsX4_withPost := by decide +kernel
  subst hsz
  have hD : va_D (mA ad s.heap.size) (mc cI cZ ad w) := mD_self hD0
  have hAA : ∀ z q, s.heap.size ≤ z → mA ad z q → mA ad s.heap.size q := mA_mono
  generalize mA ad s.heap.size = A at hD hAA ⊢
  have hS : va_S A s.heap s.heap [] := va_S.rf
  have C7 : ∀ (n7 : Nat) (x1 : Int32) (x2 : Int32) (x3 : Int32) (x4 : Int32), mf_withPost_C7 w n7 x1 x2 x3 x4 = some r0 → ∀ (H : Heap) (locs : List Loc) (ls : Array Slot), va_P (dC, dI) vwCl (mc cI cZ ad w) H → va_D A (mc cI cZ ad w) → va_S A s.heap H locs → lv_has ls 6 [(0, .ref (ad 0)), (1, .int x1), (2, .int x2), (3, .int x3), (4, .int x4)] → W p l e (headSpec wsX4_withPost ({ frames := 0, cells := 0, slots := 0, locals := 0 } : Room)).room s m (List.toArray [Value.ref (ad 0), Value.int a1, Value.int a2]) below meth c H locs 0 0 (MQ below (va_Qi (fun (r : Int32) (u : mW) => r = r0 ∧ u = w0) (mB dC dI cI cZ cG ad A) A) (List.toArray [Value.ref (ad 0), Value.int a1, Value.int a2]) s 0 0 A) (F0 m 7 ls []) := by
    intro n7
    induction n7 with
    | zero => intro x1 x2 x3 x4 hf; cases hf
    | succ n7 ih7 =>
      have C54 : ∀ (x1 : Int32) (x2 : Int32) (x4 : Int32) (t0 : Int32), mf_withPost_C54 w (mf_withPost_C7 w n7) x1 x2 x4 t0 = some r0 → ∀ (H : Heap) (locs : List Loc) (ls : Array Slot), va_P (dC, dI) vwCl (mc cI cZ ad w) H → va_D A (mc cI cZ ad w) → va_S A s.heap H locs → lv_has ls 6 [(0, .ref (ad 0)), (1, .int x1), (2, .int x2), (4, .int x4)] → W p l e (headSpec wsX4_withPost ({ frames := 0, cells := 0, slots := 0, locals := 0 } : Room)).room s m (List.toArray [Value.ref (ad 0), Value.int a1, Value.int a2]) below meth c H locs 0 0 (MQ below (va_Qi (fun (r : Int32) (u : mW) => r = r0 ∧ u = w0) (mB dC dI cI cZ cG ad A) A) (List.toArray [Value.ref (ad 0), Value.int a1, Value.int a2]) s 0 0 A) (F0 m 54 ls [.int t0]) := by
        intro x1 x2 x4 t0 hf H locs ls hP hD hS hl
        unfold mf_withPost_C54 at hf
        refine lv_bipush (v := (64 : Int32)) hx hb dX4_withPost_54 (by decide) ?_
        refine lv_iload hx hb dX4_withPost_56 (lv_at hl 3 rfl) ?_
        refine lv_ishl hx hb dX4_withPost_58 ?_
        refine lv_goto (tgt := 63) hx hb dX4_withPost_59 (by decide) ?_
        refine lv_ior hx hb dX4_withPost_63 ?_
        obtain ⟨x3_64, ex3_64, hf⟩ := nm_x hf
        refine W.eq (g2 := F0 m 64 ls [.int x3_64]) (by rw [ex3_64]) ?_
        refine lv_istore_n (lv' := [(3, .int x3_64), (0, .ref (ad 0)), (1, .int x1), (2, .int x2), (4, .int x4)]) hx hb dX4_withPost_64 rfl hl (by decide) rfl (fun ls hl => ?_)
        obtain ⟨x4_65, ex4_65, hf⟩ := nm_x hf
        refine lv_iinc (v := x4_65) (lv' := [(4, .int x4_65), (3, .int x3_64), (0, .ref (ad 0)), (1, .int x1), (2, .int x2)]) hx hb dX4_withPost_65 hl (k := 4) rfl (by rw [ex4_65]; rfl) (by decide) rfl (fun ls hl => ?_)
        refine lv_goto (tgt := 7) hx hb dX4_withPost_68 (by decide) ?_
        exact ih7 x1 x2 x3_64 x4_65 hf _ _ _ hP hD hS (lv_sub hl [2, 3, 4, 1, 0] rfl)
      intro x1 x2 x3 x4 hf H locs ls hP hD hS hl
      rw [mf_withPost_C7] at hf
      refine lv_iload hx hb dX4_withPost_7 (lv_at hl 4 rfl) ?_
      refine lv_aload_n hx hb dX4_withPost_9 rfl (lv_at hl 0 rfl) ?_
      refine va_get (D := (dC, dI)) (ci := 4) (v := .ref (ad 7)) (C := RX4) (T := TX4) (N := 21) hx hb hts inX4 hown hK hP 0 rfl rfl 7 (by decide) (hts (.fieldLink RX4 28 "BittenBoardsModel" "roads" "[I") (by decide +kernel)) (fun _ h9 => h9) rfl dX4_withPost_10 ?_
      refine lv_iload_n hx hb dX4_withPost_13 rfl (lv_at hl 1 rfl) ?_
      obtain ⟨hg14, hf⟩ := gi_e hf
      refine va_iald (f := (w.2 7)) hx hb hK hP 7 0 rfl rfl hg14 dX4_withPost_14 ?_
      refine lv_icmp_ge (tgt := 71) hx hb dX4_withPost_15 (by decide) (fun h15 => ?_) (fun h15 => ?_)
      · have hf := if_t h15 hf
        refine lv_iload_n hx hb dX4_withPost_71 rfl (lv_at hl 3 rfl) ?_
        exact m_iret hx hb hr hlocks hK hP hD hS ⟨so_1 hf, hw0⟩ dX4_withPost_72
      · have hf := if_f h15 hf
        refine lv_bipush (v := (18 : Int32)) hx hb dX4_withPost_18 (by decide) ?_
        refine lv_iload_n hx hb dX4_withPost_20 rfl (lv_at hl 1 rfl) ?_
        refine lv_imul hx hb dX4_withPost_21 ?_
        refine lv_iconst (v := (2 : Int32)) hx hb dX4_withPost_22 (by decide) ?_
        refine lv_iload hx hb dX4_withPost_23 (lv_at hl 4 rfl) ?_
        refine lv_imul hx hb dX4_withPost_25 ?_
        refine lv_iadd hx hb dX4_withPost_26 ?_
        obtain ⟨x5_27, ex5_27, hf⟩ := nm_x hf
        refine W.eq (g2 := F0 m 27 ls [.int x5_27]) (by rw [ex5_27]) ?_
        refine lv_istore (lv' := [(5, .int x5_27), (0, .ref (ad 0)), (1, .int x1), (2, .int x2), (3, .int x3), (4, .int x4)]) hx hb dX4_withPost_27 hl (by decide) rfl (fun ls hl => ?_)
        refine lv_iload_n hx hb dX4_withPost_29 rfl (lv_at hl 4 rfl) ?_
        refine lv_aload_n hx hb dX4_withPost_30 rfl (lv_at hl 1 rfl) ?_
        refine va_get (D := (dC, dI)) (ci := 4) (v := .ref (ad 8)) (C := RX4) (T := TX4) (N := 21) hx hb hts inX4 hown hK hP 0 rfl rfl 8 (by decide) (hts (.fieldLink RX4 31 "BittenBoardsModel" "ends" "[I") (by decide +kernel)) (fun _ h9 => h9) rfl dX4_withPost_31 ?_
        refine lv_iload hx hb dX4_withPost_34 (lv_at hl 0 rfl) ?_
        obtain ⟨hg36, hf⟩ := gi_e hf
        refine va_iald (f := (w.2 8)) hx hb hK hP 8 0 rfl rfl hg36 dX4_withPost_36 ?_
        refine lv_iload_n hx hb dX4_withPost_37 rfl (lv_at hl 3 rfl) ?_
        refine lv_icmp_eq (tgt := 54) hx hb dX4_withPost_38 (by decide) (fun h38 => ?_) (fun h38 => ?_)
        · have hf := if_t h38 hf
          exact C54 x1 x2 x4 x3 hf _ _ _ hP hD hS (lv_sub hl [1, 2, 3, 5] rfl)
        · have hf := if_f h38 hf
          refine lv_aload_n hx hb dX4_withPost_41 rfl (lv_at hl 1 rfl) ?_
          refine va_get (D := (dC, dI)) (ci := 4) (v := .ref (ad 8)) (C := RX4) (T := TX4) (N := 21) hx hb hts inX4 hown hK hP 0 rfl rfl 8 (by decide) (hts (.fieldLink RX4 31 "BittenBoardsModel" "ends" "[I") (by decide +kernel)) (fun _ h9 => h9) rfl dX4_withPost_42 ?_
          refine lv_iload hx hb dX4_withPost_45 (lv_at hl 0 rfl) ?_
          refine lv_iconst (v := (1 : Int32)) hx hb dX4_withPost_47 (by decide) ?_
          refine lv_iadd hx hb dX4_withPost_48 ?_
          obtain ⟨hg49, hf⟩ := gi_e hf
          refine va_iald (f := (w.2 8)) hx hb hK hP 8 0 rfl rfl hg49 dX4_withPost_49 ?_
          refine lv_iload_n hx hb dX4_withPost_50 rfl (lv_at hl 3 rfl) ?_
          refine lv_icmp_ne (tgt := 62) hx hb dX4_withPost_51 (by decide) (fun h51 => ?_) (fun h51 => ?_)
          · have hf := if_f h51 hf
            refine lv_iconst (v := (0 : Int32)) hx hb dX4_withPost_62 (by decide) ?_
            refine lv_ior hx hb dX4_withPost_63 ?_
            obtain ⟨x3_64, ex3_64, hf⟩ := nm_x hf
            refine W.eq (g2 := F0 m 64 ls [.int x3_64]) (by rw [ex3_64]) ?_
            refine lv_istore_n (lv' := [(3, .int x3_64), (5, .int x5_27), (0, .ref (ad 0)), (1, .int x1), (2, .int x2), (4, .int x4)]) hx hb dX4_withPost_64 rfl hl (by decide) rfl (fun ls hl => ?_)
            obtain ⟨x4_65, ex4_65, hf⟩ := nm_x hf
            refine lv_iinc (v := x4_65) (lv' := [(4, .int x4_65), (3, .int x3_64), (5, .int x5_27), (0, .ref (ad 0)), (1, .int x1), (2, .int x2)]) hx hb dX4_withPost_65 hl (k := 5) rfl (by rw [ex4_65]; rfl) (by decide) rfl (fun ls hl => ?_)
            refine lv_goto (tgt := 7) hx hb dX4_withPost_68 (by decide) ?_
            exact ih7 x1 x2 x3_64 x4_65 hf _ _ _ hP hD hS (lv_sub hl [3, 4, 5, 1, 0] rfl)
          · have hf := if_t h51 hf
            exact C54 x1 x2 x4 x3 hf _ _ _ hP hD hS (lv_sub hl [1, 2, 3, 5] rfl)
  have hl := lv_entry ([.ref (ad 0), .int a1, .int a2]) (n := 6) (Nat.le_of_ble_eq_true rfl)
  rw [lg_entry_eq]
  generalize (lg_sl ([.ref (ad 0), .int a1, .int a2]) ++ List.replicate (6 - (lg_sl ([.ref (ad 0), .int a1, .int a2])).length) Slot.unset).toArray = ls at hl ⊢
  have hl : lv_has ls 6 [(0, .ref (ad 0)), (1, .int a1), (2, .int a2)] := hl
  unfold mf_withPost at hf
  refine lv_iconst (v := (1 : Int32)) hx hb dX4_withPost_0 (by decide) ?_
  refine lv_iload_n hx hb dX4_withPost_1 rfl (lv_at hl 2 rfl) ?_
  refine lv_ishl hx hb dX4_withPost_2 ?_
  obtain ⟨x3_3, ex3_3, hf⟩ := nm_x hf
  refine W.eq (g2 := F0 m 3 ls [.int x3_3]) (by rw [ex3_3]) ?_
  refine lv_istore_n (lv' := [(3, .int x3_3), (0, .ref (ad 0)), (1, .int a1), (2, .int a2)]) hx hb dX4_withPost_3 rfl hl (by decide) rfl (fun ls hl => ?_)
  refine lv_iconst (v := (0 : Int32)) hx hb dX4_withPost_4 (by decide) ?_
  refine lv_istore (lv' := [(4, .int (0 : Int32)), (3, .int x3_3), (0, .ref (ad 0)), (1, .int a1), (2, .int a2)]) hx hb dX4_withPost_5 hl (by decide) rfl (fun ls hl => ?_)
  exact C7 fu a1 a2 x3_3 (0 : Int32) hf _ _ _ hP hD hS (lv_sub hl [2, 3, 4, 1, 0] rfl)
set_option maxHeartbeats 4000000 in
set_option maxRecDepth 100000 in
theorem k_mf_addNext (l : Launch) (dC : Nat → ClassId) (dI : Nat → Nat → Nat) (cI cZ cG : ClassId) (ad : Nat → Nat) (sz : Nat) (w : mW) (a1 : Int32) (w0 : mW) (hf : mf_addNext a1 w = some w0) : Met l yX4_addNext wsX4_addNext ({ frames := 0, cells := 0, slots := 0, locals := 0 } : Room) (va_Pc [.ref (ad 0), .int a1] (mPre dC dI cI cZ cG ad sz w)) (va_Qv (fun (u : mW) => u = w0) (mB dC dI cI cZ cG ad (mA ad sz)) (mA ad sz)) 0 0 (mA ad sz) := by
  refine Met.ofW (cc := cX4_addNext) (maxL := 2) (ret := none) (by decide) rfl ?_
  intro p e s m args below meth c s₁ B hml hv
  obtain ⟨rfl, hsz, hP, hK, hD0⟩ := hv
  have hx := B.exec
  have hb := B.bytes
  have hr := B.returns
  have hts := atoms_spec (ws := wsX4_addNext) B.pre
  have hown : s.vm.findClass RX4 = some m.cls := findClass_of_methodNamed B.named
  have hlocks := B.notSynchronized
  have inX4 : ∀ w ∈ u_ws RX4 TX4 21, w ∈ wsX4_addNext := by decide +kernel
  subst hsz
  have hD : va_D (mA ad s.heap.size) (mc cI cZ ad w) := mD_self hD0
  have hAA : ∀ z q, s.heap.size ≤ z → mA ad z q → mA ad s.heap.size q := mA_mono
  generalize mA ad s.heap.size = A at hD hAA ⊢
  have hS : va_S A s.heap s.heap [] := va_S.rf
  have hl := lv_entry ([.ref (ad 0), .int a1]) (n := 2) (Nat.le_of_ble_eq_true rfl)
  rw [lg_entry_eq]
  generalize (lg_sl ([.ref (ad 0), .int a1]) ++ List.replicate (2 - (lg_sl ([.ref (ad 0), .int a1])).length) Slot.unset).toArray = ls at hl ⊢
  have hl : lv_has ls 2 [(0, .ref (ad 0)), (1, .int a1)] := hl
  unfold mf_addNext at hf
  refine lv_aload_n hx hb dX4_addNext_0 rfl (lv_at hl 0 rfl) ?_
  refine va_get (D := (dC, dI)) (ci := 4) (v := .ref (ad 16)) (C := RX4) (T := TX4) (N := 21) hx hb hts inX4 hown hK hP 0 rfl rfl 17 (by decide) (hts (.fieldLink RX4 61 "BittenBoardsModel" "next" "[I") (by decide +kernel)) (fun _ h9 => h9) rfl dX4_addNext_1 ?_
  refine lv_aload_n hx hb dX4_addNext_4 rfl (lv_at hl 0 rfl) ?_
  refine va_get (D := (dC, dI)) (ci := 4) (v := .int (w.1 2)) (C := RX4) (T := TX4) (N := 21) hx hb hts inX4 hown hK hP 0 rfl rfl 18 (by decide) (hts (.fieldLink RX4 74 "BittenBoardsModel" "nextMany" "I") (by decide +kernel)) (fun _ h9 => h9) rfl dX4_addNext_5 ?_
  refine lv_iload_n hx hb dX4_addNext_8 rfl (lv_at hl 1 rfl) ?_
  obtain ⟨hg9, hf⟩ := gi_e hf
  obtain ⟨w_9, ew_9, hf⟩ := nm_x hf
  refine va_iast (f := (w.2 16)) hx hb hK hP hD hS 16 0 rfl rfl hg9 dX4_addNext_9 (fun H locs hP hD hS => ?_)
  have hP : va_P (dC, dI) vwCl (mc cI cZ ad w_9) H := hP.eqs (by rw [ew_9]; rfl)
  have hD : va_D A (mc cI cZ ad w_9) := hD.eqs (by rw [ew_9]; rfl)
  refine lv_aload_n hx hb dX4_addNext_10 rfl (lv_at hl 0 rfl) ?_
  refine lv_dup hx hb dX4_addNext_11 rfl ?_
  refine va_get (D := (dC, dI)) (ci := 4) (v := .int (w_9.1 2)) (C := RX4) (T := TX4) (N := 21) hx hb hts inX4 hown hK hP 0 rfl rfl 18 (by decide) (hts (.fieldLink RX4 74 "BittenBoardsModel" "nextMany" "I") (by decide +kernel)) (fun _ h9 => h9) rfl dX4_addNext_12 ?_
  refine lv_iconst (v := (1 : Int32)) hx hb dX4_addNext_15 (by decide) ?_
  refine lv_iadd hx hb dX4_addNext_16 ?_
  obtain ⟨w_17, ew_17, hf⟩ := nm_x hf
  refine va_put (D := (dC, dI)) (ci := 4) (v := .int ((w_9.1 2) + (1 : Int32))) (ty := .int) (C := RX4) (T := TX4) (N := 21) hx hb hts inX4 tyX4 tyX4_ok nmX4 hown hK hP hD hS 0 rfl rfl 18 (by decide) (hts (.fieldLink RX4 74 "BittenBoardsModel" "nextMany" "I") (by decide +kernel)) (fun _ h9 => h9) rfl (by decide +kernel) rfl rfl (Nat.le_of_ble_eq_true rfl) dX4_addNext_17 (fun H locs hP hD hS => ?_)
  have hP : va_P (dC, dI) vwCl (mc cI cZ ad w_17) H := hP.eqs (by rw [ew_17]; rfl)
  have hD : va_D A (mc cI cZ ad w_17) := hD.eqs (by rw [ew_17]; rfl)
  exact m_vret hx hb hr hlocks hK hP hD hS (so_1 hf) dX4_addNext_20
set_option maxHeartbeats 4000000 in
set_option maxRecDepth 100000 in
theorem k_mf_bitesOfRows (l : Launch) (dC : Nat → ClassId) (dI : Nat → Nat → Nat) (cI cZ cG : ClassId) (ad : Nat → Nat) (sz : Nat) (w : mW) (a1 : Int32) (w0 : mW) (hf : mf_bitesOfRows a1 w = some w0) : Met l yX4_bitesOfRows wsX4_bitesOfRows ({ frames := 2, cells := 0, slots := 0, locals := 47 } : Room) (va_Pc [.ref (ad 0), .int a1] (mPre dC dI cI cZ cG ad sz w)) (va_Qv (fun (u : mW) => u = w0) (mB dC dI cI cZ cG ad (mA ad sz)) (mA ad sz)) 0 0 (mA ad sz) := by
  refine Met.ofW (cc := cX4_bitesOfRows) (maxL := 5) (ret := none) (by decide) rfl ?_
  intro p e s m args below meth c s₁ B hml hv
  obtain ⟨rfl, hsz, hP, hK, hD0⟩ := hv
  have hx := B.exec
  have hb := B.bytes
  have hr := B.returns
  have hts := atoms_spec (ws := wsX4_bitesOfRows) B.pre
  have hown : s.vm.findClass RX4 = some m.cls := findClass_of_methodNamed B.named
  have hlocks := B.notSynchronized
  have inX4 : ∀ w ∈ u_ws RX4 TX4 21, w ∈ wsX4_bitesOfRows := by decide +kernel
  subst hsz
  have hD : va_D (mA ad s.heap.size) (mc cI cZ ad w) := mD_self hD0
  have hAA : ∀ z q, s.heap.size ≤ z → mA ad z q → mA ad s.heap.size q := mA_mono
  generalize mA ad s.heap.size = A at hD hAA ⊢
  have hS : va_S A s.heap s.heap [] := va_S.rf
  have C33 : ∀ (n33 : Nat) (x2 : Int32) (w : mW), mf_bitesOfRows_C33 n33 x2 w = some w0 → ∀ (H : Heap) (locs : List Loc) (ls : Array Slot), va_P (dC, dI) vwCl (mc cI cZ ad w) H → va_D A (mc cI cZ ad w) → va_S A s.heap H locs → lv_has ls 5 [(0, .ref (ad 0)), (2, .int x2)] → W p l e (headSpec wsX4_bitesOfRows ({ frames := 2, cells := 0, slots := 0, locals := 47 } : Room)).room s m (List.toArray [Value.ref (ad 0), Value.int a1]) below meth c H locs 0 0 (MQ below (va_Qv (fun (u : mW) => u = w0) (mB dC dI cI cZ cG ad A) A) (List.toArray [Value.ref (ad 0), Value.int a1]) s 0 0 A) (F0 m 33 ls []) := by
    intro n33
    induction n33 with
    | zero => intro x2 w hf; cases hf
    | succ n33 ih33 =>
      have C41 : ∀ (n41 : Nat) (x2 : Int32) (x3 : Int32) (w : mW), mf_bitesOfRows_C41 (mf_bitesOfRows_C33 n33) n41 x2 x3 w = some w0 → ∀ (H : Heap) (locs : List Loc) (ls : Array Slot), va_P (dC, dI) vwCl (mc cI cZ ad w) H → va_D A (mc cI cZ ad w) → va_S A s.heap H locs → lv_has ls 5 [(0, .ref (ad 0)), (2, .int x2), (3, .int x3)] → W p l e (headSpec wsX4_bitesOfRows ({ frames := 2, cells := 0, slots := 0, locals := 47 } : Room)).room s m (List.toArray [Value.ref (ad 0), Value.int a1]) below meth c H locs 0 0 (MQ below (va_Qv (fun (u : mW) => u = w0) (mB dC dI cI cZ cG ad A) A) (List.toArray [Value.ref (ad 0), Value.int a1]) s 0 0 A) (F0 m 41 ls []) := by
        intro n41
        induction n41 with
        | zero => intro x2 x3 w hf; cases hf
        | succ n41 ih41 =>
          have C54 : ∀ (n54 : Nat) (x2 : Int32) (x3 : Int32) (x4 : Int32) (w : mW), mf_bitesOfRows_C54 (mf_bitesOfRows_C33 n33) (mf_bitesOfRows_C41 (mf_bitesOfRows_C33 n33) n41) n54 x2 x3 x4 w = some w0 → ∀ (H : Heap) (locs : List Loc) (ls : Array Slot), va_P (dC, dI) vwCl (mc cI cZ ad w) H → va_D A (mc cI cZ ad w) → va_S A s.heap H locs → lv_has ls 5 [(0, .ref (ad 0)), (2, .int x2), (3, .int x3), (4, .int x4)] → W p l e (headSpec wsX4_bitesOfRows ({ frames := 2, cells := 0, slots := 0, locals := 47 } : Room)).room s m (List.toArray [Value.ref (ad 0), Value.int a1]) below meth c H locs 0 0 (MQ below (va_Qv (fun (u : mW) => u = w0) (mB dC dI cI cZ cG ad A) A) (List.toArray [Value.ref (ad 0), Value.int a1]) s 0 0 A) (F0 m 54 ls []) := by
            intro n54
            induction n54 with
            | zero => intro x2 x3 x4 w hf; cases hf
            | succ n54 ih54 =>
              have C95 : ∀ (x2 : Int32) (x3 : Int32) (x4 : Int32) (t1 : Int32) (t2 : Int32) (w : mW), mf_bitesOfRows_C95 (mf_bitesOfRows_C33 n33) (mf_bitesOfRows_C41 (mf_bitesOfRows_C33 n33) n41) (mf_bitesOfRows_C54 (mf_bitesOfRows_C33 n33) (mf_bitesOfRows_C41 (mf_bitesOfRows_C33 n33) n41) n54) x2 x3 x4 t1 t2 w = some w0 → ∀ (H : Heap) (locs : List Loc) (ls : Array Slot), va_P (dC, dI) vwCl (mc cI cZ ad w) H → va_D A (mc cI cZ ad w) → va_S A s.heap H locs → lv_has ls 5 [(0, .ref (ad 0)), (2, .int x2), (3, .int x3), (4, .int x4)] → W p l e (headSpec wsX4_bitesOfRows ({ frames := 2, cells := 0, slots := 0, locals := 47 } : Room)).room s m (List.toArray [Value.ref (ad 0), Value.int a1]) below meth c H locs 0 0 (MQ below (va_Qv (fun (u : mW) => u = w0) (mB dC dI cI cZ cG ad A) A) (List.toArray [Value.ref (ad 0), Value.int a1]) s 0 0 A) (F0 m 95 ls [.int t2, .int t1, .ref (ad 15)]) := by
                intro x2 x3 x4 t1 t2 w hf H locs ls hP hD hS hl
                unfold mf_bitesOfRows_C95 at hf
                obtain ⟨hg95, hf⟩ := gi_e hf
                obtain ⟨w_95, ew_95, hf⟩ := nm_x hf
                refine va_iast (f := (w.2 15)) hx hb hK hP hD hS 15 0 rfl rfl hg95 dX4_bitesOfRows_95 (fun H locs hP hD hS => ?_)
                have hP : va_P (dC, dI) vwCl (mc cI cZ ad w_95) H := hP.eqs (by rw [ew_95]; rfl)
                have hD : va_D A (mc cI cZ ad w_95) := hD.eqs (by rw [ew_95]; rfl)
                obtain ⟨x4_96, ex4_96, hf⟩ := nm_x hf
                refine lv_iinc (v := x4_96) (lv' := [(4, .int x4_96), (0, .ref (ad 0)), (2, .int x2), (3, .int x3)]) hx hb dX4_bitesOfRows_96 hl (k := 3) rfl (by rw [ex4_96]; rfl) (by decide) rfl (fun ls hl => ?_)
                refine lv_goto (tgt := 54) hx hb dX4_bitesOfRows_99 (by decide) ?_
                exact ih54 x2 x3 x4_96 w_95 hf _ _ _ hP hD hS (lv_sub hl [1, 2, 3, 0] rfl)
              have C88 : ∀ (x2 : Int32) (x3 : Int32) (x4 : Int32) (t1 : Int32) (w : mW), mf_bitesOfRows_C88 (mf_bitesOfRows_C33 n33) (mf_bitesOfRows_C41 (mf_bitesOfRows_C33 n33) n41) (mf_bitesOfRows_C54 (mf_bitesOfRows_C33 n33) (mf_bitesOfRows_C41 (mf_bitesOfRows_C33 n33) n41) n54) x2 x3 x4 t1 w = some w0 → ∀ (H : Heap) (locs : List Loc) (ls : Array Slot), va_P (dC, dI) vwCl (mc cI cZ ad w) H → va_D A (mc cI cZ ad w) → va_S A s.heap H locs → lv_has ls 5 [(0, .ref (ad 0)), (2, .int x2), (3, .int x3), (4, .int x4)] → W p l e (headSpec wsX4_bitesOfRows ({ frames := 2, cells := 0, slots := 0, locals := 47 } : Room)).room s m (List.toArray [Value.ref (ad 0), Value.int a1]) below meth c H locs 0 0 (MQ below (va_Qv (fun (u : mW) => u = w0) (mB dC dI cI cZ cG ad A) A) (List.toArray [Value.ref (ad 0), Value.int a1]) s 0 0 A) (F0 m 88 ls [.int t1, .ref (ad 15)]) := by
                intro x2 x3 x4 t1 w hf H locs ls hP hD hS hl
                unfold mf_bitesOfRows_C88 at hf
                refine lv_aload_n hx hb dX4_bitesOfRows_88 rfl (lv_at hl 0 rfl) ?_
                refine va_get (D := (dC, dI)) (ci := 4) (v := .ref (ad 18)) (C := RX4) (T := TX4) (N := 21) hx hb hts inX4 hown hK hP 0 rfl rfl 20 (by decide) (hts (.fieldLink RX4 67 "BittenBoardsModel" "copy" "[I") (by decide +kernel)) (fun _ h9 => h9) rfl dX4_bitesOfRows_89 ?_
                refine lv_iload hx hb dX4_bitesOfRows_92 (lv_at hl 3 rfl) ?_
                obtain ⟨hg94, hf⟩ := gi_e hf
                refine va_iald (f := (w.2 18)) hx hb hK hP 18 0 rfl rfl hg94 dX4_bitesOfRows_94 ?_
                exact C95 x2 x3 x4 t1 ((w.2 18) x4.toNatClampNeg) w hf _ _ _ hP hD hS (lv_sub hl [0, 1, 2, 3] rfl)
              intro x2 x3 x4 w hf H locs ls hP hD hS hl
              rw [mf_bitesOfRows_C54] at hf
              refine lv_iload hx hb dX4_bitesOfRows_54 (lv_at hl 3 rfl) ?_
              refine lv_bipush (v := (7 : Int32)) hx hb dX4_bitesOfRows_56 (by decide) ?_
              refine lv_icmp_ge (tgt := 102) hx hb dX4_bitesOfRows_58 (by decide) (fun h58 => ?_) (fun h58 => ?_)
              · have hf := if_t h58 hf
                refine lv_aload_n hx hb dX4_bitesOfRows_102 rfl (lv_at hl 0 rfl) ?_
                refine lv_aload_n hx hb dX4_bitesOfRows_103 rfl (lv_at hl 0 rfl) ?_
                obtain ⟨r_104, hc104, hf⟩ := bn_e hf
                refine m_calli hD hS hAA (va_runV (As := []) (rest := [.ref (ad 0)]) ⟨hx, hb, hml, hown, hts⟩ (k_mf_rankOf l dC dI cI cZ cG ad H.size w  r_104 w hc104 rfl) (cwV 0 hts gX4_bitesOfRows_X4_rankOf rfl rfl rfl (by decide +kernel) ⟨Nat.le_of_ble_eq_true rfl, Nat.le_of_ble_eq_true rfl⟩) ⟨m_blind, va_recv hK hP (ci := 4) (q0 := 0) rfl rfl, fun U hU hW => m_pre hU hW hK hP hD⟩ rfl rfl hl.1 rfl (lv_room (Nat.le_of_ble_eq_true rfl)) dX4_bitesOfRows_104 ⟨Nat.zero_le _, Nat.zero_le _⟩) (fun H locs hP hD hS => ?_)
                obtain ⟨w_107, hc107, hf⟩ := bn_e hf
                refine m_callv hD hS hAA (va_runV (As := [.int r_104]) (rest := []) ⟨hx, hb, hml, hown, hts⟩ (k_mf_addNext l dC dI cI cZ cG ad H.size w r_104 w_107 hc107) (cwV 1 hts gX4_bitesOfRows_X4_addNext rfl rfl rfl (by decide +kernel) ⟨Nat.le_of_ble_eq_true rfl, Nat.le_of_ble_eq_true rfl⟩) ⟨m_blind, va_recv hK hP (ci := 4) (q0 := 0) rfl rfl, fun U hU hW => m_pre hU hW hK hP hD⟩ rfl rfl hl.1 rfl (lv_room (Nat.le_of_ble_eq_true rfl)) dX4_bitesOfRows_107 ⟨Nat.zero_le _, Nat.zero_le _⟩) (fun H locs hP hD hS => ?_)
                obtain ⟨x3_110, ex3_110, hf⟩ := nm_x hf
                refine lv_iinc (v := x3_110) (lv' := [(3, .int x3_110), (0, .ref (ad 0)), (2, .int x2), (4, .int x4)]) hx hb dX4_bitesOfRows_110 hl (k := 2) rfl (by rw [ex3_110]; rfl) (by decide) rfl (fun ls hl => ?_)
                refine lv_goto (tgt := 41) hx hb dX4_bitesOfRows_113 (by decide) ?_
                exact ih41 x2 x3_110 w_107 hf _ _ _ hP hD hS (lv_sub hl [1, 2, 0] rfl)
              · have hf := if_f h58 hf
                refine lv_aload_n hx hb dX4_bitesOfRows_61 rfl (lv_at hl 0 rfl) ?_
                refine va_get (D := (dC, dI)) (ci := 4) (v := .ref (ad 15)) (C := RX4) (T := TX4) (N := 21) hx hb hts inX4 hown hK hP 0 rfl rfl 16 (by decide) (hts (.fieldLink RX4 58 "BittenBoardsModel" "board" "[I") (by decide +kernel)) (fun _ h9 => h9) rfl dX4_bitesOfRows_62 ?_
                refine lv_iload hx hb dX4_bitesOfRows_65 (lv_at hl 3 rfl) ?_
                refine lv_iload hx hb dX4_bitesOfRows_67 (lv_at hl 3 rfl) ?_
                refine lv_iload_n hx hb dX4_bitesOfRows_69 rfl (lv_at hl 1 rfl) ?_
                refine lv_icmp_lt (tgt := 88) hx hb dX4_bitesOfRows_70 (by decide) (fun h70 => ?_) (fun h70 => ?_)
                · have hf := if_t h70 hf
                  exact C88 x2 x3 x4 x4 w hf _ _ _ hP hD hS (lv_sub hl [0, 1, 2, 3] rfl)
                · have hf := if_f h70 hf
                  refine lv_aload_n hx hb dX4_bitesOfRows_73 rfl (lv_at hl 0 rfl) ?_
                  refine va_get (D := (dC, dI)) (ci := 4) (v := .ref (ad 18)) (C := RX4) (T := TX4) (N := 21) hx hb hts inX4 hown hK hP 0 rfl rfl 20 (by decide) (hts (.fieldLink RX4 67 "BittenBoardsModel" "copy" "[I") (by decide +kernel)) (fun _ h9 => h9) rfl dX4_bitesOfRows_74 ?_
                  refine lv_iload hx hb dX4_bitesOfRows_77 (lv_at hl 3 rfl) ?_
                  obtain ⟨hg79, hf⟩ := gi_e hf
                  refine va_iald (f := (w.2 18)) hx hb hK hP 18 0 rfl rfl hg79 dX4_bitesOfRows_79 ?_
                  refine lv_iload_n hx hb dX4_bitesOfRows_80 rfl (lv_at hl 2 rfl) ?_
                  refine lv_icmp_le (tgt := 88) hx hb dX4_bitesOfRows_81 (by decide) (fun h81 => ?_) (fun h81 => ?_)
                  · have hf := if_t h81 hf
                    exact C88 x2 x3 x4 x4 w hf _ _ _ hP hD hS (lv_sub hl [0, 1, 2, 3] rfl)
                  · have hf := if_f h81 hf
                    refine lv_iload_n hx hb dX4_bitesOfRows_84 rfl (lv_at hl 2 rfl) ?_
                    refine lv_goto (tgt := 95) hx hb dX4_bitesOfRows_85 (by decide) ?_
                    exact C95 x2 x3 x4 x4 x3 w hf _ _ _ hP hD hS (lv_sub hl [0, 1, 2, 3] rfl)
          intro x2 x3 w hf H locs ls hP hD hS hl
          rw [mf_bitesOfRows_C41] at hf
          refine lv_iload_n hx hb dX4_bitesOfRows_41 rfl (lv_at hl 2 rfl) ?_
          refine lv_aload_n hx hb dX4_bitesOfRows_42 rfl (lv_at hl 0 rfl) ?_
          refine va_get (D := (dC, dI)) (ci := 4) (v := .ref (ad 18)) (C := RX4) (T := TX4) (N := 21) hx hb hts inX4 hown hK hP 0 rfl rfl 20 (by decide) (hts (.fieldLink RX4 67 "BittenBoardsModel" "copy" "[I") (by decide +kernel)) (fun _ h9 => h9) rfl dX4_bitesOfRows_43 ?_
          refine lv_iload_n hx hb dX4_bitesOfRows_46 rfl (lv_at hl 1 rfl) ?_
          obtain ⟨hg47, hf⟩ := gi_e hf
          refine va_iald (f := (w.2 18)) hx hb hK hP 18 0 rfl rfl hg47 dX4_bitesOfRows_47 ?_
          refine lv_icmp_ge (tgt := 116) hx hb dX4_bitesOfRows_48 (by decide) (fun h48 => ?_) (fun h48 => ?_)
          · have hf := if_t h48 hf
            obtain ⟨x2_116, ex2_116, hf⟩ := nm_x hf
            refine lv_iinc (v := x2_116) (lv' := [(2, .int x2_116), (0, .ref (ad 0)), (3, .int x3)]) hx hb dX4_bitesOfRows_116 hl (k := 1) rfl (by rw [ex2_116]; rfl) (by decide) rfl (fun ls hl => ?_)
            refine lv_goto (tgt := 33) hx hb dX4_bitesOfRows_119 (by decide) ?_
            exact ih33 x2_116 w hf _ _ _ hP hD hS (lv_sub hl [1, 0] rfl)
          · have hf := if_f h48 hf
            refine lv_iconst (v := (0 : Int32)) hx hb dX4_bitesOfRows_51 (by decide) ?_
            refine lv_istore (lv' := [(4, .int (0 : Int32)), (0, .ref (ad 0)), (2, .int x2), (3, .int x3)]) hx hb dX4_bitesOfRows_52 hl (by decide) rfl (fun ls hl => ?_)
            exact C54 fu x2 x3 (0 : Int32) w hf _ _ _ hP hD hS (lv_sub hl [1, 2, 3, 0] rfl)
      intro x2 w hf H locs ls hP hD hS hl
      rw [mf_bitesOfRows_C33] at hf
      refine lv_iload_n hx hb dX4_bitesOfRows_33 rfl (lv_at hl 1 rfl) ?_
      refine lv_bipush (v := (7 : Int32)) hx hb dX4_bitesOfRows_34 (by decide) ?_
      refine lv_icmp_ge (tgt := 122) hx hb dX4_bitesOfRows_36 (by decide) (fun h36 => ?_) (fun h36 => ?_)
      · have hf := if_t h36 hf
        exact m_vret hx hb hr hlocks hK hP hD hS (so_1 hf) dX4_bitesOfRows_122
      · have hf := if_f h36 hf
        refine lv_iconst (v := (0 : Int32)) hx hb dX4_bitesOfRows_39 (by decide) ?_
        refine lv_istore_n (lv' := [(3, .int (0 : Int32)), (0, .ref (ad 0)), (2, .int x2)]) hx hb dX4_bitesOfRows_40 rfl hl (by decide) rfl (fun ls hl => ?_)
        exact C41 fu x2 (0 : Int32) w hf _ _ _ hP hD hS (lv_sub hl [1, 2, 0] rfl)
  have C7 : ∀ (n7 : Nat) (x2 : Int32) (w : mW), mf_bitesOfRows_C7 n7 x2 w = some w0 → ∀ (H : Heap) (locs : List Loc) (ls : Array Slot), va_P (dC, dI) vwCl (mc cI cZ ad w) H → va_D A (mc cI cZ ad w) → va_S A s.heap H locs → lv_has ls 5 [(0, .ref (ad 0)), (2, .int x2)] → W p l e (headSpec wsX4_bitesOfRows ({ frames := 2, cells := 0, slots := 0, locals := 47 } : Room)).room s m (List.toArray [Value.ref (ad 0), Value.int a1]) below meth c H locs 0 0 (MQ below (va_Qv (fun (u : mW) => u = w0) (mB dC dI cI cZ cG ad A) A) (List.toArray [Value.ref (ad 0), Value.int a1]) s 0 0 A) (F0 m 7 ls []) := by
    intro n7
    induction n7 with
    | zero => intro x2 w hf; cases hf
    | succ n7 ih7 =>
      intro x2 w hf H locs ls hP hD hS hl
      rw [mf_bitesOfRows_C7] at hf
      refine lv_iload_n hx hb dX4_bitesOfRows_7 rfl (lv_at hl 1 rfl) ?_
      refine lv_bipush (v := (7 : Int32)) hx hb dX4_bitesOfRows_8 (by decide) ?_
      refine lv_icmp_ge (tgt := 31) hx hb dX4_bitesOfRows_10 (by decide) (fun h10 => ?_) (fun h10 => ?_)
      · have hf := if_t h10 hf
        refine lv_iconst (v := (0 : Int32)) hx hb dX4_bitesOfRows_31 (by decide) ?_
        refine lv_istore_n (lv' := [(2, .int (0 : Int32)), (0, .ref (ad 0))]) hx hb dX4_bitesOfRows_32 rfl hl (by decide) rfl (fun ls hl => ?_)
        exact C33 fu (0 : Int32) w hf _ _ _ hP hD hS (lv_sub hl [1, 0] rfl)
      · have hf := if_f h10 hf
        refine lv_aload_n hx hb dX4_bitesOfRows_13 rfl (lv_at hl 0 rfl) ?_
        refine va_get (D := (dC, dI)) (ci := 4) (v := .ref (ad 18)) (C := RX4) (T := TX4) (N := 21) hx hb hts inX4 hown hK hP 0 rfl rfl 20 (by decide) (hts (.fieldLink RX4 67 "BittenBoardsModel" "copy" "[I") (by decide +kernel)) (fun _ h9 => h9) rfl dX4_bitesOfRows_14 ?_
        refine lv_iload_n hx hb dX4_bitesOfRows_17 rfl (lv_at hl 1 rfl) ?_
        refine lv_aload_n hx hb dX4_bitesOfRows_18 rfl (lv_at hl 0 rfl) ?_
        refine va_get (D := (dC, dI)) (ci := 4) (v := .ref (ad 15)) (C := RX4) (T := TX4) (N := 21) hx hb hts inX4 hown hK hP 0 rfl rfl 16 (by decide) (hts (.fieldLink RX4 58 "BittenBoardsModel" "board" "[I") (by decide +kernel)) (fun _ h9 => h9) rfl dX4_bitesOfRows_19 ?_
        refine lv_iload_n hx hb dX4_bitesOfRows_22 rfl (lv_at hl 1 rfl) ?_
        obtain ⟨hg23, hf⟩ := gi_e hf
        refine va_iald (f := (w.2 15)) hx hb hK hP 15 0 rfl rfl hg23 dX4_bitesOfRows_23 ?_
        obtain ⟨hg24, hf⟩ := gi_e hf
        obtain ⟨w_24, ew_24, hf⟩ := nm_x hf
        refine va_iast (f := (w.2 18)) hx hb hK hP hD hS 18 0 rfl rfl hg24 dX4_bitesOfRows_24 (fun H locs hP hD hS => ?_)
        have hP : va_P (dC, dI) vwCl (mc cI cZ ad w_24) H := hP.eqs (by rw [ew_24]; rfl)
        have hD : va_D A (mc cI cZ ad w_24) := hD.eqs (by rw [ew_24]; rfl)
        obtain ⟨x2_25, ex2_25, hf⟩ := nm_x hf
        refine lv_iinc (v := x2_25) (lv' := [(2, .int x2_25), (0, .ref (ad 0))]) hx hb dX4_bitesOfRows_25 hl (k := 1) rfl (by rw [ex2_25]; rfl) (by decide) rfl (fun ls hl => ?_)
        refine lv_goto (tgt := 7) hx hb dX4_bitesOfRows_28 (by decide) ?_
        exact ih7 x2_25 w_24 hf _ _ _ hP hD hS (lv_sub hl [1, 0] rfl)
  have hl := lv_entry ([.ref (ad 0), .int a1]) (n := 5) (Nat.le_of_ble_eq_true rfl)
  rw [lg_entry_eq]
  generalize (lg_sl ([.ref (ad 0), .int a1]) ++ List.replicate (5 - (lg_sl ([.ref (ad 0), .int a1])).length) Slot.unset).toArray = ls at hl ⊢
  have hl : lv_has ls 5 [(0, .ref (ad 0)), (1, .int a1)] := hl
  unfold mf_bitesOfRows at hf
  refine lv_aload_n hx hb dX4_bitesOfRows_0 rfl (lv_at hl 0 rfl) ?_
  refine lv_iload_n hx hb dX4_bitesOfRows_1 rfl (lv_at hl 1 rfl) ?_
  obtain ⟨w_2, hc2, hf⟩ := bn_e hf
  refine m_callv hD hS hAA (va_runV (As := [.int a1]) (rest := []) ⟨hx, hb, hml, hown, hts⟩ (k_mf_unrank l dC dI cI cZ cG ad s.heap.size w a1 w_2 hc2) (cwV 1 hts gX4_bitesOfRows_X4_unrank rfl rfl rfl (by decide +kernel) ⟨Nat.le_of_ble_eq_true rfl, Nat.le_of_ble_eq_true rfl⟩) ⟨m_blind, va_recv hK hP (ci := 4) (q0 := 0) rfl rfl, fun U hU hW => m_pre hU hW hK hP hD⟩ rfl rfl hl.1 rfl (lv_room (Nat.le_of_ble_eq_true rfl)) dX4_bitesOfRows_2 ⟨Nat.zero_le _, Nat.zero_le _⟩) (fun H locs hP hD hS => ?_)
  refine lv_iconst (v := (0 : Int32)) hx hb dX4_bitesOfRows_5 (by decide) ?_
  refine lv_istore_n (lv' := [(2, .int (0 : Int32)), (0, .ref (ad 0)), (1, .int a1)]) hx hb dX4_bitesOfRows_6 rfl hl (by decide) rfl (fun ls hl => ?_)
  exact C7 fu (0 : Int32) w_2 hf _ _ _ hP hD hS (lv_sub hl [1, 0] rfl)
set_option maxHeartbeats 4000000 in
set_option maxRecDepth 100000 in
theorem k_mf_findNext (l : Launch) (dC : Nat → ClassId) (dI : Nat → Nat → Nat) (cI cZ cG : ClassId) (ad : Nat → Nat) (sz : Nat) (w : mW) (a1 : Int32) (a2 : Int32) (w0 : mW) (hf : mf_findNext a1 a2 w = some w0) : Met l yX4_findNext wsX4_findNext ({ frames := 3, cells := 0, slots := 0, locals := 71 } : Room) (va_Pc [.ref (ad 0), .int a1, .int a2] (mPre dC dI cI cZ cG ad sz w)) (va_Qv (fun (u : mW) => u = w0) (mB dC dI cI cZ cG ad (mA ad sz)) (mA ad sz)) 0 0 (mA ad sz) := by
  refine Met.ofW (cc := cX4_findNext) (maxL := 4) (ret := none) (by decide) rfl ?_
  intro p e s m args below meth c s₁ B hml hv
  obtain ⟨rfl, hsz, hP, hK, hD0⟩ := hv
  have hx := B.exec
  have hb := B.bytes
  have hr := B.returns
  have hts := atoms_spec (ws := wsX4_findNext) B.pre
  have hown : s.vm.findClass RX4 = some m.cls := findClass_of_methodNamed B.named
  have hlocks := B.notSynchronized
  have inX4 : ∀ w ∈ u_ws RX4 TX4 21, w ∈ wsX4_findNext := by decide +kernel
  subst hsz
  have hD : va_D (mA ad s.heap.size) (mc cI cZ ad w) := mD_self hD0
  have hAA : ∀ z q, s.heap.size ≤ z → mA ad z q → mA ad s.heap.size q := mA_mono
  generalize mA ad s.heap.size = A at hD hAA ⊢
  have hS : va_S A s.heap s.heap [] := va_S.rf
  have C127 : ∀ (n127 : Nat) (x1 : Int32) (x2 : Int32) (x3 : Int32) (w : mW), mf_findNext_C127 n127 x1 x2 x3 w = some w0 → ∀ (H : Heap) (locs : List Loc) (ls : Array Slot), va_P (dC, dI) vwCl (mc cI cZ ad w) H → va_D A (mc cI cZ ad w) → va_S A s.heap H locs → lv_has ls 4 [(0, .ref (ad 0)), (1, .int x1), (2, .int x2), (3, .int x3)] → W p l e (headSpec wsX4_findNext ({ frames := 3, cells := 0, slots := 0, locals := 71 } : Room)).room s m (List.toArray [Value.ref (ad 0), Value.int a1, Value.int a2]) below meth c H locs 0 0 (MQ below (va_Qv (fun (u : mW) => u = w0) (mB dC dI cI cZ cG ad A) A) (List.toArray [Value.ref (ad 0), Value.int a1, Value.int a2]) s 0 0 A) (F0 m 127 ls []) := by
    intro n127
    induction n127 with
    | zero => intro x1 x2 x3 w hf; cases hf
    | succ n127 ih127 =>
      intro x1 x2 x3 w hf H locs ls hP hD hS hl
      rw [mf_findNext_C127] at hf
      refine lv_iload_n hx hb dX4_findNext_127 rfl (lv_at hl 3 rfl) ?_
      refine lv_aload_n hx hb dX4_findNext_128 rfl (lv_at hl 0 rfl) ?_
      refine va_get (D := (dC, dI)) (ci := 4) (v := .ref (ad 7)) (C := RX4) (T := TX4) (N := 21) hx hb hts inX4 hown hK hP 0 rfl rfl 7 (by decide) (hts (.fieldLink RX4 28 "BittenBoardsModel" "roads" "[I") (by decide +kernel)) (fun _ h9 => h9) rfl dX4_findNext_129 ?_
      refine lv_iload_n hx hb dX4_findNext_132 rfl (lv_at hl 1 rfl) ?_
      obtain ⟨hg133, hf⟩ := gi_e hf
      refine va_iald (f := (w.2 7)) hx hb hK hP 7 0 rfl rfl hg133 dX4_findNext_133 ?_
      refine lv_icmp_ge (tgt := 167) hx hb dX4_findNext_134 (by decide) (fun h134 => ?_) (fun h134 => ?_)
      · have hf := if_t h134 hf
        exact m_vret hx hb hr hlocks hK hP hD hS (so_1 hf) dX4_findNext_167
      · have hf := if_f h134 hf
        refine lv_iload_n hx hb dX4_findNext_137 rfl (lv_at hl 2 rfl) ?_
        refine lv_bipush (v := (6 : Int32)) hx hb dX4_findNext_138 (by decide) ?_
        refine lv_iload_n hx hb dX4_findNext_140 rfl (lv_at hl 3 rfl) ?_
        refine lv_iadd hx hb dX4_findNext_141 ?_
        refine lv_ishr hx hb dX4_findNext_142 ?_
        refine lv_iconst (v := (1 : Int32)) hx hb dX4_findNext_143 (by decide) ?_
        refine lv_iand hx hb dX4_findNext_144 ?_
        refine lv_iconst (v := (1 : Int32)) hx hb dX4_findNext_145 (by decide) ?_
        refine lv_icmp_ne (tgt := 161) hx hb dX4_findNext_146 (by decide) (fun h146 => ?_) (fun h146 => ?_)
        · have hf := if_f h146 hf
          obtain ⟨x3_161, ex3_161, hf⟩ := nm_x hf
          refine lv_iinc (v := x3_161) (lv' := [(3, .int x3_161), (0, .ref (ad 0)), (1, .int x1), (2, .int x2)]) hx hb dX4_findNext_161 hl (k := 3) rfl (by rw [ex3_161]; rfl) (by decide) rfl (fun ls hl => ?_)
          refine lv_goto (tgt := 127) hx hb dX4_findNext_164 (by decide) ?_
          exact ih127 x1 x2 x3_161 w hf _ _ _ hP hD hS (lv_sub hl [1, 2, 3, 0] rfl)
        · have hf := if_t h146 hf
          refine lv_aload_n hx hb dX4_findNext_149 rfl (lv_at hl 0 rfl) ?_
          refine lv_iload_n hx hb dX4_findNext_150 rfl (lv_at hl 2 rfl) ?_
          refine lv_bipush (v := (64 : Int32)) hx hb dX4_findNext_151 (by decide) ?_
          refine lv_iload_n hx hb dX4_findNext_153 rfl (lv_at hl 3 rfl) ?_
          refine lv_ishl hx hb dX4_findNext_154 ?_
          refine lv_iconst (v := (-1 : Int32)) hx hb dX4_findNext_155 (by decide) ?_
          refine lv_ixor hx hb dX4_findNext_156 ?_
          refine lv_iand hx hb dX4_findNext_157 ?_
          obtain ⟨w_158, hc158, hf⟩ := bn_e hf
          refine m_callv hD hS hAA (va_runV (As := [.int (x2 &&& (((64 : Int32) <<< (x3 &&& 31)) ^^^ (-1 : Int32)))]) (rest := []) ⟨hx, hb, hml, hown, hts⟩ (k_mf_addNext l dC dI cI cZ cG ad H.size w (x2 &&& (((64 : Int32) <<< (x3 &&& 31)) ^^^ (-1 : Int32))) w_158 hc158) (cwV 1 hts gX4_findNext_X4_addNext rfl rfl rfl (by decide +kernel) ⟨Nat.le_of_ble_eq_true rfl, Nat.le_of_ble_eq_true rfl⟩) ⟨m_blind, va_recv hK hP (ci := 4) (q0 := 0) rfl rfl, fun U hU hW => m_pre hU hW hK hP hD⟩ rfl rfl hl.1 rfl (lv_room (Nat.le_of_ble_eq_true rfl)) dX4_findNext_158 ⟨Nat.zero_le _, Nat.zero_le _⟩) (fun H locs hP hD hS => ?_)
          obtain ⟨x3_161, ex3_161, hf⟩ := nm_x hf
          refine lv_iinc (v := x3_161) (lv' := [(3, .int x3_161), (0, .ref (ad 0)), (1, .int x1), (2, .int x2)]) hx hb dX4_findNext_161 hl (k := 3) rfl (by rw [ex3_161]; rfl) (by decide) rfl (fun ls hl => ?_)
          refine lv_goto (tgt := 127) hx hb dX4_findNext_164 (by decide) ?_
          exact ih127 x1 x2 x3_161 w_158 hf _ _ _ hP hD hS (lv_sub hl [1, 2, 3, 0] rfl)
  have C86 : ∀ (n86 : Nat) (x1 : Int32) (x2 : Int32) (x3 : Int32) (w : mW), mf_findNext_C86 n86 x1 x2 x3 w = some w0 → ∀ (H : Heap) (locs : List Loc) (ls : Array Slot), va_P (dC, dI) vwCl (mc cI cZ ad w) H → va_D A (mc cI cZ ad w) → va_S A s.heap H locs → lv_has ls 4 [(0, .ref (ad 0)), (1, .int x1), (2, .int x2), (3, .int x3)] → W p l e (headSpec wsX4_findNext ({ frames := 3, cells := 0, slots := 0, locals := 71 } : Room)).room s m (List.toArray [Value.ref (ad 0), Value.int a1, Value.int a2]) below meth c H locs 0 0 (MQ below (va_Qv (fun (u : mW) => u = w0) (mB dC dI cI cZ cG ad A) A) (List.toArray [Value.ref (ad 0), Value.int a1, Value.int a2]) s 0 0 A) (F0 m 86 ls []) := by
    intro n86
    induction n86 with
    | zero => intro x1 x2 x3 w hf; cases hf
    | succ n86 ih86 =>
      intro x1 x2 x3 w hf H locs ls hP hD hS hl
      rw [mf_findNext_C86] at hf
      refine lv_iload_n hx hb dX4_findNext_86 rfl (lv_at hl 3 rfl) ?_
      refine lv_aload_n hx hb dX4_findNext_87 rfl (lv_at hl 0 rfl) ?_
      refine va_get (D := (dC, dI)) (ci := 4) (v := .ref (ad 6)) (C := RX4) (T := TX4) (N := 21) hx hb hts inX4 hown hK hP 0 rfl rfl 6 (by decide) (hts (.fieldLink RX4 25 "BittenBoardsModel" "posts" "[I") (by decide +kernel)) (fun _ h9 => h9) rfl dX4_findNext_88 ?_
      refine lv_iload_n hx hb dX4_findNext_91 rfl (lv_at hl 1 rfl) ?_
      obtain ⟨hg92, hf⟩ := gi_e hf
      refine va_iald (f := (w.2 6)) hx hb hK hP 6 0 rfl rfl hg92 dX4_findNext_92 ?_
      refine lv_icmp_ge (tgt := 125) hx hb dX4_findNext_93 (by decide) (fun h93 => ?_) (fun h93 => ?_)
      · have hf := if_t h93 hf
        refine lv_iconst (v := (0 : Int32)) hx hb dX4_findNext_125 (by decide) ?_
        refine lv_istore_n (lv' := [(3, .int (0 : Int32)), (0, .ref (ad 0)), (1, .int x1), (2, .int x2)]) hx hb dX4_findNext_126 rfl hl (by decide) rfl (fun ls hl => ?_)
        exact C127 fu x1 x2 (0 : Int32) w hf _ _ _ hP hD hS (lv_sub hl [1, 2, 3, 0] rfl)
      · have hf := if_f h93 hf
        refine lv_iload_n hx hb dX4_findNext_96 rfl (lv_at hl 2 rfl) ?_
        refine lv_iload_n hx hb dX4_findNext_97 rfl (lv_at hl 3 rfl) ?_
        refine lv_ishr hx hb dX4_findNext_98 ?_
        refine lv_iconst (v := (1 : Int32)) hx hb dX4_findNext_99 (by decide) ?_
        refine lv_iand hx hb dX4_findNext_100 ?_
        refine lv_iconst (v := (1 : Int32)) hx hb dX4_findNext_101 (by decide) ?_
        refine lv_icmp_ne (tgt := 119) hx hb dX4_findNext_102 (by decide) (fun h102 => ?_) (fun h102 => ?_)
        · have hf := if_f h102 hf
          obtain ⟨x3_119, ex3_119, hf⟩ := nm_x hf
          refine lv_iinc (v := x3_119) (lv' := [(3, .int x3_119), (0, .ref (ad 0)), (1, .int x1), (2, .int x2)]) hx hb dX4_findNext_119 hl (k := 3) rfl (by rw [ex3_119]; rfl) (by decide) rfl (fun ls hl => ?_)
          refine lv_goto (tgt := 86) hx hb dX4_findNext_122 (by decide) ?_
          exact ih86 x1 x2 x3_119 w hf _ _ _ hP hD hS (lv_sub hl [1, 2, 3, 0] rfl)
        · have hf := if_t h102 hf
          refine lv_aload_n hx hb dX4_findNext_105 rfl (lv_at hl 0 rfl) ?_
          refine lv_iload_n hx hb dX4_findNext_106 rfl (lv_at hl 2 rfl) ?_
          refine lv_aload_n hx hb dX4_findNext_107 rfl (lv_at hl 0 rfl) ?_
          refine lv_iload_n hx hb dX4_findNext_108 rfl (lv_at hl 1 rfl) ?_
          refine lv_iload_n hx hb dX4_findNext_109 rfl (lv_at hl 3 rfl) ?_
          obtain ⟨r_110, hc110, hf⟩ := bn_e hf
          refine m_calli hD hS hAA (va_runV (As := [.int x1, .int x3]) (rest := [.int x2, .ref (ad 0)]) ⟨hx, hb, hml, hown, hts⟩ (k_mf_withPost l dC dI cI cZ cG ad H.size w x1 x3 r_110 w hc110 rfl) (cwV 2 hts gX4_findNext_X4_withPost rfl rfl rfl (by decide +kernel) ⟨Nat.le_of_ble_eq_true rfl, Nat.le_of_ble_eq_true rfl⟩) ⟨m_blind, va_recv hK hP (ci := 4) (q0 := 0) rfl rfl, fun U hU hW => m_pre hU hW hK hP hD⟩ rfl rfl hl.1 rfl (lv_room (Nat.le_of_ble_eq_true rfl)) dX4_findNext_110 ⟨Nat.zero_le _, Nat.zero_le _⟩) (fun H locs hP hD hS => ?_)
          refine lv_iconst (v := (-1 : Int32)) hx hb dX4_findNext_113 (by decide) ?_
          refine lv_ixor hx hb dX4_findNext_114 ?_
          refine lv_iand hx hb dX4_findNext_115 ?_
          obtain ⟨w_116, hc116, hf⟩ := bn_e hf
          refine m_callv hD hS hAA (va_runV (As := [.int (x2 &&& (r_110 ^^^ (-1 : Int32)))]) (rest := []) ⟨hx, hb, hml, hown, hts⟩ (k_mf_addNext l dC dI cI cZ cG ad H.size w (x2 &&& (r_110 ^^^ (-1 : Int32))) w_116 hc116) (cwV 1 hts gX4_findNext_X4_addNext rfl rfl rfl (by decide +kernel) ⟨Nat.le_of_ble_eq_true rfl, Nat.le_of_ble_eq_true rfl⟩) ⟨m_blind, va_recv hK hP (ci := 4) (q0 := 0) rfl rfl, fun U hU hW => m_pre hU hW hK hP hD⟩ rfl rfl hl.1 rfl (lv_room (Nat.le_of_ble_eq_true rfl)) dX4_findNext_116 ⟨Nat.zero_le _, Nat.zero_le _⟩) (fun H locs hP hD hS => ?_)
          obtain ⟨x3_119, ex3_119, hf⟩ := nm_x hf
          refine lv_iinc (v := x3_119) (lv' := [(3, .int x3_119), (0, .ref (ad 0)), (1, .int x1), (2, .int x2)]) hx hb dX4_findNext_119 hl (k := 3) rfl (by rw [ex3_119]; rfl) (by decide) rfl (fun ls hl => ?_)
          refine lv_goto (tgt := 86) hx hb dX4_findNext_122 (by decide) ?_
          exact ih86 x1 x2 x3_119 w_116 hf _ _ _ hP hD hS (lv_sub hl [1, 2, 3, 0] rfl)
  have C34 : ∀ (n34 : Nat) (x1 : Int32) (x2 : Int32) (x3 : Int32) (w : mW), mf_findNext_C34 n34 x1 x2 x3 w = some w0 → ∀ (H : Heap) (locs : List Loc) (ls : Array Slot), va_P (dC, dI) vwCl (mc cI cZ ad w) H → va_D A (mc cI cZ ad w) → va_S A s.heap H locs → lv_has ls 4 [(0, .ref (ad 0)), (1, .int x1), (2, .int x2), (3, .int x3)] → W p l e (headSpec wsX4_findNext ({ frames := 3, cells := 0, slots := 0, locals := 71 } : Room)).room s m (List.toArray [Value.ref (ad 0), Value.int a1, Value.int a2]) below meth c H locs 0 0 (MQ below (va_Qv (fun (u : mW) => u = w0) (mB dC dI cI cZ cG ad A) A) (List.toArray [Value.ref (ad 0), Value.int a1, Value.int a2]) s 0 0 A) (F0 m 34 ls []) := by
    intro n34
    induction n34 with
    | zero => intro x1 x2 x3 w hf; cases hf
    | succ n34 ih34 =>
      intro x1 x2 x3 w hf H locs ls hP hD hS hl
      rw [mf_findNext_C34] at hf
      refine lv_iload_n hx hb dX4_findNext_34 rfl (lv_at hl 3 rfl) ?_
      refine lv_aload_n hx hb dX4_findNext_35 rfl (lv_at hl 0 rfl) ?_
      refine va_get (D := (dC, dI)) (ci := 4) (v := .ref (ad 4)) (C := RX4) (T := TX4) (N := 21) hx hb hts inX4 hown hK hP 0 rfl rfl 4 (by decide) (hts (.fieldLink RX4 19 "BittenBoardsModel" "things" "[I") (by decide +kernel)) (fun _ h9 => h9) rfl dX4_findNext_36 ?_
      refine lv_iload_n hx hb dX4_findNext_39 rfl (lv_at hl 1 rfl) ?_
      obtain ⟨hg40, hf⟩ := gi_e hf
      refine va_iald (f := (w.2 4)) hx hb hK hP 4 0 rfl rfl hg40 dX4_findNext_40 ?_
      refine lv_icmp_ge (tgt := 81) hx hb dX4_findNext_41 (by decide) (fun h41 => ?_) (fun h41 => ?_)
      · have hf := if_t h41 hf
        refine lv_goto (tgt := 167) hx hb dX4_findNext_81 (by decide) ?_
        exact m_vret hx hb hr hlocks hK hP hD hS (so_1 hf) dX4_findNext_167
      · have hf := if_f h41 hf
        refine lv_iload_n hx hb dX4_findNext_44 rfl (lv_at hl 2 rfl) ?_
        refine lv_iload_n hx hb dX4_findNext_45 rfl (lv_at hl 3 rfl) ?_
        refine lv_ishr hx hb dX4_findNext_46 ?_
        refine lv_iconst (v := (1 : Int32)) hx hb dX4_findNext_47 (by decide) ?_
        refine lv_iand hx hb dX4_findNext_48 ?_
        refine lv_iconst (v := (1 : Int32)) hx hb dX4_findNext_49 (by decide) ?_
        refine lv_icmp_ne (tgt := 75) hx hb dX4_findNext_50 (by decide) (fun h50 => ?_) (fun h50 => ?_)
        · have hf := if_f h50 hf
          obtain ⟨x3_75, ex3_75, hf⟩ := nm_x hf
          refine lv_iinc (v := x3_75) (lv' := [(3, .int x3_75), (0, .ref (ad 0)), (1, .int x1), (2, .int x2)]) hx hb dX4_findNext_75 hl (k := 3) rfl (by rw [ex3_75]; rfl) (by decide) rfl (fun ls hl => ?_)
          refine lv_goto (tgt := 34) hx hb dX4_findNext_78 (by decide) ?_
          exact ih34 x1 x2 x3_75 w hf _ _ _ hP hD hS (lv_sub hl [1, 2, 3, 0] rfl)
        · have hf := if_t h50 hf
          refine lv_aload_n hx hb dX4_findNext_53 rfl (lv_at hl 0 rfl) ?_
          refine lv_iload_n hx hb dX4_findNext_54 rfl (lv_at hl 2 rfl) ?_
          refine lv_iconst (v := (1 : Int32)) hx hb dX4_findNext_55 (by decide) ?_
          refine lv_iload_n hx hb dX4_findNext_56 rfl (lv_at hl 3 rfl) ?_
          refine lv_ishl hx hb dX4_findNext_57 ?_
          refine lv_aload_n hx hb dX4_findNext_58 rfl (lv_at hl 0 rfl) ?_
          refine va_get (D := (dC, dI)) (ci := 4) (v := .ref (ad 5)) (C := RX4) (T := TX4) (N := 21) hx hb hts inX4 hown hK hP 0 rfl rfl 5 (by decide) (hts (.fieldLink RX4 22 "BittenBoardsModel" "above" "[I") (by decide +kernel)) (fun _ h9 => h9) rfl dX4_findNext_59 ?_
          refine lv_iload_n hx hb dX4_findNext_62 rfl (lv_at hl 1 rfl) ?_
          refine lv_iload_n hx hb dX4_findNext_63 rfl (lv_at hl 3 rfl) ?_
          obtain ⟨r_64, hc64, hf⟩ := bn_e hf
          refine m_calli hD hS hAA (va_runS (As := [.int x1, .int x3]) (rest := [.ref (ad 5), .int ((1 : Int32) <<< (x3 &&& 31)), .int x2, .ref (ad 0)]) ⟨hx, hb, hml, hown, hts⟩ (k_mf_placeOf l dC dI cI cZ cG ad H.size w x1 x3 r_64 w hc64 rfl) (va_cwS 2 hts gX4_findNext_X4_placeOf rfl rfl rfl (by decide +kernel) ⟨Nat.le_of_ble_eq_true rfl, Nat.le_of_ble_eq_true rfl⟩) ⟨m_blind, fun U hU hW => m_pre hU hW hK hP hD⟩ rfl rfl hl.1 rfl (lv_room (Nat.le_of_ble_eq_true rfl)) dX4_findNext_64 ⟨Nat.zero_le _, Nat.zero_le _⟩) (fun H locs hP hD hS => ?_)
          obtain ⟨hg67, hf⟩ := gi_e hf
          refine va_iald (f := (w.2 5)) hx hb hK hP 5 0 rfl rfl hg67 dX4_findNext_67 ?_
          refine lv_ior hx hb dX4_findNext_68 ?_
          refine lv_iconst (v := (-1 : Int32)) hx hb dX4_findNext_69 (by decide) ?_
          refine lv_ixor hx hb dX4_findNext_70 ?_
          refine lv_iand hx hb dX4_findNext_71 ?_
          obtain ⟨w_72, hc72, hf⟩ := bn_e hf
          refine m_callv hD hS hAA (va_runV (As := [.int (x2 &&& ((((1 : Int32) <<< (x3 &&& 31)) ||| ((w.2 5) r_64.toNatClampNeg)) ^^^ (-1 : Int32)))]) (rest := []) ⟨hx, hb, hml, hown, hts⟩ (k_mf_addNext l dC dI cI cZ cG ad H.size w (x2 &&& ((((1 : Int32) <<< (x3 &&& 31)) ||| ((w.2 5) r_64.toNatClampNeg)) ^^^ (-1 : Int32))) w_72 hc72) (cwV 1 hts gX4_findNext_X4_addNext rfl rfl rfl (by decide +kernel) ⟨Nat.le_of_ble_eq_true rfl, Nat.le_of_ble_eq_true rfl⟩) ⟨m_blind, va_recv hK hP (ci := 4) (q0 := 0) rfl rfl, fun U hU hW => m_pre hU hW hK hP hD⟩ rfl rfl hl.1 rfl (lv_room (Nat.le_of_ble_eq_true rfl)) dX4_findNext_72 ⟨Nat.zero_le _, Nat.zero_le _⟩) (fun H locs hP hD hS => ?_)
          obtain ⟨x3_75, ex3_75, hf⟩ := nm_x hf
          refine lv_iinc (v := x3_75) (lv' := [(3, .int x3_75), (0, .ref (ad 0)), (1, .int x1), (2, .int x2)]) hx hb dX4_findNext_75 hl (k := 3) rfl (by rw [ex3_75]; rfl) (by decide) rfl (fun ls hl => ?_)
          refine lv_goto (tgt := 34) hx hb dX4_findNext_78 (by decide) ?_
          exact ih34 x1 x2 x3_75 w_72 hf _ _ _ hP hD hS (lv_sub hl [1, 2, 3, 0] rfl)
  have hl := lv_entry ([.ref (ad 0), .int a1, .int a2]) (n := 4) (Nat.le_of_ble_eq_true rfl)
  rw [lg_entry_eq]
  generalize (lg_sl ([.ref (ad 0), .int a1, .int a2]) ++ List.replicate (4 - (lg_sl ([.ref (ad 0), .int a1, .int a2])).length) Slot.unset).toArray = ls at hl ⊢
  have hl : lv_has ls 4 [(0, .ref (ad 0)), (1, .int a1), (2, .int a2)] := hl
  unfold mf_findNext at hf
  refine lv_aload_n hx hb dX4_findNext_0 rfl (lv_at hl 0 rfl) ?_
  refine lv_iconst (v := (0 : Int32)) hx hb dX4_findNext_1 (by decide) ?_
  obtain ⟨w_2, ew_2, hf⟩ := nm_x hf
  refine va_put (D := (dC, dI)) (ci := 4) (v := .int (0 : Int32)) (ty := .int) (C := RX4) (T := TX4) (N := 21) hx hb hts inX4 tyX4 tyX4_ok nmX4 hown hK hP hD hS 0 rfl rfl 18 (by decide) (hts (.fieldLink RX4 74 "BittenBoardsModel" "nextMany" "I") (by decide +kernel)) (fun _ h9 => h9) rfl (by decide +kernel) rfl rfl (Nat.le_of_ble_eq_true rfl) dX4_findNext_2 (fun H locs hP hD hS => ?_)
  have hP : va_P (dC, dI) vwCl (mc cI cZ ad w_2) H := hP.eqs (by rw [ew_2]; rfl)
  have hD : va_D A (mc cI cZ ad w_2) := hD.eqs (by rw [ew_2]; rfl)
  refine lv_aload_n hx hb dX4_findNext_5 rfl (lv_at hl 0 rfl) ?_
  refine va_get (D := (dC, dI)) (ci := 4) (v := .ref (ad 1)) (C := RX4) (T := TX4) (N := 21) hx hb hts inX4 hown hK hP 0 rfl rfl 1 (by decide) (hts (.fieldLink RX4 7 "BittenBoardsModel" "kinds" "[I") (by decide +kernel)) (fun _ h9 => h9) rfl dX4_findNext_6 ?_
  refine lv_iload_n hx hb dX4_findNext_9 rfl (lv_at hl 1 rfl) ?_
  obtain ⟨hg10, hf⟩ := gi_e hf
  refine va_iald (f := (w_2.2 1)) hx hb hK hP 1 0 rfl rfl hg10 dX4_findNext_10 ?_
  refine lv_if_ne (tgt := 22) hx hb dX4_findNext_11 (by decide) (fun h11 => ?_) (fun h11 => ?_)
  · have hf := if_f h11 hf
    refine lv_aload_n hx hb dX4_findNext_22 rfl (lv_at hl 0 rfl) ?_
    refine va_get (D := (dC, dI)) (ci := 4) (v := .ref (ad 1)) (C := RX4) (T := TX4) (N := 21) hx hb hts inX4 hown hK hP 0 rfl rfl 1 (by decide) (hts (.fieldLink RX4 7 "BittenBoardsModel" "kinds" "[I") (by decide +kernel)) (fun _ h9 => h9) rfl dX4_findNext_23 ?_
    refine lv_iload_n hx hb dX4_findNext_26 rfl (lv_at hl 1 rfl) ?_
    obtain ⟨hg27, hf⟩ := gi_e hf
    refine va_iald (f := (w_2.2 1)) hx hb hK hP 1 0 rfl rfl hg27 dX4_findNext_27 ?_
    refine lv_iconst (v := (1 : Int32)) hx hb dX4_findNext_28 (by decide) ?_
    refine lv_icmp_ne (tgt := 84) hx hb dX4_findNext_29 (by decide) (fun h29 => ?_) (fun h29 => ?_)
    · have hf := if_f h29 hf
      refine lv_iconst (v := (0 : Int32)) hx hb dX4_findNext_84 (by decide) ?_
      refine lv_istore_n (lv' := [(3, .int (0 : Int32)), (0, .ref (ad 0)), (1, .int a1), (2, .int a2)]) hx hb dX4_findNext_85 rfl hl (by decide) rfl (fun ls hl => ?_)
      exact C86 fu a1 a2 (0 : Int32) w_2 hf _ _ _ hP hD hS (lv_sub hl [1, 2, 3, 0] rfl)
    · have hf := if_t h29 hf
      refine lv_iconst (v := (0 : Int32)) hx hb dX4_findNext_32 (by decide) ?_
      refine lv_istore_n (lv' := [(3, .int (0 : Int32)), (0, .ref (ad 0)), (1, .int a1), (2, .int a2)]) hx hb dX4_findNext_33 rfl hl (by decide) rfl (fun ls hl => ?_)
      exact C34 fu a1 a2 (0 : Int32) w_2 hf _ _ _ hP hD hS (lv_sub hl [1, 2, 3, 0] rfl)
  · have hf := if_t h11 hf
    refine lv_aload_n hx hb dX4_findNext_14 rfl (lv_at hl 0 rfl) ?_
    refine lv_iload_n hx hb dX4_findNext_15 rfl (lv_at hl 2 rfl) ?_
    obtain ⟨w_16, hc16, hf⟩ := bn_e hf
    refine m_callv hD hS hAA (va_runV (As := [.int a2]) (rest := []) ⟨hx, hb, hml, hown, hts⟩ (k_mf_bitesOfRows l dC dI cI cZ cG ad H.size w_2 a2 w_16 hc16) (cwV 1 hts gX4_findNext_X4_bitesOfRows rfl rfl rfl (by decide +kernel) ⟨Nat.le_of_ble_eq_true rfl, Nat.le_of_ble_eq_true rfl⟩) ⟨m_blind, va_recv hK hP (ci := 4) (q0 := 0) rfl rfl, fun U hU hW => m_pre hU hW hK hP hD⟩ rfl rfl hl.1 rfl (lv_room (Nat.le_of_ble_eq_true rfl)) dX4_findNext_16 ⟨Nat.zero_le _, Nat.zero_le _⟩) (fun H locs hP hD hS => ?_)
    refine lv_goto (tgt := 167) hx hb dX4_findNext_19 (by decide) ?_
    exact m_vret hx hb hr hlocks hK hP hD hS (so_1 hf) dX4_findNext_167
set_option maxHeartbeats 4000000 in
set_option maxRecDepth 100000 in
theorem k_mf_fullOf (l : Launch) (dC : Nat → ClassId) (dI : Nat → Nat → Nat) (cI cZ cG : ClassId) (ad : Nat → Nat) (sz : Nat) (w : mW) (a1 : Int32) (r0 : Int32) (w0 : mW) (hf : mf_fullOf a1 w = some r0) (hw0 : w = w0) : Met l yX4_fullOf wsX4_fullOf ({ frames := 0, cells := 0, slots := 0, locals := 0 } : Room) (va_Pc [.ref (ad 0), .int a1] (mPre dC dI cI cZ cG ad sz w)) (va_Qi (fun (r : Int32) (u : mW) => r = r0 ∧ u = w0) (mB dC dI cI cZ cG ad (mA ad sz)) (mA ad sz)) 0 0 (mA ad sz) := by
  refine Met.ofW (cc := cX4_fullOf) (maxL := 2) (ret := (some .int)) (by decide) rfl ?_
  intro p e s m args below meth c s₁ B hml hv
  obtain ⟨rfl, hsz, hP, hK, hD0⟩ := hv
  have hx := B.exec
  have hb := B.bytes
  have hr := B.returns
  have hts := atoms_spec (ws := wsX4_fullOf) B.pre
  have hown : s.vm.findClass RX4 = some m.cls := findClass_of_methodNamed B.named
  have hlocks := B.notSynchronized
  have inX4 : ∀ w ∈ u_ws RX4 TX4 21, w ∈ wsX4_fullOf := by decide +kernel
  subst hsz
  have hD : va_D (mA ad s.heap.size) (mc cI cZ ad w) := mD_self hD0
  have hAA : ∀ z q, s.heap.size ≤ z → mA ad z q → mA ad s.heap.size q := mA_mono
  generalize mA ad s.heap.size = A at hD hAA ⊢
  have hS : va_S A s.heap s.heap [] := va_S.rf
  have hl := lv_entry ([.ref (ad 0), .int a1]) (n := 2) (Nat.le_of_ble_eq_true rfl)
  rw [lg_entry_eq]
  generalize (lg_sl ([.ref (ad 0), .int a1]) ++ List.replicate (2 - (lg_sl ([.ref (ad 0), .int a1])).length) Slot.unset).toArray = ls at hl ⊢
  have hl : lv_has ls 2 [(0, .ref (ad 0)), (1, .int a1)] := hl
  unfold mf_fullOf at hf
  refine lv_aload_n hx hb dX4_fullOf_0 rfl (lv_at hl 0 rfl) ?_
  refine va_get (D := (dC, dI)) (ci := 4) (v := .ref (ad 1)) (C := RX4) (T := TX4) (N := 21) hx hb hts inX4 hown hK hP 0 rfl rfl 1 (by decide) (hts (.fieldLink RX4 7 "BittenBoardsModel" "kinds" "[I") (by decide +kernel)) (fun _ h9 => h9) rfl dX4_fullOf_1 ?_
  refine lv_iload_n hx hb dX4_fullOf_4 rfl (lv_at hl 1 rfl) ?_
  obtain ⟨hg5, hf⟩ := gi_e hf
  refine va_iald (f := (w.2 1)) hx hb hK hP 1 0 rfl rfl hg5 dX4_fullOf_5 ?_
  refine lv_if_ne (tgt := 15) hx hb dX4_fullOf_6 (by decide) (fun h6 => ?_) (fun h6 => ?_)
  · have hf := if_f h6 hf
    refine lv_aload_n hx hb dX4_fullOf_15 rfl (lv_at hl 0 rfl) ?_
    refine va_get (D := (dC, dI)) (ci := 4) (v := .ref (ad 1)) (C := RX4) (T := TX4) (N := 21) hx hb hts inX4 hown hK hP 0 rfl rfl 1 (by decide) (hts (.fieldLink RX4 7 "BittenBoardsModel" "kinds" "[I") (by decide +kernel)) (fun _ h9 => h9) rfl dX4_fullOf_16 ?_
    refine lv_iload_n hx hb dX4_fullOf_19 rfl (lv_at hl 1 rfl) ?_
    obtain ⟨hg20, hf⟩ := gi_e hf
    refine va_iald (f := (w.2 1)) hx hb hK hP 1 0 rfl rfl hg20 dX4_fullOf_20 ?_
    refine lv_iconst (v := (1 : Int32)) hx hb dX4_fullOf_21 (by decide) ?_
    refine lv_icmp_ne (tgt := 38) hx hb dX4_fullOf_22 (by decide) (fun h22 => ?_) (fun h22 => ?_)
    · have hf := if_f h22 hf
      refine lv_iconst (v := (1 : Int32)) hx hb dX4_fullOf_38 (by decide) ?_
      refine lv_aload_n hx hb dX4_fullOf_39 rfl (lv_at hl 0 rfl) ?_
      refine va_get (D := (dC, dI)) (ci := 4) (v := .ref (ad 6)) (C := RX4) (T := TX4) (N := 21) hx hb hts inX4 hown hK hP 0 rfl rfl 6 (by decide) (hts (.fieldLink RX4 25 "BittenBoardsModel" "posts" "[I") (by decide +kernel)) (fun _ h9 => h9) rfl dX4_fullOf_40 ?_
      refine lv_iload_n hx hb dX4_fullOf_43 rfl (lv_at hl 1 rfl) ?_
      obtain ⟨hg44, hf⟩ := gi_e hf
      refine va_iald (f := (w.2 6)) hx hb hK hP 6 0 rfl rfl hg44 dX4_fullOf_44 ?_
      refine lv_ishl hx hb dX4_fullOf_45 ?_
      refine lv_iconst (v := (1 : Int32)) hx hb dX4_fullOf_46 (by decide) ?_
      refine lv_isub hx hb dX4_fullOf_47 ?_
      refine lv_iconst (v := (1 : Int32)) hx hb dX4_fullOf_48 (by decide) ?_
      refine lv_aload_n hx hb dX4_fullOf_49 rfl (lv_at hl 0 rfl) ?_
      refine va_get (D := (dC, dI)) (ci := 4) (v := .ref (ad 7)) (C := RX4) (T := TX4) (N := 21) hx hb hts inX4 hown hK hP 0 rfl rfl 7 (by decide) (hts (.fieldLink RX4 28 "BittenBoardsModel" "roads" "[I") (by decide +kernel)) (fun _ h9 => h9) rfl dX4_fullOf_50 ?_
      refine lv_iload_n hx hb dX4_fullOf_53 rfl (lv_at hl 1 rfl) ?_
      obtain ⟨hg54, hf⟩ := gi_e hf
      refine va_iald (f := (w.2 7)) hx hb hK hP 7 0 rfl rfl hg54 dX4_fullOf_54 ?_
      refine lv_ishl hx hb dX4_fullOf_55 ?_
      refine lv_iconst (v := (1 : Int32)) hx hb dX4_fullOf_56 (by decide) ?_
      refine lv_isub hx hb dX4_fullOf_57 ?_
      refine lv_bipush (v := (6 : Int32)) hx hb dX4_fullOf_58 (by decide) ?_
      refine lv_ishl hx hb dX4_fullOf_60 ?_
      refine lv_ior hx hb dX4_fullOf_61 ?_
      exact m_iret hx hb hr hlocks hK hP hD hS ⟨so_1 hf, hw0⟩ dX4_fullOf_62
    · have hf := if_t h22 hf
      refine lv_iconst (v := (1 : Int32)) hx hb dX4_fullOf_25 (by decide) ?_
      refine lv_aload_n hx hb dX4_fullOf_26 rfl (lv_at hl 0 rfl) ?_
      refine va_get (D := (dC, dI)) (ci := 4) (v := .ref (ad 4)) (C := RX4) (T := TX4) (N := 21) hx hb hts inX4 hown hK hP 0 rfl rfl 4 (by decide) (hts (.fieldLink RX4 19 "BittenBoardsModel" "things" "[I") (by decide +kernel)) (fun _ h9 => h9) rfl dX4_fullOf_27 ?_
      refine lv_iload_n hx hb dX4_fullOf_30 rfl (lv_at hl 1 rfl) ?_
      obtain ⟨hg31, hf⟩ := gi_e hf
      refine va_iald (f := (w.2 4)) hx hb hK hP 4 0 rfl rfl hg31 dX4_fullOf_31 ?_
      refine lv_ishl hx hb dX4_fullOf_32 ?_
      refine lv_iconst (v := (1 : Int32)) hx hb dX4_fullOf_33 (by decide) ?_
      refine lv_isub hx hb dX4_fullOf_34 ?_
      refine lv_goto (tgt := 62) hx hb dX4_fullOf_35 (by decide) ?_
      exact m_iret hx hb hr hlocks hK hP hD hS ⟨so_1 hf, hw0⟩ dX4_fullOf_62
  · have hf := if_t h6 hf
    refine lv_sipush (v := (3431 : Int32)) hx hb dX4_fullOf_9 (by decide) ?_
    refine lv_goto (tgt := 62) hx hb dX4_fullOf_12 (by decide) ?_
    exact m_iret hx hb hr hlocks hK hP hD hS ⟨so_1 hf, hw0⟩ dX4_fullOf_62
set_option maxHeartbeats 4000000 in
set_option maxRecDepth 100000 in
theorem k_mf_solveState (l : Launch) (dC : Nat → ClassId) (dI : Nat → Nat → Nat) (cI cZ cG : ClassId) (ad : Nat → Nat) (sz : Nat) (w : mW) (a1 : Int32) (a2 : Int32) (w0 : mW) (hf : mf_solveState a1 a2 w = some w0) : Met l yX4_solveState wsX4_solveState ({ frames := 4, cells := 0, slots := 0, locals := 94 } : Room) (va_Pc [.ref (ad 0), .int a1, .int a2] (mPre dC dI cI cZ cG ad sz w)) (va_Qv (fun (u : mW) => u = w0) (mB dC dI cI cZ cG ad (mA ad sz)) (mA ad sz)) 0 0 (mA ad sz) := by
  refine Met.ofW (cc := cX4_solveState) (maxL := 8) (ret := none) (by decide) rfl ?_
  intro p e s m args below meth c s₁ B hml hv
  obtain ⟨rfl, hsz, hP, hK, hD0⟩ := hv
  have hx := B.exec
  have hb := B.bytes
  have hr := B.returns
  have hts := atoms_spec (ws := wsX4_solveState) B.pre
  have hown : s.vm.findClass RX4 = some m.cls := findClass_of_methodNamed B.named
  have hlocks := B.notSynchronized
  have inX4 : ∀ w ∈ u_ws RX4 TX4 21, w ∈ wsX4_solveState := by decide +kernel
  subst hsz
  have hD : va_D (mA ad s.heap.size) (mc cI cZ ad w) := mD_self hD0
  have hAA : ∀ z q, s.heap.size ≤ z → mA ad z q → mA ad s.heap.size q := mA_mono
  generalize mA ad s.heap.size = A at hD hAA ⊢
  have hS : va_S A s.heap s.heap [] := va_S.rf
  have C222 : ∀ (n222 : Nat) (x2 : Int32) (x6 : Int32) (w : mW), mf_solveState_C222 n222 x2 x6 w = some w0 → ∀ (H : Heap) (locs : List Loc) (ls : Array Slot), va_P (dC, dI) vwCl (mc cI cZ ad w) H → va_D A (mc cI cZ ad w) → va_S A s.heap H locs → lv_has ls 8 [(0, .ref (ad 0)), (2, .int x2), (6, .int x6)] → W p l e (headSpec wsX4_solveState ({ frames := 4, cells := 0, slots := 0, locals := 94 } : Room)).room s m (List.toArray [Value.ref (ad 0), Value.int a1, Value.int a2]) below meth c H locs 0 0 (MQ below (va_Qv (fun (u : mW) => u = w0) (mB dC dI cI cZ cG ad A) A) (List.toArray [Value.ref (ad 0), Value.int a1, Value.int a2]) s 0 0 A) (F0 m 222 ls []) := by
    intro n222
    induction n222 with
    | zero => intro x2 x6 w hf; cases hf
    | succ n222 ih222 =>
      intro x2 x6 w hf H locs ls hP hD hS hl
      rw [mf_solveState_C222] at hf
      refine lv_aload_n hx hb dX4_solveState_222 rfl (lv_at hl 0 rfl) ?_
      refine va_get (D := (dC, dI)) (ci := 4) (v := .ref (ad 17)) (C := RX4) (T := TX4) (N := 21) hx hb hts inX4 hown hK hP 0 rfl rfl 19 (by decide) (hts (.fieldLink RX4 64 "BittenBoardsModel" "seen" "[Z") (by decide +kernel)) (fun _ h9 => h9) rfl dX4_solveState_223 ?_
      refine lv_iload hx hb dX4_solveState_226 (lv_at hl 2 rfl) ?_
      obtain ⟨hg228, hf⟩ := gi_e hf
      refine va_zald (f := (w.2 17)) hx hb hK hP 17 1 rfl rfl hg228 dX4_solveState_228 ?_
      refine lv_if_eq (tgt := 238) hx hb dX4_solveState_229 (by decide) (fun h229 => ?_) (fun h229 => ?_)
      · have hf := if_t h229 hf
        refine lv_aload_n hx hb dX4_solveState_238 rfl (lv_at hl 0 rfl) ?_
        refine va_get (D := (dC, dI)) (ci := 4) (v := .ref (ad 14)) (C := RX4) (T := TX4) (N := 21) hx hb hts inX4 hown hK hP 0 rfl rfl 15 (by decide) (hts (.fieldLink RX4 55 "BittenBoardsModel" "worths" "[I") (by decide +kernel)) (fun _ h9 => h9) rfl dX4_solveState_239 ?_
        refine lv_iload_n hx hb dX4_solveState_242 rfl (lv_at hl 1 rfl) ?_
        refine lv_iload hx hb dX4_solveState_243 (lv_at hl 2 rfl) ?_
        obtain ⟨hg245, hf⟩ := gi_e hf
        obtain ⟨w_245, ew_245, hf⟩ := nm_x hf
        refine va_iast (f := (w.2 14)) hx hb hK hP hD hS 14 0 rfl rfl hg245 dX4_solveState_245 (fun H locs hP hD hS => ?_)
        have hP : va_P (dC, dI) vwCl (mc cI cZ ad w_245) H := hP.eqs (by rw [ew_245]; rfl)
        have hD : va_D A (mc cI cZ ad w_245) := hD.eqs (by rw [ew_245]; rfl)
        exact m_vret hx hb hr hlocks hK hP hD hS (so_1 hf) dX4_solveState_246
      · have hf := if_f h229 hf
        obtain ⟨x6_232, ex6_232, hf⟩ := nm_x hf
        refine lv_iinc (v := x6_232) (lv' := [(6, .int x6_232), (0, .ref (ad 0)), (2, .int x2)]) hx hb dX4_solveState_232 hl (k := 2) rfl (by rw [ex6_232]; rfl) (by decide) rfl (fun ls hl => ?_)
        refine lv_goto (tgt := 222) hx hb dX4_solveState_235 (by decide) ?_
        exact ih222 x2 x6_232 w hf _ _ _ hP hD hS (lv_sub hl [1, 2, 0] rfl)
  have C218 : ∀ (x2 : Int32) (t1 : Int32) (t2 : Int32) (w : mW), mf_solveState_C218 x2 t1 t2 w = some w0 → ∀ (H : Heap) (locs : List Loc) (ls : Array Slot), va_P (dC, dI) vwCl (mc cI cZ ad w) H → va_D A (mc cI cZ ad w) → va_S A s.heap H locs → lv_has ls 8 [(0, .ref (ad 0)), (2, .int x2)] → W p l e (headSpec wsX4_solveState ({ frames := 4, cells := 0, slots := 0, locals := 94 } : Room)).room s m (List.toArray [Value.ref (ad 0), Value.int a1, Value.int a2]) below meth c H locs 0 0 (MQ below (va_Qv (fun (u : mW) => u = w0) (mB dC dI cI cZ cG ad A) A) (List.toArray [Value.ref (ad 0), Value.int a1, Value.int a2]) s 0 0 A) (F0 m 218 ls [.int t2, .int t1, .ref (ad 13)]) := by
    intro x2 t1 t2 w hf H locs ls hP hD hS hl
    unfold mf_solveState_C218 at hf
    obtain ⟨hg218, hf⟩ := gi_e hf
    obtain ⟨w_218, ew_218, hf⟩ := nm_x hf
    refine va_iast (f := (w.2 13)) hx hb hK hP hD hS 13 0 rfl rfl hg218 dX4_solveState_218 (fun H locs hP hD hS => ?_)
    have hP : va_P (dC, dI) vwCl (mc cI cZ ad w_218) H := hP.eqs (by rw [ew_218]; rfl)
    have hD : va_D A (mc cI cZ ad w_218) := hD.eqs (by rw [ew_218]; rfl)
    refine lv_iconst (v := (0 : Int32)) hx hb dX4_solveState_219 (by decide) ?_
    refine lv_istore (lv' := [(6, .int (0 : Int32)), (0, .ref (ad 0)), (2, .int x2)]) hx hb dX4_solveState_220 hl (by decide) rfl (fun ls hl => ?_)
    exact C222 fu x2 (0 : Int32) w_218 hf _ _ _ hP hD hS (lv_sub hl [1, 2, 0] rfl)
  have C217 : ∀ (x2 : Int32) (t1 : Int32) (t2 : Int32) (t3 : Int32) (w : mW), mf_solveState_C217 x2 t1 t2 t3 w = some w0 → ∀ (H : Heap) (locs : List Loc) (ls : Array Slot), va_P (dC, dI) vwCl (mc cI cZ ad w) H → va_D A (mc cI cZ ad w) → va_S A s.heap H locs → lv_has ls 8 [(0, .ref (ad 0)), (2, .int x2)] → W p l e (headSpec wsX4_solveState ({ frames := 4, cells := 0, slots := 0, locals := 94 } : Room)).room s m (List.toArray [Value.ref (ad 0), Value.int a1, Value.int a2]) below meth c H locs 0 0 (MQ below (va_Qv (fun (u : mW) => u = w0) (mB dC dI cI cZ cG ad A) A) (List.toArray [Value.ref (ad 0), Value.int a1, Value.int a2]) s 0 0 A) (F0 m 217 ls [.int t3, .int t2, .int t1, .ref (ad 13)]) := by
    intro x2 t1 t2 t3 w hf H locs ls hP hD hS hl
    unfold mf_solveState_C217 at hf
    refine lv_iadd hx hb dX4_solveState_217 ?_
    exact C218 x2 t1 (t2 + t3) w hf _ _ _ hP hD hS (lv_sub hl [0, 1] rfl)
  have C58 : ∀ (n58 : Nat) (x2 : Int32) (x3 : Int32) (x4 : Int32) (x5 : Int32) (x6 : Int32) (w : mW), mf_solveState_C58 n58 x2 x3 x4 x5 x6 w = some w0 → ∀ (H : Heap) (locs : List Loc) (ls : Array Slot), va_P (dC, dI) vwCl (mc cI cZ ad w) H → va_D A (mc cI cZ ad w) → va_S A s.heap H locs → lv_has ls 8 [(0, .ref (ad 0)), (2, .int x2), (3, .int x3), (4, .int x4), (5, .int x5), (6, .int x6)] → W p l e (headSpec wsX4_solveState ({ frames := 4, cells := 0, slots := 0, locals := 94 } : Room)).room s m (List.toArray [Value.ref (ad 0), Value.int a1, Value.int a2]) below meth c H locs 0 0 (MQ below (va_Qv (fun (u : mW) => u = w0) (mB dC dI cI cZ cG ad A) A) (List.toArray [Value.ref (ad 0), Value.int a1, Value.int a2]) s 0 0 A) (F0 m 58 ls []) := by
    intro n58
    induction n58 with
    | zero => intro x2 x3 x4 x5 x6 w hf; cases hf
    | succ n58 ih58 =>
      have C148 : ∀ (x2 : Int32) (x3 : Int32) (x5 : Int32) (x6 : Int32) (x7 : Int32) (t0 : Int32) (w : mW), mf_solveState_C148 (mf_solveState_C58 n58) x2 x3 x5 x6 x7 t0 w = some w0 → ∀ (H : Heap) (locs : List Loc) (ls : Array Slot), va_P (dC, dI) vwCl (mc cI cZ ad w) H → va_D A (mc cI cZ ad w) → va_S A s.heap H locs → lv_has ls 8 [(0, .ref (ad 0)), (2, .int x2), (3, .int x3), (5, .int x5), (6, .int x6), (7, .int x7)] → W p l e (headSpec wsX4_solveState ({ frames := 4, cells := 0, slots := 0, locals := 94 } : Room)).room s m (List.toArray [Value.ref (ad 0), Value.int a1, Value.int a2]) below meth c H locs 0 0 (MQ below (va_Qv (fun (u : mW) => u = w0) (mB dC dI cI cZ cG ad A) A) (List.toArray [Value.ref (ad 0), Value.int a1, Value.int a2]) s 0 0 A) (F0 m 148 ls [.int t0]) := by
        intro x2 x3 x5 x6 x7 t0 w hf H locs ls hP hD hS hl
        unfold mf_solveState_C148 at hf
        refine lv_istore (lv' := [(4, .int t0), (0, .ref (ad 0)), (2, .int x2), (3, .int x3), (5, .int x5), (6, .int x6), (7, .int x7)]) hx hb dX4_solveState_148 hl (by decide) rfl (fun ls hl => ?_)
        refine lv_aload_n hx hb dX4_solveState_150 rfl (lv_at hl 1 rfl) ?_
        refine va_get (D := (dC, dI)) (ci := 4) (v := .ref (ad 13)) (C := RX4) (T := TX4) (N := 21) hx hb hts inX4 hown hK hP 0 rfl rfl 14 (by decide) (hts (.fieldLink RX4 52 "BittenBoardsModel" "lengths" "[I") (by decide +kernel)) (fun _ h9 => h9) rfl dX4_solveState_151 ?_
        refine lv_iload hx hb dX4_solveState_154 (lv_at hl 6 rfl) ?_
        obtain ⟨hg156, hf⟩ := gi_e hf
        refine va_iald (f := (w.2 13)) hx hb hK hP 13 0 rfl rfl hg156 dX4_solveState_156 ?_
        refine lv_iload hx hb dX4_solveState_157 (lv_at hl 4 rfl) ?_
        refine lv_icmp_le (tgt := 172) hx hb dX4_solveState_159 (by decide) (fun h159 => ?_) (fun h159 => ?_)
        · have hf := if_t h159 hf
          refine lv_iload hx hb dX4_solveState_172 (lv_at hl 4 rfl) ?_
          refine lv_istore (lv' := [(5, .int x5), (4, .int t0), (0, .ref (ad 0)), (2, .int x2), (3, .int x3), (6, .int x6), (7, .int x7)]) hx hb dX4_solveState_174 hl (by decide) rfl (fun ls hl => ?_)
          obtain ⟨x6_176, ex6_176, hf⟩ := nm_x hf
          refine lv_iinc (v := x6_176) (lv' := [(6, .int x6_176), (5, .int x5), (4, .int t0), (0, .ref (ad 0)), (2, .int x2), (3, .int x3), (7, .int x7)]) hx hb dX4_solveState_176 hl (k := 5) rfl (by rw [ex6_176]; rfl) (by decide) rfl (fun ls hl => ?_)
          refine lv_goto (tgt := 58) hx hb dX4_solveState_179 (by decide) ?_
          exact ih58 x2 x3 t0 x5 x6_176 w hf _ _ _ hP hD hS (lv_sub hl [3, 4, 5, 2, 1, 0] rfl)
        · have hf := if_f h159 hf
          refine lv_aload_n hx hb dX4_solveState_162 rfl (lv_at hl 1 rfl) ?_
          refine va_get (D := (dC, dI)) (ci := 4) (v := .ref (ad 13)) (C := RX4) (T := TX4) (N := 21) hx hb hts inX4 hown hK hP 0 rfl rfl 14 (by decide) (hts (.fieldLink RX4 52 "BittenBoardsModel" "lengths" "[I") (by decide +kernel)) (fun _ h9 => h9) rfl dX4_solveState_163 ?_
          refine lv_iload hx hb dX4_solveState_166 (lv_at hl 6 rfl) ?_
          obtain ⟨hg168, hf⟩ := gi_e hf
          refine va_iald (f := (w.2 13)) hx hb hK hP 13 0 rfl rfl hg168 dX4_solveState_168 ?_
          refine lv_goto (tgt := 174) hx hb dX4_solveState_169 (by decide) ?_
          obtain ⟨x5_174, ex5_174, hf⟩ := nm_x hf
          refine W.eq (g2 := F0 m 174 ls [.int x5_174]) (by rw [ex5_174]) ?_
          refine lv_istore (lv' := [(5, .int x5_174), (4, .int t0), (0, .ref (ad 0)), (2, .int x2), (3, .int x3), (6, .int x6), (7, .int x7)]) hx hb dX4_solveState_174 hl (by decide) rfl (fun ls hl => ?_)
          obtain ⟨x6_176, ex6_176, hf⟩ := nm_x hf
          refine lv_iinc (v := x6_176) (lv' := [(6, .int x6_176), (5, .int x5_174), (4, .int t0), (0, .ref (ad 0)), (2, .int x2), (3, .int x3), (7, .int x7)]) hx hb dX4_solveState_176 hl (k := 5) rfl (by rw [ex6_176]; rfl) (by decide) rfl (fun ls hl => ?_)
          refine lv_goto (tgt := 58) hx hb dX4_solveState_179 (by decide) ?_
          exact ih58 x2 x3 t0 x5_174 x6_176 w hf _ _ _ hP hD hS (lv_sub hl [3, 4, 5, 2, 1, 0] rfl)
      have C146 : ∀ (x2 : Int32) (x3 : Int32) (x4 : Int32) (x5 : Int32) (x6 : Int32) (x7 : Int32) (w : mW), mf_solveState_C146 (mf_solveState_C58 n58) x2 x3 x4 x5 x6 x7 w = some w0 → ∀ (H : Heap) (locs : List Loc) (ls : Array Slot), va_P (dC, dI) vwCl (mc cI cZ ad w) H → va_D A (mc cI cZ ad w) → va_S A s.heap H locs → lv_has ls 8 [(0, .ref (ad 0)), (2, .int x2), (3, .int x3), (4, .int x4), (5, .int x5), (6, .int x6), (7, .int x7)] → W p l e (headSpec wsX4_solveState ({ frames := 4, cells := 0, slots := 0, locals := 94 } : Room)).room s m (List.toArray [Value.ref (ad 0), Value.int a1, Value.int a2]) below meth c H locs 0 0 (MQ below (va_Qv (fun (u : mW) => u = w0) (mB dC dI cI cZ cG ad A) A) (List.toArray [Value.ref (ad 0), Value.int a1, Value.int a2]) s 0 0 A) (F0 m 146 ls []) := by
        intro x2 x3 x4 x5 x6 x7 w hf H locs ls hP hD hS hl
        unfold mf_solveState_C146 at hf
        refine lv_iload hx hb dX4_solveState_146 (lv_at hl 3 rfl) ?_
        exact C148 x2 x3 x5 x6 x7 x4 w hf _ _ _ hP hD hS (lv_sub hl [0, 1, 2, 4, 5, 6] rfl)
      have C136 : ∀ (x2 : Int32) (x3 : Int32) (x5 : Int32) (x6 : Int32) (x7 : Int32) (w : mW), mf_solveState_C136 (mf_solveState_C58 n58) x2 x3 x5 x6 x7 w = some w0 → ∀ (H : Heap) (locs : List Loc) (ls : Array Slot), va_P (dC, dI) vwCl (mc cI cZ ad w) H → va_D A (mc cI cZ ad w) → va_S A s.heap H locs → lv_has ls 8 [(0, .ref (ad 0)), (2, .int x2), (3, .int x3), (5, .int x5), (6, .int x6), (7, .int x7)] → W p l e (headSpec wsX4_solveState ({ frames := 4, cells := 0, slots := 0, locals := 94 } : Room)).room s m (List.toArray [Value.ref (ad 0), Value.int a1, Value.int a2]) below meth c H locs 0 0 (MQ below (va_Qv (fun (u : mW) => u = w0) (mB dC dI cI cZ cG ad A) A) (List.toArray [Value.ref (ad 0), Value.int a1, Value.int a2]) s 0 0 A) (F0 m 136 ls []) := by
        intro x2 x3 x5 x6 x7 w hf H locs ls hP hD hS hl
        unfold mf_solveState_C136 at hf
        refine lv_aload_n hx hb dX4_solveState_136 rfl (lv_at hl 0 rfl) ?_
        refine va_get (D := (dC, dI)) (ci := 4) (v := .ref (ad 13)) (C := RX4) (T := TX4) (N := 21) hx hb hts inX4 hown hK hP 0 rfl rfl 14 (by decide) (hts (.fieldLink RX4 52 "BittenBoardsModel" "lengths" "[I") (by decide +kernel)) (fun _ h9 => h9) rfl dX4_solveState_137 ?_
        refine lv_iload hx hb dX4_solveState_140 (lv_at hl 5 rfl) ?_
        obtain ⟨hg142, hf⟩ := gi_e hf
        refine va_iald (f := (w.2 13)) hx hb hK hP 13 0 rfl rfl hg142 dX4_solveState_142 ?_
        refine lv_goto (tgt := 148) hx hb dX4_solveState_143 (by decide) ?_
        exact C148 x2 x3 x5 x6 x7 ((w.2 13) x7.toNatClampNeg) w hf _ _ _ hP hD hS (lv_sub hl [0, 1, 2, 3, 4, 5] rfl)
      have C108 : ∀ (x2 : Int32) (x4 : Int32) (x5 : Int32) (x6 : Int32) (x7 : Int32) (t0 : Int32) (w : mW), mf_solveState_C108 (mf_solveState_C58 n58) x2 x4 x5 x6 x7 t0 w = some w0 → ∀ (H : Heap) (locs : List Loc) (ls : Array Slot), va_P (dC, dI) vwCl (mc cI cZ ad w) H → va_D A (mc cI cZ ad w) → va_S A s.heap H locs → lv_has ls 8 [(0, .ref (ad 0)), (2, .int x2), (4, .int x4), (5, .int x5), (6, .int x6), (7, .int x7)] → W p l e (headSpec wsX4_solveState ({ frames := 4, cells := 0, slots := 0, locals := 94 } : Room)).room s m (List.toArray [Value.ref (ad 0), Value.int a1, Value.int a2]) below meth c H locs 0 0 (MQ below (va_Qv (fun (u : mW) => u = w0) (mB dC dI cI cZ cG ad A) A) (List.toArray [Value.ref (ad 0), Value.int a1, Value.int a2]) s 0 0 A) (F0 m 108 ls [.int t0]) := by
        intro x2 x4 x5 x6 x7 t0 w hf H locs ls hP hD hS hl
        unfold mf_solveState_C108 at hf
        refine lv_istore_n (lv' := [(3, .int t0), (0, .ref (ad 0)), (2, .int x2), (4, .int x4), (5, .int x5), (6, .int x6), (7, .int x7)]) hx hb dX4_solveState_108 rfl hl (by decide) rfl (fun ls hl => ?_)
        refine lv_aload_n hx hb dX4_solveState_109 rfl (lv_at hl 1 rfl) ?_
        refine va_get (D := (dC, dI)) (ci := 4) (v := .ref (ad 12)) (C := RX4) (T := TX4) (N := 21) hx hb hts inX4 hown hK hP 0 rfl rfl 13 (by decide) (hts (.fieldLink RX4 48 "BittenBoardsModel" "isWon" "[Z") (by decide +kernel)) (fun _ h9 => h9) rfl dX4_solveState_110 ?_
        refine lv_iload hx hb dX4_solveState_113 (lv_at hl 6 rfl) ?_
        obtain ⟨hg115, hf⟩ := gi_e hf
        refine va_zald (f := (w.2 12)) hx hb hK hP 12 1 rfl rfl hg115 dX4_solveState_115 ?_
        refine lv_if_ne (tgt := 146) hx hb dX4_solveState_116 (by decide) (fun h116 => ?_) (fun h116 => ?_)
        · have hf := if_f h116 hf
          exact C146 x2 t0 x4 x5 x6 x7 w hf _ _ _ hP hD hS (lv_sub hl [1, 2, 0, 3, 4, 5, 6] rfl)
        · have hf := if_t h116 hf
          refine lv_iload hx hb dX4_solveState_119 (lv_at hl 3 rfl) ?_
          refine lv_if_lt (tgt := 136) hx hb dX4_solveState_121 (by decide) (fun h121 => ?_) (fun h121 => ?_)
          · have hf := if_t h121 hf
            exact C136 x2 t0 x5 x6 x7 w hf _ _ _ hP hD hS (lv_sub hl [1, 2, 0, 4, 5, 6] rfl)
          · have hf := if_f h121 hf
            refine lv_aload_n hx hb dX4_solveState_124 rfl (lv_at hl 1 rfl) ?_
            refine va_get (D := (dC, dI)) (ci := 4) (v := .ref (ad 13)) (C := RX4) (T := TX4) (N := 21) hx hb hts inX4 hown hK hP 0 rfl rfl 14 (by decide) (hts (.fieldLink RX4 52 "BittenBoardsModel" "lengths" "[I") (by decide +kernel)) (fun _ h9 => h9) rfl dX4_solveState_125 ?_
            refine lv_iload hx hb dX4_solveState_128 (lv_at hl 6 rfl) ?_
            obtain ⟨hg130, hf⟩ := gi_e hf
            refine va_iald (f := (w.2 13)) hx hb hK hP 13 0 rfl rfl hg130 dX4_solveState_130 ?_
            refine lv_iload hx hb dX4_solveState_131 (lv_at hl 3 rfl) ?_
            refine lv_icmp_ge (tgt := 146) hx hb dX4_solveState_133 (by decide) (fun h133 => ?_) (fun h133 => ?_)
            · have hf := if_t h133 hf
              exact C146 x2 t0 x4 x5 x6 x7 w hf _ _ _ hP hD hS (lv_sub hl [1, 2, 0, 3, 4, 5, 6] rfl)
            · have hf := if_f h133 hf
              exact C136 x2 t0 x5 x6 x7 w hf _ _ _ hP hD hS (lv_sub hl [1, 2, 0, 4, 5, 6] rfl)
      have C103 : ∀ (x2 : Int32) (x4 : Int32) (x5 : Int32) (x6 : Int32) (x7 : Int32) (w : mW), mf_solveState_C103 (mf_solveState_C58 n58) x2 x4 x5 x6 x7 w = some w0 → ∀ (H : Heap) (locs : List Loc) (ls : Array Slot), va_P (dC, dI) vwCl (mc cI cZ ad w) H → va_D A (mc cI cZ ad w) → va_S A s.heap H locs → lv_has ls 8 [(0, .ref (ad 0)), (2, .int x2), (4, .int x4), (5, .int x5), (6, .int x6), (7, .int x7)] → W p l e (headSpec wsX4_solveState ({ frames := 4, cells := 0, slots := 0, locals := 94 } : Room)).room s m (List.toArray [Value.ref (ad 0), Value.int a1, Value.int a2]) below meth c H locs 0 0 (MQ below (va_Qv (fun (u : mW) => u = w0) (mB dC dI cI cZ cG ad A) A) (List.toArray [Value.ref (ad 0), Value.int a1, Value.int a2]) s 0 0 A) (F0 m 103 ls []) := by
        intro x2 x4 x5 x6 x7 w hf H locs ls hP hD hS hl
        unfold mf_solveState_C103 at hf
        refine lv_iconst (v := (1 : Int32)) hx hb dX4_solveState_103 (by decide) ?_
        refine lv_goto (tgt := 108) hx hb dX4_solveState_104 (by decide) ?_
        exact C108 x2 x4 x5 x6 x7 (1 : Int32) w hf _ _ _ hP hD hS (lv_sub hl [0, 1, 2, 3, 4, 5] rfl)
      intro x2 x3 x4 x5 x6 w hf H locs ls hP hD hS hl
      rw [mf_solveState_C58] at hf
      refine lv_iload hx hb dX4_solveState_58 (lv_at hl 5 rfl) ?_
      refine lv_aload_n hx hb dX4_solveState_60 rfl (lv_at hl 0 rfl) ?_
      refine va_get (D := (dC, dI)) (ci := 4) (v := .int (w.1 2)) (C := RX4) (T := TX4) (N := 21) hx hb hts inX4 hown hK hP 0 rfl rfl 18 (by decide) (hts (.fieldLink RX4 74 "BittenBoardsModel" "nextMany" "I") (by decide +kernel)) (fun _ h9 => h9) rfl dX4_solveState_61 ?_
      refine lv_icmp_ge (tgt := 182) hx hb dX4_solveState_64 (by decide) (fun h64 => ?_) (fun h64 => ?_)
      · have hf := if_t h64 hf
        refine lv_aload_n hx hb dX4_solveState_182 rfl (lv_at hl 0 rfl) ?_
        refine va_get (D := (dC, dI)) (ci := 4) (v := .ref (ad 12)) (C := RX4) (T := TX4) (N := 21) hx hb hts inX4 hown hK hP 0 rfl rfl 13 (by decide) (hts (.fieldLink RX4 48 "BittenBoardsModel" "isWon" "[Z") (by decide +kernel)) (fun _ h9 => h9) rfl dX4_solveState_183 ?_
        refine lv_iload_n hx hb dX4_solveState_186 rfl (lv_at hl 1 rfl) ?_
        refine lv_iload_n hx hb dX4_solveState_187 rfl (lv_at hl 2 rfl) ?_
        obtain ⟨hg188, hf⟩ := gi_e hf
        obtain ⟨w_188, ew_188, hf⟩ := nm_x hf
        refine va_zast (f := (w.2 12)) hx hb hK hP hD hS 12 1 rfl rfl hg188 dX4_solveState_188 (fun H locs hP hD hS => ?_)
        have hP : va_P (dC, dI) vwCl (mc cI cZ ad w_188) H := hP.eqs (by rw [ew_188]; rfl)
        have hD : va_D A (mc cI cZ ad w_188) := hD.eqs (by rw [ew_188]; rfl)
        refine lv_aload_n hx hb dX4_solveState_189 rfl (lv_at hl 0 rfl) ?_
        refine va_get (D := (dC, dI)) (ci := 4) (v := .ref (ad 13)) (C := RX4) (T := TX4) (N := 21) hx hb hts inX4 hown hK hP 0 rfl rfl 14 (by decide) (hts (.fieldLink RX4 52 "BittenBoardsModel" "lengths" "[I") (by decide +kernel)) (fun _ h9 => h9) rfl dX4_solveState_190 ?_
        refine lv_iload_n hx hb dX4_solveState_193 rfl (lv_at hl 1 rfl) ?_
        refine lv_aload_n hx hb dX4_solveState_194 rfl (lv_at hl 0 rfl) ?_
        refine va_get (D := (dC, dI)) (ci := 4) (v := .int (w_188.1 2)) (C := RX4) (T := TX4) (N := 21) hx hb hts inX4 hown hK hP 0 rfl rfl 18 (by decide) (hts (.fieldLink RX4 74 "BittenBoardsModel" "nextMany" "I") (by decide +kernel)) (fun _ h9 => h9) rfl dX4_solveState_195 ?_
        refine lv_if_ne (tgt := 205) hx hb dX4_solveState_198 (by decide) (fun h198 => ?_) (fun h198 => ?_)
        · have hf := if_f h198 hf
          refine lv_iconst (v := (1 : Int32)) hx hb dX4_solveState_205 (by decide) ?_
          refine lv_iload_n hx hb dX4_solveState_206 rfl (lv_at hl 2 rfl) ?_
          refine lv_if_eq (tgt := 215) hx hb dX4_solveState_207 (by decide) (fun h207 => ?_) (fun h207 => ?_)
          · have hf := if_t h207 hf
            refine lv_iload hx hb dX4_solveState_215 (lv_at hl 4 rfl) ?_
            exact C217 x2 x2 (1 : Int32) x5 w_188 hf _ _ _ hP hD hS (lv_sub hl [0, 1] rfl)
          · have hf := if_f h207 hf
            refine lv_iload hx hb dX4_solveState_210 (lv_at hl 3 rfl) ?_
            refine lv_goto (tgt := 217) hx hb dX4_solveState_212 (by decide) ?_
            exact C217 x2 x2 (1 : Int32) x4 w_188 hf _ _ _ hP hD hS (lv_sub hl [0, 1] rfl)
        · have hf := if_t h198 hf
          refine lv_iconst (v := (0 : Int32)) hx hb dX4_solveState_201 (by decide) ?_
          refine lv_goto (tgt := 218) hx hb dX4_solveState_202 (by decide) ?_
          exact C218 x2 x2 (0 : Int32) w_188 hf _ _ _ hP hD hS (lv_sub hl [0, 1] rfl)
      · have hf := if_f h64 hf
        refine lv_aload_n hx hb dX4_solveState_67 rfl (lv_at hl 0 rfl) ?_
        refine va_get (D := (dC, dI)) (ci := 4) (v := .ref (ad 16)) (C := RX4) (T := TX4) (N := 21) hx hb hts inX4 hown hK hP 0 rfl rfl 17 (by decide) (hts (.fieldLink RX4 61 "BittenBoardsModel" "next" "[I") (by decide +kernel)) (fun _ h9 => h9) rfl dX4_solveState_68 ?_
        refine lv_iload hx hb dX4_solveState_71 (lv_at hl 5 rfl) ?_
        obtain ⟨hg73, hf⟩ := gi_e hf
        refine va_iald (f := (w.2 16)) hx hb hK hP 16 0 rfl rfl hg73 dX4_solveState_73 ?_
        obtain ⟨x7_74, ex7_74, hf⟩ := nm_x hf
        refine W.eq (g2 := F0 m 74 ls [.int x7_74]) (by rw [ex7_74]) ?_
        refine lv_istore (lv' := [(7, .int x7_74), (0, .ref (ad 0)), (2, .int x2), (3, .int x3), (4, .int x4), (5, .int x5), (6, .int x6)]) hx hb dX4_solveState_74 hl (by decide) rfl (fun ls hl => ?_)
        refine lv_aload_n hx hb dX4_solveState_76 rfl (lv_at hl 1 rfl) ?_
        refine va_get (D := (dC, dI)) (ci := 4) (v := .ref (ad 17)) (C := RX4) (T := TX4) (N := 21) hx hb hts inX4 hown hK hP 0 rfl rfl 19 (by decide) (hts (.fieldLink RX4 64 "BittenBoardsModel" "seen" "[Z") (by decide +kernel)) (fun _ h9 => h9) rfl dX4_solveState_77 ?_
        refine lv_aload_n hx hb dX4_solveState_80 rfl (lv_at hl 1 rfl) ?_
        refine va_get (D := (dC, dI)) (ci := 4) (v := .ref (ad 14)) (C := RX4) (T := TX4) (N := 21) hx hb hts inX4 hown hK hP 0 rfl rfl 15 (by decide) (hts (.fieldLink RX4 55 "BittenBoardsModel" "worths" "[I") (by decide +kernel)) (fun _ h9 => h9) rfl dX4_solveState_81 ?_
        refine lv_iload hx hb dX4_solveState_84 (lv_at hl 0 rfl) ?_
        obtain ⟨hg86, hf⟩ := gi_e hf
        refine va_iald (f := (w.2 14)) hx hb hK hP 14 0 rfl rfl hg86 dX4_solveState_86 ?_
        refine lv_iconst (v := (1 : Int32)) hx hb dX4_solveState_87 (by decide) ?_
        obtain ⟨hg88, hf⟩ := gi_e hf
        obtain ⟨w_88, ew_88, hf⟩ := nm_x hf
        refine va_zast (f := (w.2 17)) hx hb hK hP hD hS 17 1 rfl rfl hg88 dX4_solveState_88 (fun H locs hP hD hS => ?_)
        have hP : va_P (dC, dI) vwCl (mc cI cZ ad w_88) H := hP.eqs (by rw [ew_88]; rfl)
        have hD : va_D A (mc cI cZ ad w_88) := hD.eqs (by rw [ew_88]; rfl)
        refine lv_iload_n hx hb dX4_solveState_89 rfl (lv_at hl 3 rfl) ?_
        refine lv_if_ne (tgt := 103) hx hb dX4_solveState_90 (by decide) (fun h90 => ?_) (fun h90 => ?_)
        · have hf := if_f h90 hf
          exact C103 x2 x4 x5 x6 x7_74 w_88 hf _ _ _ hP hD hS (lv_sub hl [1, 2, 4, 5, 6, 0] rfl)
        · have hf := if_t h90 hf
          refine lv_aload_n hx hb dX4_solveState_93 rfl (lv_at hl 1 rfl) ?_
          refine va_get (D := (dC, dI)) (ci := 4) (v := .ref (ad 12)) (C := RX4) (T := TX4) (N := 21) hx hb hts inX4 hown hK hP 0 rfl rfl 13 (by decide) (hts (.fieldLink RX4 48 "BittenBoardsModel" "isWon" "[Z") (by decide +kernel)) (fun _ h9 => h9) rfl dX4_solveState_94 ?_
          refine lv_iload hx hb dX4_solveState_97 (lv_at hl 0 rfl) ?_
          obtain ⟨hg99, hf⟩ := gi_e hf
          refine va_zald (f := (w_88.2 12)) hx hb hK hP 12 1 rfl rfl hg99 dX4_solveState_99 ?_
          refine lv_if_ne (tgt := 107) hx hb dX4_solveState_100 (by decide) (fun h100 => ?_) (fun h100 => ?_)
          · have hf := if_f h100 hf
            refine lv_iconst (v := (0 : Int32)) hx hb dX4_solveState_107 (by decide) ?_
            exact C108 x2 x4 x5 x6 x7_74 (0 : Int32) w_88 hf _ _ _ hP hD hS (lv_sub hl [1, 2, 4, 5, 6, 0] rfl)
          · have hf := if_t h100 hf
            exact C103 x2 x4 x5 x6 x7_74 w_88 hf _ _ _ hP hD hS (lv_sub hl [1, 2, 4, 5, 6, 0] rfl)
  have C47 : ∀ (x2 : Int32) (w : mW), mf_solveState_C47 x2 w = some w0 → ∀ (H : Heap) (locs : List Loc) (ls : Array Slot), va_P (dC, dI) vwCl (mc cI cZ ad w) H → va_D A (mc cI cZ ad w) → va_S A s.heap H locs → lv_has ls 8 [(0, .ref (ad 0)), (2, .int x2)] → W p l e (headSpec wsX4_solveState ({ frames := 4, cells := 0, slots := 0, locals := 94 } : Room)).room s m (List.toArray [Value.ref (ad 0), Value.int a1, Value.int a2]) below meth c H locs 0 0 (MQ below (va_Qv (fun (u : mW) => u = w0) (mB dC dI cI cZ cG ad A) A) (List.toArray [Value.ref (ad 0), Value.int a1, Value.int a2]) s 0 0 A) (F0 m 47 ls []) := by
    intro x2 w hf H locs ls hP hD hS hl
    unfold mf_solveState_C47 at hf
    refine lv_iconst (v := (0 : Int32)) hx hb dX4_solveState_47 (by decide) ?_
    refine lv_istore_n (lv' := [(3, .int (0 : Int32)), (0, .ref (ad 0)), (2, .int x2)]) hx hb dX4_solveState_48 rfl hl (by decide) rfl (fun ls hl => ?_)
    refine lv_iconst (v := (-1 : Int32)) hx hb dX4_solveState_49 (by decide) ?_
    refine lv_istore (lv' := [(4, .int (-1 : Int32)), (3, .int (0 : Int32)), (0, .ref (ad 0)), (2, .int x2)]) hx hb dX4_solveState_50 hl (by decide) rfl (fun ls hl => ?_)
    refine lv_iconst (v := (-1 : Int32)) hx hb dX4_solveState_52 (by decide) ?_
    refine lv_istore (lv' := [(5, .int (-1 : Int32)), (4, .int (-1 : Int32)), (3, .int (0 : Int32)), (0, .ref (ad 0)), (2, .int x2)]) hx hb dX4_solveState_53 hl (by decide) rfl (fun ls hl => ?_)
    refine lv_iconst (v := (0 : Int32)) hx hb dX4_solveState_55 (by decide) ?_
    refine lv_istore (lv' := [(6, .int (0 : Int32)), (5, .int (-1 : Int32)), (4, .int (-1 : Int32)), (3, .int (0 : Int32)), (0, .ref (ad 0)), (2, .int x2)]) hx hb dX4_solveState_56 hl (by decide) rfl (fun ls hl => ?_)
    exact C58 fu x2 (0 : Int32) (-1 : Int32) (-1 : Int32) (0 : Int32) w hf _ _ _ hP hD hS (lv_sub hl [4, 5, 3, 2, 1, 0] rfl)
  have C8 : ∀ (n8 : Nat) (x1 : Int32) (x2 : Int32) (x3 : Int32) (w : mW), mf_solveState_C8 n8 x1 x2 x3 w = some w0 → ∀ (H : Heap) (locs : List Loc) (ls : Array Slot), va_P (dC, dI) vwCl (mc cI cZ ad w) H → va_D A (mc cI cZ ad w) → va_S A s.heap H locs → lv_has ls 8 [(0, .ref (ad 0)), (1, .int x1), (2, .int x2), (3, .int x3)] → W p l e (headSpec wsX4_solveState ({ frames := 4, cells := 0, slots := 0, locals := 94 } : Room)).room s m (List.toArray [Value.ref (ad 0), Value.int a1, Value.int a2]) below meth c H locs 0 0 (MQ below (va_Qv (fun (u : mW) => u = w0) (mB dC dI cI cZ cG ad A) A) (List.toArray [Value.ref (ad 0), Value.int a1, Value.int a2]) s 0 0 A) (F0 m 8 ls []) := by
    intro n8
    induction n8 with
    | zero => intro x1 x2 x3 w hf; cases hf
    | succ n8 ih8 =>
      intro x1 x2 x3 w hf H locs ls hP hD hS hl
      rw [mf_solveState_C8] at hf
      refine lv_iload_n hx hb dX4_solveState_8 rfl (lv_at hl 3 rfl) ?_
      refine lv_bipush (v := (64 : Int32)) hx hb dX4_solveState_9 (by decide) ?_
      refine lv_icmp_ge (tgt := 27) hx hb dX4_solveState_11 (by decide) (fun h11 => ?_) (fun h11 => ?_)
      · have hf := if_t h11 hf
        refine lv_aload_n hx hb dX4_solveState_27 rfl (lv_at hl 0 rfl) ?_
        refine va_get (D := (dC, dI)) (ci := 4) (v := .int (w.1 2)) (C := RX4) (T := TX4) (N := 21) hx hb hts inX4 hown hK hP 0 rfl rfl 18 (by decide) (hts (.fieldLink RX4 74 "BittenBoardsModel" "nextMany" "I") (by decide +kernel)) (fun _ h9 => h9) rfl dX4_solveState_28 ?_
        refine lv_if_ne (tgt := 47) hx hb dX4_solveState_31 (by decide) (fun h31 => ?_) (fun h31 => ?_)
        · have hf := if_f h31 hf
          exact C47 x2 w hf _ _ _ hP hD hS (lv_sub hl [0, 2] rfl)
        · have hf := if_t h31 hf
          refine lv_aload_n hx hb dX4_solveState_34 rfl (lv_at hl 0 rfl) ?_
          refine va_get (D := (dC, dI)) (ci := 4) (v := .ref (ad 2)) (C := RX4) (T := TX4) (N := 21) hx hb hts inX4 hown hK hP 0 rfl rfl 2 (by decide) (hts (.fieldLink RX4 13 "BittenBoardsModel" "rules" "[I") (by decide +kernel)) (fun _ h9 => h9) rfl dX4_solveState_35 ?_
          refine lv_iload_n hx hb dX4_solveState_38 rfl (lv_at hl 1 rfl) ?_
          obtain ⟨hg39, hf⟩ := gi_e hf
          refine va_iald (f := (w.2 2)) hx hb hK hP 2 0 rfl rfl hg39 dX4_solveState_39 ?_
          refine lv_if_ne (tgt := 47) hx hb dX4_solveState_40 (by decide) (fun h40 => ?_) (fun h40 => ?_)
          · have hf := if_f h40 hf
            exact C47 x2 w hf _ _ _ hP hD hS (lv_sub hl [0, 2] rfl)
          · have hf := if_t h40 hf
            refine lv_iconst (v := (1 : Int32)) hx hb dX4_solveState_43 (by decide) ?_
            refine lv_goto (tgt := 48) hx hb dX4_solveState_44 (by decide) ?_
            refine lv_istore_n (lv' := [(3, .int (1 : Int32)), (0, .ref (ad 0)), (1, .int x1), (2, .int x2)]) hx hb dX4_solveState_48 rfl hl (by decide) rfl (fun ls hl => ?_)
            refine lv_iconst (v := (-1 : Int32)) hx hb dX4_solveState_49 (by decide) ?_
            refine lv_istore (lv' := [(4, .int (-1 : Int32)), (3, .int (1 : Int32)), (0, .ref (ad 0)), (1, .int x1), (2, .int x2)]) hx hb dX4_solveState_50 hl (by decide) rfl (fun ls hl => ?_)
            refine lv_iconst (v := (-1 : Int32)) hx hb dX4_solveState_52 (by decide) ?_
            refine lv_istore (lv' := [(5, .int (-1 : Int32)), (4, .int (-1 : Int32)), (3, .int (1 : Int32)), (0, .ref (ad 0)), (1, .int x1), (2, .int x2)]) hx hb dX4_solveState_53 hl (by decide) rfl (fun ls hl => ?_)
            refine lv_iconst (v := (0 : Int32)) hx hb dX4_solveState_55 (by decide) ?_
            refine lv_istore (lv' := [(6, .int (0 : Int32)), (5, .int (-1 : Int32)), (4, .int (-1 : Int32)), (3, .int (1 : Int32)), (0, .ref (ad 0)), (1, .int x1), (2, .int x2)]) hx hb dX4_solveState_56 hl (by decide) rfl (fun ls hl => ?_)
            exact C58 fu x2 (1 : Int32) (-1 : Int32) (-1 : Int32) (0 : Int32) w hf _ _ _ hP hD hS (lv_sub hl [4, 6, 3, 2, 1, 0] rfl)
      · have hf := if_f h11 hf
        refine lv_aload_n hx hb dX4_solveState_14 rfl (lv_at hl 0 rfl) ?_
        refine va_get (D := (dC, dI)) (ci := 4) (v := .ref (ad 17)) (C := RX4) (T := TX4) (N := 21) hx hb hts inX4 hown hK hP 0 rfl rfl 19 (by decide) (hts (.fieldLink RX4 64 "BittenBoardsModel" "seen" "[Z") (by decide +kernel)) (fun _ h9 => h9) rfl dX4_solveState_15 ?_
        refine lv_iload_n hx hb dX4_solveState_18 rfl (lv_at hl 3 rfl) ?_
        refine lv_iconst (v := (0 : Int32)) hx hb dX4_solveState_19 (by decide) ?_
        obtain ⟨hg20, hf⟩ := gi_e hf
        obtain ⟨w_20, ew_20, hf⟩ := nm_x hf
        refine va_zast (f := (w.2 17)) hx hb hK hP hD hS 17 1 rfl rfl hg20 dX4_solveState_20 (fun H locs hP hD hS => ?_)
        have hP : va_P (dC, dI) vwCl (mc cI cZ ad w_20) H := hP.eqs (by rw [ew_20]; rfl)
        have hD : va_D A (mc cI cZ ad w_20) := hD.eqs (by rw [ew_20]; rfl)
        obtain ⟨x3_21, ex3_21, hf⟩ := nm_x hf
        refine lv_iinc (v := x3_21) (lv' := [(3, .int x3_21), (0, .ref (ad 0)), (1, .int x1), (2, .int x2)]) hx hb dX4_solveState_21 hl (k := 3) rfl (by rw [ex3_21]; rfl) (by decide) rfl (fun ls hl => ?_)
        refine lv_goto (tgt := 8) hx hb dX4_solveState_24 (by decide) ?_
        exact ih8 x1 x2 x3_21 w_20 hf _ _ _ hP hD hS (lv_sub hl [1, 2, 3, 0] rfl)
  have hl := lv_entry ([.ref (ad 0), .int a1, .int a2]) (n := 8) (Nat.le_of_ble_eq_true rfl)
  rw [lg_entry_eq]
  generalize (lg_sl ([.ref (ad 0), .int a1, .int a2]) ++ List.replicate (8 - (lg_sl ([.ref (ad 0), .int a1, .int a2])).length) Slot.unset).toArray = ls at hl ⊢
  have hl : lv_has ls 8 [(0, .ref (ad 0)), (1, .int a1), (2, .int a2)] := hl
  unfold mf_solveState at hf
  refine lv_aload_n hx hb dX4_solveState_0 rfl (lv_at hl 0 rfl) ?_
  refine lv_iload_n hx hb dX4_solveState_1 rfl (lv_at hl 1 rfl) ?_
  refine lv_iload_n hx hb dX4_solveState_2 rfl (lv_at hl 2 rfl) ?_
  obtain ⟨w_3, hc3, hf⟩ := bn_e hf
  refine m_callv hD hS hAA (va_runV (As := [.int a1, .int a2]) (rest := []) ⟨hx, hb, hml, hown, hts⟩ (k_mf_findNext l dC dI cI cZ cG ad s.heap.size w a1 a2 w_3 hc3) (cwV 2 hts gX4_solveState_X4_findNext rfl rfl rfl (by decide +kernel) ⟨Nat.le_of_ble_eq_true rfl, Nat.le_of_ble_eq_true rfl⟩) ⟨m_blind, va_recv hK hP (ci := 4) (q0 := 0) rfl rfl, fun U hU hW => m_pre hU hW hK hP hD⟩ rfl rfl hl.1 rfl (lv_room (Nat.le_of_ble_eq_true rfl)) dX4_solveState_3 ⟨Nat.zero_le _, Nat.zero_le _⟩) (fun H locs hP hD hS => ?_)
  refine lv_iconst (v := (0 : Int32)) hx hb dX4_solveState_6 (by decide) ?_
  refine lv_istore_n (lv' := [(3, .int (0 : Int32)), (0, .ref (ad 0)), (1, .int a1), (2, .int a2)]) hx hb dX4_solveState_7 rfl hl (by decide) rfl (fun ls hl => ?_)
  exact C8 fu a1 a2 (0 : Int32) w_3 hf _ _ _ hP hD hS (lv_sub hl [1, 2, 3, 0] rfl)
set_option maxHeartbeats 4000000 in
set_option maxRecDepth 100000 in
theorem k_mf_solve (l : Launch) (dC : Nat → ClassId) (dI : Nat → Nat → Nat) (cI cZ cG : ClassId) (ad : Nat → Nat) (sz : Nat) (w : mW) (a1 : Int32) (w0 : mW) (hf : mf_solve a1 w = some w0) : Met l yX4_solve wsX4_solve ({ frames := 5, cells := 0, slots := 0, locals := 121 } : Room) (va_Pc [.ref (ad 0), .int a1] (mPre dC dI cI cZ cG ad sz w)) (va_Qv (fun (u : mW) => u = w0) (mB dC dI cI cZ cG ad (mA ad sz)) (mA ad sz)) 0 0 (mA ad sz) := by
  refine Met.ofW (cc := cX4_solve) (maxL := 4) (ret := none) (by decide) rfl ?_
  intro p e s m args below meth c s₁ B hml hv
  obtain ⟨rfl, hsz, hP, hK, hD0⟩ := hv
  have hx := B.exec
  have hb := B.bytes
  have hr := B.returns
  have hts := atoms_spec (ws := wsX4_solve) B.pre
  have hown : s.vm.findClass RX4 = some m.cls := findClass_of_methodNamed B.named
  have hlocks := B.notSynchronized
  have inX4 : ∀ w ∈ u_ws RX4 TX4 21, w ∈ wsX4_solve := by decide +kernel
  subst hsz
  have hD : va_D (mA ad s.heap.size) (mc cI cZ ad w) := mD_self hD0
  have hAA : ∀ z q, s.heap.size ≤ z → mA ad z q → mA ad s.heap.size q := mA_mono
  generalize mA ad s.heap.size = A at hD hAA ⊢
  have hS : va_S A s.heap s.heap [] := va_S.rf
  have C16 : ∀ (n16 : Nat) (x1 : Int32) (x2 : Int32) (x3 : Int32) (w : mW), mf_solve_C16 n16 x1 x2 x3 w = some w0 → ∀ (H : Heap) (locs : List Loc) (ls : Array Slot), va_P (dC, dI) vwCl (mc cI cZ ad w) H → va_D A (mc cI cZ ad w) → va_S A s.heap H locs → lv_has ls 4 [(0, .ref (ad 0)), (1, .int x1), (2, .int x2), (3, .int x3)] → W p l e (headSpec wsX4_solve ({ frames := 5, cells := 0, slots := 0, locals := 121 } : Room)).room s m (List.toArray [Value.ref (ad 0), Value.int a1]) below meth c H locs 0 0 (MQ below (va_Qv (fun (u : mW) => u = w0) (mB dC dI cI cZ cG ad A) A) (List.toArray [Value.ref (ad 0), Value.int a1]) s 0 0 A) (F0 m 16 ls []) := by
    intro n16
    induction n16 with
    | zero => intro x1 x2 x3 w hf; cases hf
    | succ n16 ih16 =>
      intro x1 x2 x3 w hf H locs ls hP hD hS hl
      rw [mf_solve_C16] at hf
      refine lv_iload_n hx hb dX4_solve_16 rfl (lv_at hl 3 rfl) ?_
      refine lv_iload_n hx hb dX4_solve_17 rfl (lv_at hl 2 rfl) ?_
      refine lv_icmp_gt (tgt := 33) hx hb dX4_solve_18 (by decide) (fun h18 => ?_) (fun h18 => ?_)
      · have hf := if_t h18 hf
        refine lv_aload_n hx hb dX4_solve_33 rfl (lv_at hl 0 rfl) ?_
        refine lv_iload_n hx hb dX4_solve_34 rfl (lv_at hl 1 rfl) ?_
        obtain ⟨w_35, ew_35, hf⟩ := nm_x hf
        refine va_put (D := (dC, dI)) (ci := 4) (v := .int x1) (ty := .int) (C := RX4) (T := TX4) (N := 21) hx hb hts inX4 tyX4 tyX4_ok nmX4 hown hK hP hD hS 0 rfl rfl 12 (by decide) (hts (.fieldLink RX4 43 "BittenBoardsModel" "solved" "I") (by decide +kernel)) (fun _ h9 => h9) rfl (by decide +kernel) rfl rfl (Nat.le_of_ble_eq_true rfl) dX4_solve_35 (fun H locs hP hD hS => ?_)
        have hP : va_P (dC, dI) vwCl (mc cI cZ ad w_35) H := hP.eqs (by rw [ew_35]; rfl)
        have hD : va_D A (mc cI cZ ad w_35) := hD.eqs (by rw [ew_35]; rfl)
        exact m_vret hx hb hr hlocks hK hP hD hS (so_1 hf) dX4_solve_38
      · have hf := if_f h18 hf
        refine lv_aload_n hx hb dX4_solve_21 rfl (lv_at hl 0 rfl) ?_
        refine lv_iload_n hx hb dX4_solve_22 rfl (lv_at hl 1 rfl) ?_
        refine lv_iload_n hx hb dX4_solve_23 rfl (lv_at hl 3 rfl) ?_
        obtain ⟨w_24, hc24, hf⟩ := bn_e hf
        refine m_callv hD hS hAA (va_runV (As := [.int x1, .int x3]) (rest := []) ⟨hx, hb, hml, hown, hts⟩ (k_mf_solveState l dC dI cI cZ cG ad H.size w x1 x3 w_24 hc24) (cwV 2 hts gX4_solve_X4_solveState rfl rfl rfl (by decide +kernel) ⟨Nat.le_of_ble_eq_true rfl, Nat.le_of_ble_eq_true rfl⟩) ⟨m_blind, va_recv hK hP (ci := 4) (q0 := 0) rfl rfl, fun U hU hW => m_pre hU hW hK hP hD⟩ rfl rfl hl.1 rfl (lv_room (Nat.le_of_ble_eq_true rfl)) dX4_solve_24 ⟨Nat.zero_le _, Nat.zero_le _⟩) (fun H locs hP hD hS => ?_)
        obtain ⟨x3_27, ex3_27, hf⟩ := nm_x hf
        refine lv_iinc (v := x3_27) (lv' := [(3, .int x3_27), (0, .ref (ad 0)), (1, .int x1), (2, .int x2)]) hx hb dX4_solve_27 hl (k := 3) rfl (by rw [ex3_27]; rfl) (by decide) rfl (fun ls hl => ?_)
        refine lv_goto (tgt := 16) hx hb dX4_solve_30 (by decide) ?_
        exact ih16 x1 x2 x3_27 w_24 hf _ _ _ hP hD hS (lv_sub hl [1, 2, 3, 0] rfl)
  have hl := lv_entry ([.ref (ad 0), .int a1]) (n := 4) (Nat.le_of_ble_eq_true rfl)
  rw [lg_entry_eq]
  generalize (lg_sl ([.ref (ad 0), .int a1]) ++ List.replicate (4 - (lg_sl ([.ref (ad 0), .int a1])).length) Slot.unset).toArray = ls at hl ⊢
  have hl : lv_has ls 4 [(0, .ref (ad 0)), (1, .int a1)] := hl
  unfold mf_solve at hf
  refine lv_aload_n hx hb dX4_solve_0 rfl (lv_at hl 0 rfl) ?_
  refine va_get (D := (dC, dI)) (ci := 4) (v := .int (w.1 1)) (C := RX4) (T := TX4) (N := 21) hx hb hts inX4 hown hK hP 0 rfl rfl 12 (by decide) (hts (.fieldLink RX4 43 "BittenBoardsModel" "solved" "I") (by decide +kernel)) (fun _ h9 => h9) rfl dX4_solve_1 ?_
  refine lv_iload_n hx hb dX4_solve_4 rfl (lv_at hl 1 rfl) ?_
  refine lv_icmp_eq (tgt := 38) hx hb dX4_solve_5 (by decide) (fun h5 => ?_) (fun h5 => ?_)
  · have hf := if_t h5 hf
    exact m_vret hx hb hr hlocks hK hP hD hS (so_1 hf) dX4_solve_38
  · have hf := if_f h5 hf
    refine lv_aload_n hx hb dX4_solve_8 rfl (lv_at hl 0 rfl) ?_
    refine lv_iload_n hx hb dX4_solve_9 rfl (lv_at hl 1 rfl) ?_
    obtain ⟨r_10, hc10, hf⟩ := bn_e hf
    refine m_calli hD hS hAA (va_runV (As := [.int a1]) (rest := []) ⟨hx, hb, hml, hown, hts⟩ (k_mf_fullOf l dC dI cI cZ cG ad s.heap.size w a1 r_10 w hc10 rfl) (cwV 1 hts gX4_solve_X4_fullOf rfl rfl rfl (by decide +kernel) ⟨Nat.le_of_ble_eq_true rfl, Nat.le_of_ble_eq_true rfl⟩) ⟨m_blind, va_recv hK hP (ci := 4) (q0 := 0) rfl rfl, fun U hU hW => m_pre hU hW hK hP hD⟩ rfl rfl hl.1 rfl (lv_room (Nat.le_of_ble_eq_true rfl)) dX4_solve_10 ⟨Nat.zero_le _, Nat.zero_le _⟩) (fun H locs hP hD hS => ?_)
    refine lv_istore_n (lv' := [(2, .int r_10), (0, .ref (ad 0)), (1, .int a1)]) hx hb dX4_solve_13 rfl hl (by decide) rfl (fun ls hl => ?_)
    refine lv_iconst (v := (0 : Int32)) hx hb dX4_solve_14 (by decide) ?_
    refine lv_istore_n (lv' := [(3, .int (0 : Int32)), (2, .int r_10), (0, .ref (ad 0)), (1, .int a1)]) hx hb dX4_solve_15 rfl hl (by decide) rfl (fun ls hl => ?_)
    exact C16 fu a1 r_10 (0 : Int32) w hf _ _ _ hP hD hS (lv_sub hl [2, 3, 1, 0] rfl)
set_option maxHeartbeats 4000000 in
set_option maxRecDepth 100000 in
theorem k_mf_fresh (l : Launch) (dC : Nat → ClassId) (dI : Nat → Nat → Nat) (cI cZ cG : ClassId) (ad : Nat → Nat) (sz : Nat) (w : mW) (a1 : Int32) (a2 : Int32) (r0 : Int32) (w0 : mW) (hf : mf_fresh a1 a2 w = some (r0, w0)) : Met l yX4_fresh wsX4_fresh ({ frames := 0, cells := 0, slots := 0, locals := 0 } : Room) (va_Pc [.ref (ad 0), .int a1, .int a2] (mPre dC dI cI cZ cG ad sz w)) (va_Qi (fun (r : Int32) (u : mW) => r = r0 ∧ u = w0) (mB dC dI cI cZ cG ad (mA ad sz)) (mA ad sz)) 0 0 (mA ad sz) := by
  refine Met.ofW (cc := cX4_fresh) (maxL := 4) (ret := (some .int)) (by decide) rfl ?_
  intro p e s m args below meth c s₁ B hml hv
  obtain ⟨rfl, hsz, hP, hK, hD0⟩ := hv
  have hx := B.exec
  have hb := B.bytes
  have hr := B.returns
  have hts := atoms_spec (ws := wsX4_fresh) B.pre
  have hown : s.vm.findClass RX4 = some m.cls := findClass_of_methodNamed B.named
  have hlocks := B.notSynchronized
  have inX4 : ∀ w ∈ u_ws RX4 TX4 21, w ∈ wsX4_fresh := by decide +kernel
  subst hsz
  have hD : va_D (mA ad s.heap.size) (mc cI cZ ad w) := mD_self hD0
  have hAA : ∀ z q, s.heap.size ≤ z → mA ad z q → mA ad s.heap.size q := mA_mono
  generalize mA ad s.heap.size = A at hD hAA ⊢
  have hS : va_S A s.heap s.heap [] := va_S.rf
  have C71 : ∀ (x3 : Int32) (t1 : Int32) (w : mW), mf_fresh_C71 x3 t1 w = some (r0, w0) → ∀ (H : Heap) (locs : List Loc) (ls : Array Slot), va_P (dC, dI) vwCl (mc cI cZ ad w) H → va_D A (mc cI cZ ad w) → va_S A s.heap H locs → lv_has ls 4 [(0, .ref (ad 0)), (3, .int x3)] → W p l e (headSpec wsX4_fresh ({ frames := 0, cells := 0, slots := 0, locals := 0 } : Room)).room s m (List.toArray [Value.ref (ad 0), Value.int a1, Value.int a2]) below meth c H locs 0 0 (MQ below (va_Qi (fun (r : Int32) (u : mW) => r = r0 ∧ u = w0) (mB dC dI cI cZ cG ad A) A) (List.toArray [Value.ref (ad 0), Value.int a1, Value.int a2]) s 0 0 A) (F0 m 71 ls [.int t1, .ref (ad 0)]) := by
    intro x3 t1 w hf H locs ls hP hD hS hl
    unfold mf_fresh_C71 at hf
    obtain ⟨w_71, ew_71, hf⟩ := nm_x hf
    refine va_put (D := (dC, dI)) (ci := 4) (v := .int t1) (ty := .int) (C := RX4) (T := TX4) (N := 21) hx hb hts inX4 tyX4 tyX4_ok nmX4 hown hK hP hD hS 0 rfl rfl 12 (by decide) (hts (.fieldLink RX4 43 "BittenBoardsModel" "solved" "I") (by decide +kernel)) (fun _ h9 => h9) rfl (by decide +kernel) rfl rfl (Nat.le_of_ble_eq_true rfl) dX4_fresh_71 (fun H locs hP hD hS => ?_)
    have hP : va_P (dC, dI) vwCl (mc cI cZ ad w_71) H := hP.eqs (by rw [ew_71]; rfl)
    have hD : va_D A (mc cI cZ ad w_71) := hD.eqs (by rw [ew_71]; rfl)
    refine lv_aload_n hx hb dX4_fresh_74 rfl (lv_at hl 0 rfl) ?_
    refine lv_dup hx hb dX4_fresh_75 rfl ?_
    refine va_get (D := (dC, dI)) (ci := 4) (v := .int (w_71.1 0)) (C := RX4) (T := TX4) (N := 21) hx hb hts inX4 hown hK hP 0 rfl rfl 0 (by decide) (hts (.fieldLink RX4 108 "BittenBoardsModel" "games" "I") (by decide +kernel)) (fun _ h9 => h9) rfl dX4_fresh_76 ?_
    refine lv_iconst (v := (1 : Int32)) hx hb dX4_fresh_79 (by decide) ?_
    refine lv_iadd hx hb dX4_fresh_80 ?_
    obtain ⟨w_81, ew_81, hf⟩ := nm_x hf
    refine va_put (D := (dC, dI)) (ci := 4) (v := .int ((w_71.1 0) + (1 : Int32))) (ty := .int) (C := RX4) (T := TX4) (N := 21) hx hb hts inX4 tyX4 tyX4_ok nmX4 hown hK hP hD hS 0 rfl rfl 0 (by decide) (hts (.fieldLink RX4 108 "BittenBoardsModel" "games" "I") (by decide +kernel)) (fun _ h9 => h9) rfl (by decide +kernel) rfl rfl (Nat.le_of_ble_eq_true rfl) dX4_fresh_81 (fun H locs hP hD hS => ?_)
    have hP : va_P (dC, dI) vwCl (mc cI cZ ad w_81) H := hP.eqs (by rw [ew_81]; rfl)
    have hD : va_D A (mc cI cZ ad w_81) := hD.eqs (by rw [ew_81]; rfl)
    refine lv_iload_n hx hb dX4_fresh_84 rfl (lv_at hl 1 rfl) ?_
    exact m_iret hx hb hr hlocks hK hP hD hS (so_2 hf) dX4_fresh_85
  have hl := lv_entry ([.ref (ad 0), .int a1, .int a2]) (n := 4) (Nat.le_of_ble_eq_true rfl)
  rw [lg_entry_eq]
  generalize (lg_sl ([.ref (ad 0), .int a1, .int a2]) ++ List.replicate (4 - (lg_sl ([.ref (ad 0), .int a1, .int a2])).length) Slot.unset).toArray = ls at hl ⊢
  have hl : lv_has ls 4 [(0, .ref (ad 0)), (1, .int a1), (2, .int a2)] := hl
  unfold mf_fresh at hf
  refine lv_aload_n hx hb dX4_fresh_0 rfl (lv_at hl 0 rfl) ?_
  refine va_get (D := (dC, dI)) (ci := 4) (v := .int (w.1 0)) (C := RX4) (T := TX4) (N := 21) hx hb hts inX4 hown hK hP 0 rfl rfl 0 (by decide) (hts (.fieldLink RX4 108 "BittenBoardsModel" "games" "I") (by decide +kernel)) (fun _ h9 => h9) rfl dX4_fresh_1 ?_
  obtain ⟨x3_4, ex3_4, hf⟩ := nm_x hf
  refine W.eq (g2 := F0 m 4 ls [.int x3_4]) (by rw [ex3_4]) ?_
  refine lv_istore_n (lv' := [(3, .int x3_4), (0, .ref (ad 0)), (1, .int a1), (2, .int a2)]) hx hb dX4_fresh_4 rfl hl (by decide) rfl (fun ls hl => ?_)
  refine lv_aload_n hx hb dX4_fresh_5 rfl (lv_at hl 1 rfl) ?_
  refine va_get (D := (dC, dI)) (ci := 4) (v := .ref (ad 1)) (C := RX4) (T := TX4) (N := 21) hx hb hts inX4 hown hK hP 0 rfl rfl 1 (by decide) (hts (.fieldLink RX4 7 "BittenBoardsModel" "kinds" "[I") (by decide +kernel)) (fun _ h9 => h9) rfl dX4_fresh_6 ?_
  refine lv_iload_n hx hb dX4_fresh_9 rfl (lv_at hl 0 rfl) ?_
  refine lv_iload_n hx hb dX4_fresh_10 rfl (lv_at hl 2 rfl) ?_
  obtain ⟨hg11, hf⟩ := gi_e hf
  obtain ⟨w_11, ew_11, hf⟩ := nm_x hf
  refine va_iast (f := (w.2 1)) hx hb hK hP hD hS 1 0 rfl rfl hg11 dX4_fresh_11 (fun H locs hP hD hS => ?_)
  have hP : va_P (dC, dI) vwCl (mc cI cZ ad w_11) H := hP.eqs (by rw [ew_11]; rfl)
  have hD : va_D A (mc cI cZ ad w_11) := hD.eqs (by rw [ew_11]; rfl)
  refine lv_aload_n hx hb dX4_fresh_12 rfl (lv_at hl 1 rfl) ?_
  refine va_get (D := (dC, dI)) (ci := 4) (v := .ref (ad 2)) (C := RX4) (T := TX4) (N := 21) hx hb hts inX4 hown hK hP 0 rfl rfl 2 (by decide) (hts (.fieldLink RX4 13 "BittenBoardsModel" "rules" "[I") (by decide +kernel)) (fun _ h9 => h9) rfl dX4_fresh_13 ?_
  refine lv_iload_n hx hb dX4_fresh_16 rfl (lv_at hl 0 rfl) ?_
  refine lv_iload_n hx hb dX4_fresh_17 rfl (lv_at hl 3 rfl) ?_
  obtain ⟨hg18, hf⟩ := gi_e hf
  obtain ⟨w_18, ew_18, hf⟩ := nm_x hf
  refine va_iast (f := (w_11.2 2)) hx hb hK hP hD hS 2 0 rfl rfl hg18 dX4_fresh_18 (fun H locs hP hD hS => ?_)
  have hP : va_P (dC, dI) vwCl (mc cI cZ ad w_18) H := hP.eqs (by rw [ew_18]; rfl)
  have hD : va_D A (mc cI cZ ad w_18) := hD.eqs (by rw [ew_18]; rfl)
  refine lv_aload_n hx hb dX4_fresh_19 rfl (lv_at hl 1 rfl) ?_
  refine va_get (D := (dC, dI)) (ci := 4) (v := .ref (ad 3)) (C := RX4) (T := TX4) (N := 21) hx hb hts inX4 hown hK hP 0 rfl rfl 3 (by decide) (hts (.fieldLink RX4 16 "BittenBoardsModel" "states" "[I") (by decide +kernel)) (fun _ h9 => h9) rfl dX4_fresh_20 ?_
  refine lv_iload_n hx hb dX4_fresh_23 rfl (lv_at hl 0 rfl) ?_
  refine lv_iconst (v := (0 : Int32)) hx hb dX4_fresh_24 (by decide) ?_
  obtain ⟨hg25, hf⟩ := gi_e hf
  obtain ⟨w_25, ew_25, hf⟩ := nm_x hf
  refine va_iast (f := (w_18.2 3)) hx hb hK hP hD hS 3 0 rfl rfl hg25 dX4_fresh_25 (fun H locs hP hD hS => ?_)
  have hP : va_P (dC, dI) vwCl (mc cI cZ ad w_25) H := hP.eqs (by rw [ew_25]; rfl)
  have hD : va_D A (mc cI cZ ad w_25) := hD.eqs (by rw [ew_25]; rfl)
  refine lv_aload_n hx hb dX4_fresh_26 rfl (lv_at hl 1 rfl) ?_
  refine va_get (D := (dC, dI)) (ci := 4) (v := .ref (ad 4)) (C := RX4) (T := TX4) (N := 21) hx hb hts inX4 hown hK hP 0 rfl rfl 4 (by decide) (hts (.fieldLink RX4 19 "BittenBoardsModel" "things" "[I") (by decide +kernel)) (fun _ h9 => h9) rfl dX4_fresh_27 ?_
  refine lv_iload_n hx hb dX4_fresh_30 rfl (lv_at hl 0 rfl) ?_
  refine lv_iconst (v := (0 : Int32)) hx hb dX4_fresh_31 (by decide) ?_
  obtain ⟨hg32, hf⟩ := gi_e hf
  obtain ⟨w_32, ew_32, hf⟩ := nm_x hf
  refine va_iast (f := (w_25.2 4)) hx hb hK hP hD hS 4 0 rfl rfl hg32 dX4_fresh_32 (fun H locs hP hD hS => ?_)
  have hP : va_P (dC, dI) vwCl (mc cI cZ ad w_32) H := hP.eqs (by rw [ew_32]; rfl)
  have hD : va_D A (mc cI cZ ad w_32) := hD.eqs (by rw [ew_32]; rfl)
  refine lv_aload_n hx hb dX4_fresh_33 rfl (lv_at hl 1 rfl) ?_
  refine va_get (D := (dC, dI)) (ci := 4) (v := .ref (ad 6)) (C := RX4) (T := TX4) (N := 21) hx hb hts inX4 hown hK hP 0 rfl rfl 6 (by decide) (hts (.fieldLink RX4 25 "BittenBoardsModel" "posts" "[I") (by decide +kernel)) (fun _ h9 => h9) rfl dX4_fresh_34 ?_
  refine lv_iload_n hx hb dX4_fresh_37 rfl (lv_at hl 0 rfl) ?_
  refine lv_iconst (v := (0 : Int32)) hx hb dX4_fresh_38 (by decide) ?_
  obtain ⟨hg39, hf⟩ := gi_e hf
  obtain ⟨w_39, ew_39, hf⟩ := nm_x hf
  refine va_iast (f := (w_32.2 6)) hx hb hK hP hD hS 6 0 rfl rfl hg39 dX4_fresh_39 (fun H locs hP hD hS => ?_)
  have hP : va_P (dC, dI) vwCl (mc cI cZ ad w_39) H := hP.eqs (by rw [ew_39]; rfl)
  have hD : va_D A (mc cI cZ ad w_39) := hD.eqs (by rw [ew_39]; rfl)
  refine lv_aload_n hx hb dX4_fresh_40 rfl (lv_at hl 1 rfl) ?_
  refine va_get (D := (dC, dI)) (ci := 4) (v := .ref (ad 7)) (C := RX4) (T := TX4) (N := 21) hx hb hts inX4 hown hK hP 0 rfl rfl 7 (by decide) (hts (.fieldLink RX4 28 "BittenBoardsModel" "roads" "[I") (by decide +kernel)) (fun _ h9 => h9) rfl dX4_fresh_41 ?_
  refine lv_iload_n hx hb dX4_fresh_44 rfl (lv_at hl 0 rfl) ?_
  refine lv_iconst (v := (0 : Int32)) hx hb dX4_fresh_45 (by decide) ?_
  obtain ⟨hg46, hf⟩ := gi_e hf
  obtain ⟨w_46, ew_46, hf⟩ := nm_x hf
  refine va_iast (f := (w_39.2 7)) hx hb hK hP hD hS 7 0 rfl rfl hg46 dX4_fresh_46 (fun H locs hP hD hS => ?_)
  have hP : va_P (dC, dI) vwCl (mc cI cZ ad w_46) H := hP.eqs (by rw [ew_46]; rfl)
  have hD : va_D A (mc cI cZ ad w_46) := hD.eqs (by rw [ew_46]; rfl)
  refine lv_aload_n hx hb dX4_fresh_47 rfl (lv_at hl 1 rfl) ?_
  refine va_get (D := (dC, dI)) (ci := 4) (v := .ref (ad 9)) (C := RX4) (T := TX4) (N := 21) hx hb hts inX4 hown hK hP 0 rfl rfl 9 (by decide) (hts (.fieldLink RX4 34 "BittenBoardsModel" "notedMany" "[I") (by decide +kernel)) (fun _ h9 => h9) rfl dX4_fresh_48 ?_
  refine lv_iload_n hx hb dX4_fresh_51 rfl (lv_at hl 0 rfl) ?_
  refine lv_iconst (v := (0 : Int32)) hx hb dX4_fresh_52 (by decide) ?_
  obtain ⟨hg53, hf⟩ := gi_e hf
  obtain ⟨w_53, ew_53, hf⟩ := nm_x hf
  refine va_iast (f := (w_46.2 9)) hx hb hK hP hD hS 9 0 rfl rfl hg53 dX4_fresh_53 (fun H locs hP hD hS => ?_)
  have hP : va_P (dC, dI) vwCl (mc cI cZ ad w_53) H := hP.eqs (by rw [ew_53]; rfl)
  have hD : va_D A (mc cI cZ ad w_53) := hD.eqs (by rw [ew_53]; rfl)
  refine lv_aload_n hx hb dX4_fresh_54 rfl (lv_at hl 1 rfl) ?_
  refine lv_aload_n hx hb dX4_fresh_55 rfl (lv_at hl 1 rfl) ?_
  refine va_get (D := (dC, dI)) (ci := 4) (v := .int (w_53.1 1)) (C := RX4) (T := TX4) (N := 21) hx hb hts inX4 hown hK hP 0 rfl rfl 12 (by decide) (hts (.fieldLink RX4 43 "BittenBoardsModel" "solved" "I") (by decide +kernel)) (fun _ h9 => h9) rfl dX4_fresh_56 ?_
  refine lv_iload_n hx hb dX4_fresh_59 rfl (lv_at hl 0 rfl) ?_
  refine lv_icmp_ne (tgt := 67) hx hb dX4_fresh_60 (by decide) (fun h60 => ?_) (fun h60 => ?_)
  · have hf := if_f h60 hf
    refine lv_aload_n hx hb dX4_fresh_67 rfl (lv_at hl 1 rfl) ?_
    refine va_get (D := (dC, dI)) (ci := 4) (v := .int (w_53.1 1)) (C := RX4) (T := TX4) (N := 21) hx hb hts inX4 hown hK hP 0 rfl rfl 12 (by decide) (hts (.fieldLink RX4 43 "BittenBoardsModel" "solved" "I") (by decide +kernel)) (fun _ h9 => h9) rfl dX4_fresh_68 ?_
    exact C71 x3_4 (w_53.1 1) w_53 hf _ _ _ hP hD hS (lv_sub hl [1, 0] rfl)
  · have hf := if_t h60 hf
    refine lv_iconst (v := (-1 : Int32)) hx hb dX4_fresh_63 (by decide) ?_
    refine lv_goto (tgt := 71) hx hb dX4_fresh_64 (by decide) ?_
    exact C71 x3_4 (-1 : Int32) w_53 hf _ _ _ hP hD hS (lv_sub hl [1, 0] rfl)
