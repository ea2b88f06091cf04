set_option maxHeartbeats 4000000 in
set_option maxRecDepth 100000 in
theorem k_mf_in (l : Launch) (dC : Nat → ClassId) (dI : Nat → Nat → Nat) (cI cZ cG : ClassId) (ad : Nat → Nat) (sz : Nat) (w : mW) (a0 : Int64) (a2 : Int64) (a4 : Int64) (r0 : Int32) (w0 : mW) (hf : mf_in a0 a2 a4 = some r0) (hw0 : w = w0) : Met l yX4_in wsX4_in ({ frames := 0, cells := 0, slots := 0, locals := 0 } : Room) (va_Pc [.long a0, .long a2, .long a4] (mPre dC dI cI cZ cG ad sz w)) (va_Qi (fun (r : Int32) (u : mW) => r = r0 ∧ u = w0) (mB dC dI cI cZ cG ad (mA ad sz)) (mA ad sz)) 0 0 (mA ad sz) := by
  refine Met.ofW (cc := cX4_in) (maxL := 6) (ret := (some .boolean)) (by decide) rfl ?_
  intro p e s m args below meth c s₁ B hml hv
  obtain ⟨rfl, hsz, hP, hK, hD0⟩ := hv
  have hx := B.exec
  have hb := B.bytes
  have hr := B.returns
  have hts := atoms_spec (ws := wsX4_in) B.pre
  have hown : s.vm.findClass RX4 = some m.cls := findClass_of_methodNamed B.named
  have hlocks := B.notSynchronized
  subst hsz
  have hD : va_D (mA ad s.heap.size) (mc cI cZ ad w) := mD_self hD0
  have hAA : ∀ z q, s.heap.size ≤ z → mA ad z q → mA ad s.heap.size q := mA_mono
  generalize mA ad s.heap.size = A at hD hAA ⊢
  have hS : va_S A s.heap s.heap [] := va_S.rf
  have hl := lv_entry ([.long a0, .long a2, .long a4]) (n := 6) (Nat.le_of_ble_eq_true rfl)
  rw [lg_entry_eq]
  generalize (lg_sl ([.long a0, .long a2, .long a4]) ++ List.replicate (6 - (lg_sl ([.long a0, .long a2, .long a4])).length) Slot.unset).toArray = ls at hl ⊢
  have hl : lv_has ls 6 [(0, .long a0), (2, .long a2), (4, .long a4)] := hl
  unfold mf_in at hf
  refine lv_lload_n hx hb dX4_in_0 rfl (lv_at hl 0 rfl) ?_
  refine lv_lload_n hx hb dX4_in_1 rfl (lv_at hl 1 rfl) ?_
  refine W.lcmp hx hb dX4_in_2 ?_
  refine lv_if_lt (tgt := 17) hx hb dX4_in_3 (by decide) (fun h3 => ?_) (fun h3 => ?_)
  · have hf := if_t h3 hf
    refine lv_iconst (v := (0 : Int32)) hx hb dX4_in_17 (by decide) ?_
    obtain ⟨hg18, hf⟩ := gd_e hf
    exact m_zret hx hb hr hlocks hg18 hK hP hD hS ⟨so_1 hf, hw0⟩ dX4_in_18
  · have hf := if_f h3 hf
    refine lv_lload_n hx hb dX4_in_6 rfl (lv_at hl 0 rfl) ?_
    refine lv_lload hx hb dX4_in_7 (lv_at hl 2 rfl) ?_
    refine W.lcmp hx hb dX4_in_9 ?_
    refine lv_if_gt (tgt := 17) hx hb dX4_in_10 (by decide) (fun h10 => ?_) (fun h10 => ?_)
    · have hf := if_t h10 hf
      refine lv_iconst (v := (0 : Int32)) hx hb dX4_in_17 (by decide) ?_
      obtain ⟨hg18, hf⟩ := gd_e hf
      exact m_zret hx hb hr hlocks hg18 hK hP hD hS ⟨so_1 hf, hw0⟩ dX4_in_18
    · have hf := if_f h10 hf
      refine lv_iconst (v := (1 : Int32)) hx hb dX4_in_13 (by decide) ?_
      refine lv_goto (tgt := 18) hx hb dX4_in_14 (by decide) ?_
      obtain ⟨hg18, hf⟩ := gd_e hf
      exact m_zret hx hb hr hlocks hg18 hK hP hD hS ⟨so_1 hf, hw0⟩ dX4_in_18
set_option maxHeartbeats 4000000 in
set_option maxRecDepth 100000 in
theorem k_mf_bits (l : Launch) (dC : Nat → ClassId) (dI : Nat → Nat → Nat) (cI cZ cG : ClassId) (ad : Nat → Nat) (sz : Nat) (w : mW) (a0 : Int32) (r0 : Int32) (w0 : mW) (hf : mf_bits a0 = some r0) (hw0 : w = w0) : Met l yX4_bits wsX4_bits ({ frames := 0, cells := 0, slots := 0, locals := 0 } : Room) (va_Pc [.int a0] (mPre dC dI cI cZ cG ad sz w)) (va_Qi (fun (r : Int32) (u : mW) => r = r0 ∧ u = w0) (mB dC dI cI cZ cG ad (mA ad sz)) (mA ad sz)) 0 0 (mA ad sz) := by
  refine Met.ofW (cc := cX4_bits) (maxL := 3) (ret := (some .int)) (by decide) rfl ?_
  intro p e s m args below meth c s₁ B hml hv
  obtain ⟨rfl, hsz, hP, hK, hD0⟩ := hv
  have hx := B.exec
  have hb := B.bytes
  have hr := B.returns
  have hts := atoms_spec (ws := wsX4_bits) B.pre
  have hown : s.vm.findClass RX4 = some m.cls := findClass_of_methodNamed B.named
  have hlocks := B.notSynchronized
  subst hsz
  have hD : va_D (mA ad s.heap.size) (mc cI cZ ad w) := mD_self hD0
  have hAA : ∀ z q, s.heap.size ≤ z → mA ad z q → mA ad s.heap.size q := mA_mono
  generalize mA ad s.heap.size = A at hD hAA ⊢
  have hS : va_S A s.heap s.heap [] := va_S.rf
  have C4 : ∀ (n : Nat) (x0 : Int32) (x1 : Int32) (x2 : Int32), mf_bits_C4 n x0 x1 x2 = some r0 → ∀ (H : Heap) (locs : List Loc) (ls : Array Slot), va_P (dC, dI) vwCl (mc cI cZ ad w) H → va_D A (mc cI cZ ad w) → va_S A s.heap H locs → lv_has ls 3 [(0, .int x0), (1, .int x1), (2, .int x2)] → W p l e (headSpec wsX4_bits ({ frames := 0, cells := 0, slots := 0, locals := 0 } : Room)).room s m (List.toArray [Value.int a0]) below meth c H locs 0 0 (MQ below (va_Qi (fun (r : Int32) (u : mW) => r = r0 ∧ u = w0) (mB dC dI cI cZ cG ad A) A) (List.toArray [Value.int a0]) s 0 0 A) (F0 m 4 ls []) := by
    intro n
    induction n with
    | zero => intro x0 x1 x2 hf; cases hf
    | succ n ih =>
      have ih4 := ih
      intro x0 x1 x2 hf H locs ls hP hD hS hl
      rw [mf_bits_C4] at hf
      refine lv_iload_n hx hb dX4_bits_4 rfl (lv_at hl 2 rfl) ?_
      refine lv_bipush (v := (16 : Int32)) hx hb dX4_bits_5 (by decide) ?_
      refine lv_icmp_ge (tgt := 24) hx hb dX4_bits_7 (by decide) (fun h7 => ?_) (fun h7 => ?_)
      · have hf := if_t h7 hf
        refine lv_iload_n hx hb dX4_bits_24 rfl (lv_at hl 1 rfl) ?_
        exact m_iret hx hb hr hlocks hK hP hD hS ⟨so_1 hf, hw0⟩ dX4_bits_25
      · have hf := if_f h7 hf
        refine lv_iload_n hx hb dX4_bits_10 rfl (lv_at hl 1 rfl) ?_
        refine lv_iload_n hx hb dX4_bits_11 rfl (lv_at hl 0 rfl) ?_
        refine lv_iload_n hx hb dX4_bits_12 rfl (lv_at hl 2 rfl) ?_
        refine lv_ishr hx hb dX4_bits_13 ?_
        refine lv_iconst (v := (1 : Int32)) hx hb dX4_bits_14 (by decide) ?_
        refine lv_iand hx hb dX4_bits_15 ?_
        refine lv_iadd hx hb dX4_bits_16 ?_
        obtain ⟨x1_17, ex1_17, hf⟩ := nm_x hf
        refine W.eq (g2 := F0 m 17 ls [.int x1_17]) (by rw [ex1_17]) ?_
        refine lv_istore_n (lv' := [(1, .int x1_17), (0, .int x0), (2, .int x2)]) hx hb dX4_bits_17 rfl hl (by decide) rfl (fun ls hl => ?_)
        obtain ⟨x2_18, ex2_18, hf⟩ := nm_x hf
        refine lv_iinc (v := x2_18) (lv' := [(2, .int x2_18), (1, .int x1_17), (0, .int x0)]) hx hb dX4_bits_18 hl (k := 2) rfl (by rw [ex2_18]; rfl) (by decide) rfl (fun ls hl => ?_)
        refine lv_goto (tgt := 4) hx hb dX4_bits_21 (by decide) ?_
        exact ih x0 x1_17 x2_18 hf _ _ _ hP hD hS (lv_sub hl [2, 1, 0] rfl)
  have hl := lv_entry ([.int a0]) (n := 3) (Nat.le_of_ble_eq_true rfl)
  rw [lg_entry_eq]
  generalize (lg_sl ([.int a0]) ++ List.replicate (3 - (lg_sl ([.int a0])).length) Slot.unset).toArray = ls at hl ⊢
  have hl : lv_has ls 3 [(0, .int a0)] := hl
  unfold mf_bits at hf
  refine lv_iconst (v := (0 : Int32)) hx hb dX4_bits_0 (by decide) ?_
  refine lv_istore_n (lv' := [(1, .int (0 : Int32)), (0, .int a0)]) hx hb dX4_bits_1 rfl hl (by decide) rfl (fun ls hl => ?_)
  refine lv_iconst (v := (0 : Int32)) hx hb dX4_bits_2 (by decide) ?_
  refine lv_istore_n (lv' := [(2, .int (0 : Int32)), (1, .int (0 : Int32)), (0, .int a0)]) hx hb dX4_bits_3 rfl hl (by decide) rfl (fun ls hl => ?_)
  exact C4 fu a0 (0 : Int32) (0 : Int32) hf _ _ _ hP hD hS (lv_sub hl [2, 1, 0] rfl)
set_option maxHeartbeats 4000000 in
set_option maxRecDepth 100000 in
theorem k_mf_rowsOf (l : Launch) (dC : Nat → ClassId) (dI : Nat → Nat → Nat) (cI cZ cG : ClassId) (ad : Nat → Nat) (sz : Nat) (w : mW) (a0 : Int32) (a1 : Int32) (r0 : Int32) (w0 : mW) (hf : mf_rowsOf a0 a1 = some r0) (hw0 : w = w0) : Met l yX4_rowsOf wsX4_rowsOf ({ frames := 0, cells := 0, slots := 0, locals := 0 } : Room) (va_Pc [.int a0, .int a1] (mPre dC dI cI cZ cG ad sz w)) (va_Qi (fun (r : Int32) (u : mW) => r = r0 ∧ u = w0) (mB dC dI cI cZ cG ad (mA ad sz)) (mA ad sz)) 0 0 (mA ad sz) := by
  refine Met.ofW (cc := cX4_rowsOf) (maxL := 4) (ret := (some .int)) (by decide) rfl ?_
  intro p e s m args below meth c s₁ B hml hv
  obtain ⟨rfl, hsz, hP, hK, hD0⟩ := hv
  have hx := B.exec
  have hb := B.bytes
  have hr := B.returns
  have hts := atoms_spec (ws := wsX4_rowsOf) B.pre
  have hown : s.vm.findClass RX4 = some m.cls := findClass_of_methodNamed B.named
  have hlocks := B.notSynchronized
  subst hsz
  have hD : va_D (mA ad s.heap.size) (mc cI cZ ad w) := mD_self hD0
  have hAA : ∀ z q, s.heap.size ≤ z → mA ad z q → mA ad s.heap.size q := mA_mono
  generalize mA ad s.heap.size = A at hD hAA ⊢
  have hS : va_S A s.heap s.heap [] := va_S.rf
  have C4 : ∀ (n : Nat) (x0 : Int32) (x1 : Int32) (x2 : Int32) (x3 : Int32), mf_rowsOf_C4 n x0 x1 x2 x3 = some r0 → ∀ (H : Heap) (locs : List Loc) (ls : Array Slot), va_P (dC, dI) vwCl (mc cI cZ ad w) H → va_D A (mc cI cZ ad w) → va_S A s.heap H locs → lv_has ls 4 [(0, .int x0), (1, .int x1), (2, .int x2), (3, .int x3)] → W p l e (headSpec wsX4_rowsOf ({ frames := 0, cells := 0, slots := 0, locals := 0 } : Room)).room s m (List.toArray [Value.int a0, Value.int a1]) below meth c H locs 0 0 (MQ below (va_Qi (fun (r : Int32) (u : mW) => r = r0 ∧ u = w0) (mB dC dI cI cZ cG ad A) A) (List.toArray [Value.int a0, Value.int a1]) s 0 0 A) (F0 m 4 ls []) := by
    intro n
    induction n with
    | zero => intro x0 x1 x2 x3 hf; cases hf
    | succ n ih =>
      have ih4 := ih
      intro x0 x1 x2 x3 hf H locs ls hP hD hS hl
      rw [mf_rowsOf_C4] at hf
      refine lv_iload_n hx hb dX4_rowsOf_4 rfl (lv_at hl 3 rfl) ?_
      refine lv_iload_n hx hb dX4_rowsOf_5 rfl (lv_at hl 0 rfl) ?_
      refine lv_icmp_gt (tgt := 23) hx hb dX4_rowsOf_6 (by decide) (fun h6 => ?_) (fun h6 => ?_)
      · have hf := if_t h6 hf
        refine lv_iload_n hx hb dX4_rowsOf_23 rfl (lv_at hl 2 rfl) ?_
        exact m_iret hx hb hr hlocks hK hP hD hS ⟨so_1 hf, hw0⟩ dX4_rowsOf_24
      · have hf := if_f h6 hf
        refine lv_iload_n hx hb dX4_rowsOf_9 rfl (lv_at hl 2 rfl) ?_
        refine lv_iload_n hx hb dX4_rowsOf_10 rfl (lv_at hl 1 rfl) ?_
        refine lv_iload_n hx hb dX4_rowsOf_11 rfl (lv_at hl 3 rfl) ?_
        refine lv_iadd hx hb dX4_rowsOf_12 ?_
        refine lv_imul hx hb dX4_rowsOf_13 ?_
        refine lv_iload_n hx hb dX4_rowsOf_14 rfl (lv_at hl 3 rfl) ?_
        obtain ⟨hg15, hf⟩ := gd_e hf
        refine lv_idiv hx hb dX4_rowsOf_15 hg15 ?_
        obtain ⟨x2_16, ex2_16, hf⟩ := nm_x hf
        refine W.eq (g2 := F0 m 16 ls [.int x2_16]) (by rw [ex2_16]) ?_
        refine lv_istore_n (lv' := [(2, .int x2_16), (0, .int x0), (1, .int x1), (3, .int x3)]) hx hb dX4_rowsOf_16 rfl hl (by decide) rfl (fun ls hl => ?_)
        obtain ⟨x3_17, ex3_17, hf⟩ := nm_x hf
        refine lv_iinc (v := x3_17) (lv' := [(3, .int x3_17), (2, .int x2_16), (0, .int x0), (1, .int x1)]) hx hb dX4_rowsOf_17 hl (k := 3) rfl (by rw [ex3_17]; rfl) (by decide) rfl (fun ls hl => ?_)
        refine lv_goto (tgt := 4) hx hb dX4_rowsOf_20 (by decide) ?_
        exact ih x0 x1 x2_16 x3_17 hf _ _ _ hP hD hS (lv_sub hl [2, 3, 1, 0] rfl)
  have hl := lv_entry ([.int a0, .int a1]) (n := 4) (Nat.le_of_ble_eq_true rfl)
  rw [lg_entry_eq]
  generalize (lg_sl ([.int a0, .int a1]) ++ List.replicate (4 - (lg_sl ([.int a0, .int a1])).length) Slot.unset).toArray = ls at hl ⊢
  have hl : lv_has ls 4 [(0, .int a0), (1, .int a1)] := hl
  unfold mf_rowsOf at hf
  refine lv_iconst (v := (1 : Int32)) hx hb dX4_rowsOf_0 (by decide) ?_
  refine lv_istore_n (lv' := [(2, .int (1 : Int32)), (0, .int a0), (1, .int a1)]) hx hb dX4_rowsOf_1 rfl hl (by decide) rfl (fun ls hl => ?_)
  refine lv_iconst (v := (1 : Int32)) hx hb dX4_rowsOf_2 (by decide) ?_
  refine lv_istore_n (lv' := [(3, .int (1 : Int32)), (2, .int (1 : Int32)), (0, .int a0), (1, .int a1)]) hx hb dX4_rowsOf_3 rfl hl (by decide) rfl (fun ls hl => ?_)
  exact C4 fu a0 a1 (1 : Int32) (1 : Int32) hf _ _ _ hP hD hS (lv_sub hl [2, 3, 1, 0] rfl)
set_option maxHeartbeats 4000000 in
set_option maxRecDepth 100000 in
theorem k_mf_rankOf (l : Launch) (dC : Nat → ClassId) (dI : Nat → Nat → Nat) (cI cZ cG : ClassId) (ad : Nat → Nat) (sz : Nat) (w : mW) (r0 : Int32) (w0 : mW) (hf : mf_rankOf w = some r0) (hw0 : w = w0) : Met l yX4_rankOf wsX4_rankOf ({ frames := 1, cells := 0, slots := 0, locals := 23 } : Room) (va_Pc [.ref (ad 0)] (mPre dC dI cI cZ cG ad sz w)) (va_Qi (fun (r : Int32) (u : mW) => r = r0 ∧ u = w0) (mB dC dI cI cZ cG ad (mA ad sz)) (mA ad sz)) 0 0 (mA ad sz) := by
  refine Met.ofW (cc := cX4_rankOf) (maxL := 4) (ret := (some .int)) (by decide) rfl ?_
  intro p e s m args below meth c s₁ B hml hv
  obtain ⟨rfl, hsz, hP, hK, hD0⟩ := hv
  have hx := B.exec
  have hb := B.bytes
  have hr := B.returns
  have hts := atoms_spec (ws := wsX4_rankOf) B.pre
  have hown : s.vm.findClass RX4 = some m.cls := findClass_of_methodNamed B.named
  have hlocks := B.notSynchronized
  have inX4 : ∀ w ∈ u_ws RX4 TX4 21, w ∈ wsX4_rankOf := by decide +kernel
  subst hsz
  have hD : va_D (mA ad s.heap.size) (mc cI cZ ad w) := mD_self hD0
  have hAA : ∀ z q, s.heap.size ≤ z → mA ad z q → mA ad s.heap.size q := mA_mono
  generalize mA ad s.heap.size = A at hD hAA ⊢
  have hS : va_S A s.heap s.heap [] := va_S.rf
  have C4 : ∀ (n : Nat) (x1 : Int32) (x2 : Int32), mf_rankOf_C4 w n x1 x2 = some r0 → ∀ (H : Heap) (locs : List Loc) (ls : Array Slot), va_P (dC, dI) vwCl (mc cI cZ ad w) H → va_D A (mc cI cZ ad w) → va_S A s.heap H locs → lv_has ls 4 [(0, .ref (ad 0)), (1, .int x1), (2, .int x2)] → W p l e (headSpec wsX4_rankOf ({ frames := 1, cells := 0, slots := 0, locals := 23 } : Room)).room s m (List.toArray [Value.ref (ad 0)]) below meth c H locs 0 0 (MQ below (va_Qi (fun (r : Int32) (u : mW) => r = r0 ∧ u = w0) (mB dC dI cI cZ cG ad A) A) (List.toArray [Value.ref (ad 0)]) s 0 0 A) (F0 m 4 ls []) := by
    intro n
    induction n with
    | zero => intro x1 x2 hf; cases hf
    | succ n ih =>
      have ih4 := ih
      have C12 : ∀ (n : Nat) (x1 : Int32) (x2 : Int32) (x3 : Int32), mf_rankOf_C12 w (mf_rankOf_C4 w n) n x1 x2 x3 = some r0 → ∀ (H : Heap) (locs : List Loc) (ls : Array Slot), va_P (dC, dI) vwCl (mc cI cZ ad w) H → va_D A (mc cI cZ ad w) → va_S A s.heap H locs → lv_has ls 4 [(0, .ref (ad 0)), (1, .int x1), (2, .int x2), (3, .int x3)] → W p l e (headSpec wsX4_rankOf ({ frames := 1, cells := 0, slots := 0, locals := 23 } : Room)).room s m (List.toArray [Value.ref (ad 0)]) below meth c H locs 0 0 (MQ below (va_Qi (fun (r : Int32) (u : mW) => r = r0 ∧ u = w0) (mB dC dI cI cZ cG ad A) A) (List.toArray [Value.ref (ad 0)]) s 0 0 A) (F0 m 12 ls []) := by
        intro n
        induction n with
        | zero => intro x1 x2 x3 hf; cases hf
        | succ n ih =>
          have ih12 := ih
          intro x1 x2 x3 hf H locs ls hP hD hS hl
          rw [mf_rankOf_C12] at hf
          refine lv_iload_n hx hb dX4_rankOf_12 rfl (lv_at hl 3 rfl) ?_
          refine lv_aload_n hx hb dX4_rankOf_13 rfl (lv_at hl 0 rfl) ?_
          refine va_get (D := (dC, dI)) (ci := 4) (v := .ref (ad 15)) (C := RX4) (T := TX4) (N := 21) hx hb hts inX4 hown hK hP 0 rfl rfl 16 (by decide) (hts (.fieldLink RX4 58 "BittenBoardsModel" "board" "[I") (by decide +kernel)) (fun _ h9 => h9) rfl dX4_rankOf_14 ?_
          refine lv_iload_n hx hb dX4_rankOf_17 rfl (lv_at hl 2 rfl) ?_
          obtain ⟨hg18, hf⟩ := gd_e hf
          refine va_iald (f := (w.2 15)) hx hb hK hP 15 0 rfl rfl hg18 dX4_rankOf_18 ?_
          refine lv_icmp_ge (tgt := 39) hx hb dX4_rankOf_19 (by decide) (fun h19 => ?_) (fun h19 => ?_)
          · have hf := if_t h19 hf
            obtain ⟨x2_39, ex2_39, hf⟩ := nm_x hf
            refine lv_iinc (v := x2_39) (lv' := [(2, .int x2_39), (0, .ref (ad 0)), (1, .int x1), (3, .int x3)]) hx hb dX4_rankOf_39 hl (k := 2) rfl (by rw [ex2_39]; rfl) (by decide) rfl (fun ls hl => ?_)
            refine lv_goto (tgt := 4) hx hb dX4_rankOf_42 (by decide) ?_
            exact ih4 x1 x2_39 hf _ _ _ hP hD hS (lv_sub hl [1, 2, 0] rfl)
          · have hf := if_f h19 hf
            refine lv_iload_n hx hb dX4_rankOf_22 rfl (lv_at hl 1 rfl) ?_
            refine lv_bipush (v := (6 : Int32)) hx hb dX4_rankOf_23 (by decide) ?_
            refine lv_iload_n hx hb dX4_rankOf_25 rfl (lv_at hl 2 rfl) ?_
            refine lv_isub hx hb dX4_rankOf_26 ?_
            refine lv_iload_n hx hb dX4_rankOf_27 rfl (lv_at hl 3 rfl) ?_
            obtain ⟨r_28, hc28, hf⟩ := bn_e hf
            refine m_calli hD hS hAA (va_runS (As := [.int ((6 : Int32) - x2), .int x3]) (rest := [.int x1]) ⟨hx, hb, hml, hown, hts⟩ (k_mf_rowsOf l dC dI cI cZ cG ad H.size w ((6 : Int32) - x2) x3 r_28 w hc28 rfl) (va_cwS 2 hts gX4_rankOf_X4_rowsOf rfl rfl rfl (by decide +kernel) ⟨Nat.le_of_ble_eq_true rfl, Nat.le_of_ble_eq_true rfl⟩) ⟨m_blind, fun U hU hW => m_pre hU hW hK hP hD⟩ rfl rfl hl.1 rfl (lv_room (Nat.le_of_ble_eq_true rfl)) dX4_rankOf_28 ⟨Nat.zero_le _, Nat.zero_le _⟩) (fun H locs hP hD hS => ?_)
            refine lv_iadd hx hb dX4_rankOf_31 ?_
            obtain ⟨x1_32, ex1_32, hf⟩ := nm_x hf
            refine W.eq (g2 := F0 m 32 ls [.int x1_32]) (by rw [ex1_32]) ?_
            refine lv_istore_n (lv' := [(1, .int x1_32), (0, .ref (ad 0)), (2, .int x2), (3, .int x3)]) hx hb dX4_rankOf_32 rfl hl (by decide) rfl (fun ls hl => ?_)
            obtain ⟨x3_33, ex3_33, hf⟩ := nm_x hf
            refine lv_iinc (v := x3_33) (lv' := [(3, .int x3_33), (1, .int x1_32), (0, .ref (ad 0)), (2, .int x2)]) hx hb dX4_rankOf_33 hl (k := 3) rfl (by rw [ex3_33]; rfl) (by decide) rfl (fun ls hl => ?_)
            refine lv_goto (tgt := 12) hx hb dX4_rankOf_36 (by decide) ?_
            exact ih x1_32 x2 x3_33 hf _ _ _ hP hD hS (lv_sub hl [2, 1, 3, 0] rfl)
      intro x1 x2 hf H locs ls hP hD hS hl
      rw [mf_rankOf_C4] at hf
      refine lv_iload_n hx hb dX4_rankOf_4 rfl (lv_at hl 2 rfl) ?_
      refine lv_bipush (v := (7 : Int32)) hx hb dX4_rankOf_5 (by decide) ?_
      refine lv_icmp_ge (tgt := 45) hx hb dX4_rankOf_7 (by decide) (fun h7 => ?_) (fun h7 => ?_)
      · have hf := if_t h7 hf
        refine lv_iload_n hx hb dX4_rankOf_45 rfl (lv_at hl 1 rfl) ?_
        exact m_iret hx hb hr hlocks hK hP hD hS ⟨so_1 hf, hw0⟩ dX4_rankOf_46
      · have hf := if_f h7 hf
        refine lv_iconst (v := (0 : Int32)) hx hb dX4_rankOf_10 (by decide) ?_
        refine lv_istore_n (lv' := [(3, .int (0 : Int32)), (0, .ref (ad 0)), (1, .int x1), (2, .int x2)]) hx hb dX4_rankOf_11 rfl hl (by decide) rfl (fun ls hl => ?_)
        exact C12 fu x1 x2 (0 : Int32) hf _ _ _ hP hD hS (lv_sub hl [1, 2, 3, 0] rfl)
  have hl := lv_entry ([.ref (ad 0)]) (n := 4) (Nat.le_of_ble_eq_true rfl)
  rw [lg_entry_eq]
  generalize (lg_sl ([.ref (ad 0)]) ++ List.replicate (4 - (lg_sl ([.ref (ad 0)])).length) Slot.unset).toArray = ls at hl ⊢
  have hl : lv_has ls 4 [(0, .ref (ad 0))] := hl
  unfold mf_rankOf at hf
  refine lv_iconst (v := (0 : Int32)) hx hb dX4_rankOf_0 (by decide) ?_
  refine lv_istore_n (lv' := [(1, .int (0 : Int32)), (0, .ref (ad 0))]) hx hb dX4_rankOf_1 rfl hl (by decide) rfl (fun ls hl => ?_)
  refine lv_iconst (v := (0 : Int32)) hx hb dX4_rankOf_2 (by decide) ?_
  refine lv_istore_n (lv' := [(2, .int (0 : Int32)), (1, .int (0 : Int32)), (0, .ref (ad 0))]) hx hb dX4_rankOf_3 rfl hl (by decide) rfl (fun ls hl => ?_)
  exact C4 fu (0 : Int32) (0 : Int32) hf _ _ _ hP hD hS (lv_sub hl [2, 1, 0] rfl)
