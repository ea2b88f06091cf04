/-! ===== constructors: new rows whose classes are known already; one blindness for all ===== -/
theorem arrV_ext {cA : ClassId} {N : Nat} {f g : Nat → Value} (h : ∀ j, j < N → f j = g j) : arrV cA N f = arrV cA N g :=
  congrArg (fun z => ({ cls := cA, slots := Array.ofFn (n := N) z, vm := .none } : Cell)) (funext fun (j : Fin N) => h j.val j.isLt)
theorem va_P.arrq {D : va_G} {cl : List vw_C} {ws : va_W} {H : Heap} (h : va_P D cl ws H) {q0 a : Nat} {cA : ClassId} {n : Nat} {f f' : Nat → Option Nat} (ha : ws[q0]? = some (a, .inl (cA, n, .inr (.inr (.inr (.inr f)))))) (hf : ∀ j, j < n → f j = f' j) : va_P D cl (ws.set q0 (a, .inl (cA, n, .inr (.inr (.inr (.inr f')))))) H := by
  intro k q hk
  by_cases e : k = q0
  · subst e
    have hl : k < ws.length := (List.getElem?_eq_some_iff.mp ha).1
    rw [List.getElem?_set_self hl] at hk
    cases hk
    have h2 : H[a]? = some (vp_cell cA (n, .inr (.inr (.inr (.inr f))))) := h k _ ha
    show H[a]? = some (vp_cell cA (n, .inr (.inr (.inr (.inr f')))))
    rw [h2, vp_cell_q, vp_cell_q]
    exact congrArg some (arrV_ext fun j hj => congrArg va_rf (hf j hj))
  · rw [List.getElem?_set_ne (Ne.symm e)] at hk
    exact h k q hk
theorem c_blind {dC : Nat → ClassId} {dI : Nat → Nat → Nat} {cI cZ cG : ClassId} {sz : Nat} {ws : va_W} {B : Nat → Prop} {av : List Value} : FrameBlind (va_Pc av (fun U => U.heap.size = sz ∧ va_P (dC, dI) vwCl ws U.heap ∧ KK dC dI cI cZ cG U ∧ va_D B ws)) := fun a U g mk q => by
  obtain ⟨q0, q1, qP, qK, qD⟩ := q
  exact ⟨q0, q1, qP, va_K.moved (u := U) (U := U.calling g mk a) (Vm.Alike.refl U.vm) qK, qD⟩
section CST
variable {p : Program} {l : Launch} {e : Env} {R : Room} {s : State} {m : MethodId} {args : Array Value} {below : List Frame} {meth : Method} {c : Code} {H H0 : Heap} {locs : List Loc} {cells slots : Nat} {Q : State → Prop}
variable {pc : Nat} {ls : Array Slot} {rest : List Value} {A : Nat → Prop} {dC : Nat → ClassId} {dI : Nat → Nat → Nat} {cI cZ cG : ClassId} {ws : va_W} {cc : ByteArray}
theorem na_I (hx : p.tables.exec = Jvm.exec) (hb : c.code = cc) (harr : (Cond.arrayClass .int).before args s = true) (hK : KK dC dI cI cZ cG s) (hP : va_P (dC, dI) vwCl ws H) (hD : va_D A ws) (hS : va_S A H0 H locs) (hA : ∀ q, H0.size ≤ q → A q)
    {n : Int32} {N : Nat} (hn : ¬ n < 0) (hN : n.toNatClampNeg = N) (hbytes : N * componentBytes .int ≤ 536870912) (hcells : cells + 1 ≤ R.cells) (hslots : slots + N ≤ R.slots) (hdg : decode cc pc = .ok (.newarray .int, 2))
    (kk : ∀ (q : Nat) (H1 : Heap), va_P (dC, dI) vwCl (ws ++ [(q, .inl (cI, N, .inl (fun _ => 0)))]) H1 → va_D A (ws ++ [(q, .inl (cI, N, .inl (fun _ => 0)))]) → va_S A H0 H1 locs → W p l e R s m args below meth c H1 locs (cells + 1) (slots + N) Q (F0 m (pc + 2) ls (.ref q :: rest))) : W p l e R s m args below meth c H locs cells slots Q (F0 m pc ls (.int n :: rest)) :=
  va_newa (atype := .int) (a0 := (N, .inl (fun _ => 0))) hx hb harr rfl hK hP hD hS hA (fun cA => rfl) hn hN hbytes hcells hslots hdg (fun q cA H1 hK1 hP1 hD1 hS1 => by
    have h1 : s.vm.findClass ("[" ++ (FieldType.int).toString) = some cA := (hK1.2 3 (cA, .int) rfl).2
    have h2 : s.vm.findClass ("[" ++ (FieldType.int).toString) = some cI := (hK.2 0 (cI, .int) rfl).2
    have h3 : cA = cI := Option.some.inj (h1.symm.trans h2)
    rw [h3] at hP1 hD1
    exact kk q H1 hP1 hD1 hS1)
theorem na_Z (hx : p.tables.exec = Jvm.exec) (hb : c.code = cc) (harr : (Cond.arrayClass .boolean).before args s = true) (hK : KK dC dI cI cZ cG s) (hP : va_P (dC, dI) vwCl ws H) (hD : va_D A ws) (hS : va_S A H0 H locs) (hA : ∀ q, H0.size ≤ q → A q)
    {n : Int32} {N : Nat} (hn : ¬ n < 0) (hN : n.toNatClampNeg = N) (hbytes : N * componentBytes .boolean ≤ 536870912) (hcells : cells + 1 ≤ R.cells) (hslots : slots + N ≤ R.slots) (hdg : decode cc pc = .ok (.newarray .boolean, 2))
    (kk : ∀ (q : Nat) (H1 : Heap), va_P (dC, dI) vwCl (ws ++ [(q, .inl (cZ, N, .inl (fun _ => 0)))]) H1 → va_D A (ws ++ [(q, .inl (cZ, N, .inl (fun _ => 0)))]) → va_S A H0 H1 locs → W p l e R s m args below meth c H1 locs (cells + 1) (slots + N) Q (F0 m (pc + 2) ls (.ref q :: rest))) : W p l e R s m args below meth c H locs cells slots Q (F0 m pc ls (.int n :: rest)) :=
  va_newa (atype := .boolean) (a0 := (N, .inl (fun _ => 0))) hx hb harr rfl hK hP hD hS hA (fun cA => rfl) hn hN hbytes hcells hslots hdg (fun q cA H1 hK1 hP1 hD1 hS1 => by
    have h1 : s.vm.findClass ("[" ++ (FieldType.boolean).toString) = some cA := (hK1.2 3 (cA, .boolean) rfl).2
    have h2 : s.vm.findClass ("[" ++ (FieldType.boolean).toString) = some cZ := (hK.2 1 (cZ, .boolean) rfl).2
    have h3 : cA = cZ := Option.some.inj (h1.symm.trans h2)
    rw [h3] at hP1 hD1
    exact kk q H1 hP1 hD1 hS1)
theorem na_G (hx : p.tables.exec = Jvm.exec) (hb : c.code = cc) {own : String} {index : Nat} (hown : s.vm.findClass own = some m.cls) (hclink : (Cond.classLink own index "BittenBoards$Game").before args s = true) (hover : va_AO "BittenBoards$Game" s) (hK : KK dC dI cI cZ cG s) (hP : va_P (dC, dI) vwCl ws H) (hD : va_D A ws) (hS : va_S A H0 H locs) (hA : ∀ q, H0.size ≤ q → A q)
    {n : Int32} {N : Nat} (hn : ¬ n < 0) (hN : n.toNatClampNeg = N) (hbytes : N * 4 ≤ 536870912) (hcells : cells + 1 ≤ R.cells) (hslots : slots + N ≤ R.slots) (hdg : decode cc pc = .ok (.anewarray index, 3))
    (kk : ∀ (q : Nat) (H1 : Heap), va_P (dC, dI) vwCl (ws ++ [(q, .inl (cG, N, .inr (.inr (.inr (.inr (fun _ => none))))))]) H1 → va_D A (ws ++ [(q, .inl (cG, N, .inr (.inr (.inr (.inr (fun _ => none))))))]) → va_S A H0 H1 locs → W p l e R s m args below meth c H1 locs (cells + 1) (slots + N) Q (F0 m (pc + 3) ls (.ref q :: rest))) : W p l e R s m args below meth c H locs cells slots Q (F0 m pc ls (.int n :: rest)) :=
  va_newq hx hb hown hclink hover hK hP hD hS hA hn hN hbytes hcells hslots hdg (fun q cA H1 hK1 hP1 hD1 hS1 => by
    obtain ⟨-, -, -, -, -, h1⟩ := (hK1.2 3 (cA, .object "BittenBoards$Game") rfl).2
    obtain ⟨-, -, -, -, -, h2⟩ := (hK.2 2 (cG, .object "BittenBoards$Game") rfl).2
    have h3 : cA = cG := Option.some.inj (h1.symm.trans h2)
    rw [h3] at hP1 hD1
    exact kk q H1 hP1 hD1 hS1)
end CST
def LxL (L : Nat → Int32) : Prop := ∀ r v, r ≤ 7 → v ≤ 7 → L (8 * r + v) = nI (les (7 - r) v)
def cB (cI : ClassId) (h0 t0 q1 q2 q3 q4 q5 : Nat) (L : Nat → Int32) : va_W := [(h0, .inr (0, [.ref t0, .ref q1, .ref q2, .ref q3, .ref q4, .ref q5, .int 0])), (q1, .inl (cI, 64, .inl L)), (q2, .inl (cI, 7, .inl (fun _ => 0))), (q3, .inl (cI, 3432, .inl (fun _ => 0))), (q4, .inl (cI, 3432, .inl (fun _ => 0))), (q5, .inl (cI, 3432, .inl (fun _ => 0)))]
set_option maxHeartbeats 4000000 in
set_option maxRecDepth 100000 in
/-- Boards(): its table is filled, row by row from the last one -/
theorem B_loops {p : Program} {l : Launch} {e : Env} {R : Room} {s : State} {m : MethodId} {args : Array Value} {below : List Frame} {meth : Method} {c : Code} {Q : State → Prop} {A : Nat → Prop} {dC : Nat → ClassId} {dI : Nat → Nat → Nat} {cI cZ cG : ClassId} {h0 t0 q1 q2 q3 q4 q5 cells slots : Nat} (hx : p.tables.exec = Jvm.exec) (hb : c.code = cX0_init) (hts : ∀ w ∈ wsX0_init, w.before args s = true) (hown : s.vm.findClass RX0 = some m.cls) (hK : KK dC dI cI cZ cG s)
    (hfin : ∀ (L : Nat → Int32) (H : Heap) (locs : List Loc) (ls : Array Slot), LxL L → va_P (dC, dI) vwCl (cB cI h0 t0 q1 q2 q3 q4 q5 L) H → va_D A (cB cI h0 t0 q1 q2 q3 q4 q5 L) → va_S A s.heap H locs → W p l e R s m args below meth c H locs cells slots Q (F0 m 141 ls []))
    {H : Heap} {locs : List Loc} {ls : Array Slot} (hP : va_P (dC, dI) vwCl (cB cI h0 t0 q1 q2 q3 q4 q5 (fun _ => 0)) H) (hD : va_D A (cB cI h0 t0 q1 q2 q3 q4 q5 (fun _ => 0))) (hS : va_S A s.heap H locs) (hl : lv_has ls 4 [(0, .ref h0), (1, .ref t0)]) : W p l e R s m args below meth c H locs cells slots Q (F0 m 52 ls []) := by
  have inX0 : ∀ w ∈ u_ws RX0 TX0 7, w ∈ wsX0_init := by decide +kernel
  have C79 : ∀ (k : Nat) (L : Nat → Int32), k ≤ 7 → (∀ r v, k ≤ r → r ≤ 7 → v ≤ 7 → L (8 * r + v) = nI (les (7 - r) v)) → (∀ j, j < 8 * k → L j = 0) → ∀ (H : Heap) (locs : List Loc) (ls : Array Slot), va_P (dC, dI) vwCl (cB cI h0 t0 q1 q2 q3 q4 q5 L) H → va_D A (cB cI h0 t0 q1 q2 q3 q4 q5 L) → va_S A s.heap H locs → lv_has ls 4 [(2, .int (nI k + (-1))), (0, .ref h0), (1, .ref t0)] → W p l e R s m args below meth c H locs cells slots Q (F0 m 79 ls []) := by
    intro k
    induction k with
    | zero =>
      intro L hk hrow hz H locs ls hP hD hS hl
      refine lv_iload_n hx hb dX0_init_79 rfl (lv_at hl 0 rfl) ?_
      exact lv_if_lt (tgt := 141) hx hb dX0_init_80 (by decide) (fun _ => hfin L H locs ls (fun r v hr hv => hrow r v (Nat.zero_le r) hr hv) hP hD hS) (fun hn => absurd (show nI 0 + (-1) < 0 by decide) hn)
    | succ r ih =>
      intro L hk hrow hz H locs ls hP hD hS hl
      rw [pk_m1 r] at hl
      have C85 : ∀ (d u : Nat) (L : Nat → Int32), d + u = 7 → (∀ r' v, r + 1 ≤ r' → r' ≤ 7 → v ≤ 7 → L (8 * r' + v) = nI (les (7 - r') v)) → (∀ v, v ≤ u → L (8 * r + v) = nI (les (7 - r) v)) → (∀ j, j < 8 * r → L j = 0) → ∀ (H : Heap) (locs : List Loc) (ls : Array Slot), va_P (dC, dI) vwCl (cB cI h0 t0 q1 q2 q3 q4 q5 L) H → va_D A (cB cI h0 t0 q1 q2 q3 q4 q5 L) → va_S A s.heap H locs → lv_has ls 4 [(3, .int (nI (u + 1))), (2, .int (nI r)), (0, .ref h0), (1, .ref t0)] → W p l e R s m args below meth c H locs cells slots Q (F0 m 85 ls []) := by
        intro d
        induction d with
        | zero =>
          intro u L hu h1 h2 h3 H locs ls hP hD hS hl
          have e7 : u = 7 := by omega
          subst e7
          refine lv_iload_n hx hb dX0_init_85 rfl (lv_at hl 0 rfl) ?_
          refine lv_bipush (v := 7) hx hb dX0_init_86 (by decide) ?_
          refine lv_icmp_gt (tgt := 135) hx hb dX0_init_88 (by decide) (fun _ => ?_) (fun hn => absurd (show (7 : Int32) < nI (7 + 1) by decide) hn)
          refine lv_iinc (v := nI r + (-1)) (lv' := [(2, .int (nI r + (-1))), (3, .int (nI (7 + 1))), (0, .ref h0), (1, .ref t0)]) hx hb dX0_init_135 hl (k := 1) rfl rfl (by decide) rfl (fun ls hl => ?_)
          refine lv_goto (tgt := 79) hx hb dX0_init_138 (by decide) ?_
          refine ih L (by omega) (fun r' v a b c => ?_) h3 H locs ls hP hD hS (lv_sub hl [0, 2, 3] rfl)
          by_cases er : r' = r
          · rw [er]; exact h2 v c
          · exact h1 r' v (by omega) b c
        | succ d ihd =>
          intro u L hu h1 h2 h3 H locs ls hP hD hS hl
          have e2 : (8 : Int32) * nI r + nI (u + 1) - 1 = nI (8 * r + u) := by
            rw [x_ix]
            exact (pk_sub (a := 8 * r + (u + 1)) (b := 1) (by omega)).trans (congrArg nI (by omega))
          have e3 : (8 : Int32) * (nI r + 1) + nI (u + 1) = nI (8 * (r + 1) + (u + 1)) := by rw [nI_1, x_ix]
          have e4 : L (nI (8 * r + u)).toNatClampNeg + L (nI (8 * (r + 1) + (u + 1))).toNatClampNeg = nI (les (7 - r) (u + 1)) := by
            rw [nI_clamp (by omega), nI_clamp (by omega), h2 u (Nat.le_refl u), h1 (r + 1) (u + 1) (Nat.le_refl _) (by omega) (by omega), nI_add, show 7 - r = (6 - r) + 1 by omega, show 7 - (r + 1) = 6 - r by omega, les_s]
          refine lv_iload_n hx hb dX0_init_85 rfl (lv_at hl 0 rfl) ?_
          refine lv_bipush (v := 7) hx hb dX0_init_86 (by decide) ?_
          refine lv_icmp_gt (tgt := 135) hx hb dX0_init_88 (by decide) (fun hn => absurd ((nI_ltI (a := 7) (b := u + 1) (by decide) (by omega)).mp hn) (by omega)) (fun _ => ?_)
          refine lv_aload_n hx hb dX0_init_91 rfl (lv_at hl 2 rfl) ?_
          refine va_get (D := (dC, dI)) (ci := 0) (v := .ref q1) (C := RX0) (T := TX0) (N := 7) hx hb hts inX0 hown hK hP 0 rfl rfl 1 (by decide) (hts (.fieldLink RX0 9 "BittenBoards$Boards" "lesser" "[I") (by decide +kernel)) (fun _ h9 => h9) rfl dX0_init_92 ?_
          refine lv_bipush (v := 8) hx hb dX0_init_95 (by decide) ?_
          refine lv_iload_n hx hb dX0_init_97 rfl (lv_at hl 1 rfl) ?_
          refine lv_imul hx hb dX0_init_98 ?_
          refine lv_iload_n hx hb dX0_init_99 rfl (lv_at hl 0 rfl) ?_
          refine lv_iadd hx hb dX0_init_100 ?_
          refine W.eq (g2 := F0 m 101 ls [.int (nI (8 * r + (u + 1))), .ref q1]) (by rw [x_ix]) ?_
          refine lv_aload_n hx hb dX0_init_101 rfl (lv_at hl 2 rfl) ?_
          refine va_get (D := (dC, dI)) (ci := 0) (v := .ref q1) (C := RX0) (T := TX0) (N := 7) hx hb hts inX0 hown hK hP 0 rfl rfl 1 (by decide) (hts (.fieldLink RX0 9 "BittenBoards$Boards" "lesser" "[I") (by decide +kernel)) (fun _ h9 => h9) rfl dX0_init_102 ?_
          refine lv_bipush (v := 8) hx hb dX0_init_105 (by decide) ?_
          refine lv_iload_n hx hb dX0_init_107 rfl (lv_at hl 1 rfl) ?_
          refine lv_imul hx hb dX0_init_108 ?_
          refine lv_iload_n hx hb dX0_init_109 rfl (lv_at hl 0 rfl) ?_
          refine lv_iadd hx hb dX0_init_110 ?_
          refine lv_iconst (v := 1) hx hb dX0_init_111 (by decide) ?_
          refine lv_isub hx hb dX0_init_112 ?_
          refine W.eq (g2 := F0 m 113 ls [.int (nI (8 * r + u)), .ref q1, .int (nI (8 * r + (u + 1))), .ref q1]) (by rw [e2]) ?_
          refine va_iald (f := L) hx hb hK hP 1 0 rfl rfl (vp_in_nI (by omega) (by decide)) dX0_init_113 ?_
          refine lv_aload_n hx hb dX0_init_114 rfl (lv_at hl 2 rfl) ?_
          refine va_get (D := (dC, dI)) (ci := 0) (v := .ref q1) (C := RX0) (T := TX0) (N := 7) hx hb hts inX0 hown hK hP 0 rfl rfl 1 (by decide) (hts (.fieldLink RX0 9 "BittenBoards$Boards" "lesser" "[I") (by decide +kernel)) (fun _ h9 => h9) rfl dX0_init_115 ?_
          refine lv_bipush (v := 8) hx hb dX0_init_118 (by decide) ?_
          refine lv_iload_n hx hb dX0_init_120 rfl (lv_at hl 1 rfl) ?_
          refine lv_iconst (v := 1) hx hb dX0_init_121 (by decide) ?_
          refine lv_iadd hx hb dX0_init_122 ?_
          refine lv_imul hx hb dX0_init_123 ?_
          refine lv_iload_n hx hb dX0_init_124 rfl (lv_at hl 0 rfl) ?_
          refine lv_iadd hx hb dX0_init_125 ?_
          refine W.eq (g2 := F0 m 126 ls [.int (nI (8 * (r + 1) + (u + 1))), .ref q1, .int (L (nI (8 * r + u)).toNatClampNeg), .int (nI (8 * r + (u + 1))), .ref q1]) (by rw [e3]) ?_
          refine va_iald (f := L) hx hb hK hP 1 0 rfl rfl (vp_in_nI (by omega) (by decide)) dX0_init_126 ?_
          refine lv_iadd hx hb dX0_init_127 ?_
          refine W.eq (g2 := F0 m 128 ls [.int (nI (les (7 - r) (u + 1))), .int (nI (8 * r + (u + 1))), .ref q1]) (by rw [e4]) ?_
          refine va_iast (f := L) hx hb hK hP hD hS 1 0 rfl rfl (vp_in_nI (by omega) (by decide)) dX0_init_128 (fun H locs hP hD hS => ?_)
          rw [nI_clamp (n := 8 * r + (u + 1)) (by omega)] at hP hD
          refine lv_iinc (v := nI (u + 1 + 1)) (lv' := [(3, .int (nI (u + 1 + 1))), (2, .int (nI r)), (0, .ref h0), (1, .ref t0)]) hx hb dX0_init_129 hl (k := 0) rfl (nI_1 (u + 1)) (by decide) rfl (fun ls hl => ?_)
          refine lv_goto (tgt := 85) hx hb dX0_init_132 (by decide) ?_
          refine ihd (u + 1) (upd L (8 * r + (u + 1)) (nI (les (7 - r) (u + 1)))) (by omega) (fun r' v a b c => ?_) (fun v hv => ?_) (fun j hj => ?_) H locs ls hP hD hS hl
          · rw [upd_ne _ _ (by omega)]; exact h1 r' v a b c
          · by_cases ev : v = u + 1
            · rw [ev, upd_at]
            · rw [upd_ne _ _ (by omega)]; exact h2 v (by omega)
          · rw [upd_ne _ _ (by omega)]; exact h3 j hj
      refine lv_iload_n hx hb dX0_init_79 rfl (lv_at hl 0 rfl) ?_
      refine lv_if_lt (tgt := 141) hx hb dX0_init_80 (by decide) (fun hn => absurd ((nI_ltI (a := r) (b := 0) (by omega) (by decide)).mp hn) (Nat.not_lt_zero r)) (fun _ => ?_)
      refine lv_iconst (v := 1) hx hb dX0_init_83 (by decide) ?_
      refine lv_istore_n (lv' := [(3, .int 1), (2, .int (nI r)), (0, .ref h0), (1, .ref t0)]) hx hb dX0_init_84 rfl hl (by decide) rfl (fun ls hl => ?_)
      refine C85 7 0 L rfl hrow (fun v hv => ?_) (fun j hj => hz j (by omega)) H locs ls hP hD hS hl
      have ev : v = 0 := by omega
      rw [ev, les_0, hz (8 * r + 0) (by omega)]
      rfl
  have C54 : ∀ (d v : Nat) (L : Nat → Int32), d + v = 8 → 1 ≤ v → (∀ k, L k = if 56 < k ∧ k < 56 + v then 1 else 0) → ∀ (H : Heap) (locs : List Loc) (ls : Array Slot), va_P (dC, dI) vwCl (cB cI h0 t0 q1 q2 q3 q4 q5 L) H → va_D A (cB cI h0 t0 q1 q2 q3 q4 q5 L) → va_S A s.heap H locs → lv_has ls 4 [(2, .int (nI v)), (0, .ref h0), (1, .ref t0)] → W p l e R s m args below meth c H locs cells slots Q (F0 m 54 ls []) := by
    intro d
    induction d with
    | zero =>
      intro v L hv h1 hL H locs ls hP hD hS hl
      have e8 : v = 8 := by omega
      subst e8
      refine lv_iload_n hx hb dX0_init_54 rfl (lv_at hl 0 rfl) ?_
      refine lv_bipush (v := 7) hx hb dX0_init_55 (by decide) ?_
      refine lv_icmp_gt (tgt := 76) hx hb dX0_init_57 (by decide) (fun _ => ?_) (fun hn => absurd (show (7 : Int32) < nI 8 by decide) hn)
      refine lv_bipush (v := 6) hx hb dX0_init_76 (by decide) ?_
      refine W.eq (g2 := F0 m 78 ls [.int (nI 7 + (-1))]) (by rw [show nI 7 + (-1) = (6 : Int32) by decide]) ?_
      refine lv_istore_n (lv' := [(2, .int (nI 7 + (-1))), (0, .ref h0), (1, .ref t0)]) hx hb dX0_init_78 rfl hl (by decide) rfl (fun ls hl => ?_)
      refine C79 7 L (Nat.le_refl 7) (fun r v a b c => ?_) (fun j hj => ?_) H locs ls hP hD hS hl
      · have er : r = 7 := by omega
        subst er
        rw [hL]
        show _ = nI (if v = 0 then 0 else 1)
        by_cases ev : v = 0
        · rw [if_neg (by omega), if_pos ev]; rfl
        · rw [if_pos ⟨by omega, by omega⟩, if_neg ev]; rfl
      · rw [hL, if_neg (by omega)]
    | succ d ih =>
      intro v L hv h1 hL H locs ls hP hD hS hl
      refine lv_iload_n hx hb dX0_init_54 rfl (lv_at hl 0 rfl) ?_
      refine lv_bipush (v := 7) hx hb dX0_init_55 (by decide) ?_
      refine lv_icmp_gt (tgt := 76) hx hb dX0_init_57 (by decide) (fun hn => absurd ((nI_ltI (a := 7) (b := v) (by decide) (by omega)).mp hn) (by omega)) (fun _ => ?_)
      refine lv_aload_n hx hb dX0_init_60 rfl (lv_at hl 1 rfl) ?_
      refine va_get (D := (dC, dI)) (ci := 0) (v := .ref q1) (C := RX0) (T := TX0) (N := 7) hx hb hts inX0 hown hK hP 0 rfl rfl 1 (by decide) (hts (.fieldLink RX0 9 "BittenBoards$Boards" "lesser" "[I") (by decide +kernel)) (fun _ h9 => h9) rfl dX0_init_61 ?_
      refine lv_bipush (v := 56) hx hb dX0_init_64 (by decide) ?_
      refine lv_iload_n hx hb dX0_init_66 rfl (lv_at hl 0 rfl) ?_
      refine lv_iadd hx hb dX0_init_67 ?_
      refine W.eq (g2 := F0 m 68 ls [.int (nI (56 + v)), .ref q1]) (by rw [show (56 : Int32) + nI v = nI (56 + v) from nI_add 56 v]) ?_
      refine lv_iconst (v := 1) hx hb dX0_init_68 (by decide) ?_
      refine va_iast (f := L) hx hb hK hP hD hS 1 0 rfl rfl (vp_in_nI (by omega) (by decide)) dX0_init_69 (fun H locs hP hD hS => ?_)
      rw [nI_clamp (n := 56 + v) (by omega)] at hP hD
      refine lv_iinc (v := nI (v + 1)) (lv' := [(2, .int (nI (v + 1))), (0, .ref h0), (1, .ref t0)]) hx hb dX0_init_70 hl (k := 0) rfl (nI_1 v) (by decide) rfl (fun ls hl => ?_)
      refine lv_goto (tgt := 54) hx hb dX0_init_73 (by decide) ?_
      refine ih (v + 1) (upd L (56 + v) 1) (by omega) (by omega) (fun k => ?_) H locs ls hP hD hS hl
      by_cases ek : k = 56 + v
      · rw [ek, upd_at, if_pos ⟨by omega, by omega⟩]
      · rw [upd_ne _ _ ek, hL]
        by_cases hk : 56 < k ∧ k < 56 + v
        · rw [if_pos hk, if_pos ⟨hk.1, by omega⟩]
        · rw [if_neg hk, if_neg (fun q => hk ⟨q.1, by omega⟩)]
  refine lv_iconst (v := 1) hx hb dX0_init_52 (by decide) ?_
  refine lv_istore_n (lv' := [(2, .int 1), (0, .ref h0), (1, .ref t0)]) hx hb dX0_init_53 rfl hl (by decide) rfl (fun ls hl => ?_)
  exact C54 7 1 (fun _ => 0) rfl (Nat.le_refl 1) (fun k => (if_neg (by omega)).symm) H locs ls hP hD hS hl
set_option maxHeartbeats 4000000 in
set_option maxRecDepth 100000 in
/-- Tally(): two rows -/
theorem k_T_init (l : Launch) (dC : Nat → ClassId) (dI : Nat → Nat → Nat) (cI cZ cG : ClassId) (h0 : Nat) (sz : Nat) : Met l yX2_init wsX2_init ({ frames := 1, cells := 2, slots := 4, locals := 12 } : Room) (va_Pc [.ref h0] (fun U => U.heap.size = sz ∧ va_P (dC, dI) vwCl [(h0, .inr (2, [.null, .null, .long 0]))] U.heap ∧ KK dC dI cI cZ cG U ∧ va_D (fun _ => True) [(h0, .inr (2, [.null, .null, .long 0]))])) (va_Qv (fun (_ : Unit) => True) (fun _ t => ∃ q1 q2 : Nat, va_P (dC, dI) vwCl [(h0, .inr (2, [.ref q1, .ref q2, .long 0])), (q1, .inl (cI, 2, .inl (fun _ => 0))), (q2, .inl (cI, 2, .inl (fun _ => 0)))] t.heap ∧ KK dC dI cI cZ cG t ∧ va_D (va_A [(h0, .inr (2, [.null, .null, .long 0]))] sz) [(h0, .inr (2, [.ref q1, .ref q2, .long 0])), (q1, .inl (cI, 2, .inl (fun _ => 0))), (q2, .inl (cI, 2, .inl (fun _ => 0)))]) (va_A [(h0, .inr (2, [.null, .null, .long 0]))] sz)) 2 4 (va_A [(h0, .inr (2, [.null, .null, .long 0]))] sz) := by
  refine Met.ofW (cc := cX2_init) (maxL := 1) (ret := none) (by decide) rfl ?_
  intro p e s m args below meth c s₁ B hml hv
  obtain ⟨rfl, hsz, hP, hK, hD0⟩ := hv
  have hx := B.exec
  have hb := B.bytes
  have hr := B.returns
  have hts := atoms_spec (ws := wsX2_init) B.pre
  have hown : s.vm.findClass RX2 = some m.cls := findClass_of_methodNamed B.named
  have hlocks := B.notSynchronized
  have hin : meth.name = "<init>" := (name_of_methodNamed B.named B.method).1
  have inX2 : ∀ w ∈ u_ws RX2 TX2 3, w ∈ wsX2_init := by decide +kernel
  subst hsz
  have hD := hD0.self (sz := s.heap.size)
  generalize hAe : va_A [(h0, .inr (2, [.null, .null, .long 0]))] s.heap.size = A at hD ⊢
  have hA : ∀ q : Nat, s.heap.size ≤ q → A q := fun q h => by rw [← hAe]; exact Or.inr h
  have hS : va_S A s.heap s.heap [] := va_S.rf
  have hl := lv_entry ([.ref h0]) (n := 1) (Nat.le_of_ble_eq_true rfl)
  rw [lg_entry_eq]
  generalize (lg_sl ([.ref h0]) ++ List.replicate (1 - (lg_sl ([.ref h0])).length) Slot.unset).toArray = ls at hl ⊢
  have hl : lv_has ls 1 [(0, .ref h0)] := hl
  have hP : va_P (dC, dI) vwCl [(h0, .inr (2, [.null, .null, .long 0]))] s.heap := hP
  refine lv_aload_n hx hb dX2_init_0 rfl (lv_at hl 0 rfl) ?_
  refine W.objInit hx hb hown (hts (.methodLink RX2 1 objectInit) (by decide +kernel)) (hts (.instanceMethod objectInit) (by decide +kernel)) (hts _ (List.mem_of_getElem? (i := 3) rfl)) rfl (by rw [hml]; exact hl.1) rfl dX2_init_1 (Nat.le_of_ble_eq_true rfl) (Nat.le_of_ble_eq_true rfl) ?_
  refine W.eq (g2 := F0 m 4 ls []) rfl ?_
  refine lv_aload_n hx hb dX2_init_4 rfl (lv_at hl 0 rfl) ?_
  refine lv_iconst (v := (2 : Int32)) hx hb dX2_init_5 (by decide) ?_
  refine na_I (N := 2) hx hb (hts (.arrayClass .int) (by decide +kernel)) hK hP hD hS hA (by decide) (by decide) (Nat.le_of_ble_eq_true rfl) (Nat.le_of_ble_eq_true rfl) (Nat.le_of_ble_eq_true rfl) dX2_init_6 (fun q6 H hP hD hS => ?_)
  have hP : va_P (dC, dI) vwCl [(h0, .inr (2, [.null, .null, .long 0])), (q6, .inl (cI, 2, .inl (fun _ => 0)))] H := hP
  have hD : va_D A [(h0, .inr (2, [.null, .null, .long 0])), (q6, .inl (cI, 2, .inl (fun _ => 0)))] := hD
  refine W.widen (k := 1) (n := 2) (Nat.le_of_ble_eq_true rfl) (Nat.le_of_ble_eq_true rfl) ?_
  refine va_putF (D := (dC, dI)) (ci := 2) (v := .ref q6) (ty := (.array .int)) (C := RX2) (T := TX2) (N := 3) hx hb hts inX2 tyX2 tyX2_ok nmX2 hown hK hP hD hS 0 rfl rfl 0 (by decide) (hts (.fieldLink RX2 7 "BittenBoards$Tally" "leastLost" "[I") (by decide +kernel)) (fun _ h9 => h9) rfl hin rfl (by decide +kernel) rfl rfl (Nat.le_of_ble_eq_true rfl) dX2_init_8 (fun H locs hP hD hS => ?_)
  have hP : va_P (dC, dI) vwCl [(h0, .inr (2, [.ref q6, .null, .long 0])), (q6, .inl (cI, 2, .inl (fun _ => 0)))] H := hP
  have hD : va_D A [(h0, .inr (2, [.ref q6, .null, .long 0])), (q6, .inl (cI, 2, .inl (fun _ => 0)))] := hD
  refine lv_aload_n hx hb dX2_init_11 rfl (lv_at hl 0 rfl) ?_
  refine lv_iconst (v := (2 : Int32)) hx hb dX2_init_12 (by decide) ?_
  refine na_I (N := 2) hx hb (hts (.arrayClass .int) (by decide +kernel)) hK hP hD hS hA (by decide) (by decide) (Nat.le_of_ble_eq_true rfl) (Nat.le_of_ble_eq_true rfl) (Nat.le_of_ble_eq_true rfl) dX2_init_13 (fun q13 H hP hD hS => ?_)
  have hP : va_P (dC, dI) vwCl [(h0, .inr (2, [.ref q6, .null, .long 0])), (q6, .inl (cI, 2, .inl (fun _ => 0))), (q13, .inl (cI, 2, .inl (fun _ => 0)))] H := hP
  have hD : va_D A [(h0, .inr (2, [.ref q6, .null, .long 0])), (q6, .inl (cI, 2, .inl (fun _ => 0))), (q13, .inl (cI, 2, .inl (fun _ => 0)))] := hD
  refine W.widen (k := 2) (n := 4) (Nat.le_of_ble_eq_true rfl) (Nat.le_of_ble_eq_true rfl) ?_
  refine va_putF (D := (dC, dI)) (ci := 2) (v := .ref q13) (ty := (.array .int)) (C := RX2) (T := TX2) (N := 3) hx hb hts inX2 tyX2 tyX2_ok nmX2 hown hK hP hD hS 0 rfl rfl 1 (by decide) (hts (.fieldLink RX2 13 "BittenBoards$Tally" "greatest" "[I") (by decide +kernel)) (fun _ h9 => h9) rfl hin rfl (by decide +kernel) rfl rfl (Nat.le_of_ble_eq_true rfl) dX2_init_15 (fun H locs hP hD hS => ?_)
  have hP : va_P (dC, dI) vwCl [(h0, .inr (2, [.ref q6, .ref q13, .long 0])), (q6, .inl (cI, 2, .inl (fun _ => 0))), (q13, .inl (cI, 2, .inl (fun _ => 0)))] H := hP
  have hD : va_D A [(h0, .inr (2, [.ref q6, .ref q13, .long 0])), (q6, .inl (cI, 2, .inl (fun _ => 0))), (q13, .inl (cI, 2, .inl (fun _ => 0)))] := hD
  exact W.vret hx hb hr (fun t ht hW => ⟨⟨(), rfl, trivial, q6, q13, by rw [ht]; exact hP, va_K.moved hW.alike hK, hD⟩, hS.F ht⟩) hS.2.2 dX2_init_18 hlocks
set_option maxHeartbeats 4000000 in
set_option maxRecDepth 100000 in
/-- Game(): four rows -/
theorem k_G_init (l : Launch) (dC : Nat → ClassId) (dI : Nat → Nat → Nat) (cI cZ cG : ClassId) (h0 b0 t0 : Nat) (sz : Nat) : Met l yX1_init wsX1_init ({ frames := 1, cells := 4, slots := 32983, locals := 12 } : Room) (va_Pc [.ref h0, .ref b0, .ref t0] (fun U => U.heap.size = sz ∧ va_P (dC, dI) vwCl [(h0, .inr (1, [.null, .null, .null, .null, .null, .null, .int 0, .int 0, .int 0, .int 0, .int 0, .int 0]))] U.heap ∧ KK dC dI cI cZ cG U ∧ va_D (fun _ => True) [(h0, .inr (1, [.null, .null, .null, .null, .null, .null, .int 0, .int 0, .int 0, .int 0, .int 0, .int 0]))])) (va_Qv (fun (_ : Unit) => True) (fun _ t => ∃ q1 q2 q3 q4 : Nat, va_P (dC, dI) vwCl [(h0, .inr (1, [.ref b0, .ref t0, .ref q1, .ref q2, .ref q3, .ref q4, .int 0, .int 0, .int 0, .int 0, .int 0, .int 0])), (q1, .inl (cI, 15, .inl (fun _ => 0))), (q2, .inl (cI, 100, .inl (fun _ => 0))), (q3, .inl (cI, 100, .inl (fun _ => 0))), (q4, .inl (cI, 32768, .inl (fun _ => 0)))] t.heap ∧ KK dC dI cI cZ cG t ∧ va_D (va_A [(h0, .inr (1, [.null, .null, .null, .null, .null, .null, .int 0, .int 0, .int 0, .int 0, .int 0, .int 0]))] sz) [(h0, .inr (1, [.ref b0, .ref t0, .ref q1, .ref q2, .ref q3, .ref q4, .int 0, .int 0, .int 0, .int 0, .int 0, .int 0])), (q1, .inl (cI, 15, .inl (fun _ => 0))), (q2, .inl (cI, 100, .inl (fun _ => 0))), (q3, .inl (cI, 100, .inl (fun _ => 0))), (q4, .inl (cI, 32768, .inl (fun _ => 0)))]) (va_A [(h0, .inr (1, [.null, .null, .null, .null, .null, .null, .int 0, .int 0, .int 0, .int 0, .int 0, .int 0]))] sz)) 4 32983 (va_A [(h0, .inr (1, [.null, .null, .null, .null, .null, .null, .int 0, .int 0, .int 0, .int 0, .int 0, .int 0]))] sz) := by
  refine Met.ofW (cc := cX1_init) (maxL := 3) (ret := none) (by decide) rfl ?_
  intro p e s m args below meth c s₁ B hml hv
  obtain ⟨rfl, hsz, hP, hK, hD0⟩ := hv
  have hx := B.exec
  have hb := B.bytes
  have hr := B.returns
  have hts := atoms_spec (ws := wsX1_init) B.pre
  have hown : s.vm.findClass RX1 = some m.cls := findClass_of_methodNamed B.named
  have hlocks := B.notSynchronized
  have hin : meth.name = "<init>" := (name_of_methodNamed B.named B.method).1
  have inX1 : ∀ w ∈ u_ws RX1 TX1 12, w ∈ wsX1_init := by decide +kernel
  subst hsz
  have hD := hD0.self (sz := s.heap.size)
  generalize hAe : va_A [(h0, .inr (1, [.null, .null, .null, .null, .null, .null, .int 0, .int 0, .int 0, .int 0, .int 0, .int 0]))] s.heap.size = A at hD ⊢
  have hA : ∀ q : Nat, s.heap.size ≤ q → A q := fun q h => by rw [← hAe]; exact Or.inr h
  have hS : va_S A s.heap s.heap [] := va_S.rf
  have hl := lv_entry ([.ref h0, .ref b0, .ref t0]) (n := 3) (Nat.le_of_ble_eq_true rfl)
  rw [lg_entry_eq]
  generalize (lg_sl ([.ref h0, .ref b0, .ref t0]) ++ List.replicate (3 - (lg_sl ([.ref h0, .ref b0, .ref t0])).length) Slot.unset).toArray = ls at hl ⊢
  have hl : lv_has ls 3 [(0, .ref h0), (1, .ref b0), (2, .ref t0)] := hl
  have hP : va_P (dC, dI) vwCl [(h0, .inr (1, [.null, .null, .null, .null, .null, .null, .int 0, .int 0, .int 0, .int 0, .int 0, .int 0]))] s.heap := hP
  refine lv_aload_n hx hb dX1_init_0 rfl (lv_at hl 0 rfl) ?_
  refine W.objInit hx hb hown (hts (.methodLink RX1 3 objectInit) (by decide +kernel)) (hts (.instanceMethod objectInit) (by decide +kernel)) (hts _ (List.mem_of_getElem? (i := 3) rfl)) rfl (by rw [hml]; exact hl.1) rfl dX1_init_1 (Nat.le_of_ble_eq_true rfl) (Nat.le_of_ble_eq_true rfl) ?_
  refine W.eq (g2 := F0 m 4 ls []) rfl ?_
  refine lv_aload_n hx hb dX1_init_4 rfl (lv_at hl 0 rfl) ?_
  refine lv_bipush (v := (15 : Int32)) hx hb dX1_init_5 (by decide) ?_
  refine na_I (N := 15) hx hb (hts (.arrayClass .int) (by decide +kernel)) hK hP hD hS hA (by decide) (by decide) (Nat.le_of_ble_eq_true rfl) (Nat.le_of_ble_eq_true rfl) (Nat.le_of_ble_eq_true rfl) dX1_init_7 (fun q7 H hP hD hS => ?_)
  have hP : va_P (dC, dI) vwCl [(h0, .inr (1, [.null, .null, .null, .null, .null, .null, .int 0, .int 0, .int 0, .int 0, .int 0, .int 0])), (q7, .inl (cI, 15, .inl (fun _ => 0)))] H := hP
  have hD : va_D A [(h0, .inr (1, [.null, .null, .null, .null, .null, .null, .int 0, .int 0, .int 0, .int 0, .int 0, .int 0])), (q7, .inl (cI, 15, .inl (fun _ => 0)))] := hD
  refine W.widen (k := 1) (n := 15) (Nat.le_of_ble_eq_true rfl) (Nat.le_of_ble_eq_true rfl) ?_
  refine va_putF (D := (dC, dI)) (ci := 1) (v := .ref q7) (ty := (.array .int)) (C := RX1) (T := TX1) (N := 12) hx hb hts inX1 tyX1 tyX1_ok nmX1 hown hK hP hD hS 0 rfl rfl 2 (by decide) (hts (.fieldLink RX1 9 "BittenBoards$Game" "takenBy" "[I") (by decide +kernel)) (fun _ h9 => h9) rfl hin rfl (by decide +kernel) rfl rfl (Nat.le_of_ble_eq_true rfl) dX1_init_9 (fun H locs hP hD hS => ?_)
  have hP : va_P (dC, dI) vwCl [(h0, .inr (1, [.null, .null, .ref q7, .null, .null, .null, .int 0, .int 0, .int 0, .int 0, .int 0, .int 0])), (q7, .inl (cI, 15, .inl (fun _ => 0)))] H := hP
  have hD : va_D A [(h0, .inr (1, [.null, .null, .ref q7, .null, .null, .null, .int 0, .int 0, .int 0, .int 0, .int 0, .int 0])), (q7, .inl (cI, 15, .inl (fun _ => 0)))] := hD
  refine lv_aload_n hx hb dX1_init_12 rfl (lv_at hl 0 rfl) ?_
  refine lv_bipush (v := (100 : Int32)) hx hb dX1_init_13 (by decide) ?_
  refine na_I (N := 100) hx hb (hts (.arrayClass .int) (by decide +kernel)) hK hP hD hS hA (by decide) (by decide) (Nat.le_of_ble_eq_true rfl) (Nat.le_of_ble_eq_true rfl) (Nat.le_of_ble_eq_true rfl) dX1_init_15 (fun q15 H hP hD hS => ?_)
  have hP : va_P (dC, dI) vwCl [(h0, .inr (1, [.null, .null, .ref q7, .null, .null, .null, .int 0, .int 0, .int 0, .int 0, .int 0, .int 0])), (q7, .inl (cI, 15, .inl (fun _ => 0))), (q15, .inl (cI, 100, .inl (fun _ => 0)))] H := hP
  have hD : va_D A [(h0, .inr (1, [.null, .null, .ref q7, .null, .null, .null, .int 0, .int 0, .int 0, .int 0, .int 0, .int 0])), (q7, .inl (cI, 15, .inl (fun _ => 0))), (q15, .inl (cI, 100, .inl (fun _ => 0)))] := hD
  refine W.widen (k := 2) (n := 115) (Nat.le_of_ble_eq_true rfl) (Nat.le_of_ble_eq_true rfl) ?_
  refine va_putF (D := (dC, dI)) (ci := 1) (v := .ref q15) (ty := (.array .int)) (C := RX1) (T := TX1) (N := 12) hx hb hts inX1 tyX1 tyX1_ok nmX1 hown hK hP hD hS 0 rfl rfl 3 (by decide) (hts (.fieldLink RX1 15 "BittenBoards$Game" "bites" "[I") (by decide +kernel)) (fun _ h9 => h9) rfl hin rfl (by decide +kernel) rfl rfl (Nat.le_of_ble_eq_true rfl) dX1_init_17 (fun H locs hP hD hS => ?_)
  have hP : va_P (dC, dI) vwCl [(h0, .inr (1, [.null, .null, .ref q7, .ref q15, .null, .null, .int 0, .int 0, .int 0, .int 0, .int 0, .int 0])), (q7, .inl (cI, 15, .inl (fun _ => 0))), (q15, .inl (cI, 100, .inl (fun _ => 0)))] H := hP
  have hD : va_D A [(h0, .inr (1, [.null, .null, .ref q7, .ref q15, .null, .null, .int 0, .int 0, .int 0, .int 0, .int 0, .int 0])), (q7, .inl (cI, 15, .inl (fun _ => 0))), (q15, .inl (cI, 100, .inl (fun _ => 0)))] := hD
  refine lv_aload_n hx hb dX1_init_20 rfl (lv_at hl 0 rfl) ?_
  refine lv_bipush (v := (100 : Int32)) hx hb dX1_init_21 (by decide) ?_
  refine na_I (N := 100) hx hb (hts (.arrayClass .int) (by decide +kernel)) hK hP hD hS hA (by decide) (by decide) (Nat.le_of_ble_eq_true rfl) (Nat.le_of_ble_eq_true rfl) (Nat.le_of_ble_eq_true rfl) dX1_init_23 (fun q23 H hP hD hS => ?_)
  have hP : va_P (dC, dI) vwCl [(h0, .inr (1, [.null, .null, .ref q7, .ref q15, .null, .null, .int 0, .int 0, .int 0, .int 0, .int 0, .int 0])), (q7, .inl (cI, 15, .inl (fun _ => 0))), (q15, .inl (cI, 100, .inl (fun _ => 0))), (q23, .inl (cI, 100, .inl (fun _ => 0)))] H := hP
  have hD : va_D A [(h0, .inr (1, [.null, .null, .ref q7, .ref q15, .null, .null, .int 0, .int 0, .int 0, .int 0, .int 0, .int 0])), (q7, .inl (cI, 15, .inl (fun _ => 0))), (q15, .inl (cI, 100, .inl (fun _ => 0))), (q23, .inl (cI, 100, .inl (fun _ => 0)))] := hD
  refine W.widen (k := 3) (n := 215) (Nat.le_of_ble_eq_true rfl) (Nat.le_of_ble_eq_true rfl) ?_
  refine va_putF (D := (dC, dI)) (ci := 1) (v := .ref q23) (ty := (.array .int)) (C := RX1) (T := TX1) (N := 12) hx hb hts inX1 tyX1 tyX1_ok nmX1 hown hK hP hD hS 0 rfl rfl 4 (by decide) (hts (.fieldLink RX1 18 "BittenBoards$Game" "before" "[I") (by decide +kernel)) (fun _ h9 => h9) rfl hin rfl (by decide +kernel) rfl rfl (Nat.le_of_ble_eq_true rfl) dX1_init_25 (fun H locs hP hD hS => ?_)
  have hP : va_P (dC, dI) vwCl [(h0, .inr (1, [.null, .null, .ref q7, .ref q15, .ref q23, .null, .int 0, .int 0, .int 0, .int 0, .int 0, .int 0])), (q7, .inl (cI, 15, .inl (fun _ => 0))), (q15, .inl (cI, 100, .inl (fun _ => 0))), (q23, .inl (cI, 100, .inl (fun _ => 0)))] H := hP
  have hD : va_D A [(h0, .inr (1, [.null, .null, .ref q7, .ref q15, .ref q23, .null, .int 0, .int 0, .int 0, .int 0, .int 0, .int 0])), (q7, .inl (cI, 15, .inl (fun _ => 0))), (q15, .inl (cI, 100, .inl (fun _ => 0))), (q23, .inl (cI, 100, .inl (fun _ => 0)))] := hD
  refine lv_aload_n hx hb dX1_init_28 rfl (lv_at hl 0 rfl) ?_
  refine lv_ldc (v := (32768 : Int32)) hx hb hown (hts (.constant RX1 21 (32768 : Int32)) (by decide +kernel)) dX1_init_29 ?_
  refine na_I (N := 32768) hx hb (hts (.arrayClass .int) (by decide +kernel)) hK hP hD hS hA (by decide) (by decide) (Nat.le_of_ble_eq_true rfl) (Nat.le_of_ble_eq_true rfl) (Nat.le_of_ble_eq_true rfl) dX1_init_31 (fun q31 H hP hD hS => ?_)
  have hP : va_P (dC, dI) vwCl [(h0, .inr (1, [.null, .null, .ref q7, .ref q15, .ref q23, .null, .int 0, .int 0, .int 0, .int 0, .int 0, .int 0])), (q7, .inl (cI, 15, .inl (fun _ => 0))), (q15, .inl (cI, 100, .inl (fun _ => 0))), (q23, .inl (cI, 100, .inl (fun _ => 0))), (q31, .inl (cI, 32768, .inl (fun _ => 0)))] H := hP
  have hD : va_D A [(h0, .inr (1, [.null, .null, .ref q7, .ref q15, .ref q23, .null, .int 0, .int 0, .int 0, .int 0, .int 0, .int 0])), (q7, .inl (cI, 15, .inl (fun _ => 0))), (q15, .inl (cI, 100, .inl (fun _ => 0))), (q23, .inl (cI, 100, .inl (fun _ => 0))), (q31, .inl (cI, 32768, .inl (fun _ => 0)))] := hD
  refine W.widen (k := 4) (n := 32983) (Nat.le_of_ble_eq_true rfl) (Nat.le_of_ble_eq_true rfl) ?_
  refine va_putF (D := (dC, dI)) (ci := 1) (v := .ref q31) (ty := (.array .int)) (C := RX1) (T := TX1) (N := 12) hx hb hts inX1 tyX1 tyX1_ok nmX1 hown hK hP hD hS 0 rfl rfl 5 (by decide) (hts (.fieldLink RX1 22 "BittenBoards$Game" "facts" "[I") (by decide +kernel)) (fun _ h9 => h9) rfl hin rfl (by decide +kernel) rfl rfl (Nat.le_of_ble_eq_true rfl) dX1_init_33 (fun H locs hP hD hS => ?_)
  have hP : va_P (dC, dI) vwCl [(h0, .inr (1, [.null, .null, .ref q7, .ref q15, .ref q23, .ref q31, .int 0, .int 0, .int 0, .int 0, .int 0, .int 0])), (q7, .inl (cI, 15, .inl (fun _ => 0))), (q15, .inl (cI, 100, .inl (fun _ => 0))), (q23, .inl (cI, 100, .inl (fun _ => 0))), (q31, .inl (cI, 32768, .inl (fun _ => 0)))] H := hP
  have hD : va_D A [(h0, .inr (1, [.null, .null, .ref q7, .ref q15, .ref q23, .ref q31, .int 0, .int 0, .int 0, .int 0, .int 0, .int 0])), (q7, .inl (cI, 15, .inl (fun _ => 0))), (q15, .inl (cI, 100, .inl (fun _ => 0))), (q23, .inl (cI, 100, .inl (fun _ => 0))), (q31, .inl (cI, 32768, .inl (fun _ => 0)))] := hD
  refine lv_aload_n hx hb dX1_init_36 rfl (lv_at hl 0 rfl) ?_
  refine lv_aload_n hx hb dX1_init_37 rfl (lv_at hl 1 rfl) ?_
  refine va_putF (D := (dC, dI)) (ci := 1) (v := .ref b0) (ty := (.object "BittenBoards$Boards")) (C := RX1) (T := TX1) (N := 12) hx hb hts inX1 tyX1 tyX1_ok nmX1 hown hK hP hD hS 0 rfl rfl 0 (by decide) (hts (.fieldLink RX1 25 "BittenBoards$Game" "boards" "LBittenBoards$Boards;") (by decide +kernel)) (fun _ h9 => h9) rfl hin rfl (by decide +kernel) rfl rfl (Nat.le_of_ble_eq_true rfl) dX1_init_38 (fun H locs hP hD hS => ?_)
  have hP : va_P (dC, dI) vwCl [(h0, .inr (1, [.ref b0, .null, .ref q7, .ref q15, .ref q23, .ref q31, .int 0, .int 0, .int 0, .int 0, .int 0, .int 0])), (q7, .inl (cI, 15, .inl (fun _ => 0))), (q15, .inl (cI, 100, .inl (fun _ => 0))), (q23, .inl (cI, 100, .inl (fun _ => 0))), (q31, .inl (cI, 32768, .inl (fun _ => 0)))] H := hP
  have hD : va_D A [(h0, .inr (1, [.ref b0, .null, .ref q7, .ref q15, .ref q23, .ref q31, .int 0, .int 0, .int 0, .int 0, .int 0, .int 0])), (q7, .inl (cI, 15, .inl (fun _ => 0))), (q15, .inl (cI, 100, .inl (fun _ => 0))), (q23, .inl (cI, 100, .inl (fun _ => 0))), (q31, .inl (cI, 32768, .inl (fun _ => 0)))] := hD
  refine lv_aload_n hx hb dX1_init_41 rfl (lv_at hl 0 rfl) ?_
  refine lv_aload_n hx hb dX1_init_42 rfl (lv_at hl 2 rfl) ?_
  refine va_putF (D := (dC, dI)) (ci := 1) (v := .ref t0) (ty := (.object "BittenBoards$Tally")) (C := RX1) (T := TX1) (N := 12) hx hb hts inX1 tyX1 tyX1_ok nmX1 hown hK hP hD hS 0 rfl rfl 1 (by decide) (hts (.fieldLink RX1 29 "BittenBoards$Game" "tally" "LBittenBoards$Tally;") (by decide +kernel)) (fun _ h9 => h9) rfl hin rfl (by decide +kernel) rfl rfl (Nat.le_of_ble_eq_true rfl) dX1_init_43 (fun H locs hP hD hS => ?_)
  have hP : va_P (dC, dI) vwCl [(h0, .inr (1, [.ref b0, .ref t0, .ref q7, .ref q15, .ref q23, .ref q31, .int 0, .int 0, .int 0, .int 0, .int 0, .int 0])), (q7, .inl (cI, 15, .inl (fun _ => 0))), (q15, .inl (cI, 100, .inl (fun _ => 0))), (q23, .inl (cI, 100, .inl (fun _ => 0))), (q31, .inl (cI, 32768, .inl (fun _ => 0)))] H := hP
  have hD : va_D A [(h0, .inr (1, [.ref b0, .ref t0, .ref q7, .ref q15, .ref q23, .ref q31, .int 0, .int 0, .int 0, .int 0, .int 0, .int 0])), (q7, .inl (cI, 15, .inl (fun _ => 0))), (q15, .inl (cI, 100, .inl (fun _ => 0))), (q23, .inl (cI, 100, .inl (fun _ => 0))), (q31, .inl (cI, 32768, .inl (fun _ => 0)))] := hD
  exact W.vret hx hb hr (fun t ht hW => ⟨⟨(), rfl, trivial, q7, q15, q23, q31, by rw [ht]; exact hP, va_K.moved hW.alike hK, hD⟩, hS.F ht⟩) hS.2.2 dX1_init_46 hlocks
set_option maxHeartbeats 4000000 in
set_option maxRecDepth 100000 in
/-- Boards(): five rows, the first filled -/
theorem k_B_init (l : Launch) (dC : Nat → ClassId) (dI : Nat → Nat → Nat) (cI cZ cG : ClassId) (h0 t0 : Nat) (sz : Nat) : Met l yX0_init wsX0_init ({ frames := 1, cells := 5, slots := 10367, locals := 12 } : Room) (va_Pc [.ref h0, .ref t0] (fun U => U.heap.size = sz ∧ va_P (dC, dI) vwCl [(h0, .inr (0, [.null, .null, .null, .null, .null, .null, .int 0]))] U.heap ∧ KK dC dI cI cZ cG U ∧ va_D (fun _ => True) [(h0, .inr (0, [.null, .null, .null, .null, .null, .null, .int 0]))])) (va_Qv (fun (_ : Unit) => True) (fun _ t => ∃ (q1 q2 q3 q4 q5 : Nat) (L : Nat → Int32), LxL L ∧ va_P (dC, dI) vwCl (cB cI h0 t0 q1 q2 q3 q4 q5 L) t.heap ∧ KK dC dI cI cZ cG t ∧ va_D (va_A [(h0, .inr (0, [.null, .null, .null, .null, .null, .null, .int 0]))] sz) (cB cI h0 t0 q1 q2 q3 q4 q5 L)) (va_A [(h0, .inr (0, [.null, .null, .null, .null, .null, .null, .int 0]))] sz)) 5 10367 (va_A [(h0, .inr (0, [.null, .null, .null, .null, .null, .null, .int 0]))] sz) := by
  refine Met.ofW (cc := cX0_init) (maxL := 4) (ret := none) (by decide) rfl ?_
  intro p e s m args below meth c s₁ B hml hv
  obtain ⟨rfl, hsz, hP, hK, hD0⟩ := hv
  have hx := B.exec
  have hb := B.bytes
  have hr := B.returns
  have hts := atoms_spec (ws := wsX0_init) B.pre
  have hown : s.vm.findClass RX0 = some m.cls := findClass_of_methodNamed B.named
  have hlocks := B.notSynchronized
  have hin : meth.name = "<init>" := (name_of_methodNamed B.named B.method).1
  have inX0 : ∀ w ∈ u_ws RX0 TX0 7, w ∈ wsX0_init := by decide +kernel
  subst hsz
  have hD := hD0.self (sz := s.heap.size)
  generalize hAe : va_A [(h0, .inr (0, [.null, .null, .null, .null, .null, .null, .int 0]))] s.heap.size = A at hD ⊢
  have hA : ∀ q : Nat, s.heap.size ≤ q → A q := fun q h => by rw [← hAe]; exact Or.inr h
  have hS : va_S A s.heap s.heap [] := va_S.rf
  have hl := lv_entry ([.ref h0, .ref t0]) (n := 4) (Nat.le_of_ble_eq_true rfl)
  rw [lg_entry_eq]
  generalize (lg_sl ([.ref h0, .ref t0]) ++ List.replicate (4 - (lg_sl ([.ref h0, .ref t0])).length) Slot.unset).toArray = ls at hl ⊢
  have hl : lv_has ls 4 [(0, .ref h0), (1, .ref t0)] := hl
  have hP : va_P (dC, dI) vwCl [(h0, .inr (0, [.null, .null, .null, .null, .null, .null, .int 0]))] s.heap := hP
  refine lv_aload_n hx hb dX0_init_0 rfl (lv_at hl 0 rfl) ?_
  refine W.objInit hx hb hown (hts (.methodLink RX0 3 objectInit) (by decide +kernel)) (hts (.instanceMethod objectInit) (by decide +kernel)) (hts _ (List.mem_of_getElem? (i := 3) rfl)) rfl (by rw [hml]; exact hl.1) rfl dX0_init_1 (Nat.le_of_ble_eq_true rfl) (Nat.le_of_ble_eq_true rfl) ?_
  refine W.eq (g2 := F0 m 4 ls []) rfl ?_
  refine lv_aload_n hx hb dX0_init_4 rfl (lv_at hl 0 rfl) ?_
  refine lv_bipush (v := (64 : Int32)) hx hb dX0_init_5 (by decide) ?_
  refine na_I (N := 64) hx hb (hts (.arrayClass .int) (by decide +kernel)) hK hP hD hS hA (by decide) (by decide) (Nat.le_of_ble_eq_true rfl) (Nat.le_of_ble_eq_true rfl) (Nat.le_of_ble_eq_true rfl) dX0_init_7 (fun q7 H hP hD hS => ?_)
  have hP : va_P (dC, dI) vwCl [(h0, .inr (0, [.null, .null, .null, .null, .null, .null, .int 0])), (q7, .inl (cI, 64, .inl (fun _ => 0)))] H := hP
  have hD : va_D A [(h0, .inr (0, [.null, .null, .null, .null, .null, .null, .int 0])), (q7, .inl (cI, 64, .inl (fun _ => 0)))] := hD
  refine W.widen (k := 1) (n := 64) (Nat.le_of_ble_eq_true rfl) (Nat.le_of_ble_eq_true rfl) ?_
  refine va_putF (D := (dC, dI)) (ci := 0) (v := .ref q7) (ty := (.array .int)) (C := RX0) (T := TX0) (N := 7) hx hb hts inX0 tyX0 tyX0_ok nmX0 hown hK hP hD hS 0 rfl rfl 1 (by decide) (hts (.fieldLink RX0 9 "BittenBoards$Boards" "lesser" "[I") (by decide +kernel)) (fun _ h9 => h9) rfl hin rfl (by decide +kernel) rfl rfl (Nat.le_of_ble_eq_true rfl) dX0_init_9 (fun H locs hP hD hS => ?_)
  have hP : va_P (dC, dI) vwCl [(h0, .inr (0, [.null, .ref q7, .null, .null, .null, .null, .int 0])), (q7, .inl (cI, 64, .inl (fun _ => 0)))] H := hP
  have hD : va_D A [(h0, .inr (0, [.null, .ref q7, .null, .null, .null, .null, .int 0])), (q7, .inl (cI, 64, .inl (fun _ => 0)))] := hD
  refine lv_aload_n hx hb dX0_init_12 rfl (lv_at hl 0 rfl) ?_
  refine lv_bipush (v := (7 : Int32)) hx hb dX0_init_13 (by decide) ?_
  refine na_I (N := 7) hx hb (hts (.arrayClass .int) (by decide +kernel)) hK hP hD hS hA (by decide) (by decide) (Nat.le_of_ble_eq_true rfl) (Nat.le_of_ble_eq_true rfl) (Nat.le_of_ble_eq_true rfl) dX0_init_15 (fun q15 H hP hD hS => ?_)
  have hP : va_P (dC, dI) vwCl [(h0, .inr (0, [.null, .ref q7, .null, .null, .null, .null, .int 0])), (q7, .inl (cI, 64, .inl (fun _ => 0))), (q15, .inl (cI, 7, .inl (fun _ => 0)))] H := hP
  have hD : va_D A [(h0, .inr (0, [.null, .ref q7, .null, .null, .null, .null, .int 0])), (q7, .inl (cI, 64, .inl (fun _ => 0))), (q15, .inl (cI, 7, .inl (fun _ => 0)))] := hD
  refine W.widen (k := 2) (n := 71) (Nat.le_of_ble_eq_true rfl) (Nat.le_of_ble_eq_true rfl) ?_
  refine va_putF (D := (dC, dI)) (ci := 0) (v := .ref q15) (ty := (.array .int)) (C := RX0) (T := TX0) (N := 7) hx hb hts inX0 tyX0 tyX0_ok nmX0 hown hK hP hD hS 0 rfl rfl 2 (by decide) (hts (.fieldLink RX0 15 "BittenBoards$Boards" "lines" "[I") (by decide +kernel)) (fun _ h9 => h9) rfl hin rfl (by decide +kernel) rfl rfl (Nat.le_of_ble_eq_true rfl) dX0_init_17 (fun H locs hP hD hS => ?_)
  have hP : va_P (dC, dI) vwCl [(h0, .inr (0, [.null, .ref q7, .ref q15, .null, .null, .null, .int 0])), (q7, .inl (cI, 64, .inl (fun _ => 0))), (q15, .inl (cI, 7, .inl (fun _ => 0)))] H := hP
  have hD : va_D A [(h0, .inr (0, [.null, .ref q7, .ref q15, .null, .null, .null, .int 0])), (q7, .inl (cI, 64, .inl (fun _ => 0))), (q15, .inl (cI, 7, .inl (fun _ => 0)))] := hD
  refine lv_aload_n hx hb dX0_init_20 rfl (lv_at hl 0 rfl) ?_
  refine lv_sipush (v := (3432 : Int32)) hx hb dX0_init_21 (by decide) ?_
  refine na_I (N := 3432) hx hb (hts (.arrayClass .int) (by decide +kernel)) hK hP hD hS hA (by decide) (by decide) (Nat.le_of_ble_eq_true rfl) (Nat.le_of_ble_eq_true rfl) (Nat.le_of_ble_eq_true rfl) dX0_init_24 (fun q24 H hP hD hS => ?_)
  have hP : va_P (dC, dI) vwCl [(h0, .inr (0, [.null, .ref q7, .ref q15, .null, .null, .null, .int 0])), (q7, .inl (cI, 64, .inl (fun _ => 0))), (q15, .inl (cI, 7, .inl (fun _ => 0))), (q24, .inl (cI, 3432, .inl (fun _ => 0)))] H := hP
  have hD : va_D A [(h0, .inr (0, [.null, .ref q7, .ref q15, .null, .null, .null, .int 0])), (q7, .inl (cI, 64, .inl (fun _ => 0))), (q15, .inl (cI, 7, .inl (fun _ => 0))), (q24, .inl (cI, 3432, .inl (fun _ => 0)))] := hD
  refine W.widen (k := 3) (n := 3503) (Nat.le_of_ble_eq_true rfl) (Nat.le_of_ble_eq_true rfl) ?_
  refine va_putF (D := (dC, dI)) (ci := 0) (v := .ref q24) (ty := (.array .int)) (C := RX0) (T := TX0) (N := 7) hx hb hts inX0 tyX0 tyX0_ok nmX0 hown hK hP hD hS 0 rfl rfl 3 (by decide) (hts (.fieldLink RX0 18 "BittenBoards$Boards" "facts" "[I") (by decide +kernel)) (fun _ h9 => h9) rfl hin rfl (by decide +kernel) rfl rfl (Nat.le_of_ble_eq_true rfl) dX0_init_26 (fun H locs hP hD hS => ?_)
  have hP : va_P (dC, dI) vwCl [(h0, .inr (0, [.null, .ref q7, .ref q15, .ref q24, .null, .null, .int 0])), (q7, .inl (cI, 64, .inl (fun _ => 0))), (q15, .inl (cI, 7, .inl (fun _ => 0))), (q24, .inl (cI, 3432, .inl (fun _ => 0)))] H := hP
  have hD : va_D A [(h0, .inr (0, [.null, .ref q7, .ref q15, .ref q24, .null, .null, .int 0])), (q7, .inl (cI, 64, .inl (fun _ => 0))), (q15, .inl (cI, 7, .inl (fun _ => 0))), (q24, .inl (cI, 3432, .inl (fun _ => 0)))] := hD
  refine lv_aload_n hx hb dX0_init_29 rfl (lv_at hl 0 rfl) ?_
  refine lv_sipush (v := (3432 : Int32)) hx hb dX0_init_30 (by decide) ?_
  refine na_I (N := 3432) hx hb (hts (.arrayClass .int) (by decide +kernel)) hK hP hD hS hA (by decide) (by decide) (Nat.le_of_ble_eq_true rfl) (Nat.le_of_ble_eq_true rfl) (Nat.le_of_ble_eq_true rfl) dX0_init_33 (fun q33 H hP hD hS => ?_)
  have hP : va_P (dC, dI) vwCl [(h0, .inr (0, [.null, .ref q7, .ref q15, .ref q24, .null, .null, .int 0])), (q7, .inl (cI, 64, .inl (fun _ => 0))), (q15, .inl (cI, 7, .inl (fun _ => 0))), (q24, .inl (cI, 3432, .inl (fun _ => 0))), (q33, .inl (cI, 3432, .inl (fun _ => 0)))] H := hP
  have hD : va_D A [(h0, .inr (0, [.null, .ref q7, .ref q15, .ref q24, .null, .null, .int 0])), (q7, .inl (cI, 64, .inl (fun _ => 0))), (q15, .inl (cI, 7, .inl (fun _ => 0))), (q24, .inl (cI, 3432, .inl (fun _ => 0))), (q33, .inl (cI, 3432, .inl (fun _ => 0)))] := hD
  refine W.widen (k := 4) (n := 6935) (Nat.le_of_ble_eq_true rfl) (Nat.le_of_ble_eq_true rfl) ?_
  refine va_putF (D := (dC, dI)) (ci := 0) (v := .ref q33) (ty := (.array .int)) (C := RX0) (T := TX0) (N := 7) hx hb hts inX0 tyX0 tyX0_ok nmX0 hown hK hP hD hS 0 rfl rfl 4 (by decide) (hts (.fieldLink RX0 21 "BittenBoards$Boards" "firsts" "[I") (by decide +kernel)) (fun _ h9 => h9) rfl hin rfl (by decide +kernel) rfl rfl (Nat.le_of_ble_eq_true rfl) dX0_init_35 (fun H locs hP hD hS => ?_)
  have hP : va_P (dC, dI) vwCl [(h0, .inr (0, [.null, .ref q7, .ref q15, .ref q24, .ref q33, .null, .int 0])), (q7, .inl (cI, 64, .inl (fun _ => 0))), (q15, .inl (cI, 7, .inl (fun _ => 0))), (q24, .inl (cI, 3432, .inl (fun _ => 0))), (q33, .inl (cI, 3432, .inl (fun _ => 0)))] H := hP
  have hD : va_D A [(h0, .inr (0, [.null, .ref q7, .ref q15, .ref q24, .ref q33, .null, .int 0])), (q7, .inl (cI, 64, .inl (fun _ => 0))), (q15, .inl (cI, 7, .inl (fun _ => 0))), (q24, .inl (cI, 3432, .inl (fun _ => 0))), (q33, .inl (cI, 3432, .inl (fun _ => 0)))] := hD
  refine lv_aload_n hx hb dX0_init_38 rfl (lv_at hl 0 rfl) ?_
  refine lv_sipush (v := (3432 : Int32)) hx hb dX0_init_39 (by decide) ?_
  refine na_I (N := 3432) hx hb (hts (.arrayClass .int) (by decide +kernel)) hK hP hD hS hA (by decide) (by decide) (Nat.le_of_ble_eq_true rfl) (Nat.le_of_ble_eq_true rfl) (Nat.le_of_ble_eq_true rfl) dX0_init_42 (fun q42 H hP hD hS => ?_)
  have hP : va_P (dC, dI) vwCl [(h0, .inr (0, [.null, .ref q7, .ref q15, .ref q24, .ref q33, .null, .int 0])), (q7, .inl (cI, 64, .inl (fun _ => 0))), (q15, .inl (cI, 7, .inl (fun _ => 0))), (q24, .inl (cI, 3432, .inl (fun _ => 0))), (q33, .inl (cI, 3432, .inl (fun _ => 0))), (q42, .inl (cI, 3432, .inl (fun _ => 0)))] H := hP
  have hD : va_D A [(h0, .inr (0, [.null, .ref q7, .ref q15, .ref q24, .ref q33, .null, .int 0])), (q7, .inl (cI, 64, .inl (fun _ => 0))), (q15, .inl (cI, 7, .inl (fun _ => 0))), (q24, .inl (cI, 3432, .inl (fun _ => 0))), (q33, .inl (cI, 3432, .inl (fun _ => 0))), (q42, .inl (cI, 3432, .inl (fun _ => 0)))] := hD
  refine W.widen (k := 5) (n := 10367) (Nat.le_of_ble_eq_true rfl) (Nat.le_of_ble_eq_true rfl) ?_
  refine va_putF (D := (dC, dI)) (ci := 0) (v := .ref q42) (ty := (.array .int)) (C := RX0) (T := TX0) (N := 7) hx hb hts inX0 tyX0 tyX0_ok nmX0 hown hK hP hD hS 0 rfl rfl 5 (by decide) (hts (.fieldLink RX0 24 "BittenBoards$Boards" "heights" "[I") (by decide +kernel)) (fun _ h9 => h9) rfl hin rfl (by decide +kernel) rfl rfl (Nat.le_of_ble_eq_true rfl) dX0_init_44 (fun H locs hP hD hS => ?_)
  have hP : va_P (dC, dI) vwCl [(h0, .inr (0, [.null, .ref q7, .ref q15, .ref q24, .ref q33, .ref q42, .int 0])), (q7, .inl (cI, 64, .inl (fun _ => 0))), (q15, .inl (cI, 7, .inl (fun _ => 0))), (q24, .inl (cI, 3432, .inl (fun _ => 0))), (q33, .inl (cI, 3432, .inl (fun _ => 0))), (q42, .inl (cI, 3432, .inl (fun _ => 0)))] H := hP
  have hD : va_D A [(h0, .inr (0, [.null, .ref q7, .ref q15, .ref q24, .ref q33, .ref q42, .int 0])), (q7, .inl (cI, 64, .inl (fun _ => 0))), (q15, .inl (cI, 7, .inl (fun _ => 0))), (q24, .inl (cI, 3432, .inl (fun _ => 0))), (q33, .inl (cI, 3432, .inl (fun _ => 0))), (q42, .inl (cI, 3432, .inl (fun _ => 0)))] := hD
  refine lv_aload_n hx hb dX0_init_47 rfl (lv_at hl 0 rfl) ?_
  refine lv_aload_n hx hb dX0_init_48 rfl (lv_at hl 1 rfl) ?_
  refine va_putF (D := (dC, dI)) (ci := 0) (v := .ref t0) (ty := (.object "BittenBoards$Tally")) (C := RX0) (T := TX0) (N := 7) hx hb hts inX0 tyX0 tyX0_ok nmX0 hown hK hP hD hS 0 rfl rfl 0 (by decide) (hts (.fieldLink RX0 27 "BittenBoards$Boards" "tally" "LBittenBoards$Tally;") (by decide +kernel)) (fun _ h9 => h9) rfl hin rfl (by decide +kernel) rfl rfl (Nat.le_of_ble_eq_true rfl) dX0_init_49 (fun H locs hP hD hS => ?_)
  have hP : va_P (dC, dI) vwCl [(h0, .inr (0, [.ref t0, .ref q7, .ref q15, .ref q24, .ref q33, .ref q42, .int 0])), (q7, .inl (cI, 64, .inl (fun _ => 0))), (q15, .inl (cI, 7, .inl (fun _ => 0))), (q24, .inl (cI, 3432, .inl (fun _ => 0))), (q33, .inl (cI, 3432, .inl (fun _ => 0))), (q42, .inl (cI, 3432, .inl (fun _ => 0)))] H := hP
  have hD : va_D A [(h0, .inr (0, [.ref t0, .ref q7, .ref q15, .ref q24, .ref q33, .ref q42, .int 0])), (q7, .inl (cI, 64, .inl (fun _ => 0))), (q15, .inl (cI, 7, .inl (fun _ => 0))), (q24, .inl (cI, 3432, .inl (fun _ => 0))), (q33, .inl (cI, 3432, .inl (fun _ => 0))), (q42, .inl (cI, 3432, .inl (fun _ => 0)))] := hD
  exact B_loops (q1 := q7) (q2 := q15) (q3 := q24) (q4 := q33) (q5 := q42) hx hb hts hown hK (fun L H locs ls hL hP hD hS => W.vret hx hb hr (fun t ht hW => ⟨⟨(), rfl, trivial, q7, q15, q24, q33, q42, L, hL, by rw [ht]; exact hP, va_K.moved hW.alike hK, hD⟩, hS.F ht⟩) hS.2.2 dX0_init_141 hlocks) hP hD hS hl
set_option maxHeartbeats 4000000 in
set_option maxRecDepth 100000 in
/-- the reference: eighteen rows -/
theorem k_M_init (l : Launch) (dC : Nat → ClassId) (dI : Nat → Nat → Nat) (cI cZ cG : ClassId) (h0 : Nat) (sz : Nat) : Met l yX4_init wsX4_init ({ frames := 1, cells := 18, slots := 99853, locals := 12 } : Room) (va_Pc [.ref h0] (fun U => U.heap.size = sz ∧ va_P (dC, dI) vwCl [(h0, .inr (4, [.int 0, .null, .null, .null, .null, .null, .null, .null, .null, .null, .null, .null, .int 0, .null, .null, .null, .null, .null, .int 0, .null, .null]))] U.heap ∧ KK dC dI cI cZ cG U ∧ va_D (fun _ => True) [(h0, .inr (4, [.int 0, .null, .null, .null, .null, .null, .null, .null, .null, .null, .null, .null, .int 0, .null, .null, .null, .null, .null, .int 0, .null, .null]))])) (va_Qv (fun (_ : Unit) => True) (fun _ t => ∃ (ad : Nat → Nat) (w : mW), ad 0 = h0 ∧ w.1 0 = 0 ∧ w.1 1 = (-1) ∧ va_P (dC, dI) vwCl (mc cI cZ ad w) t.heap ∧ KK dC dI cI cZ cG t ∧ va_D (va_A [(h0, .inr (4, [.int 0, .null, .null, .null, .null, .null, .null, .null, .null, .null, .null, .null, .int 0, .null, .null, .null, .null, .null, .int 0, .null, .null]))] sz) (mc cI cZ ad w)) (va_A [(h0, .inr (4, [.int 0, .null, .null, .null, .null, .null, .null, .null, .null, .null, .null, .null, .int 0, .null, .null, .null, .null, .null, .int 0, .null, .null]))] sz)) 18 99853 (va_A [(h0, .inr (4, [.int 0, .null, .null, .null, .null, .null, .null, .null, .null, .null, .null, .null, .int 0, .null, .null, .null, .null, .null, .int 0, .null, .null]))] sz) := by
  refine Met.ofW (cc := cX4_init) (maxL := 1) (ret := none) (by decide) rfl ?_
  intro p e s m args below meth c s₁ B hml hv
  obtain ⟨rfl, hsz, hP, hK, hD0⟩ := hv
  have hx := B.exec
  have hb := B.bytes
  have hr := B.returns
  have hts := atoms_spec (ws := wsX4_init) B.pre
  have hown : s.vm.findClass RX4 = some m.cls := findClass_of_methodNamed B.named
  have hlocks := B.notSynchronized
  have hin : meth.name = "<init>" := (name_of_methodNamed B.named B.method).1
  have inX4 : ∀ w ∈ u_ws RX4 TX4 21, w ∈ wsX4_init := by decide +kernel
  subst hsz
  have hD := hD0.self (sz := s.heap.size)
  generalize hAe : va_A [(h0, .inr (4, [.int 0, .null, .null, .null, .null, .null, .null, .null, .null, .null, .null, .null, .int 0, .null, .null, .null, .null, .null, .int 0, .null, .null]))] s.heap.size = A at hD ⊢
  have hA : ∀ q : Nat, s.heap.size ≤ q → A q := fun q h => by rw [← hAe]; exact Or.inr h
  have hS : va_S A s.heap s.heap [] := va_S.rf
  have hl := lv_entry ([.ref h0]) (n := 1) (Nat.le_of_ble_eq_true rfl)
  rw [lg_entry_eq]
  generalize (lg_sl ([.ref h0]) ++ List.replicate (1 - (lg_sl ([.ref h0])).length) Slot.unset).toArray = ls at hl ⊢
  have hl : lv_has ls 1 [(0, .ref h0)] := hl
  have hP : va_P (dC, dI) vwCl [(h0, .inr (4, [.int 0, .null, .null, .null, .null, .null, .null, .null, .null, .null, .null, .null, .int 0, .null, .null, .null, .null, .null, .int 0, .null, .null]))] s.heap := hP
  refine lv_aload_n hx hb dX4_init_0 rfl (lv_at hl 0 rfl) ?_
  refine W.objInit hx hb hown (hts (.methodLink RX4 1 objectInit) (by decide +kernel)) (hts (.instanceMethod objectInit) (by decide +kernel)) (hts _ (List.mem_of_getElem? (i := 3) rfl)) rfl (by rw [hml]; exact hl.1) rfl dX4_init_1 (Nat.le_of_ble_eq_true rfl) (Nat.le_of_ble_eq_true rfl) ?_
  refine W.eq (g2 := F0 m 4 ls []) rfl ?_
  refine lv_aload_n hx hb dX4_init_4 rfl (lv_at hl 0 rfl) ?_
  refine lv_bipush (v := (6 : Int32)) hx hb dX4_init_5 (by decide) ?_
  refine na_I (N := 6) hx hb (hts (.arrayClass .int) (by decide +kernel)) hK hP hD hS hA (by decide) (by decide) (Nat.le_of_ble_eq_true rfl) (Nat.le_of_ble_eq_true rfl) (Nat.le_of_ble_eq_true rfl) dX4_init_7 (fun q7 H hP hD hS => ?_)
  have hP : va_P (dC, dI) vwCl [(h0, .inr (4, [.int 0, .null, .null, .null, .null, .null, .null, .null, .null, .null, .null, .null, .int 0, .null, .null, .null, .null, .null, .int 0, .null, .null])), (q7, .inl (cI, 6, .inl (fun _ => 0)))] H := hP
  have hD : va_D A [(h0, .inr (4, [.int 0, .null, .null, .null, .null, .null, .null, .null, .null, .null, .null, .null, .int 0, .null, .null, .null, .null, .null, .int 0, .null, .null])), (q7, .inl (cI, 6, .inl (fun _ => 0)))] := hD
  refine W.widen (k := 1) (n := 6) (Nat.le_of_ble_eq_true rfl) (Nat.le_of_ble_eq_true rfl) ?_
  refine va_putF (D := (dC, dI)) (ci := 4) (v := .ref q7) (ty := (.array .int)) (C := RX4) (T := TX4) (N := 21) hx hb hts inX4 tyX4 tyX4_ok nmX4 hown hK hP hD hS 0 rfl rfl 1 (by decide) (hts (.fieldLink RX4 7 "BittenBoardsModel" "kinds" "[I") (by decide +kernel)) (fun _ h9 => h9) rfl hin rfl (by decide +kernel) rfl rfl (Nat.le_of_ble_eq_true rfl) dX4_init_9 (fun H locs hP hD hS => ?_)
  have hP : va_P (dC, dI) vwCl [(h0, .inr (4, [.int 0, .ref q7, .null, .null, .null, .null, .null, .null, .null, .null, .null, .null, .int 0, .null, .null, .null, .null, .null, .int 0, .null, .null])), (q7, .inl (cI, 6, .inl (fun _ => 0)))] H := hP
  have hD : va_D A [(h0, .inr (4, [.int 0, .ref q7, .null, .null, .null, .null, .null, .null, .null, .null, .null, .null, .int 0, .null, .null, .null, .null, .null, .int 0, .null, .null])), (q7, .inl (cI, 6, .inl (fun _ => 0)))] := hD
  refine lv_aload_n hx hb dX4_init_12 rfl (lv_at hl 0 rfl) ?_
  refine lv_bipush (v := (6 : Int32)) hx hb dX4_init_13 (by decide) ?_
  refine na_I (N := 6) hx hb (hts (.arrayClass .int) (by decide +kernel)) hK hP hD hS hA (by decide) (by decide) (Nat.le_of_ble_eq_true rfl) (Nat.le_of_ble_eq_true rfl) (Nat.le_of_ble_eq_true rfl) dX4_init_15 (fun q15 H hP hD hS => ?_)
  have hP : va_P (dC, dI) vwCl [(h0, .inr (4, [.int 0, .ref q7, .null, .null, .null, .null, .null, .null, .null, .null, .null, .null, .int 0, .null, .null, .null, .null, .null, .int 0, .null, .null])), (q7, .inl (cI, 6, .inl (fun _ => 0))), (q15, .inl (cI, 6, .inl (fun _ => 0)))] H := hP
  have hD : va_D A [(h0, .inr (4, [.int 0, .ref q7, .null, .null, .null, .null, .null, .null, .null, .null, .null, .null, .int 0, .null, .null, .null, .null, .null, .int 0, .null, .null])), (q7, .inl (cI, 6, .inl (fun _ => 0))), (q15, .inl (cI, 6, .inl (fun _ => 0)))] := hD
  refine W.widen (k := 2) (n := 12) (Nat.le_of_ble_eq_true rfl) (Nat.le_of_ble_eq_true rfl) ?_
  refine va_putF (D := (dC, dI)) (ci := 4) (v := .ref q15) (ty := (.array .int)) (C := RX4) (T := TX4) (N := 21) hx hb hts inX4 tyX4 tyX4_ok nmX4 hown hK hP hD hS 0 rfl rfl 2 (by decide) (hts (.fieldLink RX4 13 "BittenBoardsModel" "rules" "[I") (by decide +kernel)) (fun _ h9 => h9) rfl hin rfl (by decide +kernel) rfl rfl (Nat.le_of_ble_eq_true rfl) dX4_init_17 (fun H locs hP hD hS => ?_)
  have hP : va_P (dC, dI) vwCl [(h0, .inr (4, [.int 0, .ref q7, .ref q15, .null, .null, .null, .null, .null, .null, .null, .null, .null, .int 0, .null, .null, .null, .null, .null, .int 0, .null, .null])), (q7, .inl (cI, 6, .inl (fun _ => 0))), (q15, .inl (cI, 6, .inl (fun _ => 0)))] H := hP
  have hD : va_D A [(h0, .inr (4, [.int 0, .ref q7, .ref q15, .null, .null, .null, .null, .null, .null, .null, .null, .null, .int 0, .null, .null, .null, .null, .null, .int 0, .null, .null])), (q7, .inl (cI, 6, .inl (fun _ => 0))), (q15, .inl (cI, 6, .inl (fun _ => 0)))] := hD
  refine lv_aload_n hx hb dX4_init_20 rfl (lv_at hl 0 rfl) ?_
  refine lv_bipush (v := (6 : Int32)) hx hb dX4_init_21 (by decide) ?_
  refine na_I (N := 6) hx hb (hts (.arrayClass .int) (by decide +kernel)) hK hP hD hS hA (by decide) (by decide) (Nat.le_of_ble_eq_true rfl) (Nat.le_of_ble_eq_true rfl) (Nat.le_of_ble_eq_true rfl) dX4_init_23 (fun q23 H hP hD hS => ?_)
  have hP : va_P (dC, dI) vwCl [(h0, .inr (4, [.int 0, .ref q7, .ref q15, .null, .null, .null, .null, .null, .null, .null, .null, .null, .int 0, .null, .null, .null, .null, .null, .int 0, .null, .null])), (q7, .inl (cI, 6, .inl (fun _ => 0))), (q15, .inl (cI, 6, .inl (fun _ => 0))), (q23, .inl (cI, 6, .inl (fun _ => 0)))] H := hP
  have hD : va_D A [(h0, .inr (4, [.int 0, .ref q7, .ref q15, .null, .null, .null, .null, .null, .null, .null, .null, .null, .int 0, .null, .null, .null, .null, .null, .int 0, .null, .null])), (q7, .inl (cI, 6, .inl (fun _ => 0))), (q15, .inl (cI, 6, .inl (fun _ => 0))), (q23, .inl (cI, 6, .inl (fun _ => 0)))] := hD
  refine W.widen (k := 3) (n := 18) (Nat.le_of_ble_eq_true rfl) (Nat.le_of_ble_eq_true rfl) ?_
  refine va_putF (D := (dC, dI)) (ci := 4) (v := .ref q23) (ty := (.array .int)) (C := RX4) (T := TX4) (N := 21) hx hb hts inX4 tyX4 tyX4_ok nmX4 hown hK hP hD hS 0 rfl rfl 3 (by decide) (hts (.fieldLink RX4 16 "BittenBoardsModel" "states" "[I") (by decide +kernel)) (fun _ h9 => h9) rfl hin rfl (by decide +kernel) rfl rfl (Nat.le_of_ble_eq_true rfl) dX4_init_25 (fun H locs hP hD hS => ?_)
  have hP : va_P (dC, dI) vwCl [(h0, .inr (4, [.int 0, .ref q7, .ref q15, .ref q23, .null, .null, .null, .null, .null, .null, .null, .null, .int 0, .null, .null, .null, .null, .null, .int 0, .null, .null])), (q7, .inl (cI, 6, .inl (fun _ => 0))), (q15, .inl (cI, 6, .inl (fun _ => 0))), (q23, .inl (cI, 6, .inl (fun _ => 0)))] H := hP
  have hD : va_D A [(h0, .inr (4, [.int 0, .ref q7, .ref q15, .ref q23, .null, .null, .null, .null, .null, .null, .null, .null, .int 0, .null, .null, .null, .null, .null, .int 0, .null, .null])), (q7, .inl (cI, 6, .inl (fun _ => 0))), (q15, .inl (cI, 6, .inl (fun _ => 0))), (q23, .inl (cI, 6, .inl (fun _ => 0)))] := hD
  refine lv_aload_n hx hb dX4_init_28 rfl (lv_at hl 0 rfl) ?_
  refine lv_bipush (v := (6 : Int32)) hx hb dX4_init_29 (by decide) ?_
  refine na_I (N := 6) hx hb (hts (.arrayClass .int) (by decide +kernel)) hK hP hD hS hA (by decide) (by decide) (Nat.le_of_ble_eq_true rfl) (Nat.le_of_ble_eq_true rfl) (Nat.le_of_ble_eq_true rfl) dX4_init_31 (fun q31 H hP hD hS => ?_)
  have hP : va_P (dC, dI) vwCl [(h0, .inr (4, [.int 0, .ref q7, .ref q15, .ref q23, .null, .null, .null, .null, .null, .null, .null, .null, .int 0, .null, .null, .null, .null, .null, .int 0, .null, .null])), (q7, .inl (cI, 6, .inl (fun _ => 0))), (q15, .inl (cI, 6, .inl (fun _ => 0))), (q23, .inl (cI, 6, .inl (fun _ => 0))), (q31, .inl (cI, 6, .inl (fun _ => 0)))] H := hP
  have hD : va_D A [(h0, .inr (4, [.int 0, .ref q7, .ref q15, .ref q23, .null, .null, .null, .null, .null, .null, .null, .null, .int 0, .null, .null, .null, .null, .null, .int 0, .null, .null])), (q7, .inl (cI, 6, .inl (fun _ => 0))), (q15, .inl (cI, 6, .inl (fun _ => 0))), (q23, .inl (cI, 6, .inl (fun _ => 0))), (q31, .inl (cI, 6, .inl (fun _ => 0)))] := hD
  refine W.widen (k := 4) (n := 24) (Nat.le_of_ble_eq_true rfl) (Nat.le_of_ble_eq_true rfl) ?_
  refine va_putF (D := (dC, dI)) (ci := 4) (v := .ref q31) (ty := (.array .int)) (C := RX4) (T := TX4) (N := 21) hx hb hts inX4 tyX4 tyX4_ok nmX4 hown hK hP hD hS 0 rfl rfl 4 (by decide) (hts (.fieldLink RX4 19 "BittenBoardsModel" "things" "[I") (by decide +kernel)) (fun _ h9 => h9) rfl hin rfl (by decide +kernel) rfl rfl (Nat.le_of_ble_eq_true rfl) dX4_init_33 (fun H locs hP hD hS => ?_)
  have hP : va_P (dC, dI) vwCl [(h0, .inr (4, [.int 0, .ref q7, .ref q15, .ref q23, .ref q31, .null, .null, .null, .null, .null, .null, .null, .int 0, .null, .null, .null, .null, .null, .int 0, .null, .null])), (q7, .inl (cI, 6, .inl (fun _ => 0))), (q15, .inl (cI, 6, .inl (fun _ => 0))), (q23, .inl (cI, 6, .inl (fun _ => 0))), (q31, .inl (cI, 6, .inl (fun _ => 0)))] H := hP
  have hD : va_D A [(h0, .inr (4, [.int 0, .ref q7, .ref q15, .ref q23, .ref q31, .null, .null, .null, .null, .null, .null, .null, .int 0, .null, .null, .null, .null, .null, .int 0, .null, .null])), (q7, .inl (cI, 6, .inl (fun _ => 0))), (q15, .inl (cI, 6, .inl (fun _ => 0))), (q23, .inl (cI, 6, .inl (fun _ => 0))), (q31, .inl (cI, 6, .inl (fun _ => 0)))] := hD
  refine lv_aload_n hx hb dX4_init_36 rfl (lv_at hl 0 rfl) ?_
  refine lv_bipush (v := (72 : Int32)) hx hb dX4_init_37 (by decide) ?_
  refine na_I (N := 72) hx hb (hts (.arrayClass .int) (by decide +kernel)) hK hP hD hS hA (by decide) (by decide) (Nat.le_of_ble_eq_true rfl) (Nat.le_of_ble_eq_true rfl) (Nat.le_of_ble_eq_true rfl) dX4_init_39 (fun q39 H hP hD hS => ?_)
  have hP : va_P (dC, dI) vwCl [(h0, .inr (4, [.int 0, .ref q7, .ref q15, .ref q23, .ref q31, .null, .null, .null, .null, .null, .null, .null, .int 0, .null, .null, .null, .null, .null, .int 0, .null, .null])), (q7, .inl (cI, 6, .inl (fun _ => 0))), (q15, .inl (cI, 6, .inl (fun _ => 0))), (q23, .inl (cI, 6, .inl (fun _ => 0))), (q31, .inl (cI, 6, .inl (fun _ => 0))), (q39, .inl (cI, 72, .inl (fun _ => 0)))] H := hP
  have hD : va_D A [(h0, .inr (4, [.int 0, .ref q7, .ref q15, .ref q23, .ref q31, .null, .null, .null, .null, .null, .null, .null, .int 0, .null, .null, .null, .null, .null, .int 0, .null, .null])), (q7, .inl (cI, 6, .inl (fun _ => 0))), (q15, .inl (cI, 6, .inl (fun _ => 0))), (q23, .inl (cI, 6, .inl (fun _ => 0))), (q31, .inl (cI, 6, .inl (fun _ => 0))), (q39, .inl (cI, 72, .inl (fun _ => 0)))] := hD
  refine W.widen (k := 5) (n := 96) (Nat.le_of_ble_eq_true rfl) (Nat.le_of_ble_eq_true rfl) ?_
  refine va_putF (D := (dC, dI)) (ci := 4) (v := .ref q39) (ty := (.array .int)) (C := RX4) (T := TX4) (N := 21) hx hb hts inX4 tyX4 tyX4_ok nmX4 hown hK hP hD hS 0 rfl rfl 5 (by decide) (hts (.fieldLink RX4 22 "BittenBoardsModel" "above" "[I") (by decide +kernel)) (fun _ h9 => h9) rfl hin rfl (by decide +kernel) rfl rfl (Nat.le_of_ble_eq_true rfl) dX4_init_41 (fun H locs hP hD hS => ?_)
  have hP : va_P (dC, dI) vwCl [(h0, .inr (4, [.int 0, .ref q7, .ref q15, .ref q23, .ref q31, .ref q39, .null, .null, .null, .null, .null, .null, .int 0, .null, .null, .null, .null, .null, .int 0, .null, .null])), (q7, .inl (cI, 6, .inl (fun _ => 0))), (q15, .inl (cI, 6, .inl (fun _ => 0))), (q23, .inl (cI, 6, .inl (fun _ => 0))), (q31, .inl (cI, 6, .inl (fun _ => 0))), (q39, .inl (cI, 72, .inl (fun _ => 0)))] H := hP
  have hD : va_D A [(h0, .inr (4, [.int 0, .ref q7, .ref q15, .ref q23, .ref q31, .ref q39, .null, .null, .null, .null, .null, .null, .int 0, .null, .null, .null, .null, .null, .int 0, .null, .null])), (q7, .inl (cI, 6, .inl (fun _ => 0))), (q15, .inl (cI, 6, .inl (fun _ => 0))), (q23, .inl (cI, 6, .inl (fun _ => 0))), (q31, .inl (cI, 6, .inl (fun _ => 0))), (q39, .inl (cI, 72, .inl (fun _ => 0)))] := hD
  refine lv_aload_n hx hb dX4_init_44 rfl (lv_at hl 0 rfl) ?_
  refine lv_bipush (v := (6 : Int32)) hx hb dX4_init_45 (by decide) ?_
  refine na_I (N := 6) hx hb (hts (.arrayClass .int) (by decide +kernel)) hK hP hD hS hA (by decide) (by decide) (Nat.le_of_ble_eq_true rfl) (Nat.le_of_ble_eq_true rfl) (Nat.le_of_ble_eq_true rfl) dX4_init_47 (fun q47 H hP hD hS => ?_)
  have hP : va_P (dC, dI) vwCl [(h0, .inr (4, [.int 0, .ref q7, .ref q15, .ref q23, .ref q31, .ref q39, .null, .null, .null, .null, .null, .null, .int 0, .null, .null, .null, .null, .null, .int 0, .null, .null])), (q7, .inl (cI, 6, .inl (fun _ => 0))), (q15, .inl (cI, 6, .inl (fun _ => 0))), (q23, .inl (cI, 6, .inl (fun _ => 0))), (q31, .inl (cI, 6, .inl (fun _ => 0))), (q39, .inl (cI, 72, .inl (fun _ => 0))), (q47, .inl (cI, 6, .inl (fun _ => 0)))] H := hP
  have hD : va_D A [(h0, .inr (4, [.int 0, .ref q7, .ref q15, .ref q23, .ref q31, .ref q39, .null, .null, .null, .null, .null, .null, .int 0, .null, .null, .null, .null, .null, .int 0, .null, .null])), (q7, .inl (cI, 6, .inl (fun _ => 0))), (q15, .inl (cI, 6, .inl (fun _ => 0))), (q23, .inl (cI, 6, .inl (fun _ => 0))), (q31, .inl (cI, 6, .inl (fun _ => 0))), (q39, .inl (cI, 72, .inl (fun _ => 0))), (q47, .inl (cI, 6, .inl (fun _ => 0)))] := hD
  refine W.widen (k := 6) (n := 102) (Nat.le_of_ble_eq_true rfl) (Nat.le_of_ble_eq_true rfl) ?_
  refine va_putF (D := (dC, dI)) (ci := 4) (v := .ref q47) (ty := (.array .int)) (C := RX4) (T := TX4) (N := 21) hx hb hts inX4 tyX4 tyX4_ok nmX4 hown hK hP hD hS 0 rfl rfl 6 (by decide) (hts (.fieldLink RX4 25 "BittenBoardsModel" "posts" "[I") (by decide +kernel)) (fun _ h9 => h9) rfl hin rfl (by decide +kernel) rfl rfl (Nat.le_of_ble_eq_true rfl) dX4_init_49 (fun H locs hP hD hS => ?_)
  have hP : va_P (dC, dI) vwCl [(h0, .inr (4, [.int 0, .ref q7, .ref q15, .ref q23, .ref q31, .ref q39, .ref q47, .null, .null, .null, .null, .null, .int 0, .null, .null, .null, .null, .null, .int 0, .null, .null])), (q7, .inl (cI, 6, .inl (fun _ => 0))), (q15, .inl (cI, 6, .inl (fun _ => 0))), (q23, .inl (cI, 6, .inl (fun _ => 0))), (q31, .inl (cI, 6, .inl (fun _ => 0))), (q39, .inl (cI, 72, .inl (fun _ => 0))), (q47, .inl (cI, 6, .inl (fun _ => 0)))] H := hP
  have hD : va_D A [(h0, .inr (4, [.int 0, .ref q7, .ref q15, .ref q23, .ref q31, .ref q39, .ref q47, .null, .null, .null, .null, .null, .int 0, .null, .null, .null, .null, .null, .int 0, .null, .null])), (q7, .inl (cI, 6, .inl (fun _ => 0))), (q15, .inl (cI, 6, .inl (fun _ => 0))), (q23, .inl (cI, 6, .inl (fun _ => 0))), (q31, .inl (cI, 6, .inl (fun _ => 0))), (q39, .inl (cI, 72, .inl (fun _ => 0))), (q47, .inl (cI, 6, .inl (fun _ => 0)))] := hD
  refine lv_aload_n hx hb dX4_init_52 rfl (lv_at hl 0 rfl) ?_
  refine lv_bipush (v := (6 : Int32)) hx hb dX4_init_53 (by decide) ?_
  refine na_I (N := 6) hx hb (hts (.arrayClass .int) (by decide +kernel)) hK hP hD hS hA (by decide) (by decide) (Nat.le_of_ble_eq_true rfl) (Nat.le_of_ble_eq_true rfl) (Nat.le_of_ble_eq_true rfl) dX4_init_55 (fun q55 H hP hD hS => ?_)
  have hP : va_P (dC, dI) vwCl [(h0, .inr (4, [.int 0, .ref q7, .ref q15, .ref q23, .ref q31, .ref q39, .ref q47, .null, .null, .null, .null, .null, .int 0, .null, .null, .null, .null, .null, .int 0, .null, .null])), (q7, .inl (cI, 6, .inl (fun _ => 0))), (q15, .inl (cI, 6, .inl (fun _ => 0))), (q23, .inl (cI, 6, .inl (fun _ => 0))), (q31, .inl (cI, 6, .inl (fun _ => 0))), (q39, .inl (cI, 72, .inl (fun _ => 0))), (q47, .inl (cI, 6, .inl (fun _ => 0))), (q55, .inl (cI, 6, .inl (fun _ => 0)))] H := hP
  have hD : va_D A [(h0, .inr (4, [.int 0, .ref q7, .ref q15, .ref q23, .ref q31, .ref q39, .ref q47, .null, .null, .null, .null, .null, .int 0, .null, .null, .null, .null, .null, .int 0, .null, .null])), (q7, .inl (cI, 6, .inl (fun _ => 0))), (q15, .inl (cI, 6, .inl (fun _ => 0))), (q23, .inl (cI, 6, .inl (fun _ => 0))), (q31, .inl (cI, 6, .inl (fun _ => 0))), (q39, .inl (cI, 72, .inl (fun _ => 0))), (q47, .inl (cI, 6, .inl (fun _ => 0))), (q55, .inl (cI, 6, .inl (fun _ => 0)))] := hD
  refine W.widen (k := 7) (n := 108) (Nat.le_of_ble_eq_true rfl) (Nat.le_of_ble_eq_true rfl) ?_
  refine va_putF (D := (dC, dI)) (ci := 4) (v := .ref q55) (ty := (.array .int)) (C := RX4) (T := TX4) (N := 21) hx hb hts inX4 tyX4 tyX4_ok nmX4 hown hK hP hD hS 0 rfl rfl 7 (by decide) (hts (.fieldLink RX4 28 "BittenBoardsModel" "roads" "[I") (by decide +kernel)) (fun _ h9 => h9) rfl hin rfl (by decide +kernel) rfl rfl (Nat.le_of_ble_eq_true rfl) dX4_init_57 (fun H locs hP hD hS => ?_)
  have hP : va_P (dC, dI) vwCl [(h0, .inr (4, [.int 0, .ref q7, .ref q15, .ref q23, .ref q31, .ref q39, .ref q47, .ref q55, .null, .null, .null, .null, .int 0, .null, .null, .null, .null, .null, .int 0, .null, .null])), (q7, .inl (cI, 6, .inl (fun _ => 0))), (q15, .inl (cI, 6, .inl (fun _ => 0))), (q23, .inl (cI, 6, .inl (fun _ => 0))), (q31, .inl (cI, 6, .inl (fun _ => 0))), (q39, .inl (cI, 72, .inl (fun _ => 0))), (q47, .inl (cI, 6, .inl (fun _ => 0))), (q55, .inl (cI, 6, .inl (fun _ => 0)))] H := hP
  have hD : va_D A [(h0, .inr (4, [.int 0, .ref q7, .ref q15, .ref q23, .ref q31, .ref q39, .ref q47, .ref q55, .null, .null, .null, .null, .int 0, .null, .null, .null, .null, .null, .int 0, .null, .null])), (q7, .inl (cI, 6, .inl (fun _ => 0))), (q15, .inl (cI, 6, .inl (fun _ => 0))), (q23, .inl (cI, 6, .inl (fun _ => 0))), (q31, .inl (cI, 6, .inl (fun _ => 0))), (q39, .inl (cI, 72, .inl (fun _ => 0))), (q47, .inl (cI, 6, .inl (fun _ => 0))), (q55, .inl (cI, 6, .inl (fun _ => 0)))] := hD
  refine lv_aload_n hx hb dX4_init_60 rfl (lv_at hl 0 rfl) ?_
  refine lv_bipush (v := (108 : Int32)) hx hb dX4_init_61 (by decide) ?_
  refine na_I (N := 108) hx hb (hts (.arrayClass .int) (by decide +kernel)) hK hP hD hS hA (by decide) (by decide) (Nat.le_of_ble_eq_true rfl) (Nat.le_of_ble_eq_true rfl) (Nat.le_of_ble_eq_true rfl) dX4_init_63 (fun q63 H hP hD hS => ?_)
  have hP : va_P (dC, dI) vwCl [(h0, .inr (4, [.int 0, .ref q7, .ref q15, .ref q23, .ref q31, .ref q39, .ref q47, .ref q55, .null, .null, .null, .null, .int 0, .null, .null, .null, .null, .null, .int 0, .null, .null])), (q7, .inl (cI, 6, .inl (fun _ => 0))), (q15, .inl (cI, 6, .inl (fun _ => 0))), (q23, .inl (cI, 6, .inl (fun _ => 0))), (q31, .inl (cI, 6, .inl (fun _ => 0))), (q39, .inl (cI, 72, .inl (fun _ => 0))), (q47, .inl (cI, 6, .inl (fun _ => 0))), (q55, .inl (cI, 6, .inl (fun _ => 0))), (q63, .inl (cI, 108, .inl (fun _ => 0)))] H := hP
  have hD : va_D A [(h0, .inr (4, [.int 0, .ref q7, .ref q15, .ref q23, .ref q31, .ref q39, .ref q47, .ref q55, .null, .null, .null, .null, .int 0, .null, .null, .null, .null, .null, .int 0, .null, .null])), (q7, .inl (cI, 6, .inl (fun _ => 0))), (q15, .inl (cI, 6, .inl (fun _ => 0))), (q23, .inl (cI, 6, .inl (fun _ => 0))), (q31, .inl (cI, 6, .inl (fun _ => 0))), (q39, .inl (cI, 72, .inl (fun _ => 0))), (q47, .inl (cI, 6, .inl (fun _ => 0))), (q55, .inl (cI, 6, .inl (fun _ => 0))), (q63, .inl (cI, 108, .inl (fun _ => 0)))] := hD
  refine W.widen (k := 8) (n := 216) (Nat.le_of_ble_eq_true rfl) (Nat.le_of_ble_eq_true rfl) ?_
  refine va_putF (D := (dC, dI)) (ci := 4) (v := .ref q63) (ty := (.array .int)) (C := RX4) (T := TX4) (N := 21) hx hb hts inX4 tyX4 tyX4_ok nmX4 hown hK hP hD hS 0 rfl rfl 8 (by decide) (hts (.fieldLink RX4 31 "BittenBoardsModel" "ends" "[I") (by decide +kernel)) (fun _ h9 => h9) rfl hin rfl (by decide +kernel) rfl rfl (Nat.le_of_ble_eq_true rfl) dX4_init_65 (fun H locs hP hD hS => ?_)
  have hP : va_P (dC, dI) vwCl [(h0, .inr (4, [.int 0, .ref q7, .ref q15, .ref q23, .ref q31, .ref q39, .ref q47, .ref q55, .ref q63, .null, .null, .null, .int 0, .null, .null, .null, .null, .null, .int 0, .null, .null])), (q7, .inl (cI, 6, .inl (fun _ => 0))), (q15, .inl (cI, 6, .inl (fun _ => 0))), (q23, .inl (cI, 6, .inl (fun _ => 0))), (q31, .inl (cI, 6, .inl (fun _ => 0))), (q39, .inl (cI, 72, .inl (fun _ => 0))), (q47, .inl (cI, 6, .inl (fun _ => 0))), (q55, .inl (cI, 6, .inl (fun _ => 0))), (q63, .inl (cI, 108, .inl (fun _ => 0)))] H := hP
  have hD : va_D A [(h0, .inr (4, [.int 0, .ref q7, .ref q15, .ref q23, .ref q31, .ref q39, .ref q47, .ref q55, .ref q63, .null, .null, .null, .int 0, .null, .null, .null, .null, .null, .int 0, .null, .null])), (q7, .inl (cI, 6, .inl (fun _ => 0))), (q15, .inl (cI, 6, .inl (fun _ => 0))), (q23, .inl (cI, 6, .inl (fun _ => 0))), (q31, .inl (cI, 6, .inl (fun _ => 0))), (q39, .inl (cI, 72, .inl (fun _ => 0))), (q47, .inl (cI, 6, .inl (fun _ => 0))), (q55, .inl (cI, 6, .inl (fun _ => 0))), (q63, .inl (cI, 108, .inl (fun _ => 0)))] := hD
  refine lv_aload_n hx hb dX4_init_68 rfl (lv_at hl 0 rfl) ?_
  refine lv_bipush (v := (6 : Int32)) hx hb dX4_init_69 (by decide) ?_
  refine na_I (N := 6) hx hb (hts (.arrayClass .int) (by decide +kernel)) hK hP hD hS hA (by decide) (by decide) (Nat.le_of_ble_eq_true rfl) (Nat.le_of_ble_eq_true rfl) (Nat.le_of_ble_eq_true rfl) dX4_init_71 (fun q71 H hP hD hS => ?_)
  have hP : va_P (dC, dI) vwCl [(h0, .inr (4, [.int 0, .ref q7, .ref q15, .ref q23, .ref q31, .ref q39, .ref q47, .ref q55, .ref q63, .null, .null, .null, .int 0, .null, .null, .null, .null, .null, .int 0, .null, .null])), (q7, .inl (cI, 6, .inl (fun _ => 0))), (q15, .inl (cI, 6, .inl (fun _ => 0))), (q23, .inl (cI, 6, .inl (fun _ => 0))), (q31, .inl (cI, 6, .inl (fun _ => 0))), (q39, .inl (cI, 72, .inl (fun _ => 0))), (q47, .inl (cI, 6, .inl (fun _ => 0))), (q55, .inl (cI, 6, .inl (fun _ => 0))), (q63, .inl (cI, 108, .inl (fun _ => 0))), (q71, .inl (cI, 6, .inl (fun _ => 0)))] H := hP
  have hD : va_D A [(h0, .inr (4, [.int 0, .ref q7, .ref q15, .ref q23, .ref q31, .ref q39, .ref q47, .ref q55, .ref q63, .null, .null, .null, .int 0, .null, .null, .null, .null, .null, .int 0, .null, .null])), (q7, .inl (cI, 6, .inl (fun _ => 0))), (q15, .inl (cI, 6, .inl (fun _ => 0))), (q23, .inl (cI, 6, .inl (fun _ => 0))), (q31, .inl (cI, 6, .inl (fun _ => 0))), (q39, .inl (cI, 72, .inl (fun _ => 0))), (q47, .inl (cI, 6, .inl (fun _ => 0))), (q55, .inl (cI, 6, .inl (fun _ => 0))), (q63, .inl (cI, 108, .inl (fun _ => 0))), (q71, .inl (cI, 6, .inl (fun _ => 0)))] := hD
  refine W.widen (k := 9) (n := 222) (Nat.le_of_ble_eq_true rfl) (Nat.le_of_ble_eq_true rfl) ?_
  refine va_putF (D := (dC, dI)) (ci := 4) (v := .ref q71) (ty := (.array .int)) (C := RX4) (T := TX4) (N := 21) hx hb hts inX4 tyX4 tyX4_ok nmX4 hown hK hP hD hS 0 rfl rfl 9 (by decide) (hts (.fieldLink RX4 34 "BittenBoardsModel" "notedMany" "[I") (by decide +kernel)) (fun _ h9 => h9) rfl hin rfl (by decide +kernel) rfl rfl (Nat.le_of_ble_eq_true rfl) dX4_init_73 (fun H locs hP hD hS => ?_)
  have hP : va_P (dC, dI) vwCl [(h0, .inr (4, [.int 0, .ref q7, .ref q15, .ref q23, .ref q31, .ref q39, .ref q47, .ref q55, .ref q63, .ref q71, .null, .null, .int 0, .null, .null, .null, .null, .null, .int 0, .null, .null])), (q7, .inl (cI, 6, .inl (fun _ => 0))), (q15, .inl (cI, 6, .inl (fun _ => 0))), (q23, .inl (cI, 6, .inl (fun _ => 0))), (q31, .inl (cI, 6, .inl (fun _ => 0))), (q39, .inl (cI, 72, .inl (fun _ => 0))), (q47, .inl (cI, 6, .inl (fun _ => 0))), (q55, .inl (cI, 6, .inl (fun _ => 0))), (q63, .inl (cI, 108, .inl (fun _ => 0))), (q71, .inl (cI, 6, .inl (fun _ => 0)))] H := hP
  have hD : va_D A [(h0, .inr (4, [.int 0, .ref q7, .ref q15, .ref q23, .ref q31, .ref q39, .ref q47, .ref q55, .ref q63, .ref q71, .null, .null, .int 0, .null, .null, .null, .null, .null, .int 0, .null, .null])), (q7, .inl (cI, 6, .inl (fun _ => 0))), (q15, .inl (cI, 6, .inl (fun _ => 0))), (q23, .inl (cI, 6, .inl (fun _ => 0))), (q31, .inl (cI, 6, .inl (fun _ => 0))), (q39, .inl (cI, 72, .inl (fun _ => 0))), (q47, .inl (cI, 6, .inl (fun _ => 0))), (q55, .inl (cI, 6, .inl (fun _ => 0))), (q63, .inl (cI, 108, .inl (fun _ => 0))), (q71, .inl (cI, 6, .inl (fun _ => 0)))] := hD
  refine lv_aload_n hx hb dX4_init_76 rfl (lv_at hl 0 rfl) ?_
  refine lv_sipush (v := (600 : Int32)) hx hb dX4_init_77 (by decide) ?_
  refine na_I (N := 600) hx hb (hts (.arrayClass .int) (by decide +kernel)) hK hP hD hS hA (by decide) (by decide) (Nat.le_of_ble_eq_true rfl) (Nat.le_of_ble_eq_true rfl) (Nat.le_of_ble_eq_true rfl) dX4_init_80 (fun q80 H hP hD hS => ?_)
  have hP : va_P (dC, dI) vwCl [(h0, .inr (4, [.int 0, .ref q7, .ref q15, .ref q23, .ref q31, .ref q39, .ref q47, .ref q55, .ref q63, .ref q71, .null, .null, .int 0, .null, .null, .null, .null, .null, .int 0, .null, .null])), (q7, .inl (cI, 6, .inl (fun _ => 0))), (q15, .inl (cI, 6, .inl (fun _ => 0))), (q23, .inl (cI, 6, .inl (fun _ => 0))), (q31, .inl (cI, 6, .inl (fun _ => 0))), (q39, .inl (cI, 72, .inl (fun _ => 0))), (q47, .inl (cI, 6, .inl (fun _ => 0))), (q55, .inl (cI, 6, .inl (fun _ => 0))), (q63, .inl (cI, 108, .inl (fun _ => 0))), (q71, .inl (cI, 6, .inl (fun _ => 0))), (q80, .inl (cI, 600, .inl (fun _ => 0)))] H := hP
  have hD : va_D A [(h0, .inr (4, [.int 0, .ref q7, .ref q15, .ref q23, .ref q31, .ref q39, .ref q47, .ref q55, .ref q63, .ref q71, .null, .null, .int 0, .null, .null, .null, .null, .null, .int 0, .null, .null])), (q7, .inl (cI, 6, .inl (fun _ => 0))), (q15, .inl (cI, 6, .inl (fun _ => 0))), (q23, .inl (cI, 6, .inl (fun _ => 0))), (q31, .inl (cI, 6, .inl (fun _ => 0))), (q39, .inl (cI, 72, .inl (fun _ => 0))), (q47, .inl (cI, 6, .inl (fun _ => 0))), (q55, .inl (cI, 6, .inl (fun _ => 0))), (q63, .inl (cI, 108, .inl (fun _ => 0))), (q71, .inl (cI, 6, .inl (fun _ => 0))), (q80, .inl (cI, 600, .inl (fun _ => 0)))] := hD
  refine W.widen (k := 10) (n := 822) (Nat.le_of_ble_eq_true rfl) (Nat.le_of_ble_eq_true rfl) ?_
  refine va_putF (D := (dC, dI)) (ci := 4) (v := .ref q80) (ty := (.array .int)) (C := RX4) (T := TX4) (N := 21) hx hb hts inX4 tyX4 tyX4_ok nmX4 hown hK hP hD hS 0 rfl rfl 10 (by decide) (hts (.fieldLink RX4 37 "BittenBoardsModel" "noted" "[I") (by decide +kernel)) (fun _ h9 => h9) rfl hin rfl (by decide +kernel) rfl rfl (Nat.le_of_ble_eq_true rfl) dX4_init_82 (fun H locs hP hD hS => ?_)
  have hP : va_P (dC, dI) vwCl [(h0, .inr (4, [.int 0, .ref q7, .ref q15, .ref q23, .ref q31, .ref q39, .ref q47, .ref q55, .ref q63, .ref q71, .ref q80, .null, .int 0, .null, .null, .null, .null, .null, .int 0, .null, .null])), (q7, .inl (cI, 6, .inl (fun _ => 0))), (q15, .inl (cI, 6, .inl (fun _ => 0))), (q23, .inl (cI, 6, .inl (fun _ => 0))), (q31, .inl (cI, 6, .inl (fun _ => 0))), (q39, .inl (cI, 72, .inl (fun _ => 0))), (q47, .inl (cI, 6, .inl (fun _ => 0))), (q55, .inl (cI, 6, .inl (fun _ => 0))), (q63, .inl (cI, 108, .inl (fun _ => 0))), (q71, .inl (cI, 6, .inl (fun _ => 0))), (q80, .inl (cI, 600, .inl (fun _ => 0)))] H := hP
  have hD : va_D A [(h0, .inr (4, [.int 0, .ref q7, .ref q15, .ref q23, .ref q31, .ref q39, .ref q47, .ref q55, .ref q63, .ref q71, .ref q80, .null, .int 0, .null, .null, .null, .null, .null, .int 0, .null, .null])), (q7, .inl (cI, 6, .inl (fun _ => 0))), (q15, .inl (cI, 6, .inl (fun _ => 0))), (q23, .inl (cI, 6, .inl (fun _ => 0))), (q31, .inl (cI, 6, .inl (fun _ => 0))), (q39, .inl (cI, 72, .inl (fun _ => 0))), (q47, .inl (cI, 6, .inl (fun _ => 0))), (q55, .inl (cI, 6, .inl (fun _ => 0))), (q63, .inl (cI, 108, .inl (fun _ => 0))), (q71, .inl (cI, 6, .inl (fun _ => 0))), (q80, .inl (cI, 600, .inl (fun _ => 0)))] := hD
  refine lv_aload_n hx hb dX4_init_85 rfl (lv_at hl 0 rfl) ?_
  refine lv_sipush (v := (600 : Int32)) hx hb dX4_init_86 (by decide) ?_
  refine na_I (N := 600) hx hb (hts (.arrayClass .int) (by decide +kernel)) hK hP hD hS hA (by decide) (by decide) (Nat.le_of_ble_eq_true rfl) (Nat.le_of_ble_eq_true rfl) (Nat.le_of_ble_eq_true rfl) dX4_init_89 (fun q89 H hP hD hS => ?_)
  have hP : va_P (dC, dI) vwCl [(h0, .inr (4, [.int 0, .ref q7, .ref q15, .ref q23, .ref q31, .ref q39, .ref q47, .ref q55, .ref q63, .ref q71, .ref q80, .null, .int 0, .null, .null, .null, .null, .null, .int 0, .null, .null])), (q7, .inl (cI, 6, .inl (fun _ => 0))), (q15, .inl (cI, 6, .inl (fun _ => 0))), (q23, .inl (cI, 6, .inl (fun _ => 0))), (q31, .inl (cI, 6, .inl (fun _ => 0))), (q39, .inl (cI, 72, .inl (fun _ => 0))), (q47, .inl (cI, 6, .inl (fun _ => 0))), (q55, .inl (cI, 6, .inl (fun _ => 0))), (q63, .inl (cI, 108, .inl (fun _ => 0))), (q71, .inl (cI, 6, .inl (fun _ => 0))), (q80, .inl (cI, 600, .inl (fun _ => 0))), (q89, .inl (cI, 600, .inl (fun _ => 0)))] H := hP
  have hD : va_D A [(h0, .inr (4, [.int 0, .ref q7, .ref q15, .ref q23, .ref q31, .ref q39, .ref q47, .ref q55, .ref q63, .ref q71, .ref q80, .null, .int 0, .null, .null, .null, .null, .null, .int 0, .null, .null])), (q7, .inl (cI, 6, .inl (fun _ => 0))), (q15, .inl (cI, 6, .inl (fun _ => 0))), (q23, .inl (cI, 6, .inl (fun _ => 0))), (q31, .inl (cI, 6, .inl (fun _ => 0))), (q39, .inl (cI, 72, .inl (fun _ => 0))), (q47, .inl (cI, 6, .inl (fun _ => 0))), (q55, .inl (cI, 6, .inl (fun _ => 0))), (q63, .inl (cI, 108, .inl (fun _ => 0))), (q71, .inl (cI, 6, .inl (fun _ => 0))), (q80, .inl (cI, 600, .inl (fun _ => 0))), (q89, .inl (cI, 600, .inl (fun _ => 0)))] := hD
  refine W.widen (k := 11) (n := 1422) (Nat.le_of_ble_eq_true rfl) (Nat.le_of_ble_eq_true rfl) ?_
  refine va_putF (D := (dC, dI)) (ci := 4) (v := .ref q89) (ty := (.array .int)) (C := RX4) (T := TX4) (N := 21) hx hb hts inX4 tyX4 tyX4_ok nmX4 hown hK hP hD hS 0 rfl rfl 11 (by decide) (hts (.fieldLink RX4 40 "BittenBoardsModel" "before" "[I") (by decide +kernel)) (fun _ h9 => h9) rfl hin rfl (by decide +kernel) rfl rfl (Nat.le_of_ble_eq_true rfl) dX4_init_91 (fun H locs hP hD hS => ?_)
  have hP : va_P (dC, dI) vwCl [(h0, .inr (4, [.int 0, .ref q7, .ref q15, .ref q23, .ref q31, .ref q39, .ref q47, .ref q55, .ref q63, .ref q71, .ref q80, .ref q89, .int 0, .null, .null, .null, .null, .null, .int 0, .null, .null])), (q7, .inl (cI, 6, .inl (fun _ => 0))), (q15, .inl (cI, 6, .inl (fun _ => 0))), (q23, .inl (cI, 6, .inl (fun _ => 0))), (q31, .inl (cI, 6, .inl (fun _ => 0))), (q39, .inl (cI, 72, .inl (fun _ => 0))), (q47, .inl (cI, 6, .inl (fun _ => 0))), (q55, .inl (cI, 6, .inl (fun _ => 0))), (q63, .inl (cI, 108, .inl (fun _ => 0))), (q71, .inl (cI, 6, .inl (fun _ => 0))), (q80, .inl (cI, 600, .inl (fun _ => 0))), (q89, .inl (cI, 600, .inl (fun _ => 0)))] H := hP
  have hD : va_D A [(h0, .inr (4, [.int 0, .ref q7, .ref q15, .ref q23, .ref q31, .ref q39, .ref q47, .ref q55, .ref q63, .ref q71, .ref q80, .ref q89, .int 0, .null, .null, .null, .null, .null, .int 0, .null, .null])), (q7, .inl (cI, 6, .inl (fun _ => 0))), (q15, .inl (cI, 6, .inl (fun _ => 0))), (q23, .inl (cI, 6, .inl (fun _ => 0))), (q31, .inl (cI, 6, .inl (fun _ => 0))), (q39, .inl (cI, 72, .inl (fun _ => 0))), (q47, .inl (cI, 6, .inl (fun _ => 0))), (q55, .inl (cI, 6, .inl (fun _ => 0))), (q63, .inl (cI, 108, .inl (fun _ => 0))), (q71, .inl (cI, 6, .inl (fun _ => 0))), (q80, .inl (cI, 600, .inl (fun _ => 0))), (q89, .inl (cI, 600, .inl (fun _ => 0)))] := hD
  refine lv_aload_n hx hb dX4_init_94 rfl (lv_at hl 0 rfl) ?_
  refine lv_iconst (v := (-1 : Int32)) hx hb dX4_init_95 (by decide) ?_
  refine va_put (D := (dC, dI)) (ci := 4) (v := .int (-1 : Int32)) (ty := .int) (C := RX4) (T := TX4) (N := 21) hx hb hts inX4 tyX4 tyX4_ok nmX4 hown hK hP hD hS 0 rfl rfl 12 (by decide) (hts (.fieldLink RX4 43 "BittenBoardsModel" "solved" "I") (by decide +kernel)) (fun _ h9 => h9) rfl (by decide +kernel) rfl rfl (Nat.le_of_ble_eq_true rfl) dX4_init_96 (fun H locs hP hD hS => ?_)
  have hP : va_P (dC, dI) vwCl [(h0, .inr (4, [.int 0, .ref q7, .ref q15, .ref q23, .ref q31, .ref q39, .ref q47, .ref q55, .ref q63, .ref q71, .ref q80, .ref q89, .int (-1 : Int32), .null, .null, .null, .null, .null, .int 0, .null, .null])), (q7, .inl (cI, 6, .inl (fun _ => 0))), (q15, .inl (cI, 6, .inl (fun _ => 0))), (q23, .inl (cI, 6, .inl (fun _ => 0))), (q31, .inl (cI, 6, .inl (fun _ => 0))), (q39, .inl (cI, 72, .inl (fun _ => 0))), (q47, .inl (cI, 6, .inl (fun _ => 0))), (q55, .inl (cI, 6, .inl (fun _ => 0))), (q63, .inl (cI, 108, .inl (fun _ => 0))), (q71, .inl (cI, 6, .inl (fun _ => 0))), (q80, .inl (cI, 600, .inl (fun _ => 0))), (q89, .inl (cI, 600, .inl (fun _ => 0)))] H := hP
  have hD : va_D A [(h0, .inr (4, [.int 0, .ref q7, .ref q15, .ref q23, .ref q31, .ref q39, .ref q47, .ref q55, .ref q63, .ref q71, .ref q80, .ref q89, .int (-1 : Int32), .null, .null, .null, .null, .null, .int 0, .null, .null])), (q7, .inl (cI, 6, .inl (fun _ => 0))), (q15, .inl (cI, 6, .inl (fun _ => 0))), (q23, .inl (cI, 6, .inl (fun _ => 0))), (q31, .inl (cI, 6, .inl (fun _ => 0))), (q39, .inl (cI, 72, .inl (fun _ => 0))), (q47, .inl (cI, 6, .inl (fun _ => 0))), (q55, .inl (cI, 6, .inl (fun _ => 0))), (q63, .inl (cI, 108, .inl (fun _ => 0))), (q71, .inl (cI, 6, .inl (fun _ => 0))), (q80, .inl (cI, 600, .inl (fun _ => 0))), (q89, .inl (cI, 600, .inl (fun _ => 0)))] := hD
  refine lv_aload_n hx hb dX4_init_99 rfl (lv_at hl 0 rfl) ?_
  refine lv_ldc (v := (32768 : Int32)) hx hb hown (hts (.constant RX4 47 (32768 : Int32)) (by decide +kernel)) dX4_init_100 ?_
  refine na_Z (N := 32768) hx hb (hts (.arrayClass .boolean) (by decide +kernel)) hK hP hD hS hA (by decide) (by decide) (Nat.le_of_ble_eq_true rfl) (Nat.le_of_ble_eq_true rfl) (Nat.le_of_ble_eq_true rfl) dX4_init_102 (fun q102 H hP hD hS => ?_)
  have hP : va_P (dC, dI) vwCl [(h0, .inr (4, [.int 0, .ref q7, .ref q15, .ref q23, .ref q31, .ref q39, .ref q47, .ref q55, .ref q63, .ref q71, .ref q80, .ref q89, .int (-1 : Int32), .null, .null, .null, .null, .null, .int 0, .null, .null])), (q7, .inl (cI, 6, .inl (fun _ => 0))), (q15, .inl (cI, 6, .inl (fun _ => 0))), (q23, .inl (cI, 6, .inl (fun _ => 0))), (q31, .inl (cI, 6, .inl (fun _ => 0))), (q39, .inl (cI, 72, .inl (fun _ => 0))), (q47, .inl (cI, 6, .inl (fun _ => 0))), (q55, .inl (cI, 6, .inl (fun _ => 0))), (q63, .inl (cI, 108, .inl (fun _ => 0))), (q71, .inl (cI, 6, .inl (fun _ => 0))), (q80, .inl (cI, 600, .inl (fun _ => 0))), (q89, .inl (cI, 600, .inl (fun _ => 0))), (q102, .inl (cZ, 32768, .inl (fun _ => 0)))] H := hP
  have hD : va_D A [(h0, .inr (4, [.int 0, .ref q7, .ref q15, .ref q23, .ref q31, .ref q39, .ref q47, .ref q55, .ref q63, .ref q71, .ref q80, .ref q89, .int (-1 : Int32), .null, .null, .null, .null, .null, .int 0, .null, .null])), (q7, .inl (cI, 6, .inl (fun _ => 0))), (q15, .inl (cI, 6, .inl (fun _ => 0))), (q23, .inl (cI, 6, .inl (fun _ => 0))), (q31, .inl (cI, 6, .inl (fun _ => 0))), (q39, .inl (cI, 72, .inl (fun _ => 0))), (q47, .inl (cI, 6, .inl (fun _ => 0))), (q55, .inl (cI, 6, .inl (fun _ => 0))), (q63, .inl (cI, 108, .inl (fun _ => 0))), (q71, .inl (cI, 6, .inl (fun _ => 0))), (q80, .inl (cI, 600, .inl (fun _ => 0))), (q89, .inl (cI, 600, .inl (fun _ => 0))), (q102, .inl (cZ, 32768, .inl (fun _ => 0)))] := hD
  refine W.widen (k := 12) (n := 34190) (Nat.le_of_ble_eq_true rfl) (Nat.le_of_ble_eq_true rfl) ?_
  refine va_putF (D := (dC, dI)) (ci := 4) (v := .ref q102) (ty := (.array .boolean)) (C := RX4) (T := TX4) (N := 21) hx hb hts inX4 tyX4 tyX4_ok nmX4 hown hK hP hD hS 0 rfl rfl 13 (by decide) (hts (.fieldLink RX4 48 "BittenBoardsModel" "isWon" "[Z") (by decide +kernel)) (fun _ h9 => h9) rfl hin rfl (by decide +kernel) rfl rfl (Nat.le_of_ble_eq_true rfl) dX4_init_104 (fun H locs hP hD hS => ?_)
  have hP : va_P (dC, dI) vwCl [(h0, .inr (4, [.int 0, .ref q7, .ref q15, .ref q23, .ref q31, .ref q39, .ref q47, .ref q55, .ref q63, .ref q71, .ref q80, .ref q89, .int (-1 : Int32), .ref q102, .null, .null, .null, .null, .int 0, .null, .null])), (q7, .inl (cI, 6, .inl (fun _ => 0))), (q15, .inl (cI, 6, .inl (fun _ => 0))), (q23, .inl (cI, 6, .inl (fun _ => 0))), (q31, .inl (cI, 6, .inl (fun _ => 0))), (q39, .inl (cI, 72, .inl (fun _ => 0))), (q47, .inl (cI, 6, .inl (fun _ => 0))), (q55, .inl (cI, 6, .inl (fun _ => 0))), (q63, .inl (cI, 108, .inl (fun _ => 0))), (q71, .inl (cI, 6, .inl (fun _ => 0))), (q80, .inl (cI, 600, .inl (fun _ => 0))), (q89, .inl (cI, 600, .inl (fun _ => 0))), (q102, .inl (cZ, 32768, .inl (fun _ => 0)))] H := hP
  have hD : va_D A [(h0, .inr (4, [.int 0, .ref q7, .ref q15, .ref q23, .ref q31, .ref q39, .ref q47, .ref q55, .ref q63, .ref q71, .ref q80, .ref q89, .int (-1 : Int32), .ref q102, .null, .null, .null, .null, .int 0, .null, .null])), (q7, .inl (cI, 6, .inl (fun _ => 0))), (q15, .inl (cI, 6, .inl (fun _ => 0))), (q23, .inl (cI, 6, .inl (fun _ => 0))), (q31, .inl (cI, 6, .inl (fun _ => 0))), (q39, .inl (cI, 72, .inl (fun _ => 0))), (q47, .inl (cI, 6, .inl (fun _ => 0))), (q55, .inl (cI, 6, .inl (fun _ => 0))), (q63, .inl (cI, 108, .inl (fun _ => 0))), (q71, .inl (cI, 6, .inl (fun _ => 0))), (q80, .inl (cI, 600, .inl (fun _ => 0))), (q89, .inl (cI, 600, .inl (fun _ => 0))), (q102, .inl (cZ, 32768, .inl (fun _ => 0)))] := hD
  refine lv_aload_n hx hb dX4_init_107 rfl (lv_at hl 0 rfl) ?_
  refine lv_ldc (v := (32768 : Int32)) hx hb hown (hts (.constant RX4 47 (32768 : Int32)) (by decide +kernel)) dX4_init_108 ?_
  refine na_I (N := 32768) hx hb (hts (.arrayClass .int) (by decide +kernel)) hK hP hD hS hA (by decide) (by decide) (Nat.le_of_ble_eq_true rfl) (Nat.le_of_ble_eq_true rfl) (Nat.le_of_ble_eq_true rfl) dX4_init_110 (fun q110 H hP hD hS => ?_)
  have hP : va_P (dC, dI) vwCl [(h0, .inr (4, [.int 0, .ref q7, .ref q15, .ref q23, .ref q31, .ref q39, .ref q47, .ref q55, .ref q63, .ref q71, .ref q80, .ref q89, .int (-1 : Int32), .ref q102, .null, .null, .null, .null, .int 0, .null, .null])), (q7, .inl (cI, 6, .inl (fun _ => 0))), (q15, .inl (cI, 6, .inl (fun _ => 0))), (q23, .inl (cI, 6, .inl (fun _ => 0))), (q31, .inl (cI, 6, .inl (fun _ => 0))), (q39, .inl (cI, 72, .inl (fun _ => 0))), (q47, .inl (cI, 6, .inl (fun _ => 0))), (q55, .inl (cI, 6, .inl (fun _ => 0))), (q63, .inl (cI, 108, .inl (fun _ => 0))), (q71, .inl (cI, 6, .inl (fun _ => 0))), (q80, .inl (cI, 600, .inl (fun _ => 0))), (q89, .inl (cI, 600, .inl (fun _ => 0))), (q102, .inl (cZ, 32768, .inl (fun _ => 0))), (q110, .inl (cI, 32768, .inl (fun _ => 0)))] H := hP
  have hD : va_D A [(h0, .inr (4, [.int 0, .ref q7, .ref q15, .ref q23, .ref q31, .ref q39, .ref q47, .ref q55, .ref q63, .ref q71, .ref q80, .ref q89, .int (-1 : Int32), .ref q102, .null, .null, .null, .null, .int 0, .null, .null])), (q7, .inl (cI, 6, .inl (fun _ => 0))), (q15, .inl (cI, 6, .inl (fun _ => 0))), (q23, .inl (cI, 6, .inl (fun _ => 0))), (q31, .inl (cI, 6, .inl (fun _ => 0))), (q39, .inl (cI, 72, .inl (fun _ => 0))), (q47, .inl (cI, 6, .inl (fun _ => 0))), (q55, .inl (cI, 6, .inl (fun _ => 0))), (q63, .inl (cI, 108, .inl (fun _ => 0))), (q71, .inl (cI, 6, .inl (fun _ => 0))), (q80, .inl (cI, 600, .inl (fun _ => 0))), (q89, .inl (cI, 600, .inl (fun _ => 0))), (q102, .inl (cZ, 32768, .inl (fun _ => 0))), (q110, .inl (cI, 32768, .inl (fun _ => 0)))] := hD
  refine W.widen (k := 13) (n := 66958) (Nat.le_of_ble_eq_true rfl) (Nat.le_of_ble_eq_true rfl) ?_
  refine va_putF (D := (dC, dI)) (ci := 4) (v := .ref q110) (ty := (.array .int)) (C := RX4) (T := TX4) (N := 21) hx hb hts inX4 tyX4 tyX4_ok nmX4 hown hK hP hD hS 0 rfl rfl 14 (by decide) (hts (.fieldLink RX4 52 "BittenBoardsModel" "lengths" "[I") (by decide +kernel)) (fun _ h9 => h9) rfl hin rfl (by decide +kernel) rfl rfl (Nat.le_of_ble_eq_true rfl) dX4_init_112 (fun H locs hP hD hS => ?_)
  have hP : va_P (dC, dI) vwCl [(h0, .inr (4, [.int 0, .ref q7, .ref q15, .ref q23, .ref q31, .ref q39, .ref q47, .ref q55, .ref q63, .ref q71, .ref q80, .ref q89, .int (-1 : Int32), .ref q102, .ref q110, .null, .null, .null, .int 0, .null, .null])), (q7, .inl (cI, 6, .inl (fun _ => 0))), (q15, .inl (cI, 6, .inl (fun _ => 0))), (q23, .inl (cI, 6, .inl (fun _ => 0))), (q31, .inl (cI, 6, .inl (fun _ => 0))), (q39, .inl (cI, 72, .inl (fun _ => 0))), (q47, .inl (cI, 6, .inl (fun _ => 0))), (q55, .inl (cI, 6, .inl (fun _ => 0))), (q63, .inl (cI, 108, .inl (fun _ => 0))), (q71, .inl (cI, 6, .inl (fun _ => 0))), (q80, .inl (cI, 600, .inl (fun _ => 0))), (q89, .inl (cI, 600, .inl (fun _ => 0))), (q102, .inl (cZ, 32768, .inl (fun _ => 0))), (q110, .inl (cI, 32768, .inl (fun _ => 0)))] H := hP
  have hD : va_D A [(h0, .inr (4, [.int 0, .ref q7, .ref q15, .ref q23, .ref q31, .ref q39, .ref q47, .ref q55, .ref q63, .ref q71, .ref q80, .ref q89, .int (-1 : Int32), .ref q102, .ref q110, .null, .null, .null, .int 0, .null, .null])), (q7, .inl (cI, 6, .inl (fun _ => 0))), (q15, .inl (cI, 6, .inl (fun _ => 0))), (q23, .inl (cI, 6, .inl (fun _ => 0))), (q31, .inl (cI, 6, .inl (fun _ => 0))), (q39, .inl (cI, 72, .inl (fun _ => 0))), (q47, .inl (cI, 6, .inl (fun _ => 0))), (q55, .inl (cI, 6, .inl (fun _ => 0))), (q63, .inl (cI, 108, .inl (fun _ => 0))), (q71, .inl (cI, 6, .inl (fun _ => 0))), (q80, .inl (cI, 600, .inl (fun _ => 0))), (q89, .inl (cI, 600, .inl (fun _ => 0))), (q102, .inl (cZ, 32768, .inl (fun _ => 0))), (q110, .inl (cI, 32768, .inl (fun _ => 0)))] := hD
  refine lv_aload_n hx hb dX4_init_115 rfl (lv_at hl 0 rfl) ?_
  refine lv_ldc (v := (32768 : Int32)) hx hb hown (hts (.constant RX4 47 (32768 : Int32)) (by decide +kernel)) dX4_init_116 ?_
  refine na_I (N := 32768) hx hb (hts (.arrayClass .int) (by decide +kernel)) hK hP hD hS hA (by decide) (by decide) (Nat.le_of_ble_eq_true rfl) (Nat.le_of_ble_eq_true rfl) (Nat.le_of_ble_eq_true rfl) dX4_init_118 (fun q118 H hP hD hS => ?_)
  have hP : va_P (dC, dI) vwCl [(h0, .inr (4, [.int 0, .ref q7, .ref q15, .ref q23, .ref q31, .ref q39, .ref q47, .ref q55, .ref q63, .ref q71, .ref q80, .ref q89, .int (-1 : Int32), .ref q102, .ref q110, .null, .null, .null, .int 0, .null, .null])), (q7, .inl (cI, 6, .inl (fun _ => 0))), (q15, .inl (cI, 6, .inl (fun _ => 0))), (q23, .inl (cI, 6, .inl (fun _ => 0))), (q31, .inl (cI, 6, .inl (fun _ => 0))), (q39, .inl (cI, 72, .inl (fun _ => 0))), (q47, .inl (cI, 6, .inl (fun _ => 0))), (q55, .inl (cI, 6, .inl (fun _ => 0))), (q63, .inl (cI, 108, .inl (fun _ => 0))), (q71, .inl (cI, 6, .inl (fun _ => 0))), (q80, .inl (cI, 600, .inl (fun _ => 0))), (q89, .inl (cI, 600, .inl (fun _ => 0))), (q102, .inl (cZ, 32768, .inl (fun _ => 0))), (q110, .inl (cI, 32768, .inl (fun _ => 0))), (q118, .inl (cI, 32768, .inl (fun _ => 0)))] H := hP
  have hD : va_D A [(h0, .inr (4, [.int 0, .ref q7, .ref q15, .ref q23, .ref q31, .ref q39, .ref q47, .ref q55, .ref q63, .ref q71, .ref q80, .ref q89, .int (-1 : Int32), .ref q102, .ref q110, .null, .null, .null, .int 0, .null, .null])), (q7, .inl (cI, 6, .inl (fun _ => 0))), (q15, .inl (cI, 6, .inl (fun _ => 0))), (q23, .inl (cI, 6, .inl (fun _ => 0))), (q31, .inl (cI, 6, .inl (fun _ => 0))), (q39, .inl (cI, 72, .inl (fun _ => 0))), (q47, .inl (cI, 6, .inl (fun _ => 0))), (q55, .inl (cI, 6, .inl (fun _ => 0))), (q63, .inl (cI, 108, .inl (fun _ => 0))), (q71, .inl (cI, 6, .inl (fun _ => 0))), (q80, .inl (cI, 600, .inl (fun _ => 0))), (q89, .inl (cI, 600, .inl (fun _ => 0))), (q102, .inl (cZ, 32768, .inl (fun _ => 0))), (q110, .inl (cI, 32768, .inl (fun _ => 0))), (q118, .inl (cI, 32768, .inl (fun _ => 0)))] := hD
  refine W.widen (k := 14) (n := 99726) (Nat.le_of_ble_eq_true rfl) (Nat.le_of_ble_eq_true rfl) ?_
  refine va_putF (D := (dC, dI)) (ci := 4) (v := .ref q118) (ty := (.array .int)) (C := RX4) (T := TX4) (N := 21) hx hb hts inX4 tyX4 tyX4_ok nmX4 hown hK hP hD hS 0 rfl rfl 15 (by decide) (hts (.fieldLink RX4 55 "BittenBoardsModel" "worths" "[I") (by decide +kernel)) (fun _ h9 => h9) rfl hin rfl (by decide +kernel) rfl rfl (Nat.le_of_ble_eq_true rfl) dX4_init_120 (fun H locs hP hD hS => ?_)
  have hP : va_P (dC, dI) vwCl [(h0, .inr (4, [.int 0, .ref q7, .ref q15, .ref q23, .ref q31, .ref q39, .ref q47, .ref q55, .ref q63, .ref q71, .ref q80, .ref q89, .int (-1 : Int32), .ref q102, .ref q110, .ref q118, .null, .null, .int 0, .null, .null])), (q7, .inl (cI, 6, .inl (fun _ => 0))), (q15, .inl (cI, 6, .inl (fun _ => 0))), (q23, .inl (cI, 6, .inl (fun _ => 0))), (q31, .inl (cI, 6, .inl (fun _ => 0))), (q39, .inl (cI, 72, .inl (fun _ => 0))), (q47, .inl (cI, 6, .inl (fun _ => 0))), (q55, .inl (cI, 6, .inl (fun _ => 0))), (q63, .inl (cI, 108, .inl (fun _ => 0))), (q71, .inl (cI, 6, .inl (fun _ => 0))), (q80, .inl (cI, 600, .inl (fun _ => 0))), (q89, .inl (cI, 600, .inl (fun _ => 0))), (q102, .inl (cZ, 32768, .inl (fun _ => 0))), (q110, .inl (cI, 32768, .inl (fun _ => 0))), (q118, .inl (cI, 32768, .inl (fun _ => 0)))] H := hP
  have hD : va_D A [(h0, .inr (4, [.int 0, .ref q7, .ref q15, .ref q23, .ref q31, .ref q39, .ref q47, .ref q55, .ref q63, .ref q71, .ref q80, .ref q89, .int (-1 : Int32), .ref q102, .ref q110, .ref q118, .null, .null, .int 0, .null, .null])), (q7, .inl (cI, 6, .inl (fun _ => 0))), (q15, .inl (cI, 6, .inl (fun _ => 0))), (q23, .inl (cI, 6, .inl (fun _ => 0))), (q31, .inl (cI, 6, .inl (fun _ => 0))), (q39, .inl (cI, 72, .inl (fun _ => 0))), (q47, .inl (cI, 6, .inl (fun _ => 0))), (q55, .inl (cI, 6, .inl (fun _ => 0))), (q63, .inl (cI, 108, .inl (fun _ => 0))), (q71, .inl (cI, 6, .inl (fun _ => 0))), (q80, .inl (cI, 600, .inl (fun _ => 0))), (q89, .inl (cI, 600, .inl (fun _ => 0))), (q102, .inl (cZ, 32768, .inl (fun _ => 0))), (q110, .inl (cI, 32768, .inl (fun _ => 0))), (q118, .inl (cI, 32768, .inl (fun _ => 0)))] := hD
  refine lv_aload_n hx hb dX4_init_123 rfl (lv_at hl 0 rfl) ?_
  refine lv_bipush (v := (7 : Int32)) hx hb dX4_init_124 (by decide) ?_
  refine na_I (N := 7) hx hb (hts (.arrayClass .int) (by decide +kernel)) hK hP hD hS hA (by decide) (by decide) (Nat.le_of_ble_eq_true rfl) (Nat.le_of_ble_eq_true rfl) (Nat.le_of_ble_eq_true rfl) dX4_init_126 (fun q126 H hP hD hS => ?_)
  have hP : va_P (dC, dI) vwCl [(h0, .inr (4, [.int 0, .ref q7, .ref q15, .ref q23, .ref q31, .ref q39, .ref q47, .ref q55, .ref q63, .ref q71, .ref q80, .ref q89, .int (-1 : Int32), .ref q102, .ref q110, .ref q118, .null, .null, .int 0, .null, .null])), (q7, .inl (cI, 6, .inl (fun _ => 0))), (q15, .inl (cI, 6, .inl (fun _ => 0))), (q23, .inl (cI, 6, .inl (fun _ => 0))), (q31, .inl (cI, 6, .inl (fun _ => 0))), (q39, .inl (cI, 72, .inl (fun _ => 0))), (q47, .inl (cI, 6, .inl (fun _ => 0))), (q55, .inl (cI, 6, .inl (fun _ => 0))), (q63, .inl (cI, 108, .inl (fun _ => 0))), (q71, .inl (cI, 6, .inl (fun _ => 0))), (q80, .inl (cI, 600, .inl (fun _ => 0))), (q89, .inl (cI, 600, .inl (fun _ => 0))), (q102, .inl (cZ, 32768, .inl (fun _ => 0))), (q110, .inl (cI, 32768, .inl (fun _ => 0))), (q118, .inl (cI, 32768, .inl (fun _ => 0))), (q126, .inl (cI, 7, .inl (fun _ => 0)))] H := hP
  have hD : va_D A [(h0, .inr (4, [.int 0, .ref q7, .ref q15, .ref q23, .ref q31, .ref q39, .ref q47, .ref q55, .ref q63, .ref q71, .ref q80, .ref q89, .int (-1 : Int32), .ref q102, .ref q110, .ref q118, .null, .null, .int 0, .null, .null])), (q7, .inl (cI, 6, .inl (fun _ => 0))), (q15, .inl (cI, 6, .inl (fun _ => 0))), (q23, .inl (cI, 6, .inl (fun _ => 0))), (q31, .inl (cI, 6, .inl (fun _ => 0))), (q39, .inl (cI, 72, .inl (fun _ => 0))), (q47, .inl (cI, 6, .inl (fun _ => 0))), (q55, .inl (cI, 6, .inl (fun _ => 0))), (q63, .inl (cI, 108, .inl (fun _ => 0))), (q71, .inl (cI, 6, .inl (fun _ => 0))), (q80, .inl (cI, 600, .inl (fun _ => 0))), (q89, .inl (cI, 600, .inl (fun _ => 0))), (q102, .inl (cZ, 32768, .inl (fun _ => 0))), (q110, .inl (cI, 32768, .inl (fun _ => 0))), (q118, .inl (cI, 32768, .inl (fun _ => 0))), (q126, .inl (cI, 7, .inl (fun _ => 0)))] := hD
  refine W.widen (k := 15) (n := 99733) (Nat.le_of_ble_eq_true rfl) (Nat.le_of_ble_eq_true rfl) ?_
  refine va_putF (D := (dC, dI)) (ci := 4) (v := .ref q126) (ty := (.array .int)) (C := RX4) (T := TX4) (N := 21) hx hb hts inX4 tyX4 tyX4_ok nmX4 hown hK hP hD hS 0 rfl rfl 16 (by decide) (hts (.fieldLink RX4 58 "BittenBoardsModel" "board" "[I") (by decide +kernel)) (fun _ h9 => h9) rfl hin rfl (by decide +kernel) rfl rfl (Nat.le_of_ble_eq_true rfl) dX4_init_128 (fun H locs hP hD hS => ?_)
  have hP : va_P (dC, dI) vwCl [(h0, .inr (4, [.int 0, .ref q7, .ref q15, .ref q23, .ref q31, .ref q39, .ref q47, .ref q55, .ref q63, .ref q71, .ref q80, .ref q89, .int (-1 : Int32), .ref q102, .ref q110, .ref q118, .ref q126, .null, .int 0, .null, .null])), (q7, .inl (cI, 6, .inl (fun _ => 0))), (q15, .inl (cI, 6, .inl (fun _ => 0))), (q23, .inl (cI, 6, .inl (fun _ => 0))), (q31, .inl (cI, 6, .inl (fun _ => 0))), (q39, .inl (cI, 72, .inl (fun _ => 0))), (q47, .inl (cI, 6, .inl (fun _ => 0))), (q55, .inl (cI, 6, .inl (fun _ => 0))), (q63, .inl (cI, 108, .inl (fun _ => 0))), (q71, .inl (cI, 6, .inl (fun _ => 0))), (q80, .inl (cI, 600, .inl (fun _ => 0))), (q89, .inl (cI, 600, .inl (fun _ => 0))), (q102, .inl (cZ, 32768, .inl (fun _ => 0))), (q110, .inl (cI, 32768, .inl (fun _ => 0))), (q118, .inl (cI, 32768, .inl (fun _ => 0))), (q126, .inl (cI, 7, .inl (fun _ => 0)))] H := hP
  have hD : va_D A [(h0, .inr (4, [.int 0, .ref q7, .ref q15, .ref q23, .ref q31, .ref q39, .ref q47, .ref q55, .ref q63, .ref q71, .ref q80, .ref q89, .int (-1 : Int32), .ref q102, .ref q110, .ref q118, .ref q126, .null, .int 0, .null, .null])), (q7, .inl (cI, 6, .inl (fun _ => 0))), (q15, .inl (cI, 6, .inl (fun _ => 0))), (q23, .inl (cI, 6, .inl (fun _ => 0))), (q31, .inl (cI, 6, .inl (fun _ => 0))), (q39, .inl (cI, 72, .inl (fun _ => 0))), (q47, .inl (cI, 6, .inl (fun _ => 0))), (q55, .inl (cI, 6, .inl (fun _ => 0))), (q63, .inl (cI, 108, .inl (fun _ => 0))), (q71, .inl (cI, 6, .inl (fun _ => 0))), (q80, .inl (cI, 600, .inl (fun _ => 0))), (q89, .inl (cI, 600, .inl (fun _ => 0))), (q102, .inl (cZ, 32768, .inl (fun _ => 0))), (q110, .inl (cI, 32768, .inl (fun _ => 0))), (q118, .inl (cI, 32768, .inl (fun _ => 0))), (q126, .inl (cI, 7, .inl (fun _ => 0)))] := hD
  refine lv_aload_n hx hb dX4_init_131 rfl (lv_at hl 0 rfl) ?_
  refine lv_bipush (v := (49 : Int32)) hx hb dX4_init_132 (by decide) ?_
  refine na_I (N := 49) hx hb (hts (.arrayClass .int) (by decide +kernel)) hK hP hD hS hA (by decide) (by decide) (Nat.le_of_ble_eq_true rfl) (Nat.le_of_ble_eq_true rfl) (Nat.le_of_ble_eq_true rfl) dX4_init_134 (fun q134 H hP hD hS => ?_)
  have hP : va_P (dC, dI) vwCl [(h0, .inr (4, [.int 0, .ref q7, .ref q15, .ref q23, .ref q31, .ref q39, .ref q47, .ref q55, .ref q63, .ref q71, .ref q80, .ref q89, .int (-1 : Int32), .ref q102, .ref q110, .ref q118, .ref q126, .null, .int 0, .null, .null])), (q7, .inl (cI, 6, .inl (fun _ => 0))), (q15, .inl (cI, 6, .inl (fun _ => 0))), (q23, .inl (cI, 6, .inl (fun _ => 0))), (q31, .inl (cI, 6, .inl (fun _ => 0))), (q39, .inl (cI, 72, .inl (fun _ => 0))), (q47, .inl (cI, 6, .inl (fun _ => 0))), (q55, .inl (cI, 6, .inl (fun _ => 0))), (q63, .inl (cI, 108, .inl (fun _ => 0))), (q71, .inl (cI, 6, .inl (fun _ => 0))), (q80, .inl (cI, 600, .inl (fun _ => 0))), (q89, .inl (cI, 600, .inl (fun _ => 0))), (q102, .inl (cZ, 32768, .inl (fun _ => 0))), (q110, .inl (cI, 32768, .inl (fun _ => 0))), (q118, .inl (cI, 32768, .inl (fun _ => 0))), (q126, .inl (cI, 7, .inl (fun _ => 0))), (q134, .inl (cI, 49, .inl (fun _ => 0)))] H := hP
  have hD : va_D A [(h0, .inr (4, [.int 0, .ref q7, .ref q15, .ref q23, .ref q31, .ref q39, .ref q47, .ref q55, .ref q63, .ref q71, .ref q80, .ref q89, .int (-1 : Int32), .ref q102, .ref q110, .ref q118, .ref q126, .null, .int 0, .null, .null])), (q7, .inl (cI, 6, .inl (fun _ => 0))), (q15, .inl (cI, 6, .inl (fun _ => 0))), (q23, .inl (cI, 6, .inl (fun _ => 0))), (q31, .inl (cI, 6, .inl (fun _ => 0))), (q39, .inl (cI, 72, .inl (fun _ => 0))), (q47, .inl (cI, 6, .inl (fun _ => 0))), (q55, .inl (cI, 6, .inl (fun _ => 0))), (q63, .inl (cI, 108, .inl (fun _ => 0))), (q71, .inl (cI, 6, .inl (fun _ => 0))), (q80, .inl (cI, 600, .inl (fun _ => 0))), (q89, .inl (cI, 600, .inl (fun _ => 0))), (q102, .inl (cZ, 32768, .inl (fun _ => 0))), (q110, .inl (cI, 32768, .inl (fun _ => 0))), (q118, .inl (cI, 32768, .inl (fun _ => 0))), (q126, .inl (cI, 7, .inl (fun _ => 0))), (q134, .inl (cI, 49, .inl (fun _ => 0)))] := hD
  refine W.widen (k := 16) (n := 99782) (Nat.le_of_ble_eq_true rfl) (Nat.le_of_ble_eq_true rfl) ?_
  refine va_putF (D := (dC, dI)) (ci := 4) (v := .ref q134) (ty := (.array .int)) (C := RX4) (T := TX4) (N := 21) hx hb hts inX4 tyX4 tyX4_ok nmX4 hown hK hP hD hS 0 rfl rfl 17 (by decide) (hts (.fieldLink RX4 61 "BittenBoardsModel" "next" "[I") (by decide +kernel)) (fun _ h9 => h9) rfl hin rfl (by decide +kernel) rfl rfl (Nat.le_of_ble_eq_true rfl) dX4_init_136 (fun H locs hP hD hS => ?_)
  have hP : va_P (dC, dI) vwCl [(h0, .inr (4, [.int 0, .ref q7, .ref q15, .ref q23, .ref q31, .ref q39, .ref q47, .ref q55, .ref q63, .ref q71, .ref q80, .ref q89, .int (-1 : Int32), .ref q102, .ref q110, .ref q118, .ref q126, .ref q134, .int 0, .null, .null])), (q7, .inl (cI, 6, .inl (fun _ => 0))), (q15, .inl (cI, 6, .inl (fun _ => 0))), (q23, .inl (cI, 6, .inl (fun _ => 0))), (q31, .inl (cI, 6, .inl (fun _ => 0))), (q39, .inl (cI, 72, .inl (fun _ => 0))), (q47, .inl (cI, 6, .inl (fun _ => 0))), (q55, .inl (cI, 6, .inl (fun _ => 0))), (q63, .inl (cI, 108, .inl (fun _ => 0))), (q71, .inl (cI, 6, .inl (fun _ => 0))), (q80, .inl (cI, 600, .inl (fun _ => 0))), (q89, .inl (cI, 600, .inl (fun _ => 0))), (q102, .inl (cZ, 32768, .inl (fun _ => 0))), (q110, .inl (cI, 32768, .inl (fun _ => 0))), (q118, .inl (cI, 32768, .inl (fun _ => 0))), (q126, .inl (cI, 7, .inl (fun _ => 0))), (q134, .inl (cI, 49, .inl (fun _ => 0)))] H := hP
  have hD : va_D A [(h0, .inr (4, [.int 0, .ref q7, .ref q15, .ref q23, .ref q31, .ref q39, .ref q47, .ref q55, .ref q63, .ref q71, .ref q80, .ref q89, .int (-1 : Int32), .ref q102, .ref q110, .ref q118, .ref q126, .ref q134, .int 0, .null, .null])), (q7, .inl (cI, 6, .inl (fun _ => 0))), (q15, .inl (cI, 6, .inl (fun _ => 0))), (q23, .inl (cI, 6, .inl (fun _ => 0))), (q31, .inl (cI, 6, .inl (fun _ => 0))), (q39, .inl (cI, 72, .inl (fun _ => 0))), (q47, .inl (cI, 6, .inl (fun _ => 0))), (q55, .inl (cI, 6, .inl (fun _ => 0))), (q63, .inl (cI, 108, .inl (fun _ => 0))), (q71, .inl (cI, 6, .inl (fun _ => 0))), (q80, .inl (cI, 600, .inl (fun _ => 0))), (q89, .inl (cI, 600, .inl (fun _ => 0))), (q102, .inl (cZ, 32768, .inl (fun _ => 0))), (q110, .inl (cI, 32768, .inl (fun _ => 0))), (q118, .inl (cI, 32768, .inl (fun _ => 0))), (q126, .inl (cI, 7, .inl (fun _ => 0))), (q134, .inl (cI, 49, .inl (fun _ => 0)))] := hD
  refine lv_aload_n hx hb dX4_init_139 rfl (lv_at hl 0 rfl) ?_
  refine lv_bipush (v := (64 : Int32)) hx hb dX4_init_140 (by decide) ?_
  refine na_Z (N := 64) hx hb (hts (.arrayClass .boolean) (by decide +kernel)) hK hP hD hS hA (by decide) (by decide) (Nat.le_of_ble_eq_true rfl) (Nat.le_of_ble_eq_true rfl) (Nat.le_of_ble_eq_true rfl) dX4_init_142 (fun q142 H hP hD hS => ?_)
  have hP : va_P (dC, dI) vwCl [(h0, .inr (4, [.int 0, .ref q7, .ref q15, .ref q23, .ref q31, .ref q39, .ref q47, .ref q55, .ref q63, .ref q71, .ref q80, .ref q89, .int (-1 : Int32), .ref q102, .ref q110, .ref q118, .ref q126, .ref q134, .int 0, .null, .null])), (q7, .inl (cI, 6, .inl (fun _ => 0))), (q15, .inl (cI, 6, .inl (fun _ => 0))), (q23, .inl (cI, 6, .inl (fun _ => 0))), (q31, .inl (cI, 6, .inl (fun _ => 0))), (q39, .inl (cI, 72, .inl (fun _ => 0))), (q47, .inl (cI, 6, .inl (fun _ => 0))), (q55, .inl (cI, 6, .inl (fun _ => 0))), (q63, .inl (cI, 108, .inl (fun _ => 0))), (q71, .inl (cI, 6, .inl (fun _ => 0))), (q80, .inl (cI, 600, .inl (fun _ => 0))), (q89, .inl (cI, 600, .inl (fun _ => 0))), (q102, .inl (cZ, 32768, .inl (fun _ => 0))), (q110, .inl (cI, 32768, .inl (fun _ => 0))), (q118, .inl (cI, 32768, .inl (fun _ => 0))), (q126, .inl (cI, 7, .inl (fun _ => 0))), (q134, .inl (cI, 49, .inl (fun _ => 0))), (q142, .inl (cZ, 64, .inl (fun _ => 0)))] H := hP
  have hD : va_D A [(h0, .inr (4, [.int 0, .ref q7, .ref q15, .ref q23, .ref q31, .ref q39, .ref q47, .ref q55, .ref q63, .ref q71, .ref q80, .ref q89, .int (-1 : Int32), .ref q102, .ref q110, .ref q118, .ref q126, .ref q134, .int 0, .null, .null])), (q7, .inl (cI, 6, .inl (fun _ => 0))), (q15, .inl (cI, 6, .inl (fun _ => 0))), (q23, .inl (cI, 6, .inl (fun _ => 0))), (q31, .inl (cI, 6, .inl (fun _ => 0))), (q39, .inl (cI, 72, .inl (fun _ => 0))), (q47, .inl (cI, 6, .inl (fun _ => 0))), (q55, .inl (cI, 6, .inl (fun _ => 0))), (q63, .inl (cI, 108, .inl (fun _ => 0))), (q71, .inl (cI, 6, .inl (fun _ => 0))), (q80, .inl (cI, 600, .inl (fun _ => 0))), (q89, .inl (cI, 600, .inl (fun _ => 0))), (q102, .inl (cZ, 32768, .inl (fun _ => 0))), (q110, .inl (cI, 32768, .inl (fun _ => 0))), (q118, .inl (cI, 32768, .inl (fun _ => 0))), (q126, .inl (cI, 7, .inl (fun _ => 0))), (q134, .inl (cI, 49, .inl (fun _ => 0))), (q142, .inl (cZ, 64, .inl (fun _ => 0)))] := hD
  refine W.widen (k := 17) (n := 99846) (Nat.le_of_ble_eq_true rfl) (Nat.le_of_ble_eq_true rfl) ?_
  refine va_putF (D := (dC, dI)) (ci := 4) (v := .ref q142) (ty := (.array .boolean)) (C := RX4) (T := TX4) (N := 21) hx hb hts inX4 tyX4 tyX4_ok nmX4 hown hK hP hD hS 0 rfl rfl 19 (by decide) (hts (.fieldLink RX4 64 "BittenBoardsModel" "seen" "[Z") (by decide +kernel)) (fun _ h9 => h9) rfl hin rfl (by decide +kernel) rfl rfl (Nat.le_of_ble_eq_true rfl) dX4_init_144 (fun H locs hP hD hS => ?_)
  have hP : va_P (dC, dI) vwCl [(h0, .inr (4, [.int 0, .ref q7, .ref q15, .ref q23, .ref q31, .ref q39, .ref q47, .ref q55, .ref q63, .ref q71, .ref q80, .ref q89, .int (-1 : Int32), .ref q102, .ref q110, .ref q118, .ref q126, .ref q134, .int 0, .ref q142, .null])), (q7, .inl (cI, 6, .inl (fun _ => 0))), (q15, .inl (cI, 6, .inl (fun _ => 0))), (q23, .inl (cI, 6, .inl (fun _ => 0))), (q31, .inl (cI, 6, .inl (fun _ => 0))), (q39, .inl (cI, 72, .inl (fun _ => 0))), (q47, .inl (cI, 6, .inl (fun _ => 0))), (q55, .inl (cI, 6, .inl (fun _ => 0))), (q63, .inl (cI, 108, .inl (fun _ => 0))), (q71, .inl (cI, 6, .inl (fun _ => 0))), (q80, .inl (cI, 600, .inl (fun _ => 0))), (q89, .inl (cI, 600, .inl (fun _ => 0))), (q102, .inl (cZ, 32768, .inl (fun _ => 0))), (q110, .inl (cI, 32768, .inl (fun _ => 0))), (q118, .inl (cI, 32768, .inl (fun _ => 0))), (q126, .inl (cI, 7, .inl (fun _ => 0))), (q134, .inl (cI, 49, .inl (fun _ => 0))), (q142, .inl (cZ, 64, .inl (fun _ => 0)))] H := hP
  have hD : va_D A [(h0, .inr (4, [.int 0, .ref q7, .ref q15, .ref q23, .ref q31, .ref q39, .ref q47, .ref q55, .ref q63, .ref q71, .ref q80, .ref q89, .int (-1 : Int32), .ref q102, .ref q110, .ref q118, .ref q126, .ref q134, .int 0, .ref q142, .null])), (q7, .inl (cI, 6, .inl (fun _ => 0))), (q15, .inl (cI, 6, .inl (fun _ => 0))), (q23, .inl (cI, 6, .inl (fun _ => 0))), (q31, .inl (cI, 6, .inl (fun _ => 0))), (q39, .inl (cI, 72, .inl (fun _ => 0))), (q47, .inl (cI, 6, .inl (fun _ => 0))), (q55, .inl (cI, 6, .inl (fun _ => 0))), (q63, .inl (cI, 108, .inl (fun _ => 0))), (q71, .inl (cI, 6, .inl (fun _ => 0))), (q80, .inl (cI, 600, .inl (fun _ => 0))), (q89, .inl (cI, 600, .inl (fun _ => 0))), (q102, .inl (cZ, 32768, .inl (fun _ => 0))), (q110, .inl (cI, 32768, .inl (fun _ => 0))), (q118, .inl (cI, 32768, .inl (fun _ => 0))), (q126, .inl (cI, 7, .inl (fun _ => 0))), (q134, .inl (cI, 49, .inl (fun _ => 0))), (q142, .inl (cZ, 64, .inl (fun _ => 0)))] := hD
  refine lv_aload_n hx hb dX4_init_147 rfl (lv_at hl 0 rfl) ?_
  refine lv_bipush (v := (7 : Int32)) hx hb dX4_init_148 (by decide) ?_
  refine na_I (N := 7) hx hb (hts (.arrayClass .int) (by decide +kernel)) hK hP hD hS hA (by decide) (by decide) (Nat.le_of_ble_eq_true rfl) (Nat.le_of_ble_eq_true rfl) (Nat.le_of_ble_eq_true rfl) dX4_init_150 (fun q150 H hP hD hS => ?_)
  have hP : va_P (dC, dI) vwCl [(h0, .inr (4, [.int 0, .ref q7, .ref q15, .ref q23, .ref q31, .ref q39, .ref q47, .ref q55, .ref q63, .ref q71, .ref q80, .ref q89, .int (-1 : Int32), .ref q102, .ref q110, .ref q118, .ref q126, .ref q134, .int 0, .ref q142, .null])), (q7, .inl (cI, 6, .inl (fun _ => 0))), (q15, .inl (cI, 6, .inl (fun _ => 0))), (q23, .inl (cI, 6, .inl (fun _ => 0))), (q31, .inl (cI, 6, .inl (fun _ => 0))), (q39, .inl (cI, 72, .inl (fun _ => 0))), (q47, .inl (cI, 6, .inl (fun _ => 0))), (q55, .inl (cI, 6, .inl (fun _ => 0))), (q63, .inl (cI, 108, .inl (fun _ => 0))), (q71, .inl (cI, 6, .inl (fun _ => 0))), (q80, .inl (cI, 600, .inl (fun _ => 0))), (q89, .inl (cI, 600, .inl (fun _ => 0))), (q102, .inl (cZ, 32768, .inl (fun _ => 0))), (q110, .inl (cI, 32768, .inl (fun _ => 0))), (q118, .inl (cI, 32768, .inl (fun _ => 0))), (q126, .inl (cI, 7, .inl (fun _ => 0))), (q134, .inl (cI, 49, .inl (fun _ => 0))), (q142, .inl (cZ, 64, .inl (fun _ => 0))), (q150, .inl (cI, 7, .inl (fun _ => 0)))] H := hP
  have hD : va_D A [(h0, .inr (4, [.int 0, .ref q7, .ref q15, .ref q23, .ref q31, .ref q39, .ref q47, .ref q55, .ref q63, .ref q71, .ref q80, .ref q89, .int (-1 : Int32), .ref q102, .ref q110, .ref q118, .ref q126, .ref q134, .int 0, .ref q142, .null])), (q7, .inl (cI, 6, .inl (fun _ => 0))), (q15, .inl (cI, 6, .inl (fun _ => 0))), (q23, .inl (cI, 6, .inl (fun _ => 0))), (q31, .inl (cI, 6, .inl (fun _ => 0))), (q39, .inl (cI, 72, .inl (fun _ => 0))), (q47, .inl (cI, 6, .inl (fun _ => 0))), (q55, .inl (cI, 6, .inl (fun _ => 0))), (q63, .inl (cI, 108, .inl (fun _ => 0))), (q71, .inl (cI, 6, .inl (fun _ => 0))), (q80, .inl (cI, 600, .inl (fun _ => 0))), (q89, .inl (cI, 600, .inl (fun _ => 0))), (q102, .inl (cZ, 32768, .inl (fun _ => 0))), (q110, .inl (cI, 32768, .inl (fun _ => 0))), (q118, .inl (cI, 32768, .inl (fun _ => 0))), (q126, .inl (cI, 7, .inl (fun _ => 0))), (q134, .inl (cI, 49, .inl (fun _ => 0))), (q142, .inl (cZ, 64, .inl (fun _ => 0))), (q150, .inl (cI, 7, .inl (fun _ => 0)))] := hD
  refine W.widen (k := 18) (n := 99853) (Nat.le_of_ble_eq_true rfl) (Nat.le_of_ble_eq_true rfl) ?_
  refine va_putF (D := (dC, dI)) (ci := 4) (v := .ref q150) (ty := (.array .int)) (C := RX4) (T := TX4) (N := 21) hx hb hts inX4 tyX4 tyX4_ok nmX4 hown hK hP hD hS 0 rfl rfl 20 (by decide) (hts (.fieldLink RX4 67 "BittenBoardsModel" "copy" "[I") (by decide +kernel)) (fun _ h9 => h9) rfl hin rfl (by decide +kernel) rfl rfl (Nat.le_of_ble_eq_true rfl) dX4_init_152 (fun H locs hP hD hS => ?_)
  have hP : va_P (dC, dI) vwCl [(h0, .inr (4, [.int 0, .ref q7, .ref q15, .ref q23, .ref q31, .ref q39, .ref q47, .ref q55, .ref q63, .ref q71, .ref q80, .ref q89, .int (-1 : Int32), .ref q102, .ref q110, .ref q118, .ref q126, .ref q134, .int 0, .ref q142, .ref q150])), (q7, .inl (cI, 6, .inl (fun _ => 0))), (q15, .inl (cI, 6, .inl (fun _ => 0))), (q23, .inl (cI, 6, .inl (fun _ => 0))), (q31, .inl (cI, 6, .inl (fun _ => 0))), (q39, .inl (cI, 72, .inl (fun _ => 0))), (q47, .inl (cI, 6, .inl (fun _ => 0))), (q55, .inl (cI, 6, .inl (fun _ => 0))), (q63, .inl (cI, 108, .inl (fun _ => 0))), (q71, .inl (cI, 6, .inl (fun _ => 0))), (q80, .inl (cI, 600, .inl (fun _ => 0))), (q89, .inl (cI, 600, .inl (fun _ => 0))), (q102, .inl (cZ, 32768, .inl (fun _ => 0))), (q110, .inl (cI, 32768, .inl (fun _ => 0))), (q118, .inl (cI, 32768, .inl (fun _ => 0))), (q126, .inl (cI, 7, .inl (fun _ => 0))), (q134, .inl (cI, 49, .inl (fun _ => 0))), (q142, .inl (cZ, 64, .inl (fun _ => 0))), (q150, .inl (cI, 7, .inl (fun _ => 0)))] H := hP
  have hD : va_D A [(h0, .inr (4, [.int 0, .ref q7, .ref q15, .ref q23, .ref q31, .ref q39, .ref q47, .ref q55, .ref q63, .ref q71, .ref q80, .ref q89, .int (-1 : Int32), .ref q102, .ref q110, .ref q118, .ref q126, .ref q134, .int 0, .ref q142, .ref q150])), (q7, .inl (cI, 6, .inl (fun _ => 0))), (q15, .inl (cI, 6, .inl (fun _ => 0))), (q23, .inl (cI, 6, .inl (fun _ => 0))), (q31, .inl (cI, 6, .inl (fun _ => 0))), (q39, .inl (cI, 72, .inl (fun _ => 0))), (q47, .inl (cI, 6, .inl (fun _ => 0))), (q55, .inl (cI, 6, .inl (fun _ => 0))), (q63, .inl (cI, 108, .inl (fun _ => 0))), (q71, .inl (cI, 6, .inl (fun _ => 0))), (q80, .inl (cI, 600, .inl (fun _ => 0))), (q89, .inl (cI, 600, .inl (fun _ => 0))), (q102, .inl (cZ, 32768, .inl (fun _ => 0))), (q110, .inl (cI, 32768, .inl (fun _ => 0))), (q118, .inl (cI, 32768, .inl (fun _ => 0))), (q126, .inl (cI, 7, .inl (fun _ => 0))), (q134, .inl (cI, 49, .inl (fun _ => 0))), (q142, .inl (cZ, 64, .inl (fun _ => 0))), (q150, .inl (cI, 7, .inl (fun _ => 0)))] := hD
  have hP9 := hP.sub (ws' := mc cI cZ (fun k => [h0, q7, q15, q23, q31, q39, q47, q55, q63, q71, q80, q89, q102, q110, q118, q126, q134, q142, q150].getD k 0) (fun k => if k = 1 then (-1) else 0, fun _ _ => 0)) [0, 1, 2, 3, 4, 5, 6, 7, 8, 9, 10, 11, 12, 13, 14, 15, 16, 17, 18] rfl
  have hD9 := hD.sub (ws' := mc cI cZ (fun k => [h0, q7, q15, q23, q31, q39, q47, q55, q63, q71, q80, q89, q102, q110, q118, q126, q134, q142, q150].getD k 0) (fun k => if k = 1 then (-1) else 0, fun _ _ => 0)) [0, 1, 2, 3, 4, 5, 6, 7, 8, 9, 10, 11, 12, 13, 14, 15, 16, 17, 18] (by decide +kernel) rfl
  exact W.vret hx hb hr (fun t ht hW => ⟨⟨(), rfl, trivial, (fun k => [h0, q7, q15, q23, q31, q39, q47, q55, q63, q71, q80, q89, q102, q110, q118, q126, q134, q142, q150].getD k 0), (fun k => if k = 1 then (-1) else 0, fun _ _ => 0), rfl, rfl, rfl, by rw [ht]; exact hP9, va_K.moved hW.alike hK, hD9⟩, hS.F ht⟩) hS.2.2 dX4_init_155 hlocks
