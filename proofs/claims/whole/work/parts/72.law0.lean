/-! ===== the law: both worlds side by side, its calls ===== -/
def LW (dC : Nat → ClassId) (dI : Nat → Nat → Nat) (cI cZ cG : ClassId) (ad am : Nat → Nat) (A : Nat → Prop) (wx : xW) (wm : mW) (H : Heap) : Prop :=
  va_P (dC, dI) vwCl (xc cI cG ad wx) H ∧ va_P (dC, dI) vwCl (mc cI cZ am wm) H ∧ va_D A (xc cI cG ad wx) ∧ va_D A (mc cI cZ am wm) ∧ ∀ i j, i < 42 → j < 19 → ad i ≠ am j
def LA (p : Program) (s : State) (m : MethodId) (c : Code) (b L : Nat) (xs : Nat → Int32) (dC : Nat → ClassId) (dI : Nat → Nat → Nat) (cI cZ cG : ClassId) : Prop :=
  p.tables.exec = Jvm.exec ∧ c.code = code ∧ c.maxLocals = 4 ∧ s.vm.findClass RL = some m.cls ∧ (∀ w ∈ wsL_law, w.before #[Value.ref b] s = true) ∧ va_X b L xs s s.heap ∧ b < s.heap.size ∧ KK dC dI cI cZ cG s ∧ NN s
theorem fst_get {ws : va_W} {n : Nat} {ad : Nat → Nat} (h : ws.map Prod.fst = (List.range n).map ad) {i : Nat} (hi : i < n) : ∃ e, ws[i]? = some (ad i, e) := by
  have h1 : (ws.map Prod.fst)[i]? = some (ad i) := by rw [h, List.getElem?_map, List.getElem?_range hi]; rfl
  rw [List.getElem?_map] at h1
  cases h2 : ws[i]? with
  | none => rw [h2] at h1; cases h1
  | some q => rw [h2] at h1; exact ⟨q.2, congrArg some (Prod.ext (so_1 h1) rfl)⟩
theorem mc_len {cI cZ : ClassId} {ad : Nat → Nat} {w : mW} : (mc cI cZ ad w).map Prod.fst = (List.range 19).map ad := rfl
theorem fst_in {ws : va_W} {n : Nat} {ad : Nat → Nat} (h : ws.map Prod.fst = (List.range n).map ad) {k : Nat} {q : Nat × va_E} (hk : ws[k]? = some q) : ∃ j, j < n ∧ q.1 = ad j := by
  have h1 : (ws.map Prod.fst)[k]? = some q.1 := by rw [List.getElem?_map, hk]; rfl
  rw [h, List.getElem?_map] at h1
  cases h2 : (List.range n)[k]? with
  | none => rw [h2] at h1; cases h1
  | some j =>
    rw [h2] at h1
    obtain ⟨hj, e⟩ := List.getElem?_eq_some_iff.mp h2
    rw [List.getElem_range] at e
    rw [List.length_range] at hj
    exact ⟨j, by omega, (so_1 h1).symm⟩
theorem D_dis {A : Nat → Prop} {a b : va_W} (h : va_D A (a ++ b)) {i j : Nat} {p q : Nat × va_E} (hi : a[i]? = some p) (hj : b[j]? = some q) : p.1 ≠ q.1 := fun e => by
  have hl := (List.getElem?_eq_some_iff.mp hi).1
  have h1 : (a ++ b)[i]? = some p := by rw [List.getElem?_append_left hl]; exact hi
  have h2 : (a ++ b)[a.length + j]? = some q := by
    rw [List.getElem?_append_right (Nat.le_add_right _ _), Nat.add_sub_cancel_left]; exact hj
  have h3 := h.1 i (a.length + j) p q h1 h2 e
  omega
section LCALL
variable {p : Program} {l : Launch} {e : Env} {R : Room} {s : State} {m : MethodId} {args : Array Value} {below : List Frame} {meth : Method} {c : Code} {H : Heap} {locs : List Loc} {Q : State → Prop} {cells slots : Nat}
variable {pc : Nat} {ls : Array Slot} {rest st0 : List Value} {a : Array Value} {dC : Nat → ClassId} {dI : Nat → Nat → Nat} {cI cZ cG : ClassId} {ad am : Nat → Nat} {wx : xW} {wm : mW}
theorem law_x {r0 : Int32} {w0 : xW} (hW : LW dC dI cI cZ cG ad am (fun q => s.heap.size ≤ q) wx wm H) (hS : va_S (fun q => s.heap.size ≤ q) s.heap H locs)
    (hr : va_Run p l e R s m args below meth c H locs cells slots 0 0 (F0 m pc ls st0) rest (va_Qi (fun (r : Int32) (u : xW) => r = r0 ∧ u = w0) (xB dC dI cI cZ cG ad (xA ad H.size)) (xA ad H.size) a) (xA ad H.size))
    (kk : ∀ (H1 : Heap) (locs1 : List Loc), LW dC dI cI cZ cG ad am (fun q => s.heap.size ≤ q) w0 wm H1 → va_S (fun q => s.heap.size ≤ q) s.heap H1 locs1 → W p l e R s m args below meth c H1 locs1 cells slots Q (F0 m (pc + 3) ls (.int r0 :: rest))) : W p l e R s m args below meth c H locs cells slots Q (F0 m pc ls st0) := by
  obtain ⟨hP, hM, hD, hDM, hdis⟩ := hW
  have hAA : ∀ q, xA ad H.size q → s.heap.size ≤ q := fun q h => by
    rcases h with ⟨k, hk, rfl⟩ | h
    · obtain ⟨e1, he⟩ := fst_get (xc_len (cI := cI) (cG := cG) (ad := ad) (w := wx)) hk
      exact hD.2 k _ he
    · exact Nat.le_trans hS.1 h
  refine va_calli hr hS (fun q _ h => hAA q h) (fun q h => hAA q h) (fun r u t H1 locs1 ht hvm hw hB hz hk hS1 => ?_)
  obtain ⟨rfl, rfl⟩ := hw
  obtain ⟨hP1, -, hD1⟩ := hB
  rw [ht] at hP1
  refine kk H1 locs1 ⟨hP1, hM.kept (fun k q hq => hk q.1 (hM k q hq).lt (fun h => ?_)), xD_w hD, hDM, hdis⟩ hS1
  obtain ⟨j, hj, ej⟩ := fst_in mc_len hq
  rcases h with ⟨i, hi, ei⟩ | h
  · exact hdis i j hi hj (by rw [← ei, ← ej])
  · exact absurd (hM k q hq).lt (by omega)
theorem law_m {r0 : Int32} {w0 : mW} (hW : LW dC dI cI cZ cG ad am (fun q => s.heap.size ≤ q) wx wm H) (hS : va_S (fun q => s.heap.size ≤ q) s.heap H locs)
    (hr : va_Run p l e R s m args below meth c H locs cells slots 0 0 (F0 m pc ls st0) rest (va_Qi (fun (r : Int32) (u : mW) => r = r0 ∧ u = w0) (mB dC dI cI cZ cG am (mA am H.size)) (mA am H.size) a) (mA am H.size))
    (kk : ∀ (H1 : Heap) (locs1 : List Loc), LW dC dI cI cZ cG ad am (fun q => s.heap.size ≤ q) wx w0 H1 → va_S (fun q => s.heap.size ≤ q) s.heap H1 locs1 → W p l e R s m args below meth c H1 locs1 cells slots Q (F0 m (pc + 3) ls (.int r0 :: rest))) : W p l e R s m args below meth c H locs cells slots Q (F0 m pc ls st0) := by
  obtain ⟨hP, hM, hD, hDM, hdis⟩ := hW
  have hAA : ∀ q, mA am H.size q → s.heap.size ≤ q := fun q h => by
    rcases h with ⟨k, hk, rfl⟩ | h
    · obtain ⟨e1, he⟩ := fst_get (mc_len (cI := cI) (cZ := cZ) (ad := am) (w := wm)) hk
      exact hDM.2 k _ he
    · exact Nat.le_trans hS.1 h
  refine va_calli hr hS (fun q _ h => hAA q h) (fun q h => hAA q h) (fun r u t H1 locs1 ht hvm hw hB hz hk hS1 => ?_)
  obtain ⟨rfl, rfl⟩ := hw
  obtain ⟨hP1, -, hD1⟩ := hB
  rw [ht] at hP1
  refine kk H1 locs1 ⟨hP.kept (fun k q hq => hk q.1 (hP k q hq).lt (fun h => ?_)), hP1, hD, mD_ad hDM, hdis⟩ hS1
  obtain ⟨j, hj, ej⟩ := fst_in xc_len hq
  rcases h with ⟨i, hi, ei⟩ | h
  · exact hdis j i hj hi (by rw [← ei, ← ej])
  · exact absurd (hP k q hq).lt (by omega)
end LCALL
