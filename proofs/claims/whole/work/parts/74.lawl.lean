set_option maxHeartbeats 4000000 in
set_option maxRecDepth 100000 in
/-- one turn of the law's loop, from its head: to the end, or to the head again, four further -/
theorem law_turn {p : Program} {l : Launch} {e : Env} {s : State} {m : MethodId} {below : List Frame} {meth : Method} {c : Code} {Q : State → Prop} {b L : Nat} {xs : Nat → Int32} {dC : Nat → ClassId} {dI : Nat → Nat → Nat} {cI cZ cG : ClassId} {ad am : Nat → Nat} (hL : L ≤ 2048) (C : LA p s m c b L xs dC dI cI cZ cG) {i : Nat} (hi : i ≤ L + 3) {wx : xW} {wm : mW} (hB : BI wm wx) {H : Heap} {locs : List Loc} {ls : Array Slot} (hW : LW dC dI cI cZ cG ad am (fun q => s.heap.size ≤ q) wx wm H) (hS : va_S (fun q => s.heap.size ≤ q) s.heap H locs) (hl : lv_has ls 4 [(0, .ref b), (1, .ref (ad 0)), (2, .ref (am 0)), (3, .int (nI i))])
    (hend : ∀ (H : Heap) (locs : List Loc) (ls : Array Slot), va_S (fun q => s.heap.size ≤ q) s.heap H locs → W p l e room_1 s m #[Value.ref b] below meth c H locs 600000 7302250 Q (F0 m 956 ls []))
    (kk : i + 3 < L → ∀ (H : Heap) (locs : List Loc) (ls : Array Slot) (wx : xW) (wm : mW), BI wm wx → LW dC dI cI cZ cG ad am (fun q => s.heap.size ≤ q) wx wm H → va_S (fun q => s.heap.size ≤ q) s.heap H locs → lv_has ls 4 [(0, .ref b), (1, .ref (ad 0)), (2, .ref (am 0)), (3, .int (nI (i + 4)))] → W p l e room_1 s m #[Value.ref b] below meth c H locs 600000 7302250 Q (F0 m 18 ls [])) : W p l e room_1 s m #[Value.ref b] below meth c H locs 600000 7302250 Q (F0 m 18 ls []) := by
  obtain ⟨hx, hb, hml, hown, hts, hX, hbl, hK, hN⟩ := id C
  have hbA : ¬ (fun q : Nat => s.heap.size ≤ q) b := Nat.not_le.mpr hbl
  refine lv_iload_n hx hb dL_law_18 rfl (lv_at hl 3 rfl) ?_
  refine lv_aload_n hx hb dL_law_19 rfl (lv_at hl 0 rfl) ?_
  refine va_slen hx hb hX hbl hbA hS dL_law_20 ?_
  refine lv_iconst (v := 4) hx hb dL_law_21 (by decide) ?_
  refine lv_isub hx hb dL_law_22 ?_
  refine lv_icmp_gt (tgt := 956) hx hb dL_law_23 (by decide) (fun _ => hend H locs ls hS) (fun hn => ?_)
  have hlt : i + 3 < L := by
    rw [Int32.lt_iff_toInt_lt, nI_toInt (show i < 2 ^ 31 by omega), show (Int32.ofNat L - 4).toInt = (L : Int) - 4 from pk_sub_toInt (a := L) (b := 4) (by omega) (by decide)] at hn
    omega
  have kk2 := kk hlt
  have hi0 : vp_in (nI i) L := vp_in_nI (by omega) (by omega)
  refine lv_aload_n hx hb dL_law_26 rfl (lv_at hl 0 rfl) ?_
  refine lv_iload_n hx hb dL_law_27 rfl (lv_at hl 3 rfl) ?_
  refine va_sld hx hb hX hbl hbA hS hi0 dL_law_28 ?_
  refine lv_bipush (v := 31) hx hb dL_law_29 (by decide) ?_
  refine lv_iand hx hb dL_law_31 ?_
  refine lv_topi (fun y ey => ?_)
  have K950 : ∀ (H : Heap) (locs : List Loc) (ls : Array Slot) (wx : xW) (wm : mW), BI wm wx → LW dC dI cI cZ cG ad am (fun q => s.heap.size ≤ q) wx wm H → va_S (fun q => s.heap.size ≤ q) s.heap H locs → lv_has ls 4 [(0, .ref b), (1, .ref (ad 0)), (2, .ref (am 0)), (3, .int (nI i))] → W p l e room_1 s m #[Value.ref b] below meth c H locs 600000 7302250 Q (F0 m 950 ls []) := by
    intro H locs ls wx wm hB hW hS hl
    refine lv_iinc (v := nI (i + 4)) (lv' := [(3, .int (nI (i + 4))), (0, .ref b), (1, .ref (ad 0)), (2, .ref (am 0))]) hx hb dL_law_950 hl (k := 3) rfl (nI_add i 4) (by decide) rfl (fun ls hl => ?_)
    refine lv_goto (tgt := 18) hx hb dL_law_953 (by decide) ?_
    exact kk2 H locs ls wx wm hB hW hS (lv_sub hl [1, 2, 3, 0] rfl)
  by_cases h0 : y = 0
  · refine lv_tableIn (tgt := 152) hx hb dL_law_32 (by rw [h0]; decide) (by rw [h0]; decide) (by rw [h0]; rfl) (by decide) ?_
    exact law_rows hL C hlt hB hW hS hl K950
  by_cases h1 : y = 1
  · refine lv_tableIn (tgt := 195) hx hb dL_law_32 (by rw [h1]; decide) (by rw [h1]; decide) (by rw [h1]; rfl) (by decide) ?_
    exact law_order hL C hlt hB hW hS hl K950
  by_cases h2 : y = 2
  · refine lv_tableIn (tgt := 218) hx hb dL_law_32 (by rw [h2]; decide) (by rw [h2]; decide) (by rw [h2]; rfl) (by decide) ?_
    exact law_divisors hL C hlt hB hW hS hl K950
  by_cases h3 : y = 3
  · refine lv_tableIn (tgt := 251) hx hb dL_law_32 (by rw [h3]; decide) (by rw [h3]; decide) (by rw [h3]; rfl) (by decide) ?_
    exact law_net hL C hlt hB hW hS hl K950
  by_cases h4 : y = 4
  · refine lv_tableIn (tgt := 274) hx hb dL_law_32 (by rw [h4]; decide) (by rw [h4]; decide) (by rw [h4]; rfl) (by decide) ?_
    exact law_clear hL C hlt hB hW hS hl K950
  by_cases h5 : y = 5
  · refine lv_tableIn (tgt := 287) hx hb dL_law_32 (by rw [h5]; decide) (by rw [h5]; decide) (by rw [h5]; rfl) (by decide) ?_
    exact law_row hL C hlt hB hW hS hl K950
  by_cases h6 : y = 6
  · refine lv_tableIn (tgt := 330) hx hb dL_law_32 (by rw [h6]; decide) (by rw [h6]; decide) (by rw [h6]; rfl) (by decide) ?_
    exact law_thing hL C hlt hB hW hS hl K950
  by_cases h7 : y = 7
  · refine lv_tableIn (tgt := 353) hx hb dL_law_32 (by rw [h7]; decide) (by rw [h7]; decide) (by rw [h7]; rfl) (by decide) ?_
    exact law_below hL C hlt hB hW hS hl K950
  by_cases h8 : y = 8
  · refine lv_tableIn (tgt := 396) hx hb dL_law_32 (by rw [h8]; decide) (by rw [h8]; decide) (by rw [h8]; rfl) (by decide) ?_
    exact law_post hL C hlt hB hW hS hl K950
  by_cases h9 : y = 9
  · refine lv_tableIn (tgt := 419) hx hb dL_law_32 (by rw [h9]; decide) (by rw [h9]; decide) (by rw [h9]; rfl) (by decide) ?_
    exact law_road hL C hlt hB hW hS hl K950
  by_cases h10 : y = 10
  · refine lv_tableIn (tgt := 462) hx hb dL_law_32 (by rw [h10]; decide) (by rw [h10]; decide) (by rw [h10]; rfl) (by decide) ?_
    exact law_rule hL C hlt hB hW hS hl K950
  by_cases h11 : y = 11
  · refine lv_tableIn (tgt := 495) hx hb dL_law_32 (by rw [h11]; decide) (by rw [h11]; decide) (by rw [h11]; rfl) (by decide) ?_
    exact law_told hL C hlt hB hW hS hl K950
  by_cases h12 : y = 12
  · refine lv_tableIn (tgt := 528) hx hb dL_law_32 (by rw [h12]; decide) (by rw [h12]; decide) (by rw [h12]; rfl) (by decide) ?_
    exact law_isBelow hL C hlt hB hW hS hl K950
  by_cases h13 : y = 13
  · refine lv_tableIn (tgt := 571) hx hb dL_law_32 (by rw [h13]; decide) (by rw [h13]; decide) (by rw [h13]; rfl) (by decide) ?_
    exact law_bite hL C hlt hB hW hS hl K950
  by_cases h14 : y = 14
  · refine lv_tableIn (tgt := 614) hx hb dL_law_32 (by rw [h14]; decide) (by rw [h14]; decide) (by rw [h14]; rfl) (by decide) ?_
    exact law_won hL C hlt hB hW hS hl K950
  by_cases h15 : y = 15
  · refine lv_tableIn (tgt := 637) hx hb dL_law_32 (by rw [h15]; decide) (by rw [h15]; decide) (by rw [h15]; rfl) (by decide) ?_
    exact law_worth hL C hlt hB hW hS hl K950
  by_cases h16 : y = 16
  · refine lv_tableIn (tgt := 660) hx hb dL_law_32 (by rw [h16]; decide) (by rw [h16]; decide) (by rw [h16]; rfl) (by decide) ?_
    exact law_length hL C hlt hB hW hS hl K950
  by_cases h17 : y = 17
  · refine lv_tableIn (tgt := 683) hx hb dL_law_32 (by rw [h17]; decide) (by rw [h17]; decide) (by rw [h17]; rfl) (by decide) ?_
    exact law_winning hL C hlt hB hW hS hl K950
  by_cases h18 : y = 18
  · refine lv_tableIn (tgt := 706) hx hb dL_law_32 (by rw [h18]; decide) (by rw [h18]; decide) (by rw [h18]; rfl) (by decide) ?_
    exact law_boards hL C hlt hB hW hS hl K950
  by_cases h19 : y = 19
  · refine lv_tableIn (tgt := 749) hx hb dL_law_32 (by rw [h19]; decide) (by rw [h19]; decide) (by rw [h19]; rfl) (by decide) ?_
    exact law_ranked hL C hlt hB hW hS hl K950
  by_cases h20 : y = 20
  · refine lv_tableIn (tgt := 782) hx hb dL_law_32 (by rw [h20]; decide) (by rw [h20]; decide) (by rw [h20]; rfl) (by decide) ?_
    exact law_play hL C hlt hB hW hS hl K950
  by_cases h21 : y = 21
  · refine lv_tableIn (tgt := 815) hx hb dL_law_32 (by rw [h21]; decide) (by rw [h21]; decide) (by rw [h21]; rfl) (by decide) ?_
    exact law_answer hL C hlt hB hW hS hl K950
  by_cases h22 : y = 22
  · refine lv_tableIn (tgt := 838) hx hb dL_law_32 (by rw [h22]; decide) (by rw [h22]; decide) (by rw [h22]; rfl) (by decide) ?_
    exact law_back hL C hlt hB hW hS hl K950
  by_cases h23 : y = 23
  · refine lv_tableIn (tgt := 861) hx hb dL_law_32 (by rw [h23]; decide) (by rw [h23]; decide) (by rw [h23]; rfl) (by decide) ?_
    exact law_noted hL C hlt hB hW hS hl K950
  by_cases h24 : y = 24
  · refine lv_tableIn (tgt := 894) hx hb dL_law_32 (by rw [h24]; decide) (by rw [h24]; decide) (by rw [h24]; rfl) (by decide) ?_
    exact law_sum hL C hlt hB hW hS hl K950
  by_cases h25 : y = 25
  · refine lv_tableIn (tgt := 917) hx hb dL_law_32 (by rw [h25]; decide) (by rw [h25]; decide) (by rw [h25]; rfl) (by decide) ?_
    exact law_inSum hL C hlt hB hW hS hl K950
  have hout : ∀ k : Nat, k ≤ 25 → y ≠ nI k := by
    intro k hk
    rcases (show k = 0 ∨ k = 1 ∨ k = 2 ∨ k = 3 ∨ k = 4 ∨ k = 5 ∨ k = 6 ∨ k = 7 ∨ k = 8 ∨ k = 9 ∨ k = 10 ∨ k = 11 ∨ k = 12 ∨ k = 13 ∨ k = 14 ∨ k = 15 ∨ k = 16 ∨ k = 17 ∨ k = 18 ∨ k = 19 ∨ k = 20 ∨ k = 21 ∨ k = 22 ∨ k = 23 ∨ k = 24 ∨ k = 25 by omega) with rfl | rfl | rfl | rfl | rfl | rfl | rfl | rfl | rfl | rfl | rfl | rfl | rfl | rfl | rfl | rfl | rfl | rfl | rfl | rfl | rfl | rfl | rfl | rfl | rfl | rfl
    · exact h0
    · exact h1
    · exact h2
    · exact h3
    · exact h4
    · exact h5
    · exact h6
    · exact h7
    · exact h8
    · exact h9
    · exact h10
    · exact h11
    · exact h12
    · exact h13
    · exact h14
    · exact h15
    · exact h16
    · exact h17
    · exact h18
    · exact h19
    · exact h20
    · exact h21
    · exact h22
    · exact h23
    · exact h24
    · exact h25
  refine lv_tableOut (tgt := 950) hx hb dL_law_32 (sw_out 25 (by decide) hout) (by decide) ?_
  exact K950 H locs ls wx wm hB hW hS hl
/-- the law's loop -/
theorem law_loop {p : Program} {l : Launch} {e : Env} {s : State} {m : MethodId} {below : List Frame} {meth : Method} {c : Code} {Q : State → Prop} {b L : Nat} {xs : Nat → Int32} {dC : Nat → ClassId} {dI : Nat → Nat → Nat} {cI cZ cG : ClassId} {ad am : Nat → Nat} (hL : L ≤ 2048) (C : LA p s m c b L xs dC dI cI cZ cG) (hend : ∀ (H : Heap) (locs : List Loc) (ls : Array Slot), va_S (fun q => s.heap.size ≤ q) s.heap H locs → W p l e room_1 s m #[Value.ref b] below meth c H locs 600000 7302250 Q (F0 m 956 ls [])) : ∀ (n i : Nat), i ≤ L + 3 → L ≤ i + 4 * n → ∀ (H : Heap) (locs : List Loc) (ls : Array Slot) (wx : xW) (wm : mW), BI wm wx → LW dC dI cI cZ cG ad am (fun q => s.heap.size ≤ q) wx wm H → va_S (fun q => s.heap.size ≤ q) s.heap H locs → lv_has ls 4 [(0, .ref b), (1, .ref (ad 0)), (2, .ref (am 0)), (3, .int (nI i))] → W p l e room_1 s m #[Value.ref b] below meth c H locs 600000 7302250 Q (F0 m 18 ls []) := by
  intro n
  induction n with
  | zero => exact fun i hi hn H locs ls wx wm hB hW hS hl => law_turn hL C hi hB hW hS hl hend (fun h => absurd h (by omega))
  | succ n ih => exact fun i hi hn H locs ls wx wm hB hW hS hl => law_turn hL C hi hB hW hS hl hend (fun h => ih (i + 4) (by omega) (by omega))
