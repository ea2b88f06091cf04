/-! ===== both sides ===== -/
theorem MI.mk {n : Nat} {G : Nat → AG} {w : mW} (h : MI n G w) : ∀ g, g < n → Mk (G g) := fun g hg => by
  obtain ⟨hO, hD, -⟩ := h.2.2.1 g hg
  obtain ⟨-, (⟨k, -⟩ | ⟨k, th, t1, -, t2, -⟩ | ⟨k, po, ro, e1, e2, p1, p2, -, -, p3, -⟩)⟩ := hD
  · exact ⟨fun q => by rw [k] at q; exact absurd q (by decide), fun q => by rw [k] at q; exact absurd q (by decide)⟩
  · exact ⟨fun _ => ⟨th, t1, t2⟩, fun q => by rw [k] at q; exact absurd q (by decide)⟩
  · exact ⟨fun q => by rw [k] at q; exact absurd q (by decide), fun _ => ⟨po, ro, p1, p2, p3⟩⟩
theorem MI.ok {n : Nat} {G : Nat → AG} {w : mW} (h : MI n G w) : ∀ g, g < n → GOk (G g) := fun g hg => (h.2.2.1 g hg).1
/-- the reference and the class hold the same games -/
def BI (wm : mW) (wx : xW) : Prop := ∃ n G, MI n G wm ∧ XI n G wx
theorem both_rows {wm : mW} {wx : xW} (h : BI wm wx) (x y z : Int32) : ∃ r wm' wx', mf_rows x y z wm = some (r, wm') ∧ xf_C_rows x y z wx = some (r, wx') ∧ BI wm' wx' := by
  obtain ⟨n, G, hm, hx⟩ := h
  obtain ⟨wm', a1, a2⟩ := hm.rows x y z
  obtain ⟨wx', b1, b2⟩ := hx.rows x y z a2.ok
  exact ⟨_, wm', wx', a1, b1, _, _, a2, b2⟩
theorem both_order {wm : mW} {wx : xW} (h : BI wm wx) (x : Int32) : ∃ r wm' wx', mf_order x wm = some (r, wm') ∧ xf_C_order x wx = some (r, wx') ∧ BI wm' wx' := by
  obtain ⟨n, G, hm, hx⟩ := h
  obtain ⟨wm', a1, a2⟩ := hm.order x
  obtain ⟨wx', b1, b2⟩ := hx.order x a2.ok
  exact ⟨_, wm', wx', a1, b1, _, _, a2, b2⟩
theorem both_divisors {wm : mW} {wx : xW} (h : BI wm wx) (x y : Int32) : ∃ r wm' wx', mf_divisors x y wm = some (r, wm') ∧ xf_C_divisors x y wx = some (r, wx') ∧ BI wm' wx' := by
  obtain ⟨n, G, hm, hx⟩ := h
  obtain ⟨wm', a1, a2⟩ := hm.divisors x y
  obtain ⟨wx', b1, b2⟩ := hx.divisors x y a2.ok
  exact ⟨_, wm', wx', a1, b1, _, _, a2, b2⟩
theorem both_net {wm : mW} {wx : xW} (h : BI wm wx) (x : Int32) : ∃ r wm' wx', mf_net x wm = some (r, wm') ∧ xf_C_net x wx = some (r, wx') ∧ BI wm' wx' := by
  obtain ⟨n, G, hm, hx⟩ := h
  obtain ⟨wm', a1, a2⟩ := hm.net x
  obtain ⟨wx', b1, b2⟩ := hx.net x a2.ok
  exact ⟨_, wm', wx', a1, b1, _, _, a2, b2⟩
theorem both_clear {wm : mW} {wx : xW} (h : BI wm wx) : ∃ r wm' wx', mf_clear wm = some (r, wm') ∧ xf_C_clear wx = some (r, wx') ∧ BI wm' wx' := by
  obtain ⟨n, G, hm, hx⟩ := h
  obtain ⟨wm', a1, a2⟩ := hm.clear
  obtain ⟨wx', b1, b2⟩ := hx.clear
  exact ⟨_, wm', wx', a1, b1, _, _, a2, b2⟩
theorem both_row {wm : mW} {wx : xW} (h : BI wm wx) (x y z : Int32) : ∃ r wm' wx', mf_row x y z wm = some (r, wm') ∧ xf_C_row x y z wx = some (r, wx') ∧ BI wm' wx' := by
  obtain ⟨n, G, hm, hx⟩ := h
  obtain ⟨wm', a1, a2⟩ := hm.row x y z
  obtain ⟨wx', b1, b2⟩ := hx.row x y z a2.ok
  exact ⟨_, wm', wx', a1, b1, _, _, a2, b2⟩
theorem both_thing {wm : mW} {wx : xW} (h : BI wm wx) (x : Int32) : ∃ r wm' wx', mf_thing x wm = some (r, wm') ∧ xf_C_thing x wx = some (r, wx') ∧ BI wm' wx' := by
  obtain ⟨n, G, hm, hx⟩ := h
  obtain ⟨wm', a1, a2⟩ := hm.thing x
  obtain ⟨wx', b1, b2⟩ := hx.thing x hm.mk a2.ok
  exact ⟨_, wm', wx', a1, b1, _, _, a2, b2⟩
theorem both_below {wm : mW} {wx : xW} (h : BI wm wx) (x y z : Int32) : ∃ r wm' wx', mf_below x y z wm = some (r, wm') ∧ xf_C_below x y z wx = some (r, wx') ∧ BI wm' wx' := by
  obtain ⟨n, G, hm, hx⟩ := h
  obtain ⟨wm', a1, a2⟩ := hm.below x y z
  obtain ⟨wx', b1, b2⟩ := hx.below x y z hm.mk a2.ok
  exact ⟨_, wm', wx', a1, b1, _, _, a2, b2⟩
theorem both_post {wm : mW} {wx : xW} (h : BI wm wx) (x : Int32) : ∃ r wm' wx', mf_post x wm = some (r, wm') ∧ xf_C_post x wx = some (r, wx') ∧ BI wm' wx' := by
  obtain ⟨n, G, hm, hx⟩ := h
  obtain ⟨wm', a1, a2⟩ := hm.post x
  obtain ⟨wx', b1, b2⟩ := hx.post x a2.ok
  exact ⟨_, wm', wx', a1, b1, _, _, a2, b2⟩
theorem both_road {wm : mW} {wx : xW} (h : BI wm wx) (x y z : Int32) : ∃ r wm' wx', mf_road x y z wm = some (r, wm') ∧ xf_C_road x y z wx = some (r, wx') ∧ BI wm' wx' := by
  obtain ⟨n, G, hm, hx⟩ := h
  obtain ⟨wm', a1, a2⟩ := hm.road x y z
  obtain ⟨wx', b1, b2⟩ := hx.road x y z hm.mk a2.ok
  exact ⟨_, wm', wx', a1, b1, _, _, a2, b2⟩
theorem both_rule {wm : mW} {wx : xW} (h : BI wm wx) (x y : Int32) : ∃ r wm' wx', mf_rule x y wm = some (r, wm') ∧ xf_C_rule x y wx = some (r, wx') ∧ BI wm' wx' := by
  obtain ⟨n, G, hm, hx⟩ := h
  obtain ⟨wm', a1, a2⟩ := hm.rule x y
  obtain ⟨wx', b1, b2⟩ := hx.rule x y a2.ok
  exact ⟨_, wm', wx', a1, b1, _, _, a2, b2⟩
theorem both_told {wm : mW} {wx : xW} (h : BI wm wx) (x y : Int32) : ∃ r wm' wx', mf_told x y wm = some (r, wm') ∧ xf_C_told x y wx = some (r, wx') ∧ BI wm' wx' := by
  obtain ⟨n, G, hm, hx⟩ := h
  obtain ⟨wm', a1, a2⟩ := hm.told x y
  obtain ⟨wx', b1, b2⟩ := hx.told x y
  exact ⟨_, wm', wx', a1, b1, _, _, a2, b2⟩
theorem both_bite {wm : mW} {wx : xW} (h : BI wm wx) (x y z : Int32) : ∃ r wm' wx', mf_bite x y z wm = some (r, wm') ∧ xf_C_bite x y z wx = some (r, wx') ∧ BI wm' wx' := by
  obtain ⟨n, G, hm, hx⟩ := h
  obtain ⟨wm', a1, a2⟩ := hm.bite x y z
  obtain ⟨wx', b1, b2⟩ := hx.bite x y z
  exact ⟨_, wm', wx', a1, b1, _, _, a2, b2⟩
theorem both_won {wm : mW} {wx : xW} (h : BI wm wx) (x : Int32) : ∃ r wm' wx', mf_won x wm = some (r, wm') ∧ xf_C_won x wx = some (r, wx') ∧ BI wm' wx' := by
  obtain ⟨n, G, hm, hx⟩ := h
  obtain ⟨wm', a1, a2⟩ := hm.won x
  obtain ⟨wx', b1, b2⟩ := hx.won x
  exact ⟨_, wm', wx', a1, b1, _, _, a2, b2⟩
theorem both_worth {wm : mW} {wx : xW} (h : BI wm wx) (x : Int32) : ∃ r wm' wx', mf_worth x wm = some (r, wm') ∧ xf_C_worth x wx = some (r, wx') ∧ BI wm' wx' := by
  obtain ⟨n, G, hm, hx⟩ := h
  obtain ⟨wm', a1, a2⟩ := hm.worth x
  obtain ⟨wx', b1, b2⟩ := hx.worth x
  exact ⟨_, wm', wx', a1, b1, _, _, a2, b2⟩
theorem both_length {wm : mW} {wx : xW} (h : BI wm wx) (x : Int32) : ∃ r wm' wx', mf_length x wm = some (r, wm') ∧ xf_C_length x wx = some (r, wx') ∧ BI wm' wx' := by
  obtain ⟨n, G, hm, hx⟩ := h
  obtain ⟨wm', a1, a2⟩ := hm.length x
  obtain ⟨wx', b1, b2⟩ := hx.length x
  exact ⟨_, wm', wx', a1, b1, _, _, a2, b2⟩
theorem both_winning {wm : mW} {wx : xW} (h : BI wm wx) (x : Int32) : ∃ r wm' wx', mf_winning x wm = some (r, wm') ∧ xf_C_winning x wx = some (r, wx') ∧ BI wm' wx' := by
  obtain ⟨n, G, hm, hx⟩ := h
  obtain ⟨wm', a1, a2⟩ := hm.winning x
  obtain ⟨wx', b1, b2⟩ := hx.winning x
  exact ⟨_, wm', wx', a1, b1, _, _, a2, b2⟩
theorem both_boards {wm : mW} {wx : xW} (h : BI wm wx) (x y z : Int32) : ∃ r wm' wx', mf_boards x y z wm = some (r, wm') ∧ xf_C_boards x y z wx = some (r, wx') ∧ BI wm' wx' := by
  obtain ⟨n, G, hm, hx⟩ := h
  obtain ⟨wm', a1, a2⟩ := hm.boards x y z
  obtain ⟨wx', b1, b2⟩ := hx.boards x y z
  exact ⟨_, wm', wx', a1, b1, _, _, a2, b2⟩
theorem both_ranked {wm : mW} {wx : xW} (h : BI wm wx) (x y : Int32) : ∃ r wm' wx', mf_ranked x y wm = some (r, wm') ∧ xf_C_ranked x y wx = some (r, wx') ∧ BI wm' wx' := by
  obtain ⟨n, G, hm, hx⟩ := h
  obtain ⟨wm', a1, a2⟩ := hm.ranked x y
  obtain ⟨wx', b1, b2⟩ := hx.ranked x y
  exact ⟨_, wm', wx', a1, b1, _, _, a2, b2⟩
theorem both_play {wm : mW} {wx : xW} (h : BI wm wx) (x y : Int32) : ∃ r wm' wx', mf_play x y wm = some (r, wm') ∧ xf_C_play x y wx = some (r, wx') ∧ BI wm' wx' := by
  obtain ⟨n, G, hm, hx⟩ := h
  obtain ⟨wm', a1, a2⟩ := hm.play x y
  obtain ⟨wx', b1, b2⟩ := hx.play x y
  exact ⟨_, wm', wx', a1, b1, _, _, a2, b2⟩
theorem both_answer {wm : mW} {wx : xW} (h : BI wm wx) (x : Int32) : ∃ r wm' wx', mf_answer x wm = some (r, wm') ∧ xf_C_answer x wx = some (r, wx') ∧ BI wm' wx' := by
  obtain ⟨n, G, hm, hx⟩ := h
  obtain ⟨wm', a1, a2⟩ := hm.answer x
  obtain ⟨wx', b1, b2⟩ := hx.answer x
  exact ⟨_, wm', wx', a1, b1, _, _, a2, b2⟩
theorem both_back {wm : mW} {wx : xW} (h : BI wm wx) (x : Int32) : ∃ r wm' wx', mf_back x wm = some (r, wm') ∧ xf_C_back x wx = some (r, wx') ∧ BI wm' wx' := by
  obtain ⟨n, G, hm, hx⟩ := h
  obtain ⟨wm', a1, a2⟩ := hm.back x
  obtain ⟨wx', b1, b2⟩ := hx.back x a2.ok
  exact ⟨_, wm', wx', a1, b1, _, _, a2, b2⟩
theorem both_sum {wm : mW} {wx : xW} (h : BI wm wx) (x : Int32) : ∃ r wm' wx', mf_sum x wm = some (r, wm') ∧ xf_C_sum x wx = some (r, wx') ∧ BI wm' wx' := by
  obtain ⟨n, G, hm, hx⟩ := h
  obtain ⟨wm', a1, a2⟩ := hm.sum x
  obtain ⟨wx', b1, b2⟩ := hx.sum x
  exact ⟨_, wm', wx', a1, b1, _, _, a2, b2⟩
theorem both_inSum {wm : mW} {wx : xW} (h : BI wm wx) (x y : Int32) : ∃ r wm' wx', mf_inSum x y wm = some (r, wm') ∧ xf_C_inSum x y wx = some (r, wx') ∧ BI wm' wx' := by
  obtain ⟨n, G, hm, hx⟩ := h
  obtain ⟨wm', a1, a2⟩ := hm.inSum x y
  obtain ⟨wx', b1, b2⟩ := hx.inSum x y
  exact ⟨_, wm', wx', a1, b1, _, _, a2, b2⟩
theorem both_noted {wm : mW} {wx : xW} (h : BI wm wx) (x y : Int32) : ∃ r, mf_noted x y wm = some r ∧ xf_C_noted x y wx = some r := by
  obtain ⟨n, G, hm, hx⟩ := h
  exact ⟨_, hm.noted x y, hx.noted x y⟩
theorem both_isBelow {wm : mW} {wx : xW} (h : BI wm wx) (x y z : Int32) : ∃ r, mf_isBelow x y z wm = some r ∧ xf_C_isBelow x y z wx = some r := by
  obtain ⟨n, G, hm, hx⟩ := h
  exact ⟨_, hm.isBelow x y z, hx.isBelow x y z hm.mk⟩
theorem BI.start {wm : mW} {wx : xW} (m0 : wm.1 0 = 0) (m1 : wm.1 1 = (-1)) (x0 : wx.1 0 = 0) (x1 : wx.1 1 = 0) (hL : Lx wx) : BI wm wx :=
  ⟨0, fun _ => newG 1 0, ⟨Nat.zero_le _, m0, fun g hg => absurd hg (Nat.not_lt_zero g), Or.inl m1⟩, ⟨Nat.zero_le _, x0, hL, fun q => absurd x1 q, fun g hg => absurd hg (Nat.not_lt_zero g)⟩⟩
