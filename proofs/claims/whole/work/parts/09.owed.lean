/-! 09: the relation and what is owed -/
def mg_ok (pr vx vy : Nat → Int32) : Prop := (∀ j, pr j = 0 ∨ pr j = 1) ∧ (∀ j, ¬ pr j = 0 → mg_path j) ∧ (∀ j, ¬ pr j = 0 → vx j = vy j) ∧ mg_V pr 0 ≤ 40
def i_Rel (_ : Nat) (u : SX) (v : SY) : Prop := ∃ pr vx pb vb vy oh ov : Nat → Int32, u = (pr, vx, pb, vb) ∧ v = (pr, vy, oh, ov) ∧ mg_ok pr vx vy
theorem i_up {k : Nat} {u : SX} {v : SY} (h : i_Rel k u v) : i_Rel (k + 3) u v := h
