/-! 03: counts of the places below n where f holds; folds of stores over the places below n where f holds; copies -/
theorem mg_bF {b : Bool} {P : Prop} (e : b = true ↔ P) (h : ¬ P) : b = false := by
  cases b with
  | false => rfl
  | true => exact absurd (e.mp rfl) h
def mg_cnt (f : Nat → Bool) : Nat → Nat
  | 0 => 0
  | n + 1 => mg_cnt f n + (if f n = true then 1 else 0)
theorem mg_cntT {f : Nat → Bool} {n : Nat} (h : f n = true) : mg_cnt f (n + 1) = mg_cnt f n + 1 := by
  show mg_cnt f n + (if f n = true then 1 else 0) = _
  rw [if_pos h]
theorem mg_cntF {f : Nat → Bool} {n : Nat} (h : f n = false) : mg_cnt f (n + 1) = mg_cnt f n := by
  show mg_cnt f n + (if f n = true then 1 else 0) = _
  rw [h, if_neg Bool.false_ne_true, Nat.add_zero]
theorem mg_cnt_le (f : Nat → Bool) : ∀ n, mg_cnt f n ≤ n := by
  intro n
  induction n with
  | zero => exact Nat.le_refl 0
  | succ n ih =>
    cases h : f n with
    | true => rw [mg_cntT h]; omega
    | false => rw [mg_cntF h]; omega
theorem mg_cntHi {f : Nat → Bool} {m : Nat} : ∀ d, (∀ j, m ≤ j → j < m + d → f j = false) → mg_cnt f (m + d) = mg_cnt f m := by
  intro d
  induction d with
  | zero => intro _; rfl
  | succ d ih =>
    intro h
    rw [← Nat.add_assoc, mg_cntF (h (m + d) (by omega) (by omega))]
    exact ih (fun j h1 h2 => h j h1 (by omega))
theorem mg_cntZ {f : Nat → Bool} : ∀ n, (∀ j, j < n → f j = false) → mg_cnt f n = 0 := by
  intro n
  induction n with
  | zero => intro _; rfl
  | succ n ih =>
    intro h
    rw [mg_cntF (h n (by omega))]
    exact ih (fun j h1 => h j (by omega))
theorem mg_cntPos {f : Nat → Bool} {k : Nat} (hf : f k = true) : ∀ n, k < n → 0 < mg_cnt f n := by
  intro n
  induction n with
  | zero => intro h; omega
  | succ n ih =>
    intro h
    cases e : f n with
    | true => rw [mg_cntT e]; omega
    | false =>
      rw [mg_cntF e]
      by_cases g : k = n
      · rw [g, e] at hf
        cases hf
      · exact ih (by omega)
theorem mg_cntEx {f : Nat → Bool} : ∀ n, 0 < mg_cnt f n → ∃ k, k < n ∧ f k = true := by
  intro n
  induction n with
  | zero => intro h; exact absurd h (Nat.lt_irrefl 0)
  | succ n ih =>
    intro h
    cases e : f n with
    | true => exact ⟨n, by omega, e⟩
    | false =>
      rw [mg_cntF e] at h
      obtain ⟨k, a, b⟩ := ih h
      exact ⟨k, by omega, b⟩
theorem mg_cntM {f g : Nat → Bool} : ∀ n, (∀ j, j < n → f j = true → g j = true) → mg_cnt f n ≤ mg_cnt g n := by
  intro n
  induction n with
  | zero => intro _; exact Nat.le_refl 0
  | succ n ih =>
    intro h
    have i := ih (fun j hj => h j (by omega))
    cases e : f n with
    | true => rw [mg_cntT e, mg_cntT (h n (by omega) e)]; omega
    | false =>
      rw [mg_cntF e]
      cases e2 : g n with
      | true => rw [mg_cntT e2]; omega
      | false => rw [mg_cntF e2]; exact i
theorem mg_cntC {f g : Nat → Bool} : ∀ n, (∀ j, j < n → f j = g j) → mg_cnt f n = mg_cnt g n := by
  intro n
  induction n with
  | zero => intro _; rfl
  | succ n ih =>
    intro h
    have i := ih (fun j hj => h j (by omega))
    have e := h n (by omega)
    cases e2 : g n with
    | true => rw [mg_cntT (e.trans e2), mg_cntT e2, i]
    | false => rw [mg_cntF (e.trans e2), mg_cntF e2, i]
def mg_in (p j : Nat) : Bool := decide (p ≤ j) && decide (j < mg_end p)
theorem mg_inT {p j : Nat} : mg_in p j = true ↔ p ≤ j ∧ j < mg_end p := by
  unfold mg_in
  rw [Bool.and_eq_true, decide_eq_true_eq, decide_eq_true_eq]
def mg_nz (x : Int32) : Bool := decide (¬ x = 0)
theorem mg_nzT {x : Int32} : mg_nz x = true ↔ ¬ x = 0 := decide_eq_true_iff
theorem mg_nzF {x : Int32} (h : x = 0) : mg_nz x = false := mg_bF mg_nzT (fun g => g h)
def mg_f (a : Nat → Int32) (p j : Nat) : Bool := mg_nz (a j) && mg_in p j
theorem mg_fT {a : Nat → Int32} {p j : Nat} : mg_f a p j = true ↔ ¬ a j = 0 ∧ p ≤ j ∧ j < mg_end p := by
  unfold mg_f
  rw [Bool.and_eq_true, mg_nzT, mg_inT]
theorem mg_f0 {a : Nat → Int32} {p j : Nat} (h : a j = 0) : mg_f a p j = false := mg_bF mg_fT (fun g => g.1 h)
theorem mg_fN {a : Nat → Int32} {p j : Nat} (h : ¬ (p ≤ j ∧ j < mg_end p)) : mg_f a p j = false := mg_bF mg_fT (fun g => h g.2)
def mg_V (a : Nat → Int32) (p : Nat) : Nat := mg_cnt (mg_f a p) 1331
theorem mg_Vlo (a : Nat → Int32) (p : Nat) : mg_cnt (mg_f a p) p = 0 := mg_cntZ p (fun j hj => mg_fN (by omega))
theorem mg_Vhi (a : Nat → Int32) {p : Nat} (h : mg_path p) : mg_cnt (mg_f a p) (mg_end p) = mg_V a p := by
  have e := mg_end_le h
  have g := mg_cntHi (f := mg_f a p) (m := mg_end p) (1331 - mg_end p) (fun j h1 _ => mg_fN (by omega))
  rw [show mg_end p + (1331 - mg_end p) = 1331 by omega] at g
  exact g.symm
theorem mg_Vle (a : Nat → Int32) (p : Nat) : mg_V a p ≤ 1331 := mg_cnt_le _ _
theorem mg_V1 {a : Nat → Int32} {p : Nat} (hp : p < 1331) (h : ¬ a p = 0) : 0 < mg_V a p :=
  mg_cntPos (mg_fT.mpr ⟨h, Nat.le_refl p, mg_lt_end p⟩) 1331 hp
theorem mg_VM {a b : Nat → Int32} (p : Nat) (h : ∀ j, ¬ a j = 0 → ¬ b j = 0) : mg_V a p ≤ mg_V b p :=
  mg_cntM 1331 (fun j _ hj => mg_fT.mpr ⟨h j (mg_fT.mp hj).1, (mg_fT.mp hj).2⟩)
/-- a store of x at k -/
theorem mg_us {f : Nat → Int32} {k : Nat} {x : Int32} : upd f k x k = x := if_pos rfl
theorem mg_un {f : Nat → Int32} {k j : Nat} {x : Int32} (h : j ≠ k) : upd f k x j = f j := if_neg h
theorem mg_VUo {a : Nat → Int32} {k : Nat} {x : Int32} (hx : ¬ x = 0) (h : ¬ a k = 0) : mg_V (upd a k x) 0 = mg_V a 0 := by
  apply Nat.le_antisymm
  · apply mg_VM
    intro j hj
    by_cases e : j = k
    · rw [e]; exact h
    · rw [mg_un e] at hj; exact hj
  · apply mg_VM
    intro j hj
    by_cases e : j = k
    · rw [e, mg_us]; exact hx
    · rw [mg_un e]; exact hj
theorem mg_cntU {f g : Nat → Bool} {k : Nat} (hf : f k = false) (hg : g k = true) (h : ∀ j, j ≠ k → g j = f j) : ∀ n, k < n → mg_cnt g n = mg_cnt f n + 1 := by
  intro n
  induction n with
  | zero => intro h; omega
  | succ n ih =>
    intro hk
    by_cases e : n = k
    · subst e
      rw [mg_cntT hg, mg_cntF hf, mg_cntC n (fun j hj => h j (by omega))]
    · have i := ih (by omega)
      have e2 := h n e
      cases e3 : f n with
      | true => rw [mg_cntT (e2.trans e3), mg_cntT e3, i]
      | false => rw [mg_cntF (e2.trans e3), mg_cntF e3, i]
theorem mg_VUn {a : Nat → Int32} {k : Nat} {x : Int32} (hk : k < 1331) (hx : ¬ x = 0) (h : a k = 0) : mg_V (upd a k x) 0 = mg_V a 0 + 1 := by
  refine mg_cntU (k := k) (mg_f0 h) (mg_fT.mpr ⟨?_, Nat.zero_le k, ?_⟩) ?_ 1331 hk
  · rw [mg_us]; exact hx
  · rw [mg_end0]; exact hk
  · intro j hj
    unfold mg_f
    rw [mg_un hj]
def mg_fold (f : Nat → Bool) (t : Nat → Nat) (x a : Nat → Int32) : Nat → (Nat → Int32)
  | 0 => a
  | n + 1 => if f n = true then upd (mg_fold f t x a n) (t n) (x n) else mg_fold f t x a n
section
variable {f : Nat → Bool} {t : Nat → Nat} {x a : Nat → Int32}
theorem mg_foldT {n : Nat} (h : f n = true) : mg_fold f t x a (n + 1) = upd (mg_fold f t x a n) (t n) (x n) := by
  show (if f n = true then upd (mg_fold f t x a n) (t n) (x n) else mg_fold f t x a n) = _
  rw [if_pos h]
theorem mg_foldF {n : Nat} (h : f n = false) : mg_fold f t x a (n + 1) = mg_fold f t x a n := by
  show (if f n = true then upd (mg_fold f t x a n) (t n) (x n) else mg_fold f t x a n) = _
  rw [h, if_neg Bool.false_ne_true]
theorem mg_foldHi {m : Nat} : ∀ d, (∀ j, m ≤ j → j < m + d → f j = false) → mg_fold f t x a (m + d) = mg_fold f t x a m := by
  intro d
  induction d with
  | zero => intro _; rfl
  | succ d ih =>
    intro h
    rw [← Nat.add_assoc, mg_foldF (h (m + d) (by omega) (by omega))]
    exact ih (fun j h1 h2 => h j h1 (by omega))
theorem mg_foldZ : ∀ n, (∀ j, j < n → f j = false) → mg_fold f t x a n = a := by
  intro n
  induction n with
  | zero => intro _; rfl
  | succ n ih =>
    intro h
    rw [mg_foldF (h n (by omega))]
    exact ih (fun j h1 => h j (by omega))
theorem mg_foldC {g : Nat → Bool} : ∀ n, (∀ j, j < n → f j = g j) → mg_fold f t x a n = mg_fold g t x a n := by
  intro n
  induction n with
  | zero => intro _; rfl
  | succ n ih =>
    intro h
    have i := ih (fun j hj => h j (by omega))
    have e := h n (by omega)
    cases e2 : g n with
    | true => rw [mg_foldT (e.trans e2), mg_foldT e2, i]
    | false => rw [mg_foldF (e.trans e2), mg_foldF e2, i]
theorem mg_foldV (k : Nat) : ∀ n, mg_fold f t x a n k = a k ∨ ∃ r, r < n ∧ f r = true ∧ t r = k ∧ mg_fold f t x a n k = x r := by
  intro n
  induction n with
  | zero => exact Or.inl rfl
  | succ n ih =>
    cases e : f n with
    | true =>
      rw [mg_foldT e]
      by_cases g : k = t n
      · exact Or.inr ⟨n, by omega, e, g.symm, by rw [g, mg_us]⟩
      · rw [mg_un g]
        rcases ih with i | ⟨r, i1, i2⟩
        · exact Or.inl i
        · exact Or.inr ⟨r, by omega, i2⟩
    | false =>
      rw [mg_foldF e]
      rcases ih with i | ⟨r, i1, i2⟩
      · exact Or.inl i
      · exact Or.inr ⟨r, by omega, i2⟩
/-- stores of 1 at places without a value, each at its own: how many there are afterwards -/
theorem mg_foldS {N : Nat} (ht : ∀ r, r < N → f r = true → t r < 1331) (hi : ∀ r s, r < N → s < N → f r = true → f s = true → t r = t s → r = s) : ∀ n, n ≤ N → mg_V (mg_fold f t (fun _ => 1) a n) 0 = mg_V a 0 + mg_cnt (fun j => f j && !mg_nz (a (t j))) n := by
  intro n
  induction n with
  | zero => intro _; rfl
  | succ n ih =>
    intro hn
    have i := ih (by omega)
    cases e : f n with
    | false =>
      rw [mg_foldF e, mg_cntF (by rw [e]; rfl), i]
    | true =>
      rw [mg_foldT e]
      by_cases z : a (t n) = 0
      · have z2 : mg_fold f t (fun _ => 1) a n (t n) = 0 := by
          rcases mg_foldV (f := f) (t := t) (x := fun _ => 1) (a := a) (t n) n with g | ⟨r, g1, g2, g3, g4⟩
          · rw [g]; exact z
          · exact absurd (hi r n (by omega) (by omega) g2 e g3) (by omega)
        rw [mg_VUn (ht n (by omega) e) (by decide) z2, mg_cntT (by rw [e, mg_nzF z]; rfl), i]
        omega
      · have z2 : ¬ mg_fold f t (fun _ => 1) a n (t n) = 0 := by
          rcases mg_foldV (f := f) (t := t) (x := fun _ => 1) (a := a) (t n) n with g | ⟨r, g1, g2, g3, g4⟩
          · rw [g]; exact z
          · rw [g4]; decide
        rw [mg_VUo (by decide) z2, mg_cntF (by rw [e, mg_nzT.mpr z]; rfl), i]
theorem mg_foldE {v w : Nat → Int32} (h : ∀ j, ¬ a j = 0 → v j = w j) (hf : ∀ j, f j = true → ¬ a j = 0) (k : Nat) : ∀ n, ¬ mg_fold f t (fun _ => 1) a n k = 0 → mg_fold f t v v n k = mg_fold f t w w n k := by
  intro n
  induction n with
  | zero => exact h k
  | succ n ih =>
    cases e : f n with
    | false =>
      rw [mg_foldF e, mg_foldF e, mg_foldF e]
      exact ih
    | true =>
      rw [mg_foldT e, mg_foldT e, mg_foldT e]
      intro hn
      by_cases g : k = t n
      · rw [g, mg_us, mg_us]
        exact h n (hf n e)
      · rw [mg_un g] at hn
        rw [mg_un g, mg_un g]
        exact ih hn
end
/-- the first n places of x over a -/
def mg_cp (x a : Nat → Int32) (n : Nat) : Nat → Int32 := fun j => if j < n then x j else a j
theorem mg_cp0 (x a : Nat → Int32) : mg_cp x a 0 = a := funext fun j => if_neg (Nat.not_lt_zero j)
theorem mg_cpL {x a : Nat → Int32} {n j : Nat} (h : j < n) : mg_cp x a n j = x j := if_pos h
theorem mg_cpH {x a : Nat → Int32} {n j : Nat} (h : n ≤ j) : mg_cp x a n j = a j := if_neg (Nat.not_lt.mpr h)
theorem mg_cpS {x a : Nat → Int32} {n : Nat} {y : Int32} (hy : y = x n) : upd (mg_cp x a n) n y = mg_cp x a (n + 1) := by
  funext j
  by_cases e : j = n
  · rw [e, mg_us, mg_cpL (by omega), hy]
  · rw [mg_un e]
    by_cases g : j < n
    · rw [mg_cpL g, mg_cpL (by omega)]
    · rw [mg_cpH (by omega), mg_cpH (by omega)]
