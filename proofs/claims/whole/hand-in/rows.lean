section
/-! 00: pasted rows (kit/rows): numbers and branches by naturals -/
theorem pk_sub {a b : Nat} (h : b ≤ a) : nI a - nI b = nI (a - b) := by
  obtain ⟨c, rfl⟩ : ∃ c, a = c + b := ⟨a - b, by omega⟩
  rw [← nI_add, Int32.add_sub_cancel, Nat.add_sub_cancel]
theorem pk_m1 (n : Nat) : nI (n + 1) + (-1) = nI n := by
  rw [← nI_1, Int32.add_assoc, show (1 : Int32) + (-1) = 0 from rfl, Int32.add_zero]
theorem pk_mul (a b : Nat) : nI a * nI b = nI (a * b) := (Int32.ofNat_mul a b).symm
theorem pk_div {a d : Nat} (ha : a < 2 ^ 31) (h0 : 0 < d) (hd : d < 2 ^ 31) : nI a / nI d = nI (a / d) := by
  apply Int32.toInt_inj.mp
  rw [lg_idiv_nonneg (by rw [nI_toInt ha]; omega) (by rw [nI_toInt hd]; omega), nI_toInt ha, nI_toInt hd, nI_toInt (Nat.lt_of_le_of_lt (Nat.div_le_self a d) ha)]
  first | rfl | exact (Int.natCast_ediv _ _).symm
theorem pk_rem {a d : Nat} (ha : a < 2 ^ 31) (h0 : 0 < d) (hd : d < 2 ^ 31) : nI a - nI a / nI d * nI d = nI (a % d) := by
  rw [pk_div ha h0 hd, pk_mul, pk_sub (Nat.div_mul_le_self a d)]
  exact congrArg nI (by have := Nat.div_add_mod' a d; omega)
theorem pk_ix (x : Int32) {n : Nat} (hn : n < 2 ^ 31) : x < 0 ∨ nI n ≤ x ∨ ∃ j : Nat, j < n ∧ x = nI j := by
  by_cases h : x < 0
  · exact Or.inl h
  · obtain ⟨j, hj, rfl⟩ := nI_of h
    by_cases h2 : j < n
    · exact Or.inr (Or.inr ⟨j, h2, rfl⟩)
    · exact Or.inr (Or.inl (nI_le (by omega) hj))
theorem pk_le {x y : Int32} {A B : Prop} (a b : Nat) (f : a ≤ b → A) (g : b < a → B) (hx : x = nI a := by rfl) (hy : y = nI b := by rfl) (ha : a < 2 ^ 31 := by omega) (hb : b < 2 ^ 31 := by omega) : (x ≤ y → A) ∧ (¬ x ≤ y → B) := by
  subst hx hy
  rw [nI_leI ha hb]
  exact ⟨f, fun z => g (by omega)⟩
theorem pk_lt {x y : Int32} {A B : Prop} (a b : Nat) (f : a < b → A) (g : b ≤ a → B) (hx : x = nI a := by rfl) (hy : y = nI b := by rfl) (ha : a < 2 ^ 31 := by omega) (hb : b < 2 ^ 31 := by omega) : (x < y → A) ∧ (¬ x < y → B) := by
  subst hx hy
  rw [nI_ltI ha hb]
  exact ⟨f, fun z => g (by omega)⟩
theorem pk_eq {x y : Int32} {A B : Prop} (a b : Nat) (f : a = b → A) (g : a ≠ b → B) (hx : x = nI a := by rfl) (hy : y = nI b := by rfl) (ha : a < 2 ^ 31 := by omega) (hb : b < 2 ^ 31 := by omega) : (x = y → A) ∧ (¬ x = y → B) := by
  subst hx hy
  rw [nI_eq ha hb]
  exact ⟨f, g⟩
end
section
/-! 01: path numbers: their lengths, weights, ends; what stands under a path; the path after a path; where a merge takes a path -/
def mg_len (p : Nat) : Nat := if p = 0 then 0 else if p % 121 = 0 then 1 else if p % 11 = 0 then 2 else 3
def mg_w (l : Nat) : Nat := if l = 0 then 1331 else if l = 1 then 121 else if l = 2 then 11 else 1
def mg_end (p : Nat) : Nat := p + mg_w (mg_len p)
def mg_path (p : Nat) : Prop := p < 1331 ∧ (p / 121 ≠ 0 ∨ p / 11 % 11 = 0) ∧ (p / 11 % 11 ≠ 0 ∨ p % 11 = 0)
def mg_dig (r i : Nat) : Nat := if i = 0 then r / 121 else if i = 1 then r / 11 % 11 else r % 11
def mg_pre (r i : Nat) : Nat := r - r % mg_w i
def mg_tgt (p q r : Nat) : Nat := p + (r - q) * mg_w (mg_len p) / mg_w (mg_len q)
def mg_T (p q r i : Nat) : Nat := p + (mg_pre r i - q) * mg_w (mg_len p) / mg_w (mg_len q)
def mg_fol (p d : Nat) : Nat := p + mg_w (mg_len p + 1) * d
theorem mg_w0 : mg_w 0 = 1331 := rfl
theorem mg_w1 : mg_w 1 = 121 := rfl
theorem mg_w2 : mg_w 2 = 11 := rfl
theorem mg_w3 : mg_w 3 = 1 := rfl
theorem mg_d0 (r : Nat) : mg_dig r 0 = r / 121 := rfl
theorem mg_d1 (r : Nat) : mg_dig r 1 = r / 11 % 11 := rfl
theorem mg_d2 (r : Nat) : mg_dig r 2 = r % 11 := rfl
theorem mg_len0 {p : Nat} (h : p = 0) : mg_len p = 0 := by rw [mg_len, if_pos h]
theorem mg_len1 {p : Nat} (h : p ≠ 0) (h1 : p % 121 = 0) : mg_len p = 1 := by rw [mg_len, if_neg h, if_pos h1]
theorem mg_len2 {p : Nat} (h1 : p % 121 ≠ 0) (h2 : p % 11 = 0) : mg_len p = 2 := by
  rw [mg_len, if_neg (show ¬ p = 0 by omega), if_neg h1, if_pos h2]
theorem mg_len3 {p : Nat} (h2 : p % 11 ≠ 0) : mg_len p = 3 := by
  rw [mg_len, if_neg (show ¬ p = 0 by omega), if_neg (show ¬ p % 121 = 0 by omega), if_neg h2]
theorem mg_lenC (p : Nat) : (p = 0 ∧ mg_len p = 0) ∨ (p ≠ 0 ∧ p % 121 = 0 ∧ mg_len p = 1) ∨ (p % 121 ≠ 0 ∧ p % 11 = 0 ∧ mg_len p = 2) ∨ (p % 11 ≠ 0 ∧ mg_len p = 3) := by
  by_cases h0 : p = 0
  · exact Or.inl ⟨h0, mg_len0 h0⟩
  · by_cases h1 : p % 121 = 0
    · exact Or.inr (Or.inl ⟨h0, h1, mg_len1 h0 h1⟩)
    · by_cases h2 : p % 11 = 0
      · exact Or.inr (Or.inr (Or.inl ⟨h1, h2, mg_len2 h1 h2⟩))
      · exact Or.inr (Or.inr (Or.inr ⟨h2, mg_len3 h2⟩))
theorem mg_len_le (p : Nat) : mg_len p ≤ 3 := by
  have h := mg_lenC p
  omega
/-- the length, the weight and the end, case by case -/
theorem mg_endC (p : Nat) : (p = 0 ∧ mg_len p = 0 ∧ mg_w (mg_len p) = 1331 ∧ mg_end p = p + 1331) ∨ (p ≠ 0 ∧ p % 121 = 0 ∧ mg_len p = 1 ∧ mg_w (mg_len p) = 121 ∧ mg_end p = p + 121) ∨ (p % 121 ≠ 0 ∧ p % 11 = 0 ∧ mg_len p = 2 ∧ mg_w (mg_len p) = 11 ∧ mg_end p = p + 11) ∨ (p % 11 ≠ 0 ∧ mg_len p = 3 ∧ mg_w (mg_len p) = 1 ∧ mg_end p = p + 1) := by
  unfold mg_end
  rcases mg_lenC p with ⟨a, e⟩ | ⟨a, b, e⟩ | ⟨a, b, e⟩ | ⟨a, e⟩
  · rw [e, mg_w0]; exact Or.inl ⟨a, rfl, rfl, rfl⟩
  · rw [e, mg_w1]; exact Or.inr (Or.inl ⟨a, b, rfl, rfl, rfl⟩)
  · rw [e, mg_w2]; exact Or.inr (Or.inr (Or.inl ⟨a, b, rfl, rfl, rfl⟩))
  · rw [e, mg_w3]; exact Or.inr (Or.inr (Or.inr ⟨a, rfl, rfl, rfl⟩))
theorem mg_end_le {p : Nat} (h : mg_path p) : mg_end p ≤ 1331 := by
  unfold mg_path at h
  have := mg_endC p
  omega
theorem mg_lt_end (p : Nat) : p < mg_end p := by
  have := mg_endC p
  omega
theorem mg_path0 : mg_path 0 := by unfold mg_path; omega
theorem mg_end0 : mg_end 0 = 1331 := rfl
theorem mg_u0 {p q : Nat} (h : mg_len p = 0) (hq : q < 1331) : p ≤ q ∧ q < mg_end p := by
  have := mg_endC p
  omega
theorem mg_u1 {p q : Nat} (h : mg_len p = 1) : q / 121 = p / 121 ↔ p ≤ q ∧ q < mg_end p := by
  have := mg_endC p
  omega
theorem mg_u2 {p q : Nat} (h : mg_len p = 2) : q / 11 = p / 11 ↔ p ≤ q ∧ q < mg_end p := by
  have := mg_endC p
  omega
theorem mg_u3 {p q : Nat} (h : mg_len p = 3) : q = p ↔ p ≤ q ∧ q < mg_end p := by
  have := mg_endC p
  omega
theorem mg_folP {p d : Nat} (h : mg_path p) (hl : mg_len p < 3) (h1 : 1 ≤ d) (hd : d ≤ 10) : mg_path (mg_fol p d) ∧ mg_len (mg_fol p d) = mg_len p + 1 := by
  unfold mg_fol
  unfold mg_path at *
  rcases mg_lenC p with ⟨a, e⟩ | ⟨a, b, e⟩ | ⟨a, b, e⟩ | ⟨a, e⟩
  · rw [e, mg_w1]
    exact ⟨by omega, mg_len1 (by omega) (by omega)⟩
  · rw [e, mg_w2]
    exact ⟨by omega, mg_len2 (by omega) (by omega)⟩
  · rw [e, mg_w3]
    exact ⟨by omega, mg_len3 (by omega)⟩
  · omega
theorem mg_preQ {q r : Nat} (h : mg_path r) (h1 : q ≤ r) (h2 : r < mg_end q) : mg_pre r (mg_len q) = q := by
  unfold mg_path at h
  unfold mg_pre
  rcases mg_endC q with ⟨a, e, f, g⟩ | ⟨a, b, e, f, g⟩ | ⟨a, b, e, f, g⟩ | ⟨a, e, f, g⟩ <;> rw [f] <;> omega
theorem mg_preR {r : Nat} (h : mg_path r) : mg_pre r (mg_len r) = r := by
  unfold mg_path at h
  unfold mg_pre
  rcases mg_endC r with ⟨a, e, f, g⟩ | ⟨a, b, e, f, g⟩ | ⟨a, b, e, f, g⟩ | ⟨a, e, f, g⟩ <;> rw [f] <;> omega
theorem mg_lenM {q r : Nat} (h1 : q ≤ r) (h2 : r < mg_end q) : mg_len q ≤ mg_len r := by
  have := mg_endC q
  have := mg_lenC r
  omega
theorem mg_digB {r i : Nat} (h : mg_path r) (hi : i < mg_len r) : 1 ≤ mg_dig r i ∧ mg_dig r i ≤ 10 := by
  unfold mg_path at h
  have hl := mg_lenC r
  have h3 := mg_len_le r
  match i, hi with
  | 0, hi => rw [mg_d0]; omega
  | 1, hi => rw [mg_d1]; omega
  | 2, hi => rw [mg_d2]; omega
  | i + 3, hi => omega
end
section
/-! 02: where a merge takes a path: step by step along the subscripts, and by one product and quotient -/
theorem mg_ts_000 {q r : Nat} (hr : r < 1331) (hB : q % 1331 = 0) (h1 : q ≤ r) (h2 : r < q + 1331) : (r - r % 1331 - q) * 1331 / 1331 + 121 * (r / 121) = (r - r % 121 - q) * 1331 / 1331 := by omega
theorem mg_ts_001 {q r : Nat} (hr : r < 1331) (hB : q % 1331 = 0) (h1 : q ≤ r) (h2 : r < q + 1331) : (r - r % 121 - q) * 1331 / 1331 + 11 * (r / 11 % 11) = (r - r % 11 - q) * 1331 / 1331 := by omega
theorem mg_ts_002 {q r : Nat} (hr : r < 1331) (hB : q % 1331 = 0) (h1 : q ≤ r) (h2 : r < q + 1331) : (r - r % 11 - q) * 1331 / 1331 + 1 * (r % 11) = (r - r % 1 - q) * 1331 / 1331 := by omega
theorem mg_ts_011 {q r : Nat} (hr : r < 1331) (hB : q % 121 = 0) (h1 : q ≤ r) (h2 : r < q + 121) : (r - r % 121 - q) * 1331 / 121 + 121 * (r / 11 % 11) = (r - r % 11 - q) * 1331 / 121 := by omega
theorem mg_ts_012 {q r : Nat} (hr : r < 1331) (hB : q % 121 = 0) (h1 : q ≤ r) (h2 : r < q + 121) : (r - r % 11 - q) * 1331 / 121 + 11 * (r % 11) = (r - r % 1 - q) * 1331 / 121 := by omega
theorem mg_ts_022 {q r : Nat} (hr : r < 1331) (hB : q % 11 = 0) (h1 : q ≤ r) (h2 : r < q + 11) : (r - r % 11 - q) * 1331 / 11 + 121 * (r % 11) = (r - r % 1 - q) * 1331 / 11 := by omega
theorem mg_ts_100 {q r : Nat} (hr : r < 1331) (hB : q % 1331 = 0) (h1 : q ≤ r) (h2 : r < q + 1331) : (r - r % 1331 - q) * 121 / 1331 + 11 * (r / 121) = (r - r % 121 - q) * 121 / 1331 := by omega
theorem mg_ts_101 {q r : Nat} (hr : r < 1331) (hB : q % 1331 = 0) (h1 : q ≤ r) (h2 : r < q + 1331) : (r - r % 121 - q) * 121 / 1331 + 1 * (r / 11 % 11) = (r - r % 11 - q) * 121 / 1331 := by omega
theorem mg_ts_111 {q r : Nat} (hr : r < 1331) (hB : q % 121 = 0) (h1 : q ≤ r) (h2 : r < q + 121) : (r - r % 121 - q) * 121 / 121 + 11 * (r / 11 % 11) = (r - r % 11 - q) * 121 / 121 := by omega
theorem mg_ts_112 {q r : Nat} (hr : r < 1331) (hB : q % 121 = 0) (h1 : q ≤ r) (h2 : r < q + 121) : (r - r % 11 - q) * 121 / 121 + 1 * (r % 11) = (r - r % 1 - q) * 121 / 121 := by omega
theorem mg_ts_122 {q r : Nat} (hr : r < 1331) (hB : q % 11 = 0) (h1 : q ≤ r) (h2 : r < q + 11) : (r - r % 11 - q) * 121 / 11 + 11 * (r % 11) = (r - r % 1 - q) * 121 / 11 := by omega
theorem mg_ts_200 {q r : Nat} (hr : r < 1331) (hB : q % 1331 = 0) (h1 : q ≤ r) (h2 : r < q + 1331) : (r - r % 1331 - q) * 11 / 1331 + 1 * (r / 121) = (r - r % 121 - q) * 11 / 1331 := by omega
theorem mg_ts_211 {q r : Nat} (hr : r < 1331) (hB : q % 121 = 0) (h1 : q ≤ r) (h2 : r < q + 121) : (r - r % 121 - q) * 11 / 121 + 1 * (r / 11 % 11) = (r - r % 11 - q) * 11 / 121 := by omega
theorem mg_ts_222 {q r : Nat} (hr : r < 1331) (hB : q % 11 = 0) (h1 : q ≤ r) (h2 : r < q + 11) : (r - r % 11 - q) * 11 / 11 + 1 * (r % 11) = (r - r % 1 - q) * 11 / 11 := by omega
theorem mg_tsA (lp lq i q r : Nat) (h3 : lp ≤ 3) (hi : lq ≤ i) (hi3 : i < 3) (hd : lp + i < 3 + lq) (hr : r < 1331) (hB : q % mg_w lq = 0) (h1 : q ≤ r) (h2 : r < q + mg_w lq) : (r - r % mg_w i - q) * mg_w lp / mg_w lq + mg_w (lp + i - lq + 1) * mg_dig r i = (r - r % mg_w (i + 1) - q) * mg_w lp / mg_w lq := by
  have c1 : lp = 0 ∨ lp = 1 ∨ lp = 2 ∨ lp = 3 := by omega
  have c2 : lq = 0 ∨ lq = 1 ∨ lq = 2 := by omega
  have c3 : i = 0 ∨ i = 1 ∨ i = 2 := by omega
  rcases c1 with rfl | rfl | rfl | rfl <;> rcases c2 with rfl | rfl | rfl <;> rcases c3 with rfl | rfl | rfl
  · exact mg_ts_000 hr hB h1 h2
  · exact mg_ts_001 hr hB h1 h2
  · exact mg_ts_002 hr hB h1 h2
  · omega
  · exact mg_ts_011 hr hB h1 h2
  · exact mg_ts_012 hr hB h1 h2
  · omega
  · omega
  · exact mg_ts_022 hr hB h1 h2
  · exact mg_ts_100 hr hB h1 h2
  · exact mg_ts_101 hr hB h1 h2
  · omega
  · omega
  · exact mg_ts_111 hr hB h1 h2
  · exact mg_ts_112 hr hB h1 h2
  · omega
  · omega
  · exact mg_ts_122 hr hB h1 h2
  · exact mg_ts_200 hr hB h1 h2
  · omega
  · omega
  · omega
  · exact mg_ts_211 hr hB h1 h2
  · omega
  · omega
  · omega
  · exact mg_ts_222 hr hB h1 h2
  · omega
  · omega
  · omega
  · omega
  · omega
  · omega
  · omega
  · omega
  · omega
theorem mg_qw (q : Nat) : q % mg_w (mg_len q) = 0 := by
  rcases mg_endC q with ⟨a, e, f, g⟩ | ⟨a, b, e, f, g⟩ | ⟨a, b, e, f, g⟩ | ⟨a, e, f, g⟩ <;> rw [f] <;> omega
theorem mg_Tstep {p q r i : Nat} (hr : mg_path r) (h1 : q ≤ r) (h2 : r < mg_end q) (hi : mg_len q ≤ i) (hir : i < mg_len r) (hd : mg_len p + i < 3 + mg_len q) : mg_T p q r i + mg_w (mg_len p + i - mg_len q + 1) * mg_dig r i = mg_T p q r (i + 1) := by
  have h := mg_tsA (mg_len p) (mg_len q) i q r (mg_len_le p) hi (by have := mg_len_le r; omega) hd hr.1 (mg_qw q) h1 h2
  unfold mg_T mg_pre
  rw [Nat.add_assoc, h]
theorem mg_T0 {p q r : Nat} (hr : mg_path r) (h1 : q ≤ r) (h2 : r < mg_end q) : mg_T p q r (mg_len q) = p := by
  unfold mg_T
  rw [mg_preQ hr h1 h2, Nat.sub_self, Nat.zero_mul, Nat.zero_div, Nat.add_zero]
theorem mg_Te {p q r : Nat} (hr : mg_path r) : mg_T p q r (mg_len r) = mg_tgt p q r := by
  unfold mg_T mg_tgt
  rw [mg_preR hr]
theorem mg_TP {p q r : Nat} (hp : mg_path p) (hr : mg_path r) (h1 : q ≤ r) (h2 : r < mg_end q) : ∀ d, mg_len q + d ≤ mg_len r → mg_len p + d ≤ 3 → mg_path (mg_T p q r (mg_len q + d)) ∧ mg_len (mg_T p q r (mg_len q + d)) = mg_len p + d := by
  intro d
  induction d with
  | zero =>
    intro _ _
    rw [Nat.add_zero, mg_T0 hr h1 h2]
    exact ⟨hp, rfl⟩
  | succ d ih =>
    intro hd h3
    obtain ⟨a, b⟩ := ih (by omega) (by omega)
    have e := mg_Tstep (p := p) (i := mg_len q + d) hr h1 h2 (by omega) (by omega) (by omega)
    have e2 : mg_len p + (mg_len q + d) - mg_len q + 1 = mg_len p + d + 1 := by omega
    rw [e2] at e
    have g := mg_digB (i := mg_len q + d) hr (by omega)
    have f := mg_folP (d := mg_dig r (mg_len q + d)) a (by omega) g.1 g.2
    unfold mg_fol at f
    rw [b, e] at f
    exact f
theorem mg_tgtP {p q r : Nat} (hp : mg_path p) (hr : mg_path r) (h1 : q ≤ r) (h2 : r < mg_end q) (hd : mg_len p + mg_len r ≤ 3 + mg_len q) : mg_path (mg_tgt p q r) := by
  have hm := mg_lenM h1 h2
  have h := mg_TP hp hr h1 h2 (mg_len r - mg_len q) (by omega) (by omega)
  rw [show mg_len q + (mg_len r - mg_len q) = mg_len r by omega, mg_Te hr] at h
  exact h.1
theorem mg_rw {r l : Nat} (hl : l ≤ 3) (h : mg_len r ≤ l) : r % mg_w l = 0 := by
  have c : l = 0 ∨ l = 1 ∨ l = 2 ∨ l = 3 := by omega
  have := mg_lenC r
  rcases c with rfl | rfl | rfl | rfl
  · rw [mg_w0]; omega
  · rw [mg_w1]; omega
  · rw [mg_w2]; omega
  · rw [mg_w3]; omega
theorem mg_ti_00 {q r s : Nat} (hr : r % 1 = 0) (hs : s % 1 = 0) (hB : q % 1331 = 0) (h1 : q ≤ r) (h2 : r < q + 1331) (h3 : q ≤ s) (h4 : s < q + 1331) (h : (r - q) * 1331 / 1331 = (s - q) * 1331 / 1331) : r = s := by omega
theorem mg_ti_01 {q r s : Nat} (hr : r % 1 = 0) (hs : s % 1 = 0) (hB : q % 121 = 0) (h1 : q ≤ r) (h2 : r < q + 121) (h3 : q ≤ s) (h4 : s < q + 121) (h : (r - q) * 1331 / 121 = (s - q) * 1331 / 121) : r = s := by omega
theorem mg_ti_02 {q r s : Nat} (hr : r % 1 = 0) (hs : s % 1 = 0) (hB : q % 11 = 0) (h1 : q ≤ r) (h2 : r < q + 11) (h3 : q ≤ s) (h4 : s < q + 11) (h : (r - q) * 1331 / 11 = (s - q) * 1331 / 11) : r = s := by omega
theorem mg_ti_03 {q r s : Nat} (hr : r % 1 = 0) (hs : s % 1 = 0) (hB : q % 1 = 0) (h1 : q ≤ r) (h2 : r < q + 1) (h3 : q ≤ s) (h4 : s < q + 1) (h : (r - q) * 1331 / 1 = (s - q) * 1331 / 1) : r = s := by omega
theorem mg_ti_10 {q r s : Nat} (hr : r % 11 = 0) (hs : s % 11 = 0) (hB : q % 1331 = 0) (h1 : q ≤ r) (h2 : r < q + 1331) (h3 : q ≤ s) (h4 : s < q + 1331) (h : (r - q) * 121 / 1331 = (s - q) * 121 / 1331) : r = s := by omega
theorem mg_ti_11 {q r s : Nat} (hr : r % 1 = 0) (hs : s % 1 = 0) (hB : q % 121 = 0) (h1 : q ≤ r) (h2 : r < q + 121) (h3 : q ≤ s) (h4 : s < q + 121) (h : (r - q) * 121 / 121 = (s - q) * 121 / 121) : r = s := by omega
theorem mg_ti_12 {q r s : Nat} (hr : r % 1 = 0) (hs : s % 1 = 0) (hB : q % 11 = 0) (h1 : q ≤ r) (h2 : r < q + 11) (h3 : q ≤ s) (h4 : s < q + 11) (h : (r - q) * 121 / 11 = (s - q) * 121 / 11) : r = s := by omega
theorem mg_ti_13 {q r s : Nat} (hr : r % 1 = 0) (hs : s % 1 = 0) (hB : q % 1 = 0) (h1 : q ≤ r) (h2 : r < q + 1) (h3 : q ≤ s) (h4 : s < q + 1) (h : (r - q) * 121 / 1 = (s - q) * 121 / 1) : r = s := by omega
theorem mg_ti_20 {q r s : Nat} (hr : r % 121 = 0) (hs : s % 121 = 0) (hB : q % 1331 = 0) (h1 : q ≤ r) (h2 : r < q + 1331) (h3 : q ≤ s) (h4 : s < q + 1331) (h : (r - q) * 11 / 1331 = (s - q) * 11 / 1331) : r = s := by omega
theorem mg_ti_21 {q r s : Nat} (hr : r % 11 = 0) (hs : s % 11 = 0) (hB : q % 121 = 0) (h1 : q ≤ r) (h2 : r < q + 121) (h3 : q ≤ s) (h4 : s < q + 121) (h : (r - q) * 11 / 121 = (s - q) * 11 / 121) : r = s := by omega
theorem mg_ti_22 {q r s : Nat} (hr : r % 1 = 0) (hs : s % 1 = 0) (hB : q % 11 = 0) (h1 : q ≤ r) (h2 : r < q + 11) (h3 : q ≤ s) (h4 : s < q + 11) (h : (r - q) * 11 / 11 = (s - q) * 11 / 11) : r = s := by omega
theorem mg_ti_23 {q r s : Nat} (hr : r % 1 = 0) (hs : s % 1 = 0) (hB : q % 1 = 0) (h1 : q ≤ r) (h2 : r < q + 1) (h3 : q ≤ s) (h4 : s < q + 1) (h : (r - q) * 11 / 1 = (s - q) * 11 / 1) : r = s := by omega
theorem mg_ti_30 {q r s : Nat} (hr : r % 1331 = 0) (hs : s % 1331 = 0) (hB : q % 1331 = 0) (h1 : q ≤ r) (h2 : r < q + 1331) (h3 : q ≤ s) (h4 : s < q + 1331) (h : (r - q) * 1 / 1331 = (s - q) * 1 / 1331) : r = s := by omega
theorem mg_ti_31 {q r s : Nat} (hr : r % 121 = 0) (hs : s % 121 = 0) (hB : q % 121 = 0) (h1 : q ≤ r) (h2 : r < q + 121) (h3 : q ≤ s) (h4 : s < q + 121) (h : (r - q) * 1 / 121 = (s - q) * 1 / 121) : r = s := by omega
theorem mg_ti_32 {q r s : Nat} (hr : r % 11 = 0) (hs : s % 11 = 0) (hB : q % 11 = 0) (h1 : q ≤ r) (h2 : r < q + 11) (h3 : q ≤ s) (h4 : s < q + 11) (h : (r - q) * 1 / 11 = (s - q) * 1 / 11) : r = s := by omega
theorem mg_ti_33 {q r s : Nat} (hr : r % 1 = 0) (hs : s % 1 = 0) (hB : q % 1 = 0) (h1 : q ≤ r) (h2 : r < q + 1) (h3 : q ≤ s) (h4 : s < q + 1) (h : (r - q) * 1 / 1 = (s - q) * 1 / 1) : r = s := by omega
theorem mg_tiA (lp lq q r s : Nat) (c1 : lp ≤ 3) (c2 : lq ≤ 3) (hr : r % mg_w (min 3 (3 + lq - lp)) = 0) (hs : s % mg_w (min 3 (3 + lq - lp)) = 0) (hB : q % mg_w lq = 0) (h1 : q ≤ r) (h2 : r < q + mg_w lq) (h3 : q ≤ s) (h4 : s < q + mg_w lq) (h : (r - q) * mg_w lp / mg_w lq = (s - q) * mg_w lp / mg_w lq) : r = s := by
  have c1 : lp = 0 ∨ lp = 1 ∨ lp = 2 ∨ lp = 3 := by omega
  have c2 : lq = 0 ∨ lq = 1 ∨ lq = 2 ∨ lq = 3 := by omega
  rcases c1 with rfl | rfl | rfl | rfl <;> rcases c2 with rfl | rfl | rfl | rfl
  · exact mg_ti_00 hr hs hB h1 h2 h3 h4 h
  · exact mg_ti_01 hr hs hB h1 h2 h3 h4 h
  · exact mg_ti_02 hr hs hB h1 h2 h3 h4 h
  · exact mg_ti_03 hr hs hB h1 h2 h3 h4 h
  · exact mg_ti_10 hr hs hB h1 h2 h3 h4 h
  · exact mg_ti_11 hr hs hB h1 h2 h3 h4 h
  · exact mg_ti_12 hr hs hB h1 h2 h3 h4 h
  · exact mg_ti_13 hr hs hB h1 h2 h3 h4 h
  · exact mg_ti_20 hr hs hB h1 h2 h3 h4 h
  · exact mg_ti_21 hr hs hB h1 h2 h3 h4 h
  · exact mg_ti_22 hr hs hB h1 h2 h3 h4 h
  · exact mg_ti_23 hr hs hB h1 h2 h3 h4 h
  · exact mg_ti_30 hr hs hB h1 h2 h3 h4 h
  · exact mg_ti_31 hr hs hB h1 h2 h3 h4 h
  · exact mg_ti_32 hr hs hB h1 h2 h3 h4 h
  · exact mg_ti_33 hr hs hB h1 h2 h3 h4 h
theorem mg_tgtI {p q r s : Nat} (h1 : q ≤ r) (h2 : r < mg_end q) (h3 : q ≤ s) (h4 : s < mg_end q) (hd : mg_len p + mg_len r ≤ 3 + mg_len q) (he : mg_len p + mg_len s ≤ 3 + mg_len q) (h : mg_tgt p q r = mg_tgt p q s) : r = s := by
  have g1 := mg_len_le r
  have g2 := mg_len_le s
  exact mg_tiA (mg_len p) (mg_len q) q r s (mg_len_le p) (mg_len_le q) (mg_rw (by omega) (by omega)) (mg_rw (by omega) (by omega)) (mg_qw q) h1 h2 h3 h4 (Nat.add_left_cancel h)
end
section
/-! 03: counts of the places below n where f holds; folds of stores over the places below n where f holds; copies -/
theorem mg_bF {b : Bool} {P : Prop} (e : b = true ↔ P) (h : ¬ P) : b = false := by
  cases b with
  | false => rfl
  | true => exact absurd (e.mp rfl) h
def mg_cnt (f : Nat → Bool) : Nat → Nat
  | 0 => 0
  | n + 1 => mg_cnt f n + (if f n = true then 1 else 0)
theorem mg_cntT {f : Nat → Bool} {n : Nat} (h : f n = true) : mg_cnt f (n + 1) = mg_cnt f n + 1 := by
  show mg_cnt f n + (if f n = true then 1 else 0) = _
  rw [if_pos h]
theorem mg_cntF {f : Nat → Bool} {n : Nat} (h : f n = false) : mg_cnt f (n + 1) = mg_cnt f n := by
  show mg_cnt f n + (if f n = true then 1 else 0) = _
  rw [h, if_neg Bool.false_ne_true, Nat.add_zero]
theorem mg_cnt_le (f : Nat → Bool) : ∀ n, mg_cnt f n ≤ n := by
  intro n
  induction n with
  | zero => exact Nat.le_refl 0
  | succ n ih =>
    cases h : f n with
    | true => rw [mg_cntT h]; omega
    | false => rw [mg_cntF h]; omega
theorem mg_cntHi {f : Nat → Bool} {m : Nat} : ∀ d, (∀ j, m ≤ j → j < m + d → f j = false) → mg_cnt f (m + d) = mg_cnt f m := by
  intro d
  induction d with
  | zero => intro _; rfl
  | succ d ih =>
    intro h
    rw [← Nat.add_assoc, mg_cntF (h (m + d) (by omega) (by omega))]
    exact ih (fun j h1 h2 => h j h1 (by omega))
theorem mg_cntZ {f : Nat → Bool} : ∀ n, (∀ j, j < n → f j = false) → mg_cnt f n = 0 := by
  intro n
  induction n with
  | zero => intro _; rfl
  | succ n ih =>
    intro h
    rw [mg_cntF (h n (by omega))]
    exact ih (fun j h1 => h j (by omega))
theorem mg_cntPos {f : Nat → Bool} {k : Nat} (hf : f k = true) : ∀ n, k < n → 0 < mg_cnt f n := by
  intro n
  induction n with
  | zero => intro h; omega
  | succ n ih =>
    intro h
    cases e : f n with
    | true => rw [mg_cntT e]; omega
    | false =>
      rw [mg_cntF e]
      by_cases g : k = n
      · rw [g, e] at hf
        cases hf
      · exact ih (by omega)
theorem mg_cntEx {f : Nat → Bool} : ∀ n, 0 < mg_cnt f n → ∃ k, k < n ∧ f k = true := by
  intro n
  induction n with
  | zero => intro h; exact absurd h (Nat.lt_irrefl 0)
  | succ n ih =>
    intro h
    cases e : f n with
    | true => exact ⟨n, by omega, e⟩
    | false =>
      rw [mg_cntF e] at h
      obtain ⟨k, a, b⟩ := ih h
      exact ⟨k, by omega, b⟩
theorem mg_cntM {f g : Nat → Bool} : ∀ n, (∀ j, j < n → f j = true → g j = true) → mg_cnt f n ≤ mg_cnt g n := by
  intro n
  induction n with
  | zero => intro _; exact Nat.le_refl 0
  | succ n ih =>
    intro h
    have i := ih (fun j hj => h j (by omega))
    cases e : f n with
    | true => rw [mg_cntT e, mg_cntT (h n (by omega) e)]; omega
    | false =>
      rw [mg_cntF e]
      cases e2 : g n with
      | true => rw [mg_cntT e2]; omega
      | false => rw [mg_cntF e2]; exact i
theorem mg_cntC {f g : Nat → Bool} : ∀ n, (∀ j, j < n → f j = g j) → mg_cnt f n = mg_cnt g n := by
  intro n
  induction n with
  | zero => intro _; rfl
  | succ n ih =>
    intro h
    have i := ih (fun j hj => h j (by omega))
    have e := h n (by omega)
    cases e2 : g n with
    | true => rw [mg_cntT (e.trans e2), mg_cntT e2, i]
    | false => rw [mg_cntF (e.trans e2), mg_cntF e2, i]
def mg_in (p j : Nat) : Bool := decide (p ≤ j) && decide (j < mg_end p)
theorem mg_inT {p j : Nat} : mg_in p j = true ↔ p ≤ j ∧ j < mg_end p := by
  unfold mg_in
  rw [Bool.and_eq_true, decide_eq_true_eq, decide_eq_true_eq]
def mg_nz (x : Int32) : Bool := decide (¬ x = 0)
theorem mg_nzT {x : Int32} : mg_nz x = true ↔ ¬ x = 0 := decide_eq_true_iff
theorem mg_nzF {x : Int32} (h : x = 0) : mg_nz x = false := mg_bF mg_nzT (fun g => g h)
def mg_f (a : Nat → Int32) (p j : Nat) : Bool := mg_nz (a j) && mg_in p j
theorem mg_fT {a : Nat → Int32} {p j : Nat} : mg_f a p j = true ↔ ¬ a j = 0 ∧ p ≤ j ∧ j < mg_end p := by
  unfold mg_f
  rw [Bool.and_eq_true, mg_nzT, mg_inT]
theorem mg_f0 {a : Nat → Int32} {p j : Nat} (h : a j = 0) : mg_f a p j = false := mg_bF mg_fT (fun g => g.1 h)
theorem mg_fN {a : Nat → Int32} {p j : Nat} (h : ¬ (p ≤ j ∧ j < mg_end p)) : mg_f a p j = false := mg_bF mg_fT (fun g => h g.2)
def mg_V (a : Nat → Int32) (p : Nat) : Nat := mg_cnt (mg_f a p) 1331
theorem mg_Vlo (a : Nat → Int32) (p : Nat) : mg_cnt (mg_f a p) p = 0 := mg_cntZ p (fun j hj => mg_fN (by omega))
theorem mg_Vhi (a : Nat → Int32) {p : Nat} (h : mg_path p) : mg_cnt (mg_f a p) (mg_end p) = mg_V a p := by
  have e := mg_end_le h
  have g := mg_cntHi (f := mg_f a p) (m := mg_end p) (1331 - mg_end p) (fun j h1 _ => mg_fN (by omega))
  rw [show mg_end p + (1331 - mg_end p) = 1331 by omega] at g
  exact g.symm
theorem mg_Vle (a : Nat → Int32) (p : Nat) : mg_V a p ≤ 1331 := mg_cnt_le _ _
theorem mg_V1 {a : Nat → Int32} {p : Nat} (hp : p < 1331) (h : ¬ a p = 0) : 0 < mg_V a p :=
  mg_cntPos (mg_fT.mpr ⟨h, Nat.le_refl p, mg_lt_end p⟩) 1331 hp
theorem mg_VM {a b : Nat → Int32} (p : Nat) (h : ∀ j, ¬ a j = 0 → ¬ b j = 0) : mg_V a p ≤ mg_V b p :=
  mg_cntM 1331 (fun j _ hj => mg_fT.mpr ⟨h j (mg_fT.mp hj).1, (mg_fT.mp hj).2⟩)
/-- a store of x at k -/
theorem mg_us {f : Nat → Int32} {k : Nat} {x : Int32} : upd f k x k = x := if_pos rfl
theorem mg_un {f : Nat → Int32} {k j : Nat} {x : Int32} (h : j ≠ k) : upd f k x j = f j := if_neg h
theorem mg_VUo {a : Nat → Int32} {k : Nat} {x : Int32} (hx : ¬ x = 0) (h : ¬ a k = 0) : mg_V (upd a k x) 0 = mg_V a 0 := by
  apply Nat.le_antisymm
  · apply mg_VM
    intro j hj
    by_cases e : j = k
    · rw [e]; exact h
    · rw [mg_un e] at hj; exact hj
  · apply mg_VM
    intro j hj
    by_cases e : j = k
    · rw [e, mg_us]; exact hx
    · rw [mg_un e]; exact hj
theorem mg_cntU {f g : Nat → Bool} {k : Nat} (hf : f k = false) (hg : g k = true) (h : ∀ j, j ≠ k → g j = f j) : ∀ n, k < n → mg_cnt g n = mg_cnt f n + 1 := by
  intro n
  induction n with
  | zero => intro h; omega
  | succ n ih =>
    intro hk
    by_cases e : n = k
    · subst e
      rw [mg_cntT hg, mg_cntF hf, mg_cntC n (fun j hj => h j (by omega))]
    · have i := ih (by omega)
      have e2 := h n e
      cases e3 : f n with
      | true => rw [mg_cntT (e2.trans e3), mg_cntT e3, i]
      | false => rw [mg_cntF (e2.trans e3), mg_cntF e3, i]
theorem mg_VUn {a : Nat → Int32} {k : Nat} {x : Int32} (hk : k < 1331) (hx : ¬ x = 0) (h : a k = 0) : mg_V (upd a k x) 0 = mg_V a 0 + 1 := by
  refine mg_cntU (k := k) (mg_f0 h) (mg_fT.mpr ⟨?_, Nat.zero_le k, ?_⟩) ?_ 1331 hk
  · rw [mg_us]; exact hx
  · rw [mg_end0]; exact hk
  · intro j hj
    unfold mg_f
    rw [mg_un hj]
def mg_fold (f : Nat → Bool) (t : Nat → Nat) (x a : Nat → Int32) : Nat → (Nat → Int32)
  | 0 => a
  | n + 1 => if f n = true then upd (mg_fold f t x a n) (t n) (x n) else mg_fold f t x a n
section
variable {f : Nat → Bool} {t : Nat → Nat} {x a : Nat → Int32}
theorem mg_foldT {n : Nat} (h : f n = true) : mg_fold f t x a (n + 1) = upd (mg_fold f t x a n) (t n) (x n) := by
  show (if f n = true then upd (mg_fold f t x a n) (t n) (x n) else mg_fold f t x a n) = _
  rw [if_pos h]
theorem mg_foldF {n : Nat} (h : f n = false) : mg_fold f t x a (n + 1) = mg_fold f t x a n := by
  show (if f n = true then upd (mg_fold f t x a n) (t n) (x n) else mg_fold f t x a n) = _
  rw [h, if_neg Bool.false_ne_true]
theorem mg_foldHi {m : Nat} : ∀ d, (∀ j, m ≤ j → j < m + d → f j = false) → mg_fold f t x a (m + d) = mg_fold f t x a m := by
  intro d
  induction d with
  | zero => intro _; rfl
  | succ d ih =>
    intro h
    rw [← Nat.add_assoc, mg_foldF (h (m + d) (by omega) (by omega))]
    exact ih (fun j h1 h2 => h j h1 (by omega))
theorem mg_foldZ : ∀ n, (∀ j, j < n → f j = false) → mg_fold f t x a n = a := by
  intro n
  induction n with
  | zero => intro _; rfl
  | succ n ih =>
    intro h
    rw [mg_foldF (h n (by omega))]
    exact ih (fun j h1 => h j (by omega))
theorem mg_foldC {g : Nat → Bool} : ∀ n, (∀ j, j < n → f j = g j) → mg_fold f t x a n = mg_fold g t x a n := by
  intro n
  induction n with
  | zero => intro _; rfl
  | succ n ih =>
    intro h
    have i := ih (fun j hj => h j (by omega))
    have e := h n (by omega)
    cases e2 : g n with
    | true => rw [mg_foldT (e.trans e2), mg_foldT e2, i]
    | false => rw [mg_foldF (e.trans e2), mg_foldF e2, i]
theorem mg_foldV (k : Nat) : ∀ n, mg_fold f t x a n k = a k ∨ ∃ r, r < n ∧ f r = true ∧ t r = k ∧ mg_fold f t x a n k = x r := by
  intro n
  induction n with
  | zero => exact Or.inl rfl
  | succ n ih =>
    cases e : f n with
    | true =>
      rw [mg_foldT e]
      by_cases g : k = t n
      · exact Or.inr ⟨n, by omega, e, g.symm, by rw [g, mg_us]⟩
      · rw [mg_un g]
        rcases ih with i | ⟨r, i1, i2⟩
        · exact Or.inl i
        · exact Or.inr ⟨r, by omega, i2⟩
    | false =>
      rw [mg_foldF e]
      rcases ih with i | ⟨r, i1, i2⟩
      · exact Or.inl i
      · exact Or.inr ⟨r, by omega, i2⟩
/-- stores of 1 at places without a value, each at its own: how many there are afterwards -/
theorem mg_foldS {N : Nat} (ht : ∀ r, r < N → f r = true → t r < 1331) (hi : ∀ r s, r < N → s < N → f r = true → f s = true → t r = t s → r = s) : ∀ n, n ≤ N → mg_V (mg_fold f t (fun _ => 1) a n) 0 = mg_V a 0 + mg_cnt (fun j => f j && !mg_nz (a (t j))) n := by
  intro n
  induction n with
  | zero => intro _; rfl
  | succ n ih =>
    intro hn
    have i := ih (by omega)
    cases e : f n with
    | false =>
      rw [mg_foldF e, mg_cntF (by rw [e]; rfl), i]
    | true =>
      rw [mg_foldT e]
      by_cases z : a (t n) = 0
      · have z2 : mg_fold f t (fun _ => 1) a n (t n) = 0 := by
          rcases mg_foldV (f := f) (t := t) (x := fun _ => 1) (a := a) (t n) n with g | ⟨r, g1, g2, g3, g4⟩
          · rw [g]; exact z
          · exact absurd (hi r n (by omega) (by omega) g2 e g3) (by omega)
        rw [mg_VUn (ht n (by omega) e) (by decide) z2, mg_cntT (by rw [e, mg_nzF z]; rfl), i]
        omega
      · have z2 : ¬ mg_fold f t (fun _ => 1) a n (t n) = 0 := by
          rcases mg_foldV (f := f) (t := t) (x := fun _ => 1) (a := a) (t n) n with g | ⟨r, g1, g2, g3, g4⟩
          · rw [g]; exact z
          · rw [g4]; decide
        rw [mg_VUo (by decide) z2, mg_cntF (by rw [e, mg_nzT.mpr z]; rfl), i]
theorem mg_foldE {v w : Nat → Int32} (h : ∀ j, ¬ a j = 0 → v j = w j) (hf : ∀ j, f j = true → ¬ a j = 0) (k : Nat) : ∀ n, ¬ mg_fold f t (fun _ => 1) a n k = 0 → mg_fold f t v v n k = mg_fold f t w w n k := by
  intro n
  induction n with
  | zero => exact h k
  | succ n ih =>
    cases e : f n with
    | false =>
      rw [mg_foldF e, mg_foldF e, mg_foldF e]
      exact ih
    | true =>
      rw [mg_foldT e, mg_foldT e, mg_foldT e]
      intro hn
      by_cases g : k = t n
      · rw [g, mg_us, mg_us]
        exact h n (hf n e)
      · rw [mg_un g] at hn
        rw [mg_un g, mg_un g]
        exact ih hn
end
/-- the first n places of x over a -/
def mg_cp (x a : Nat → Int32) (n : Nat) : Nat → Int32 := fun j => if j < n then x j else a j
theorem mg_cp0 (x a : Nat → Int32) : mg_cp x a 0 = a := funext fun j => if_neg (Nat.not_lt_zero j)
theorem mg_cpL {x a : Nat → Int32} {n j : Nat} (h : j < n) : mg_cp x a n j = x j := if_pos h
theorem mg_cpH {x a : Nat → Int32} {n j : Nat} (h : n ≤ j) : mg_cp x a n j = a j := if_neg (Nat.not_lt.mpr h)
theorem mg_cpS {x a : Nat → Int32} {n : Nat} {y : Int32} (hy : y = x n) : upd (mg_cp x a n) n y = mg_cp x a (n + 1) := by
  funext j
  by_cases e : j = n
  · rw [e, mg_us, mg_cpL (by omega), hy]
  · rw [mg_un e]
    by_cases g : j < n
    · rw [mg_cpL g, mg_cpL (by omega)]
    · rw [mg_cpH (by omega), mg_cpH (by omega)]
end
section
/-! 04: the small private methods of both sides, over naturals -/
theorem mg_q121 {p : Nat} (h : p < 2 ^ 31) : nI p / 121 = nI (p / 121) := pk_div (d := 121) h (by decide) (by decide)
theorem mg_q11 {p : Nat} (h : p < 2 ^ 31) : nI p / 11 = nI (p / 11) := pk_div (d := 11) h (by decide) (by decide)
theorem mg_r121 {p : Nat} (h : p < 2 ^ 31) : nI p - nI p / 121 * 121 = nI (p % 121) := pk_rem (d := 121) h (by decide) (by decide)
theorem mg_r11 {p : Nat} (h : p < 2 ^ 31) : nI p - nI p / 11 * 11 = nI (p % 11) := pk_rem (d := 11) h (by decide) (by decide)
theorem mg_rq {p : Nat} (h : p < 2 ^ 31) : nI p / 11 - nI p / 11 / 11 * 11 = nI (p / 11 % 11) := by
  rw [mg_q11 h]
  exact mg_r11 (by omega)
theorem mg_b0 : vp_nar .boolean 0 = 0 := by decide
theorem mg_b1 : vp_nar .boolean 1 = 1 := by decide
theorem mg_nb {x : Int32} (h : x = 0 ∨ x = 1) : vp_nar .boolean x = x := by
  rcases h with h | h
  · rw [h]; exact mg_b0
  · rw [h]; exact mg_b1
theorem mx_isPath {post : Int32 → Prop} {p : Nat} (h : p < 1331) (h1 : mg_path p → post 1) (h0 : ¬ mg_path p → post 0) : wpX_isPath post (nI p) := by
  have K : (¬ (p / 121 = 0) ∨ p / 11 % 11 = 0) → wX_isPath_39 post (nI (p / 11 % 11)) (nI (p % 11)) := fun k =>
    pk_eq (p / 11 % 11) 0 (fun b => pk_eq (p % 11) 0 (fun c => h1 (by unfold mg_path; omega)) (fun c => h0 (by unfold mg_path; omega))) (fun b => h1 (by unfold mg_path; omega))
  refine br_f (nI_pos (by omega)) (br_t (nI_lt (b := 1331) h (by decide)) ⟨by decide, nm_r (mg_q121 (by omega)) ⟨by decide, by decide, nm_r (mg_rq (by omega)) ⟨by decide, nm_r (mg_r11 (by omega)) ?_⟩⟩⟩)
  exact pk_eq (p / 121) 0 (fun a => pk_eq (p / 11 % 11) 0 (fun b => K (Or.inr b)) (fun b => h0 (by unfold mg_path; omega))) (fun a => K (Or.inl a))
theorem my_isPath {post : Int32 → Prop} {a b c d : Nat → Int32} {p : Nat} (h : p < 1331) (h1 : mg_path p → post 1) (h0 : ¬ mg_path p → post 0) : wpY_isPath post (a, b, c, d) (nI p) := by
  have K : (¬ (p / 121 = 0) ∨ p / 11 % 11 = 0) → wY_isPath_40 post (nI (p / 11 % 11)) (nI (p % 11)) a b c d := fun k =>
    pk_eq (p % 11) 0 (fun c => h1 (by unfold mg_path; omega)) (fun c => pk_le (p / 11 % 11) 0 (fun b => h0 (by unfold mg_path; omega)) (fun b => h1 (by unfold mg_path; omega)))
  refine br_f (nI_pos (by omega)) (br_t (nI_le (b := 1330) (by omega) (by decide)) ⟨by decide, nm_r (mg_q121 (by omega)) ⟨by decide, by decide, nm_r (mg_rq (by omega)) ⟨by decide, nm_r (mg_r11 (by omega)) ?_⟩⟩⟩)
  exact pk_eq (p / 11 % 11) 0 (fun b => K (Or.inr b)) (fun b => pk_le (p / 121) 0 (fun a => h0 (by unfold mg_path; omega)) (fun a => K (Or.inl (by omega))))
/-- an argument is a path number, or no path number to both sides -/
theorem mg_isP (v : Int32) : (∃ p, mg_path p ∧ v = nI p) ∨ ((∀ post : Int32 → Prop, post 0 → wpX_isPath post v) ∧ (∀ (post : Int32 → Prop) (a b c d : Nat → Int32), post 0 → wpY_isPath post (a, b, c, d) v)) := by
  rcases pk_ix v (n := 1331) (by decide) with h | h | ⟨p, h, rfl⟩
  · exact Or.inr ⟨fun _ hp => br_t h hp, fun _ _ _ _ _ hp => br_t h hp⟩
  · have h0 : ¬ v < 0 := Int32.not_lt.mpr (Int32.le_trans (by decide) h)
    have h1 : ¬ v < 1331 := Int32.not_lt.mpr h
    have h2 : ¬ v ≤ 1330 := fun z => absurd (Int32.le_trans h z) (by decide)
    exact Or.inr ⟨fun _ hp => br_f h0 (br_f h1 hp), fun _ _ _ _ _ hp => br_f h0 (br_f h2 hp)⟩
  · by_cases g : mg_path p
    · exact Or.inl ⟨p, g, rfl⟩
    · exact Or.inr ⟨fun _ hp => mx_isPath h (fun z => absurd z g) (fun _ => hp), fun _ _ _ _ _ hp => my_isPath h (fun z => absurd z g) (fun _ => hp)⟩
theorem mx_isP1 {post : Int32 → Prop} {p : Nat} (hp : mg_path p) (h : post 1) : wpX_isPath post (nI p) := mx_isPath hp.1 (fun _ => h) (fun z => absurd hp z)
theorem my_isP1 {post : Int32 → Prop} {a b c d : Nat → Int32} {p : Nat} (hp : mg_path p) (h : post 1) : wpY_isPath post (a, b, c, d) (nI p) := my_isPath hp.1 (fun _ => h) (fun z => absurd hp z)
theorem mx_len {post : Int32 → Prop} {p : Nat} (h : p < 2 ^ 31) (hp : post (nI (mg_len p))) : wpX_lengthOf post (nI p) := by
  have c : ∀ k, mg_len p = k → post (nI k) := fun k e => e ▸ hp
  exact pk_eq p 0 (fun z => c 0 (mg_len0 z)) (fun z => ⟨by decide, pk_eq (p % 121) 0 (fun y => c 1 (mg_len1 z y)) (fun y => ⟨by decide, pk_eq (p % 11) 0 (fun x => c 2 (mg_len2 y x)) (fun x => c 3 (mg_len3 x)) (hx := mg_r11 h)⟩) (hx := mg_r121 h)⟩)
theorem my_len {post : Int32 → Prop} {a b c d : Nat → Int32} {p : Nat} (h : p < 2 ^ 31) (hp : post (nI (mg_len p))) : wpY_lengthOf post (a, b, c, d) (nI p) := by
  have c : ∀ k, mg_len p = k → post (nI k) := fun k e => e ▸ hp
  exact ⟨by decide, pk_le (p % 11) 0 (fun z => ⟨by decide, by decide, pk_le (p / 11 % 11) 0 (fun y => pk_le p 0 (fun x => c 0 (mg_len0 (by omega))) (fun x => c 1 (mg_len1 (by omega) (by omega)))) (fun y => c 2 (mg_len2 (by omega) (by omega))) (hx := mg_rq h)⟩) (fun z => c 3 (mg_len3 (by omega))) (hx := mg_r11 h)⟩
theorem mx_wt {post : Int32 → Prop} {l : Nat} (h : l ≤ 3) (hp : post (nI (mg_w l))) : wpX_weightAt post (nI l) := by
  have c : l = 0 ∨ l = 1 ∨ l = 2 ∨ l = 3 := by omega
  rcases c with rfl | rfl | rfl | rfl
  · exact br_f (by decide) (br_f (by decide) (br_t (by decide) hp))
  · exact br_f (by decide) (br_f (by decide) (br_f (by decide) (br_t (by decide) hp)))
  · exact br_f (by decide) (br_f (by decide) (br_f (by decide) (br_f (by decide) (br_t (by decide) hp))))
  · exact br_f (by decide) (br_t (by decide) hp)
theorem mx_end {post : Int32 → Prop} {p : Nat} (h : p < 1331) (hp : post (nI (mg_end p))) : wpX_endOf post (nI p) := by
  unfold wpX_endOf
  refine mx_len (by omega) (mx_wt (mg_len_le p) ?_)
  rw [nI_add]
  exact hp
theorem my_under {post : Int32 → Prop} {a b c d : Nat → Int32} {p q : Nat} (hp : p < 1331) (hq : q < 1331) (h1 : mg_in p q = true → post 1) (h0 : mg_in p q = false → post 0) : wpY_under post (a, b, c, d) (nI q) (nI p) := by
  have hl := mg_len_le p
  have t : ∀ {P : Prop}, (P ↔ p ≤ q ∧ q < mg_end p) → P → post 1 := fun e g => h1 (mg_inT.mpr (e.mp g))
  have f : ∀ {P : Prop}, (P ↔ p ≤ q ∧ q < mg_end p) → ¬ P → post 0 := fun e g => h0 (mg_bF mg_inT (fun k => g (e.mpr k)))
  unfold wpY_under
  dsimp only
  refine my_len (by omega) ?_
  exact pk_eq (mg_len p) 0 (fun z => h1 (mg_inT.mpr (mg_u0 z hq))) (fun z0 =>
    pk_eq (mg_len p) 1 (fun z => ⟨by decide, by decide, pk_eq (q / 121) (p / 121) (t (mg_u1 z)) (f (mg_u1 z)) (hx := mg_q121 (by omega)) (hy := mg_q121 (by omega))⟩) (fun z1 =>
    pk_eq (mg_len p) 2 (fun z => ⟨by decide, by decide, pk_eq (q / 11) (p / 11) (t (mg_u2 z)) (f (mg_u2 z)) (hx := mg_q11 (by omega)) (hy := mg_q11 (by omega))⟩) (fun z2 =>
    pk_eq q p (t (mg_u3 (by omega))) (f (mg_u3 (by omega))))))
theorem mx_vu {post : Int32 → Prop} {a b c d : Nat → Int32} {p : Nat} (hp : mg_path p) (h : post (nI (mg_V a p))) : ∀ e r n, r + e = mg_end p → p ≤ r → e < n → wX_valuesUnder_10 post (nI (mg_end p)) a b c d n (nI (mg_cnt (mg_f a p) r)) (nI r) := by
  have he := mg_end_le hp
  intro e
  induction e with
  | zero =>
    intro r n hr hpr hn
    obtain ⟨m, rfl⟩ : ∃ m, n = m + 1 := ⟨n - 1, by omega⟩
    rw [Nat.add_zero] at hr
    rw [hr, mg_Vhi a hp]
    exact br_t (nI_le (Nat.le_refl _) (by omega)) h
  | succ e ih =>
    intro r n hr hpr hn
    obtain ⟨m, rfl⟩ : ∃ m, n = m + 1 := ⟨n - 1, by omega⟩
    have i := ih (r + 1) m (by omega) (by omega) (by omega)
    have cl : (nI r).toNatClampNeg = r := nI_clamp (by omega)
    refine br_f (nI_ge (by omega) (by omega)) ⟨vp_in_nI (by omega) (by decide), ?_⟩
    rw [cl]
    by_cases z : a r = 0
    · rw [mg_cntF (mg_f0 z)] at i
      exact br_t z (nm_r (nI_1 r) i)
    · rw [mg_cntT (mg_fT.mpr ⟨z, hpr, by omega⟩)] at i
      exact br_f z (nm_r (nI_1 _) (nm_r (nI_1 r) i))
theorem mx_values {post : Int32 → Prop} {a b c d : Nat → Int32} {p : Nat} (hp : mg_path p) (h : post (nI (mg_V a p))) : wpX_valuesUnder post (a, b, c, d) (nI p) := by
  have i := mx_vu (b := b) (c := c) (d := d) hp h (mg_end p - p) p (mg_end p - p + 1) (by have := mg_lt_end p; omega) (Nat.le_refl p) (by omega)
  rw [mg_Vlo] at i
  unfold wpX_valuesUnder
  dsimp only
  exact mx_end hp.1 ⟨_, i⟩
theorem mx_size {post : Int32 → Prop} {a b c d : Nat → Int32} (h : post (nI (mg_V a 0))) : wpX_size post (a, b, c, d) := by
  unfold wpX_size
  dsimp only
  exact mx_values (p := 0) mg_path0 h
theorem my_cu {post : Int32 → Prop} {a b c d : Nat → Int32} {p : Nat} (hp : p < 1331) (h : post (nI (mg_V a p))) : ∀ e r n, r + e = 1331 → e < n → wY_countUnder_4 post (nI p) a b c d n (nI (mg_cnt (mg_f a p) r)) (nI r) := by
  intro e
  induction e with
  | zero =>
    intro r n hr hn
    obtain ⟨m, rfl⟩ : ∃ m, n = m + 1 := ⟨n - 1, by omega⟩
    rw [Nat.add_zero] at hr
    rw [hr]
    exact br_t (nI_le (Nat.le_refl _) (by omega)) h
  | succ e ih =>
    intro r n hr hn
    obtain ⟨m, rfl⟩ : ∃ m, n = m + 1 := ⟨n - 1, by omega⟩
    have i := ih (r + 1) m (by omega) (by omega)
    have cl : (nI r).toNatClampNeg = r := nI_clamp (by omega)
    refine br_f (nI_ge (b := 1331) (by omega) (by omega)) ⟨vp_in_nI (by omega) (by decide), ?_⟩
    rw [cl]
    by_cases z : a r = 0
    · rw [mg_cntF (mg_f0 z)] at i
      exact br_t z (nm_r (nI_1 r) i)
    · refine br_f z (my_under hp (by omega) (fun g => br_f (by decide) ?_) (fun g => br_t rfl ?_))
      · rw [mg_cntT (mg_fT.mpr ⟨z, mg_inT.mp g⟩)] at i
        exact nm_r (nI_1 _) (nm_r (nI_1 r) i)
      · rw [mg_cntF (mg_fN (fun k => by rw [mg_inT.mpr k] at g; cases g))] at i
        exact nm_r (nI_1 r) i
theorem my_count {post : Int32 → Prop} {a b c d : Nat → Int32} {p : Nat} (hp : p < 1331) (h : post (nI (mg_V a p))) : wpY_countUnder post (a, b, c, d) (nI p) :=
  ⟨1332, my_cu (b := b) (c := c) (d := d) hp h 1331 0 1332 rfl (by omega)⟩
theorem my_count0 {post : Int32 → Prop} {a b c d : Nat → Int32} (h : post (nI (mg_V a 0))) : wpY_countUnder post (a, b, c, d) 0 := my_count (p := 0) (by decide) h
end
section
/-! 05: stores of set and kill; the walks of query, order, orderBack, data -/
theorem mx_set32 {post : Int32 → SX → Prop} {a b c d : Nat → Int32} {p : Nat} {v x : Int32} (hp : p < 1331) (h1 : x = 0 → post 1 (upd a p 1, upd b p v, c, d)) (h0 : ¬ x = 0 → post 0 (upd a p 1, upd b p v, c, d)) : wX_set_32 post (nI p) v x a b c d := by
  have cl : (nI p).toNatClampNeg = p := nI_clamp (by omega)
  have hi : vp_in (nI p) 1331 := vp_in_nI hp (by decide)
  exact ⟨hi, nm_r (e' := upd a p 1) (by rw [cl, mg_b1]) ⟨hi, nm_r (e' := upd b p v) (by rw [cl]) (br_c h1 h0)⟩⟩
theorem my_set32 {post : Int32 → SY → Prop} {a b c d : Nat → Int32} {p : Nat} {v : Int32} (hp : p < 1331) (h1 : a p = 0 → post 1 (upd a p 1, upd b p v, c, d)) (h0 : ¬ a p = 0 → post 0 (upd a p 1, upd b p v, c, d)) : wY_set_32 post (nI p) v a b c d := by
  have cl : (nI p).toNatClampNeg = p := nI_clamp (by omega)
  have hi : vp_in (nI p) 1331 := vp_in_nI hp (by decide)
  have K : ∀ z : Int32, post z (upd a p 1, upd b p v, c, d) → wY_set_46 post (nI p) v z a b c d := fun z h =>
    ⟨hi, nm_r (e' := upd a p 1) (by rw [cl, mg_b1]) ⟨hi, nm_r (e' := upd b p v) (by rw [cl]) h⟩⟩
  refine ⟨hi, ?_⟩
  rw [cl]
  exact br_c (fun z => K 1 (h1 z)) (fun z => K 0 (h0 z))
/-- stores at the places of f, all of them under q -/
theorem mg_foldLo {f : Nat → Bool} {t : Nat → Nat} {x a : Nat → Int32} {q : Nat} (hf : ∀ j, f j = true → q ≤ j ∧ j < mg_end q) : mg_fold f t x a q = a := by
  apply mg_foldZ
  intro j hj
  cases e : f j with
  | false => rfl
  | true => have := hf j e; omega
theorem mg_foldEn {f : Nat → Bool} {t : Nat → Nat} {x a : Nat → Int32} {q : Nat} (hq : mg_path q) (hf : ∀ j, f j = true → q ≤ j ∧ j < mg_end q) : mg_fold f t x a (mg_end q) = mg_fold f t x a 1331 := by
  have e := mg_end_le hq
  have g := mg_foldHi (f := f) (t := t) (x := x) (a := a) (m := mg_end q) (1331 - mg_end q) (fun j h1 _ => by
    cases e : f j with
    | false => rfl
    | true => have := hf j e; omega)
  rw [show mg_end q + (1331 - mg_end q) = 1331 by omega] at g
  exact g.symm
theorem mg_cntLo {f : Nat → Bool} {q : Nat} (hf : ∀ j, f j = true → q ≤ j ∧ j < mg_end q) : mg_cnt f q = 0 := by
  apply mg_cntZ
  intro j hj
  cases e : f j with
  | false => rfl
  | true => have := hf j e; omega
theorem mg_cntEn {f : Nat → Bool} {q : Nat} (hq : mg_path q) (hf : ∀ j, f j = true → q ≤ j ∧ j < mg_end q) : mg_cnt f (mg_end q) = mg_cnt f 1331 := by
  have e := mg_end_le hq
  have g := mg_cntHi (f := f) (m := mg_end q) (1331 - mg_end q) (fun j h1 _ => by
    cases e : f j with
    | false => rfl
    | true => have := hf j e; omega)
  rw [show mg_end q + (1331 - mg_end q) = 1331 by omega] at g
  exact g.symm
def mg_kill (a : Nat → Int32) (p n : Nat) : Nat → Int32 := mg_fold (mg_in p) (fun j => j) (fun _ => 0) a n
theorem mx_kl {post : Int32 → SX → Prop} {a b c d : Nat → Int32} {p : Nat} {x : Int32} (hp : mg_path p) (h : post x (mg_kill a p 1331, b, c, d)) : ∀ e r n, r + e = mg_end p → p ≤ r → e < n → wX_kill_23 post x (nI (mg_end p)) n (nI r) (mg_kill a p r) b c d := by
  have he := mg_end_le hp
  intro e
  induction e with
  | zero =>
    intro r n hr hpr hn
    obtain ⟨m, rfl⟩ : ∃ m, n = m + 1 := ⟨n - 1, by omega⟩
    rw [Nat.add_zero] at hr
    refine br_t (nI_le (by omega) (by omega)) ?_
    have g : mg_kill a p r = mg_kill a p 1331 := by rw [hr]; exact mg_foldEn hp (fun j hj => mg_inT.mp hj)
    rw [g]
    exact h
  | succ e ih =>
    intro r n hr hpr hn
    obtain ⟨m, rfl⟩ : ∃ m, n = m + 1 := ⟨n - 1, by omega⟩
    have i := ih (r + 1) m (by omega) (by omega) (by omega)
    have cl : (nI r).toNatClampNeg = r := nI_clamp (by omega)
    have g : mg_kill a p (r + 1) = upd (mg_kill a p r) r 0 := mg_foldT (mg_inT.mpr ⟨hpr, by omega⟩)
    exact br_f (nI_ge (by omega) (by omega)) ⟨vp_in_nI (by omega) (by decide), nm_r (e' := mg_kill a p (r + 1)) (by rw [cl, mg_b0, g]) (nm_r (nI_1 r) i)⟩
theorem my_kl {post : Int32 → SY → Prop} {a b c d : Nat → Int32} {p : Nat} {x : Int32} (hp : p < 1331) (h : post x (mg_kill a p 1331, b, c, d)) : ∀ e r n, r + e = 1331 → e < n → wY_kill_18 post (nI p) x n (nI r) (mg_kill a p r) b c d := by
  intro e
  induction e with
  | zero =>
    intro r n hr hn
    obtain ⟨m, rfl⟩ : ∃ m, n = m + 1 := ⟨n - 1, by omega⟩
    rw [Nat.add_zero] at hr
    rw [hr]
    exact br_t (nI_le (Nat.le_refl _) (by omega)) h
  | succ e ih =>
    intro r n hr hn
    obtain ⟨m, rfl⟩ : ∃ m, n = m + 1 := ⟨n - 1, by omega⟩
    have i := ih (r + 1) m (by omega) (by omega)
    have cl : (nI r).toNatClampNeg = r := nI_clamp (by omega)
    refine br_f (nI_ge (b := 1331) (by omega) (by omega)) (my_under hp (by omega) (fun g => br_f (by decide) ?_) (fun g => br_t rfl ?_))
    · have k : mg_kill a p (r + 1) = upd (mg_kill a p r) r 0 := mg_foldT g
      exact ⟨vp_in_nI (by omega) (by decide), nm_r (e' := mg_kill a p (r + 1)) (by rw [cl, mg_b0, k]) (nm_r (nI_1 r) i)⟩
    · have k : mg_kill a p (r + 1) = mg_kill a p r := mg_foldF g
      rw [k] at i
      exact nm_r (nI_1 r) i
theorem mg_qry (a b c d b' c' d' : Nat → Int32) (x : Int32) : ∀ e r : Nat, r + e = 1331 → ∃ y : Int32, (∀ post : Int32 → Prop, post y → wX_query_2 post x a b c d (e + 1) (nI r)) ∧ (∀ post : Int32 → Prop, post y → wY_query_2 post x a b' c' d' (e + 1) (nI r)) := by
  intro e
  induction e with
  | zero =>
    intro r hr
    have h : (1331 : Int32) ≤ nI r := nI_le (a := 1331) (by omega) (by omega)
    exact ⟨-3, fun _ hp => br_t h hp, fun _ hp => br_t h hp⟩
  | succ e ih =>
    intro r hr
    have h : ¬ (1331 : Int32) ≤ nI r := nI_ge (b := 1331) (by omega) (by omega)
    have hi : vp_in (nI r) 1331 := vp_in_nI (by omega) (by decide)
    obtain ⟨y, iX, iY⟩ := ih (r + 1) (by omega)
    by_cases g : nI r ≤ x
    · exact ⟨y, fun post hp => br_f h (br_t g (nm_r (nI_1 r) (iX post hp))), fun post hp => br_f h (br_t g (nm_r (nI_1 r) (iY post hp)))⟩
    · by_cases z : a (nI r).toNatClampNeg = 0
      · exact ⟨y, fun post hp => br_f h (br_f g ⟨hi, br_t z (nm_r (nI_1 r) (iX post hp))⟩), fun post hp => br_f h (br_f g ⟨hi, br_t z (nm_r (nI_1 r) (iY post hp))⟩)⟩
      · exact ⟨nI r, fun post hp => br_f h (br_f g ⟨hi, br_f z hp⟩), fun post hp => br_f h (br_f g ⟨hi, br_f z hp⟩)⟩
theorem mx_hda {post : Int32 → Prop} {a b c d : Nat → Int32} {p t : Nat} (hp : mg_path p) (hl : mg_len p < 3) (ht : t < 10) (h0 : mg_V a (mg_fol p (t + 1)) = 0 → post 0) (h1 : 0 < mg_V a (mg_fol p (t + 1)) → post 1) : wpX_hasDataAfter post (a, b, c, d) (nI p) (nI t) := by
  have hf := mg_folP (d := t + 1) hp hl (by omega) (by omega)
  have hv := mg_Vle a (mg_fol p (t + 1))
  have h3 := hp.1
  unfold wpX_hasDataAfter
  dsimp only
  refine mx_len (by omega) (nm_r (nI_1 _) (mx_wt (by omega) (nm_r (e' := nI (mg_fol p (t + 1))) ?_ (mx_values hf.1 ?_))))
  · rw [nI_1, pk_mul, nI_add]
    rfl
  · exact pk_le (mg_V a (mg_fol p (t + 1))) 0 (fun z => h0 (by omega)) h1
theorem my_fol {post : Int32 → Prop} {a b c d : Nat → Int32} {p t : Nat} (hp : p < 1331) (hl : mg_len p < 3) (h : post (nI (mg_fol p (t + 1)))) : wpY_followed post (a, b, c, d) (nI p) (nI t) := by
  unfold mg_fol at h
  unfold wpY_followed
  dsimp only
  refine my_len (by omega) ?_
  refine pk_eq (mg_len p) 0 (fun z => ?_) (fun z0 => pk_eq (mg_len p) 1 (fun z => ?_) (fun z1 => ?_))
  · rw [nI_1, show (121 : Int32) = nI 121 from rfl, pk_mul, nI_add]
    rw [z] at h
    exact h
  · rw [nI_1, show (11 : Int32) = nI 11 from rfl, pk_mul, nI_add]
    rw [z] at h
    exact h
  · rw [nI_1, show (1 : Int32) = nI 1 from rfl, pk_mul, nI_add]
    rw [show mg_len p = 2 by omega] at h
    exact h
theorem my_data {post : Int32 → Prop} {a b c d : Nat → Int32} {p : Nat} (hp : p < 1331) (h0 : a p = 0 → mg_V a p = 0 → post 0) (h1 : a p = 0 → 0 < mg_V a p → post 10) (h2 : ¬ a p = 0 → mg_V a p ≤ 1 → post 1) (h3 : ¬ a p = 0 → 1 < mg_V a p → post 11) : wpY_dataOf post (a, b, c, d) (nI p) := by
  have hv := mg_Vle a p
  unfold wpY_dataOf
  dsimp only
  refine my_count hp ⟨vp_in_nI hp (by decide), ?_⟩
  rw [nI_clamp (by omega)]
  exact br_c (fun z => pk_le (mg_V a p) 0 (fun y => h0 z (by omega)) (h1 z)) (fun z => pk_le (mg_V a p) 1 (h2 z) (h3 z))
theorem my_dat {post : Int32 → Prop} {a b c d : Nat → Int32} {p : Nat} (hp : p < 1331) (h0 : mg_V a p = 0 → post 0) (h1 : 0 < mg_V a p → ∀ y : Int32, ¬ y = 0 → post y) : wpY_dataOf post (a, b, c, d) (nI p) :=
  my_data hp (fun _ => h0) (fun _ g => h1 g 10 (by decide)) (fun z _ => h1 (mg_V1 hp z) 1 (by decide)) (fun z _ => h1 (mg_V1 hp z) 11 (by decide))
theorem mg_ord (a b c d b' c' d' : Nat → Int32) {p : Nat} (x : Int32) (hp : mg_path p) (hl : mg_len p < 3) : ∀ e r : Nat, r + e = 10 → ∃ y : Int32, (∀ post : Int32 → Prop, post y → wX_order_11 post (nI p) x a b c d (e + 1) (nI r)) ∧ (∀ post : Int32 → Prop, post y → wY_order_21 post (nI p) x a b' c' d' (e + 1) (nI r)) := by
  intro e
  induction e with
  | zero =>
    intro r hr
    have h : (10 : Int32) ≤ nI r := nI_le (a := 10) (by omega) (by omega)
    have h2 : (9 : Int32) < nI r := nI_lt (a := 9) (by omega) (by omega)
    exact ⟨-3, fun _ hp => br_t h hp, fun _ hp => br_t h2 hp⟩
  | succ e ih =>
    intro r hr
    have h : ¬ (10 : Int32) ≤ nI r := nI_ge (b := 10) (by omega) (by omega)
    have h2 : ¬ (9 : Int32) < nI r := nI_nlt (a := 9) (by omega) (by omega)
    have hf := (mg_folP (d := r + 1) hp hl (by omega) (by omega)).1.1
    obtain ⟨y, iX, iY⟩ := ih (r + 1) (by omega)
    by_cases g : nI r ≤ x
    · exact ⟨y, fun post ho => br_f h (br_t g (nm_r (nI_1 r) (iX post ho))), fun post ho => br_f h2 (my_fol hp.1 hl (br_t g (nm_r (nI_1 r) (iY post ho))))⟩
    · by_cases z : mg_V a (mg_fol p (r + 1)) = 0
      · exact ⟨y, fun post ho => br_f h (br_f g (mx_hda hp hl (by omega) (fun _ => br_t rfl (nm_r (nI_1 r) (iX post ho))) (fun q => absurd q (by omega)))),
          fun post ho => br_f h2 (my_fol hp.1 hl (br_f g (my_dat hf (fun _ => br_t rfl (nm_r (nI_1 r) (iY post ho))) (fun q => absurd q (by omega)))))⟩
      · exact ⟨nI r, fun post ho => br_f h (br_f g (mx_hda hp hl (by omega) (fun q => absurd q z) (fun _ => br_f (by decide) ho))),
          fun post ho => br_f h2 (my_fol hp.1 hl (br_f g (my_dat hf (fun q => absurd q z) (fun _ _ q => br_f q ho))))⟩
/-- orderBack's walk behind place r: at place r - 1, which is -1 at the end -/
def mg_bk (r : Nat) : Int32 := nI r + (-1)
theorem mg_bk1 (r : Nat) : mg_bk (r + 1) = nI r := pk_m1 r
theorem mg_ordB (a b c d b' c' d' : Nat → Int32) {p : Nat} (x : Int32) (hp : mg_path p) (hl : mg_len p < 3) : ∀ e : Nat, e ≤ 10 → ∃ y : Int32, (∀ post : Int32 → Prop, post y → wX_orderBack_12 post (nI p) x a b c d (e + 1) (mg_bk e)) ∧ (∀ post : Int32 → Prop, post y → wY_orderBack_22 post (nI p) x a b' c' d' (e + 1) (mg_bk e)) := by
  intro e
  induction e with
  | zero =>
    intro _
    have h : mg_bk 0 < 0 := by decide
    exact ⟨-3, fun _ hp => br_t h hp, fun _ hp => br_t h hp⟩
  | succ r ih =>
    intro hr
    rw [mg_bk1]
    have h : ¬ nI r < 0 := nI_pos (by omega)
    have hf := (mg_folP (d := r + 1) hp hl (by omega) (by omega)).1.1
    obtain ⟨y, iX, iY⟩ := ih (by omega)
    by_cases g : x ≤ nI r
    · exact ⟨y, fun post ho => br_f h (br_t g (nm_e (iX post ho))), fun post ho => br_f h (my_fol hp.1 hl (br_t g (nm_e (iY post ho))))⟩
    · by_cases z : mg_V a (mg_fol p (r + 1)) = 0
      · exact ⟨y, fun post ho => br_f h (br_f g (mx_hda hp hl (by omega) (fun _ => br_t rfl (nm_e (iX post ho))) (fun q => absurd q (by omega)))),
          fun post ho => br_f h (my_fol hp.1 hl (br_f g (my_dat hf (fun _ => br_t rfl (nm_e (iY post ho))) (fun q => absurd q (by omega)))))⟩
      · exact ⟨nI r, fun post ho => br_f h (br_f g (mx_hda hp hl (by omega) (fun q => absurd q z) (fun _ => br_f (by decide) ho))),
          fun post ho => br_f h (my_fol hp.1 hl (br_f g (my_dat hf (fun q => absurd q z) (fun _ _ q => br_f q ho))))⟩
end
section
/-! 06: merge: too deep, newcomers, the copies, X's and Y's stores -/
def mg_deep (p q r : Nat) : Bool := decide (3 + mg_len q < mg_len p + mg_len r)
theorem mg_deepT {p q r : Nat} : mg_deep p q r = true ↔ 3 + mg_len q < mg_len p + mg_len r := decide_eq_true_iff
theorem mg_deepF {p q r : Nat} (h : mg_len p + mg_len r ≤ 3 + mg_len q) : mg_deep p q r = false := mg_bF mg_deepT (by omega)
theorem mg_deepN {p q r : Nat} (h : mg_deep p q r = false) : mg_len p + mg_len r ≤ 3 + mg_len q := by
  by_cases g : 3 + mg_len q < mg_len p + mg_len r
  · rw [mg_deepT.mpr g] at h; cases h
  · omega
/-- the values under q that would go too deep, and those that don't -/
def mg_fd (a : Nat → Int32) (p q j : Nat) : Bool := mg_f a q j && mg_deep p q j
def mg_fs (a : Nat → Int32) (p q j : Nat) : Bool := mg_f a q j && !mg_deep p q j
def mg_fn (a : Nat → Int32) (p q j : Nat) : Bool := mg_f a q j && !mg_nz (a (mg_tgt p q j))
theorem mg_fd_f {a : Nat → Int32} {p q j : Nat} (h : mg_fd a p q j = true) : mg_f a q j = true := by
  unfold mg_fd at h
  rw [Bool.and_eq_true] at h
  exact h.1
theorem mg_fs_f {a : Nat → Int32} {p q j : Nat} (h : mg_fs a p q j = true) : mg_f a q j = true ∧ mg_deep p q j = false := by
  unfold mg_fs at h
  rw [Bool.and_eq_true, Bool.not_eq_true'] at h
  exact h
theorem mg_fn_f {a : Nat → Int32} {p q j : Nat} (h : mg_fn a p q j = true) : mg_f a q j = true := by
  unfold mg_fn at h
  rw [Bool.and_eq_true] at h
  exact h.1
theorem mx_deepL {post : Int32 → Prop} {a b c d : Nat → Int32} {p q : Nat} (hq : mg_path q) (h0 : mg_cnt (mg_fd a p q) 1331 = 0 → post 0) (h1 : 0 < mg_cnt (mg_fd a p q) 1331 → post 1) : ∀ e r n, r + e = mg_end q → q ≤ r → e < n → mg_cnt (mg_fd a p q) r = 0 → wX_mergeGoesTooDeep_21 post (nI (3 - mg_len p + mg_len q)) (nI (mg_end q)) a b c d n (nI r) := by
  have he := mg_end_le hq
  have lq := mg_len_le q
  have lp := mg_len_le p
  intro e
  induction e with
  | zero =>
    intro r n hr hpr hn hc
    obtain ⟨m, rfl⟩ : ∃ m, n = m + 1 := ⟨n - 1, by omega⟩
    rw [Nat.add_zero] at hr
    rw [hr, mg_cntEn hq (fun j hj => (mg_fT.mp (mg_fd_f hj)).2)] at hc
    exact br_t (nI_le (by omega) (by omega)) (h0 hc)
  | succ e ih =>
    intro r n hr hpr hn hc
    obtain ⟨m, rfl⟩ : ∃ m, n = m + 1 := ⟨n - 1, by omega⟩
    have cl : (nI r).toNatClampNeg = r := nI_clamp (by omega)
    have lr := mg_len_le r
    refine br_f (nI_ge (by omega) (by omega)) ⟨vp_in_nI (by omega) (by decide), ?_⟩
    rw [cl]
    by_cases z : a r = 0
    · refine br_t z (nm_r (nI_1 r) (ih (r + 1) m (by omega) (by omega) (by omega) ?_))
      rw [mg_cntF, hc]
      unfold mg_fd
      rw [mg_f0 z]
      rfl
    · have hf : mg_f a q r = true := mg_fT.mpr ⟨z, hpr, by omega⟩
      refine br_f z (mx_len (by omega) (pk_le (mg_len r) (3 - mg_len p + mg_len q) (fun g => ?_) (fun g => ?_)))
      · refine nm_r (nI_1 r) (ih (r + 1) m (by omega) (by omega) (by omega) ?_)
        rw [mg_cntF, hc]
        unfold mg_fd
        rw [hf, mg_deepF (by omega)]
        rfl
      · refine h1 (mg_cntPos (k := r) ?_ 1331 (by omega))
        unfold mg_fd
        rw [hf, mg_deepT.mpr (by omega)]
        rfl
theorem mx_deep {post : Int32 → Prop} {a b c d : Nat → Int32} {p q : Nat} (hp : mg_path p) (hq : mg_path q) (h0 : mg_cnt (mg_fd a p q) 1331 = 0 → post 0) (h1 : 0 < mg_cnt (mg_fd a p q) 1331 → post 1) : wpX_mergeGoesTooDeep post (a, b, c, d) (nI p) (nI q) := by
  have hp1 := hp.1
  have hq1 := hq.1
  have i := mx_deepL (b := b) (c := c) (d := d) hq h0 h1 (mg_end q - q) q (mg_end q - q + 1) (by have := mg_lt_end q; omega) (Nat.le_refl q) (by omega) (mg_cntLo (fun j hj => (mg_fT.mp (mg_fd_f hj)).2))
  unfold wpX_mergeGoesTooDeep
  dsimp only
  refine mx_len (by omega) (mx_len (by omega) (nm_r (e' := nI (3 - mg_len p + mg_len q)) ?_ (mx_end hq1 ⟨_, i⟩)))
  rw [show (3 : Int32) = nI 3 from rfl, pk_sub (mg_len_le p), nI_add]
theorem mg_w_le (l : Nat) : mg_w l ≤ 1331 ∧ 0 < mg_w l := by
  unfold mg_w
  by_cases h0 : l = 0
  · rw [if_pos h0]; omega
  · rw [if_neg h0]
    by_cases h1 : l = 1
    · rw [if_pos h1]; omega
    · rw [if_neg h1]
      by_cases h2 : l = 2
      · rw [if_pos h2]; omega
      · rw [if_neg h2]; omega
theorem mx_tgt {post : Int32 → Prop} {p q r : Nat} (hp : p < 1331) (hr : r < 1331) (h1 : q ≤ r) (h : post (nI (mg_tgt p q r))) : wpX_targetOf post (nI r) (nI p) (nI q) := by
  have wp := mg_w_le (mg_len p)
  have wq := mg_w_le (mg_len q)
  have hm : (r - q) * mg_w (mg_len p) ≤ 1331 * 1331 := Nat.mul_le_mul (by omega) wp.1
  unfold wpX_targetOf
  refine mx_len (by omega) (mx_len (by omega) (mx_wt (mg_len_le p) (mx_wt (mg_len_le q) ⟨nI_ne0 wq.2 (by omega), ?_⟩)))
  rw [pk_sub h1, pk_mul, pk_div (by omega) wq.2 (by omega), nI_add]
  exact h
/-- all that a merge wants of the paths that have values: paths all, and none goes too deep -/
def mg_fit (a : Nat → Int32) (p q : Nat) : Prop := ∀ j, mg_f a q j = true → mg_path j ∧ mg_len p + mg_len j ≤ 3 + mg_len q
theorem mx_newL {post : Int32 → Prop} {a b c d : Nat → Int32} {p q : Nat} (hp : mg_path p) (hq : mg_path q) (hf : mg_fit a p q) (h : post (nI (mg_cnt (mg_fn a p q) 1331))) : ∀ e r n, r + e = mg_end q → q ≤ r → e < n → wX_newcomersOfMerge_11 post (nI p) (nI q) (nI (mg_end q)) a b c d n (nI (mg_cnt (mg_fn a p q) r)) (nI r) := by
  have he := mg_end_le hq
  intro e
  induction e with
  | zero =>
    intro r n hr hpr hn
    obtain ⟨m, rfl⟩ : ∃ m, n = m + 1 := ⟨n - 1, by omega⟩
    rw [Nat.add_zero] at hr
    rw [hr, mg_cntEn hq (fun j hj => (mg_fT.mp (mg_fn_f hj)).2)]
    exact br_t (nI_le (Nat.le_refl _) (by omega)) h
  | succ e ih =>
    intro r n hr hpr hn
    obtain ⟨m, rfl⟩ : ∃ m, n = m + 1 := ⟨n - 1, by omega⟩
    have i := ih (r + 1) m (by omega) (by omega) (by omega)
    have cl : (nI r).toNatClampNeg = r := nI_clamp (by omega)
    refine br_f (nI_ge (by omega) (by omega)) ⟨vp_in_nI (by omega) (by decide), ?_⟩
    rw [cl]
    by_cases z : a r = 0
    · have e1 : mg_fn a p q r = false := by
        unfold mg_fn
        rw [mg_f0 z]
        rfl
      rw [mg_cntF e1] at i
      exact br_t z (nm_r (nI_1 r) i)
    · have hfr : mg_f a q r = true := mg_fT.mpr ⟨z, hpr, by omega⟩
      have ht := mg_tgtP hp (hf r hfr).1 hpr (by omega) (hf r hfr).2
      have ht1 := ht.1
      refine br_f z (mx_tgt hp.1 (by omega) hpr ⟨vp_in_nI ht1 (by decide), ?_⟩)
      rw [nI_clamp (by omega)]
      by_cases y : a (mg_tgt p q r) = 0
      · have e1 : mg_fn a p q r = true := by
          unfold mg_fn
          rw [hfr, mg_nzF y]
          rfl
        rw [mg_cntT e1] at i
        exact br_t y (nm_r (nI_1 _) (nm_r (nI_1 r) i))
      · have e1 : mg_fn a p q r = false := by
          unfold mg_fn
          rw [mg_nzT.mpr y, Bool.not_true, Bool.and_false]
        rw [mg_cntF e1] at i
        exact br_f y (nm_r (nI_1 r) i)
theorem mx_new {post : Int32 → Prop} {a b c d : Nat → Int32} {p q : Nat} (hp : mg_path p) (hq : mg_path q) (hf : mg_fit a p q) (h : post (nI (mg_cnt (mg_fn a p q) 1331))) : wpX_newcomersOfMerge post (a, b, c, d) (nI p) (nI q) := by
  have i := mx_newL (b := b) (c := c) (d := d) hp hq hf h (mg_end q - q) q (mg_end q - q + 1) (by have := mg_lt_end q; omega) (Nat.le_refl q) (by omega)
  rw [mg_cntLo (fun j hj => (mg_fT.mp (mg_fn_f hj)).2)] at i
  unfold wpX_newcomersOfMerge
  dsimp only
  exact mx_end hq.1 ⟨_, i⟩
theorem mx_keepL {post : SX → Prop} {a b c d : Nat → Int32} (ha : ∀ j, a j = 0 ∨ a j = 1) (h : post (a, b, mg_cp a c 1331, mg_cp b d 1331)) : ∀ e r n, r + e = 1331 → e < n → wX_keepStateBefore_2 post n (nI r) a b (mg_cp a c r) (mg_cp b d r) := by
  intro e
  induction e with
  | zero =>
    intro r n hr hn
    obtain ⟨m, rfl⟩ : ∃ m, n = m + 1 := ⟨n - 1, by omega⟩
    rw [Nat.add_zero] at hr
    rw [hr]
    exact br_t (nI_le (Nat.le_refl _) (by omega)) h
  | succ e ih =>
    intro r n hr hn
    obtain ⟨m, rfl⟩ : ∃ m, n = m + 1 := ⟨n - 1, by omega⟩
    have i := ih (r + 1) m (by omega) (by omega)
    have cl : (nI r).toNatClampNeg = r := nI_clamp (by omega)
    have hi : vp_in (nI r) 1331 := vp_in_nI (by omega) (by decide)
    exact br_f (nI_ge (b := 1331) (by omega) (by omega)) ⟨hi, hi, nm_r (e' := mg_cp a c (r + 1)) (by rw [cl, mg_cpS (mg_nb (ha r))]) ⟨hi, hi, nm_r (e' := mg_cp b d (r + 1)) (by rw [cl, mg_cpS rfl]) (nm_r (nI_1 r) i)⟩⟩
theorem mx_keep {post : SX → Prop} {a b c d : Nat → Int32} (ha : ∀ j, a j = 0 ∨ a j = 1) (h : post (a, b, mg_cp a c 1331, mg_cp b d 1331)) : wpX_keepStateBefore post (a, b, c, d) := by
  have i := mx_keepL ha h 1331 0 1332 rfl (by omega)
  rw [mg_cp0, mg_cp0] at i
  exact ⟨1332, i⟩
def mg_mp (a : Nat → Int32) (p q n : Nat) : Nat → Int32 := mg_fold (mg_f a q) (mg_tgt p q) (fun _ => 1) a n
def mg_mv (a b : Nat → Int32) (p q n : Nat) : Nat → Int32 := mg_fold (mg_f a q) (mg_tgt p q) b b n
theorem mx_copyL {post : SX → Prop} {a b c d : Nat → Int32} {p q : Nat} (hp : mg_path p) (hq : mg_path q) (hf : mg_fit a p q) (hc : ∀ j, j < 1331 → c j = a j) (hd : ∀ j, j < 1331 → d j = b j) (h : post (mg_mp a p q 1331, mg_mv a b p q 1331, c, d)) : ∀ e r n, r + e = mg_end q → q ≤ r → e < n → wX_copyFromStateBefore_8 post (nI p) (nI q) (nI (mg_end q)) n (nI r) (mg_mp a p q r) (mg_mv a b p q r) c d := by
  have he := mg_end_le hq
  intro e
  induction e with
  | zero =>
    intro r n hr hpr hn
    obtain ⟨m, rfl⟩ : ∃ m, n = m + 1 := ⟨n - 1, by omega⟩
    rw [Nat.add_zero] at hr
    have g1 : mg_mp a p q r = mg_mp a p q 1331 := by rw [hr]; exact mg_foldEn hq (fun j hj => (mg_fT.mp hj).2)
    have g2 : mg_mv a b p q r = mg_mv a b p q 1331 := by rw [hr]; exact mg_foldEn hq (fun j hj => (mg_fT.mp hj).2)
    rw [g1, g2]
    exact br_t (nI_le (by omega) (by omega)) h
  | succ e ih =>
    intro r n hr hpr hn
    obtain ⟨m, rfl⟩ : ∃ m, n = m + 1 := ⟨n - 1, by omega⟩
    have i := ih (r + 1) m (by omega) (by omega) (by omega)
    have cl : (nI r).toNatClampNeg = r := nI_clamp (by omega)
    have hi : vp_in (nI r) 1331 := vp_in_nI (by omega) (by decide)
    have hcr := hc r (by omega)
    have hdr := hd r (by omega)
    refine br_f (nI_ge (by omega) (by omega)) ⟨hi, ?_⟩
    rw [cl, hcr]
    by_cases z : a r = 0
    · have g1 : mg_mp a p q (r + 1) = mg_mp a p q r := mg_foldF (mg_f0 z)
      have g2 : mg_mv a b p q (r + 1) = mg_mv a b p q r := mg_foldF (mg_f0 z)
      rw [g1, g2] at i
      exact br_t z (nm_r (nI_1 r) i)
    · have hfr : mg_f a q r = true := mg_fT.mpr ⟨z, hpr, by omega⟩
      have ht := (mg_tgtP hp (hf r hfr).1 hpr (by omega) (hf r hfr).2).1
      have ct : (nI (mg_tgt p q r)).toNatClampNeg = mg_tgt p q r := nI_clamp (by omega)
      have hj : vp_in (nI (mg_tgt p q r)) 1331 := vp_in_nI ht (by decide)
      have g1 : mg_mp a p q (r + 1) = upd (mg_mp a p q r) (mg_tgt p q r) 1 := mg_foldT hfr
      have g2 : mg_mv a b p q (r + 1) = upd (mg_mv a b p q r) (mg_tgt p q r) (b r) := mg_foldT hfr
      exact br_f z (mx_tgt hp.1 (by omega) hpr ⟨hj, nm_r (e' := mg_mp a p q (r + 1)) (by rw [ct, mg_b1, g1]) ⟨hi, hj, nm_r (e' := mg_mv a b p q (r + 1)) (by rw [ct, hdr, g2]) (nm_r (nI_1 r) i)⟩⟩)
theorem mx_copy {post : SX → Prop} {a b c d : Nat → Int32} {p q : Nat} (hp : mg_path p) (hq : mg_path q) (hf : mg_fit a p q) (hc : ∀ j, j < 1331 → c j = a j) (hd : ∀ j, j < 1331 → d j = b j) (h : post (mg_mp a p q 1331, mg_mv a b p q 1331, c, d)) : wpX_copyFromStateBefore post (a, b, c, d) (nI p) (nI q) := by
  have i := mx_copyL hp hq hf hc hd h (mg_end q - q) q (mg_end q - q + 1) (by have := mg_lt_end q; omega) (Nat.le_refl q) (by omega)
  have g1 : mg_mp a p q q = a := mg_foldLo (fun j hj => (mg_fT.mp hj).2)
  have g2 : mg_mv a b p q q = b := mg_foldLo (fun j hj => (mg_fT.mp hj).2)
  rw [g1, g2] at i
  unfold wpX_copyFromStateBefore
  dsimp only
  exact mx_end hq.1 ⟨_, i⟩
end
section
/-! 07: merge, Y's side: moved, the stores, restore -/
theorem my_sub {post : Int32 → Prop} {a b c d : Nat → Int32} {r i : Nat} (hr : r < 1331) (hi : i < 3) (h1 : 1 ≤ mg_dig r i) (h : post (nI (mg_dig r i - 1))) : wpY_subscript post (a, b, c, d) (nI r) (nI i) := by
  have e : post (nI (mg_dig r i) - 1) := by
    rw [show (1 : Int32) = nI 1 from rfl, pk_sub h1]
    exact h
  have c : i = 0 ∨ i = 1 ∨ i = 2 := by omega
  rcases c with rfl | rfl | rfl
  · refine br_t rfl ⟨by decide, ?_⟩
    rw [mg_q121 (by omega)]
    exact e
  · refine br_f (by decide) (br_t rfl ⟨by decide, by decide, ?_⟩)
    rw [mg_rq (by omega)]
    exact e
  · refine br_f (by decide) (br_f (by decide) ⟨by decide, ?_⟩)
    rw [mg_r11 (by omega)]
    exact e
theorem my_movL {post : Int32 → Prop} {a b c d : Nat → Int32} {p q r : Nat} (hp : mg_path p) (hr : mg_path r) (h1 : q ≤ r) (h2 : r < mg_end q) (k0 : mg_deep p q r = false → post (nI (mg_tgt p q r))) (k1 : mg_deep p q r = true → post (-1)) : ∀ e i n, i + e = mg_len r → mg_len q ≤ i → mg_len p + i ≤ 3 + mg_len q → e < n → wY_moved_6 post (nI r) a b c d n (nI (mg_T p q r i)) (nI i) := by
  have l3 := mg_len_le r
  have hr1 := hr.1
  intro e
  induction e with
  | zero =>
    intro i n hi hq hd hn
    obtain ⟨m, rfl⟩ : ∃ m, n = m + 1 := ⟨n - 1, by omega⟩
    rw [wY_moved_6]
    refine my_len (p := r) (by omega) (pk_le (mg_len r) i (fun _ => ?_) (fun g => absurd g (by omega)))
    rw [show i = mg_len r by omega, mg_Te hr]
    exact k0 (mg_deepF (by omega))
  | succ e ih =>
    intro i n hi hq hd hn
    obtain ⟨m, rfl⟩ : ∃ m, n = m + 1 := ⟨n - 1, by omega⟩
    have T := mg_TP hp hr h1 h2 (i - mg_len q) (by omega) (by omega)
    rw [show mg_len q + (i - mg_len q) = i by omega] at T
    have T1 := T.1.1
    have T2 := T.2
    have dg := mg_digB (i := i) hr (by omega)
    rw [wY_moved_6]
    refine my_len (p := r) (by omega) (pk_le (mg_len r) i (fun g => absurd g (by omega)) (fun _ => my_len (p := mg_T p q r i) (by omega) (pk_eq (mg_len (mg_T p q r i)) 3 (fun g => ?_) (fun g => ?_))))
    · exact k1 (mg_deepT.mpr (by omega))
    · have s := mg_Tstep (p := p) hr h1 h2 hq (by omega) (by omega)
      have f : mg_fol (mg_T p q r i) (mg_dig r i - 1 + 1) = mg_T p q r (i + 1) := by
        unfold mg_fol
        rw [← s, T2, show mg_dig r i - 1 + 1 = mg_dig r i by omega, show mg_len p + (i - mg_len q) + 1 = mg_len p + i - mg_len q + 1 by omega]
      refine my_sub hr1 (by omega) dg.1 (my_fol T1 (by omega) (nm_r (nI_1 i) ?_))
      rw [f]
      exact ih (i + 1) m (by omega) (by omega) (by omega) (by omega)
theorem my_mov {post : Int32 → Prop} {a b c d : Nat → Int32} {p q r : Nat} (hp : mg_path p) (hr : mg_path r) (h1 : q ≤ r) (h2 : r < mg_end q) (k0 : mg_deep p q r = false → post (nI (mg_tgt p q r))) (k1 : mg_deep p q r = true → post (-1)) : wpY_moved post (a, b, c, d) (nI p) (nI r) (nI (mg_len q)) := by
  have hm := mg_lenM h1 h2
  have lp := mg_len_le p
  have i := my_movL (a := a) (b := b) (c := c) (d := d) hp hr h1 h2 k0 k1 (mg_len r - mg_len q) (mg_len q) (mg_len r - mg_len q + 1) (by omega) (Nat.le_refl _) (by omega) (by omega)
  rw [mg_T0 hr h1 h2] at i
  exact ⟨_, i⟩
theorem my_resL {post : SY → Prop} {a b c d : Nat → Int32} (hc : ∀ j, j < 1331 → c j = 0 ∨ c j = 1) (h : post (mg_cp c a 1331, mg_cp d b 1331, c, d)) : ∀ e r n, r + e = 1331 → e < n → wY_restore_2 post n (nI r) (mg_cp c a r) (mg_cp d b r) c d := by
  intro e
  induction e with
  | zero =>
    intro r n hr hn
    obtain ⟨m, rfl⟩ : ∃ m, n = m + 1 := ⟨n - 1, by omega⟩
    rw [Nat.add_zero] at hr
    rw [hr]
    exact br_t (nI_le (Nat.le_refl _) (by omega)) h
  | succ e ih =>
    intro r n hr hn
    obtain ⟨m, rfl⟩ : ∃ m, n = m + 1 := ⟨n - 1, by omega⟩
    have i := ih (r + 1) m (by omega) (by omega)
    have cl : (nI r).toNatClampNeg = r := nI_clamp (by omega)
    have hi : vp_in (nI r) 1331 := vp_in_nI (by omega) (by decide)
    exact br_f (nI_ge (b := 1331) (by omega) (by omega)) ⟨hi, hi, nm_r (e' := mg_cp c a (r + 1)) (by rw [cl, mg_cpS (mg_nb (hc r (by omega)))]) ⟨hi, hi, nm_r (e' := mg_cp d b (r + 1)) (by rw [cl, mg_cpS rfl]) (nm_r (nI_1 r) i)⟩⟩
theorem my_res {post : SY → Prop} {a b c d : Nat → Int32} (hc : ∀ j, j < 1331 → c j = 0 ∨ c j = 1) (h : post (mg_cp c a 1331, mg_cp d b 1331, c, d)) : wpY_restore post (a, b, c, d) := by
  have i := my_resL hc h 1331 0 1332 rfl (by omega)
  rw [mg_cp0, mg_cp0] at i
  exact ⟨1332, i⟩
def mg_yd (a : Nat → Int32) (p q n : Nat) : Int32 := if mg_cnt (mg_fd a p q) n = 0 then 0 else 1
def mg_yp (a : Nat → Int32) (p q n : Nat) : Nat → Int32 := mg_fold (mg_fs a p q) (mg_tgt p q) (fun _ => 1) a n
def mg_yv (a b : Nat → Int32) (p q n : Nat) : Nat → Int32 := mg_fold (mg_fs a p q) (mg_tgt p q) b b n
theorem mg_ydF {a : Nat → Int32} {p q n : Nat} (h : mg_fd a p q n = false) : mg_yd a p q (n + 1) = mg_yd a p q n := by
  unfold mg_yd
  rw [mg_cntF h]
theorem mg_ydT {a : Nat → Int32} {p q n : Nat} (h : mg_fd a p q n = true) : mg_yd a p q (n + 1) = 1 := by
  unfold mg_yd
  rw [mg_cntT h, if_neg (Nat.succ_ne_zero _)]
theorem my_m78 {post : Int32 → SY → Prop} {a b c d : Nat → Int32} {p q : Nat} (hp : mg_path p) (hq : mg_path q) (hb : ∀ j, ¬ a j = 0 → mg_path j) (hc : ∀ j, j < 1331 → c j = a j) (hd : ∀ j, j < 1331 → d j = b j)
    (k0 : mg_V (mg_yp a p q 1331) 0 ≤ 40 → wY_merge_173 post (nI (mg_cnt (mg_fs a p q) 1331)) (mg_yd a p q 1331) 0 (mg_yp a p q 1331) (mg_yv a b p q 1331) c d)
    (k1 : 40 < mg_V (mg_yp a p q 1331) 0 → wY_merge_173 post (nI (mg_cnt (mg_fs a p q) 1331)) (mg_yd a p q 1331) 1 (mg_yp a p q 1331) (mg_yv a b p q 1331) c d) :
    ∀ e r n, r + e = 1331 → e < n → wY_merge_78 post (nI p) (nI q) (nI (mg_len q)) n (nI (mg_cnt (mg_fs a p q) r)) (mg_yd a p q r) (nI r) (mg_yp a p q r) (mg_yv a b p q r) c d := by
  have hv := mg_Vle (mg_yp a p q 1331) 0
  intro e
  induction e with
  | zero =>
    intro r n hr hn
    obtain ⟨m, rfl⟩ : ∃ m, n = m + 1 := ⟨n - 1, by omega⟩
    rw [Nat.add_zero] at hr
    rw [hr]
    exact br_t (nI_le (Nat.le_refl _) (by omega)) (my_count0 (pk_le (mg_V (mg_yp a p q 1331) 0) 40 k0 k1))
  | succ e ih =>
    intro r n hr hn
    obtain ⟨m, rfl⟩ : ∃ m, n = m + 1 := ⟨n - 1, by omega⟩
    have i := ih (r + 1) m (by omega) (by omega)
    have cl : (nI r).toNatClampNeg = r := nI_clamp (by omega)
    have hi : vp_in (nI r) 1331 := vp_in_nI (by omega) (by decide)
    have hcr := hc r (by omega)
    have hdr := hd r (by omega)
    have N : mg_f a q r = false → wY_merge_78 post (nI p) (nI q) (nI (mg_len q)) m (nI (mg_cnt (mg_fs a p q) r)) (mg_yd a p q r) (nI (r + 1)) (mg_yp a p q r) (mg_yv a b p q r) c d := by
      intro f0
      have s0 : mg_fs a p q r = false := by unfold mg_fs; rw [f0]; rfl
      have d0 : mg_fd a p q r = false := by unfold mg_fd; rw [f0]; rfl
      have g1 : mg_yp a p q (r + 1) = mg_yp a p q r := mg_foldF s0
      have g2 : mg_yv a b p q (r + 1) = mg_yv a b p q r := mg_foldF s0
      rw [mg_cntF s0, mg_ydF d0, g1, g2] at i
      exact i
    refine br_f (nI_ge (b := 1331) (by omega) (by omega)) ⟨hi, ?_⟩
    rw [cl, hcr]
    by_cases z : a r = 0
    · exact br_t z (nm_r (nI_1 r) (N (mg_f0 z)))
    · refine br_f z (my_under hq.1 (by omega) (fun g => br_f (by decide) ?_) (fun g => br_t rfl (nm_r (nI_1 r) (N (mg_fN (fun k => by rw [mg_inT.mpr k] at g; cases g))))))
      have g' := mg_inT.mp g
      have fr : mg_f a q r = true := mg_fT.mpr ⟨z, g'⟩
      refine my_mov hp (hb r z) g'.1 g'.2 (fun dd => ?_) (fun dd => ?_)
      · have ht := (mg_tgtP hp (hb r z) g'.1 g'.2 (mg_deepN dd)).1
        have ct : (nI (mg_tgt p q r)).toNatClampNeg = mg_tgt p q r := nI_clamp (by omega)
        have hj : vp_in (nI (mg_tgt p q r)) 1331 := vp_in_nI ht (by decide)
        have s1 : mg_fs a p q r = true := by unfold mg_fs; rw [fr, dd]; rfl
        have d0 : mg_fd a p q r = false := by unfold mg_fd; rw [fr, dd]; rfl
        have g1 : mg_yp a p q (r + 1) = upd (mg_yp a p q r) (mg_tgt p q r) 1 := mg_foldT s1
        have g2 : mg_yv a b p q (r + 1) = upd (mg_yv a b p q r) (mg_tgt p q r) (b r) := mg_foldT s1
        rw [mg_cntT s1, mg_ydF d0] at i
        exact br_t (nI_pos' (by omega)) ⟨hj, nm_r (e' := mg_yp a p q (r + 1)) (by rw [ct, mg_b1, g1]) ⟨hi, hj, nm_r (e' := mg_yv a b p q (r + 1)) (by rw [ct, hdr, g2]) (nm_r (nI_1 _) (nm_r (nI_1 r) i))⟩⟩
      · have s0 : mg_fs a p q r = false := by unfold mg_fs; rw [dd, Bool.not_true, Bool.and_false]
        have d1 : mg_fd a p q r = true := by unfold mg_fd; rw [fr, dd]; rfl
        have g1 : mg_yp a p q (r + 1) = mg_yp a p q r := mg_foldF s0
        have g2 : mg_yv a b p q (r + 1) = mg_yv a b p q r := mg_foldF s0
        rw [mg_cntF s0, mg_ydT d1, g1, g2] at i
        exact br_f (by decide) (nm_r (nI_1 r) i)
theorem my_m33 {post : Int32 → SY → Prop} {a b c d : Nat → Int32} {x1 x2 x3 x4 x5 : Int32} (ha : ∀ j, a j = 0 ∨ a j = 1) (h : ∃ n : Nat, wY_merge_78 post x1 x2 x3 n x4 x5 0 a b (mg_cp a c 1331) (mg_cp b d 1331)) : ∀ e r n, r + e = 1331 → e < n → wY_merge_33 post x1 x2 x3 x4 x5 n (nI r) a b (mg_cp a c r) (mg_cp b d r) := by
  intro e
  induction e with
  | zero =>
    intro r n hr hn
    obtain ⟨m, rfl⟩ : ∃ m, n = m + 1 := ⟨n - 1, by omega⟩
    rw [Nat.add_zero] at hr
    rw [hr]
    exact br_t (nI_le (Nat.le_refl _) (by omega)) h
  | succ e ih =>
    intro r n hr hn
    obtain ⟨m, rfl⟩ : ∃ m, n = m + 1 := ⟨n - 1, by omega⟩
    have i := ih (r + 1) m (by omega) (by omega)
    have cl : (nI r).toNatClampNeg = r := nI_clamp (by omega)
    have hi : vp_in (nI r) 1331 := vp_in_nI (by omega) (by decide)
    exact br_f (nI_ge (b := 1331) (by omega) (by omega)) ⟨hi, hi, nm_r (e' := mg_cp a c (r + 1)) (by rw [cl, mg_cpS (mg_nb (ha r))]) ⟨hi, hi, nm_r (e' := mg_cp b d (r + 1)) (by rw [cl, mg_cpS rfl]) (nm_r (nI_1 r) i)⟩⟩
/-- beyond the arrays nothing is stored: what restore brings back is the old function -/
theorem mg_back {a c : Nat → Int32} {p q : Nat} (hp : mg_path p) (hb : ∀ j, ¬ a j = 0 → mg_path j) (hc : ∀ j, j < 1331 → c j = a j) : mg_cp c (mg_yp a p q 1331) 1331 = a := by
  funext j
  by_cases h : j < 1331
  · rw [mg_cpL h]; exact hc j h
  · rw [mg_cpH (by omega)]
    rcases mg_foldV (f := mg_fs a p q) (t := mg_tgt p q) (x := fun _ => 1) (a := a) j 1331 with g | ⟨r, g1, g2, g3, g4⟩
    · exact g
    · have f := mg_fs_f g2
      have k := mg_fT.mp f.1
      have := (mg_tgtP hp (hb r k.1) k.2.1 k.2.2 (mg_deepN f.2)).1
      omega
theorem mg_fsEq {a : Nat → Int32} {p q : Nat} (h : mg_cnt (mg_fd a p q) 1331 = 0) (j : Nat) (hj : j < 1331) : mg_fs a p q j = mg_f a q j := by
  have d : mg_fd a p q j = false := by
    cases e : mg_fd a p q j with
    | false => rfl
    | true =>
      have := mg_cntPos e 1331 hj
      omega
  unfold mg_fd at d
  unfold mg_fs
  cases e : mg_f a q j with
  | false => rfl
  | true =>
    rw [e, Bool.true_and] at d
    rw [d]
    rfl
theorem my_merge {post : Int32 → SY → Prop} {a b c d : Nat → Int32} {p q : Nat} (hp : mg_path p) (hq : mg_path q) (ha : ∀ j, a j = 0 ∨ a j = 1) (hb : ∀ j, ¬ a j = 0 → mg_path j)
    (kD : 0 < mg_cnt (mg_fd a p q) 1331 → ∀ v c' d' : Nat → Int32, (∀ j, j < 1331 → v j = b j) → post (-4) (a, v, c', d'))
    (kF : mg_cnt (mg_fd a p q) 1331 = 0 → 40 < mg_V (mg_mp a p q 1331) 0 → ∀ v c' d' : Nat → Int32, (∀ j, j < 1331 → v j = b j) → post (-2) (a, v, c', d'))
    (kG : mg_cnt (mg_fd a p q) 1331 = 0 → mg_V (mg_mp a p q 1331) 0 ≤ 40 → ∀ c' d' : Nat → Int32, post (nI (mg_V a q)) (mg_mp a p q 1331, mg_mv a b p q 1331, c', d')) : wpY_merge post (a, b, c, d) (nI p) (nI q) := by
  have hq1 := hq.1
  have hc : ∀ j, j < 1331 → mg_cp a c 1331 j = a j := fun j hj => mg_cpL hj
  have hd : ∀ j, j < 1331 → mg_cp b d 1331 j = b j := fun j hj => mg_cpL hj
  have hc2 : ∀ j, j < 1331 → mg_cp a c 1331 j = 0 ∨ mg_cp a c 1331 j = 1 := fun j hj => by rw [hc j hj]; exact ha j
  have bk := mg_back (p := p) (q := q) hp hb hc
  have R : ∀ x4 x5 x6 : Int32, (∀ v : Nat → Int32, (∀ j, j < 1331 → v j = b j) → wY_merge_189 post x4 x5 x6 a v (mg_cp a c 1331) (mg_cp b d 1331)) → wY_merge_185 post x4 x5 x6 (mg_yp a p q 1331) (mg_yv a b p q 1331) (mg_cp a c 1331) (mg_cp b d 1331) := by
    intro x4 x5 x6 h
    unfold wY_merge_185
    refine my_res hc2 ?_
    rw [bk]
    exact h _ (fun j hj => by rw [mg_cpL hj, hd j hj])
  have M : wY_merge_173 post (nI (mg_cnt (mg_fs a p q) 1331)) (mg_yd a p q 1331) 0 (mg_yp a p q 1331) (mg_yv a b p q 1331) (mg_cp a c 1331) (mg_cp b d 1331) ∨ 40 < mg_V (mg_yp a p q 1331) 0 := by
    by_cases g : 40 < mg_V (mg_yp a p q 1331) 0
    · exact Or.inr g
    · apply Or.inl
      by_cases z : mg_cnt (mg_fd a p q) 1331 = 0
      · have e1 : mg_yp a p q 1331 = mg_mp a p q 1331 := mg_foldC 1331 (mg_fsEq z)
        have e2 : mg_yv a b p q 1331 = mg_mv a b p q 1331 := mg_foldC 1331 (mg_fsEq z)
        have e3 : mg_cnt (mg_fs a p q) 1331 = mg_V a q := mg_cntC 1331 (mg_fsEq z)
        have e4 : mg_yd a p q 1331 = 0 := by unfold mg_yd; rw [if_pos z]
        rw [e1] at g
        rw [e1, e2, e3, e4]
        exact br_t rfl (br_t rfl (br_t rfl (br_t rfl (kG z (by omega) _ _))))
      · have e4 : mg_yd a p q 1331 = 1 := by unfold mg_yd; rw [if_neg z]
        rw [e4]
        exact br_f (by decide) (R _ _ _ (fun v hv => br_f (by decide) (kD (by omega) v _ _ hv)))
  have M1 : 40 < mg_V (mg_yp a p q 1331) 0 → wY_merge_173 post (nI (mg_cnt (mg_fs a p q) 1331)) (mg_yd a p q 1331) 1 (mg_yp a p q 1331) (mg_yv a b p q 1331) (mg_cp a c 1331) (mg_cp b d 1331) := by
    intro g
    by_cases z : mg_cnt (mg_fd a p q) 1331 = 0
    · have e1 : mg_yp a p q 1331 = mg_mp a p q 1331 := mg_foldC 1331 (mg_fsEq z)
      have e4 : mg_yd a p q 1331 = 0 := by unfold mg_yd; rw [if_pos z]
      rw [e4]
      refine br_t rfl (br_f (by decide) (R _ _ _ (fun v hv => br_t rfl (br_f (by decide) (kF z ?_ v _ _ hv)))))
      rw [e1] at g
      exact g
    · have e4 : mg_yd a p q 1331 = 1 := by unfold mg_yd; rw [if_neg z]
      rw [e4]
      exact br_f (by decide) (R _ _ _ (fun v hv => br_f (by decide) (kD (by omega) v _ _ hv)))
  have W := my_m78 (post := post) (b := b) hp hq hb hc hd (fun g => M.elim (fun m => m) (fun k => absurd k (by omega))) M1 1331 0 1332 rfl (by omega)
  have i := my_m33 (post := post) (x1 := nI p) (x2 := nI q) (x3 := nI (mg_len q)) (x4 := 0) (x5 := 0) (c := c) (d := d) ha ⟨1332, W⟩ 1331 0 1332 rfl (by omega)
  rw [mg_cp0, mg_cp0] at i
  unfold wpY_merge
  dsimp only
  exact my_isP1 hp (br_f (by decide) (my_isP1 hq (br_f (by decide) (my_len (by omega) ⟨1332, i⟩))))
end
section
/-! 08: what the relation holds of the arrays: kept by set, kill and merge -/
def mg_ok (pr vx vy : Nat → Int32) : Prop := (∀ j, pr j = 0 ∨ pr j = 1) ∧ (∀ j, ¬ pr j = 0 → mg_path j) ∧ (∀ j, ¬ pr j = 0 → vx j = vy j) ∧ mg_V pr 0 ≤ 40
theorem mg_ok0 : mg_ok (fun _ => 0) (fun _ => 0) (fun _ => 0) := by
  refine ⟨fun _ => Or.inl rfl, fun _ h => absurd rfl h, fun _ _ => rfl, ?_⟩
  have h : mg_V (fun _ => 0) 0 = 0 := mg_cntZ 1331 (fun j _ => mg_f0 rfl)
  omega
theorem mg_okV {pr vx vy vz : Nat → Int32} (h : mg_ok pr vx vy) (e : ∀ j, j < 1331 → vz j = vy j) : mg_ok pr vx vz :=
  ⟨h.1, h.2.1, fun j hj => (h.2.2.1 j hj).trans (e j (h.2.1 j hj).1).symm, h.2.2.2⟩
theorem mg_okS {pr vx vy : Nat → Int32} (h : mg_ok pr vx vy) {p : Nat} (hp : mg_path p) (v : Int32) (hv : pr p = 0 → mg_V pr 0 < 40) : mg_ok (upd pr p 1) (upd vx p v) (upd vy p v) := by
  refine ⟨fun j => ?_, fun j hj => ?_, fun j hj => ?_, ?_⟩
  · by_cases e : j = p
    · rw [e, mg_us]; exact Or.inr rfl
    · rw [mg_un e]; exact h.1 j
  · by_cases e : j = p
    · rw [e]; exact hp
    · rw [mg_un e] at hj; exact h.2.1 j hj
  · by_cases e : j = p
    · rw [e, mg_us, mg_us]
    · rw [mg_un e] at hj
      rw [mg_un e, mg_un e]
      exact h.2.2.1 j hj
  · by_cases z : pr p = 0
    · rw [mg_VUn hp.1 (by decide) z]
      have := hv z
      omega
    · rw [mg_VUo (by decide) z]
      exact h.2.2.2
theorem mg_okK {pr vx vy : Nat → Int32} (h : mg_ok pr vx vy) (p : Nat) : mg_ok (mg_kill pr p 1331) vx vy := by
  have k : ∀ j, mg_kill pr p 1331 j = pr j ∨ mg_kill pr p 1331 j = 0 := by
    intro j
    rcases mg_foldV (f := mg_in p) (t := fun j => j) (x := fun _ => 0) (a := pr) j 1331 with g | ⟨r, g1, g2, g3, g4⟩
    · exact Or.inl g
    · exact Or.inr g4
  have k2 : ∀ j, ¬ mg_kill pr p 1331 j = 0 → ¬ pr j = 0 := by
    intro j hj
    rcases k j with g | g
    · rw [g] at hj; exact hj
    · exact absurd g hj
  refine ⟨fun j => ?_, fun j hj => h.2.1 j (k2 j hj), fun j hj => h.2.2.1 j (k2 j hj), Nat.le_trans (mg_VM 0 k2) h.2.2.2⟩
  rcases k j with g | g
  · rw [g]; exact h.1 j
  · exact Or.inl g
theorem mg_fitD {a : Nat → Int32} {p q : Nat} (hb : ∀ j, ¬ a j = 0 → mg_path j) (h : mg_cnt (mg_fd a p q) 1331 = 0) : mg_fit a p q := by
  intro j hj
  have k := mg_fT.mp hj
  have hpj := hb j k.1
  have e := mg_fsEq h j hpj.1
  exact ⟨hpj, mg_deepN (mg_fs_f (e.trans hj)).2⟩
theorem mg_sizeM {a : Nat → Int32} {p q : Nat} (hp : mg_path p) (hf : mg_fit a p q) : mg_V (mg_mp a p q 1331) 0 = mg_V a 0 + mg_cnt (mg_fn a p q) 1331 := by
  refine mg_foldS (N := 1331) (fun r _ hr => ?_) (fun r s _ _ hr hs e => ?_) 1331 (Nat.le_refl _)
  · have k := mg_fT.mp hr
    exact (mg_tgtP hp (hf r hr).1 k.2.1 k.2.2 (hf r hr).2).1
  · have k := mg_fT.mp hr
    have l := mg_fT.mp hs
    exact mg_tgtI k.2.1 k.2.2 l.2.1 l.2.2 (hf r hr).2 (hf s hs).2 e
theorem mg_okM {pr vx vy : Nat → Int32} (h : mg_ok pr vx vy) {p q : Nat} (hp : mg_path p) (hf : mg_fit pr p q) (hv : mg_V (mg_mp pr p q 1331) 0 ≤ 40) : mg_ok (mg_mp pr p q 1331) (mg_mv pr vx p q 1331) (mg_mv pr vy p q 1331) := by
  have k : ∀ j, mg_mp pr p q 1331 j = pr j ∨ (mg_mp pr p q 1331 j = 1 ∧ mg_path j) := by
    intro j
    rcases mg_foldV (f := mg_f pr q) (t := mg_tgt p q) (x := fun _ => 1) (a := pr) j 1331 with g | ⟨r, g1, g2, g3, g4⟩
    · exact Or.inl g
    · refine Or.inr ⟨g4, ?_⟩
      have l := mg_fT.mp g2
      rw [← g3]
      exact mg_tgtP hp (hf r g2).1 l.2.1 l.2.2 (hf r g2).2
  refine ⟨fun j => ?_, fun j hj => ?_, fun j hj => ?_, hv⟩
  · rcases k j with g | g
    · rw [g]; exact h.1 j
    · exact Or.inr g.1
  · rcases k j with g | g
    · rw [g] at hj; exact h.2.1 j hj
    · exact g.2
  · exact mg_foldE (f := mg_f pr q) (t := mg_tgt p q) h.2.2.1 (fun j hj => (mg_fT.mp hj).1) j 1331 hj
end
section
/-! 09: the relation and what is owed -/
def i_Rel (k : Nat) (u : SX) (v : SY) : Prop := ∃ pr vx pb vb vy oh ov : Nat → Int32, u = (pr, vx, pb, vb) ∧ v = (pr, vy, oh, ov) ∧ mg_ok pr vx vy
theorem mg_rel {k : Nat} {pr vx pb vb vy oh ov : Nat → Int32} (h : mg_ok pr vx vy) : i_Rel k (pr, vx, pb, vb) (pr, vy, oh, ov) := ⟨pr, vx, pb, vb, vy, oh, ov, rfl, rfl, h⟩
theorem i_up {k : Nat} {u : SX} {v : SY} (h : i_Rel k u v) : i_Rel (k + 3) u v := h
theorem i_vc0 : wpX_init (fun u => wpY_init (fun v => i_Rel 0 u v)) := mg_rel (k := 0) mg_ok0
theorem i_vc_set {k : Nat} {u : SX} {v : SY} (I : i_Rel k u v) (hk : k + 3 ≤ 1536) (v1 : Int32) (v2 : Int32) : wpX_set (fun r u' => wpY_set (fun r' v' => r' = r ∧ i_Rel (k + 3) u' v') v v1 v2) u v1 v2 := by
  obtain ⟨pr, vx, pb, vb, vy, oh, ov, rfl, rfl, h⟩ := I
  unfold wpX_set wpY_set
  dsimp only
  rcases mg_isP v1 with ⟨p, hp, rfl⟩ | ⟨nX, nY⟩
  · have hp1 := hp.1
    have h4 := h.2.2.2
    have hi : vp_in (nI p) 1331 := vp_in_nI hp1 (by decide)
    have cl : (nI p).toNatClampNeg = p := nI_clamp (by omega)
    refine mx_isP1 hp (br_f (by decide) ⟨hi, nm_r (e' := pr p) (by rw [cl]) ?_⟩)
    by_cases z : pr p = 0
    · refine br_t z (mx_size (pk_lt (mg_V pr 0) 40 (fun g => mx_set32 hp1 (fun _ => ?_) (fun y => absurd z y)) (fun g => ?_)))
      · refine my_isP1 hp (br_f (by decide) ⟨hi, br_t (by rw [cl]; exact z) (my_count0 (pk_eq (mg_V pr 0) 40 (fun y => absurd y (by omega)) (fun _ => my_set32 hp1 (fun _ => ⟨rfl, mg_rel (mg_okS h hp v2 (fun _ => g))⟩) (fun y => absurd z y))))⟩)
      · exact my_isP1 hp (br_f (by decide) ⟨hi, br_t (by rw [cl]; exact z) (my_count0 (pk_eq (mg_V pr 0) 40 (fun _ => ⟨rfl, mg_rel h⟩) (fun y => absurd (show mg_V pr 0 = 40 by omega) y)))⟩)
    · refine br_f z (mx_set32 hp1 (fun y => absurd y z) (fun _ => ?_))
      exact my_isP1 hp (br_f (by decide) ⟨hi, br_f (by rw [cl]; exact z) (my_set32 hp1 (fun y => absurd y z) (fun _ => ⟨rfl, mg_rel (mg_okS h hp v2 (fun y => absurd y z))⟩))⟩)
  · exact nX _ (br_t rfl (nY _ _ _ _ _ (br_t rfl ⟨rfl, mg_rel h⟩)))
theorem i_vc_kill {k : Nat} {u : SX} {v : SY} (I : i_Rel k u v) (hk : k + 3 ≤ 1536) (v1 : Int32) : wpX_kill (fun r u' => wpY_kill (fun r' v' => r' = r ∧ i_Rel (k + 3) u' v') v v1) u v1 := by
  obtain ⟨pr, vx, pb, vb, vy, oh, ov, rfl, rfl, h⟩ := I
  unfold wpX_kill wpY_kill
  dsimp only
  rcases mg_isP v1 with ⟨p, hp, rfl⟩ | ⟨nX, nY⟩
  · have g1 : mg_kill pr p p = pr := mg_foldLo (fun j hj => mg_inT.mp hj)
    refine mx_isP1 hp (br_f (by decide) (mx_values hp (mx_end hp.1 ⟨mg_end p - p + 1, ?_⟩)))
    have K := mx_kl (a := pr) (b := vx) (c := pb) (d := vb) (p := p) (x := nI (mg_V pr p)) (post := fun r u' => wpY_isPath (fun r_1 => (r_1 = 0 → (-1 : Int32) = r ∧ i_Rel (k + 3) u' (pr, vy, oh, ov)) ∧ (¬ r_1 = 0 → wpY_countUnder (fun r_7 => ∃ n18 : Nat, wY_kill_18 (fun r' v' => r' = r ∧ i_Rel (k + 3) u' v') (nI p) r_7 n18 0 pr vy oh ov) (pr, vy, oh, ov) (nI p))) (pr, vy, oh, ov) (nI p)) hp
      (my_isP1 hp (br_f (by decide) (my_count hp.1 ⟨1332, my_kl (a := pr) (b := vy) (c := oh) (d := ov) (p := p) hp.1 ⟨rfl, mg_rel (mg_okK h p)⟩ 1331 0 1332 rfl (by omega)⟩)))
      (mg_end p - p) p (mg_end p - p + 1) (by have := mg_lt_end p; omega) (Nat.le_refl p) (by omega)
    rw [g1] at K
    exact K
  · exact nX _ (br_t rfl (nY _ _ _ _ _ (br_t rfl ⟨rfl, mg_rel h⟩)))
theorem i_vc_value {k : Nat} {u : SX} {v : SY} (I : i_Rel k u v) (hk : k + 3 ≤ 1536) (v1 : Int32) : wpX_value (fun r => wpY_value (fun r' => r' = r ∧ i_Rel (k + 3) u v) v v1) u v1 := by
  obtain ⟨pr, vx, pb, vb, vy, oh, ov, rfl, rfl, h⟩ := I
  unfold wpX_value wpY_value
  dsimp only
  rcases mg_isP v1 with ⟨p, hp, rfl⟩ | ⟨nX, nY⟩
  · have hp1 := hp.1
    have hi : vp_in (nI p) 1331 := vp_in_nI hp1 (by decide)
    rw [nI_clamp (by omega)]
    by_cases z : pr p = 0
    · exact mx_isP1 hp (br_f (by decide) ⟨hi, br_t z (my_isP1 hp (br_f (by decide) ⟨hi, br_t z ⟨rfl, mg_rel h⟩⟩))⟩)
    · exact mx_isP1 hp (br_f (by decide) ⟨hi, br_f z ⟨hi, my_isP1 hp (br_f (by decide) ⟨hi, br_f z ⟨hi, (h.2.2.1 p z).symm, mg_rel h⟩⟩)⟩⟩)
  · exact nX _ (br_t rfl (nY _ _ _ _ _ (br_t rfl ⟨rfl, mg_rel h⟩)))
theorem i_vc_data {k : Nat} {u : SX} {v : SY} (I : i_Rel k u v) (hk : k + 3 ≤ 1536) (v1 : Int32) : wpX_data (fun r => wpY_data (fun r' => r' = r ∧ i_Rel (k + 3) u v) v v1) u v1 := by
  obtain ⟨pr, vx, pb, vb, vy, oh, ov, rfl, rfl, h⟩ := I
  unfold wpX_data wpY_data
  dsimp only
  rcases mg_isP v1 with ⟨p, hp, rfl⟩ | ⟨nX, nY⟩
  · have hp1 := hp.1
    have hv := mg_Vle pr p
    have hi : vp_in (nI p) 1331 := vp_in_nI hp1 (by decide)
    rw [nI_clamp (by omega)]
    refine mx_isP1 hp (br_f (by decide) ⟨hi, br_c (fun z => ?_) (fun z => ?_)⟩)
    · unfold wX_data_23
      refine mx_values hp (nm_r (e' := nI (mg_V pr p)) (pk_sub (b := 0) (Nat.zero_le _)) (pk_le (mg_V pr p) 0 (fun g => ?_) (fun g => ?_)))
      · exact my_isP1 hp (br_f (by decide) (my_data hp1 (fun _ _ => ⟨rfl, mg_rel h⟩) (fun _ y => absurd y (by omega)) (fun y => absurd z y) (fun y => absurd z y)))
      · exact my_isP1 hp (br_f (by decide) (my_data hp1 (fun _ y => absurd y (by omega)) (fun _ _ => ⟨by decide, mg_rel h⟩) (fun y => absurd z y) (fun y => absurd z y)))
    · have h1 := mg_V1 hp1 z
      unfold wX_data_23
      refine mx_values hp (nm_r (e' := nI (mg_V pr p - 1)) (pk_sub (b := 1) h1) (pk_le (mg_V pr p - 1) 0 (fun g => ?_) (fun g => ?_)))
      · exact my_isP1 hp (br_f (by decide) (my_data hp1 (fun y => absurd y z) (fun y => absurd y z) (fun _ _ => ⟨rfl, mg_rel h⟩) (fun _ y => absurd y (by omega))))
      · exact my_isP1 hp (br_f (by decide) (my_data hp1 (fun y => absurd y z) (fun y => absurd y z) (fun _ y => absurd y (by omega)) (fun _ _ => ⟨by decide, mg_rel h⟩)))
  · exact nX _ (br_t rfl (nY _ _ _ _ _ (br_t rfl ⟨rfl, mg_rel h⟩)))
theorem i_vc_query {k : Nat} {u : SX} {v : SY} (I : i_Rel k u v) (hk : k + 3 ≤ 1536) (v1 : Int32) : wpX_query (fun r => wpY_query (fun r' => r' = r ∧ i_Rel (k + 3) u v) v v1) u v1 := by
  obtain ⟨pr, vx, pb, vb, vy, oh, ov, rfl, rfl, h⟩ := I
  obtain ⟨y, iX, iY⟩ := mg_qry pr vx pb vb vy oh ov v1 1331 0 rfl
  exact ⟨1332, iX _ ⟨1332, iY _ ⟨rfl, mg_rel h⟩⟩⟩
theorem mx_cbf {post : Int32 → Prop} {p : Nat} (hp : mg_path p) (h0 : mg_len p = 3 → post 0) (h1 : mg_len p < 3 → post 1) : wpX_canBeFollowed post (nI p) := by
  have hp1 := hp.1
  have hl := mg_len_le p
  unfold wpX_canBeFollowed
  exact mx_isP1 hp (br_f (by decide) (mx_len (by omega) (pk_le 3 (mg_len p) (fun g => h0 (by omega)) h1)))
theorem i_vc_order {k : Nat} {u : SX} {v : SY} (I : i_Rel k u v) (hk : k + 3 ≤ 1536) (v1 : Int32) (v2 : Int32) : wpX_order (fun r => wpY_order (fun r' => r' = r ∧ i_Rel (k + 3) u v) v v1 v2) u v1 v2 := by
  obtain ⟨pr, vx, pb, vb, vy, oh, ov, rfl, rfl, h⟩ := I
  unfold wpX_order wpY_order
  dsimp only
  rcases mg_isP v1 with ⟨p, hp, rfl⟩ | ⟨nX, nY⟩
  · have hp1 := hp.1
    have hl := mg_len_le p
    refine mx_cbf hp (fun g => br_t rfl ?_) (fun g => br_f (by decide) ?_)
    · exact my_isP1 hp (br_f (by decide) (my_len (by omega) (pk_eq (mg_len p) 3 (fun _ => ⟨rfl, mg_rel h⟩) (fun y => absurd g y))))
    · obtain ⟨y, iX, iY⟩ := mg_ord pr vx pb vb vy oh ov v2 hp g 10 0 rfl
      exact ⟨11, iX _ (my_isP1 hp (br_f (by decide) (my_len (by omega) (pk_eq (mg_len p) 3 (fun z => absurd z (by omega)) (fun _ => ⟨11, iY _ ⟨rfl, mg_rel h⟩⟩)))))⟩
  · unfold wpX_canBeFollowed
    exact nX _ (br_t rfl (br_t rfl (nY _ _ _ _ _ (br_t rfl ⟨rfl, mg_rel h⟩))))
theorem i_vc_orderBack {k : Nat} {u : SX} {v : SY} (I : i_Rel k u v) (hk : k + 3 ≤ 1536) (v1 : Int32) (v2 : Int32) : wpX_orderBack (fun r => wpY_orderBack (fun r' => r' = r ∧ i_Rel (k + 3) u v) v v1 v2) u v1 v2 := by
  obtain ⟨pr, vx, pb, vb, vy, oh, ov, rfl, rfl, h⟩ := I
  unfold wpX_orderBack wpY_orderBack
  dsimp only
  rcases mg_isP v1 with ⟨p, hp, rfl⟩ | ⟨nX, nY⟩
  · have hp1 := hp.1
    have hl := mg_len_le p
    refine mx_cbf hp (fun g => br_t rfl ?_) (fun g => br_f (by decide) ?_)
    · exact my_isP1 hp (br_f (by decide) (my_len (by omega) (pk_eq (mg_len p) 3 (fun _ => ⟨rfl, mg_rel h⟩) (fun y => absurd g y))))
    · obtain ⟨y, iX, iY⟩ := mg_ordB pr vx pb vb vy oh ov v2 hp g 10 (Nat.le_refl _)
      rw [show mg_bk 10 = 9 by decide] at iX iY
      exact ⟨11, iX _ (my_isP1 hp (br_f (by decide) (my_len (by omega) (pk_eq (mg_len p) 3 (fun z => absurd z (by omega)) (fun _ => ⟨11, iY _ ⟨rfl, mg_rel h⟩⟩)))))⟩
  · unfold wpX_canBeFollowed
    exact nX _ (br_t rfl (br_t rfl (nY _ _ _ _ _ (br_t rfl ⟨rfl, mg_rel h⟩))))
theorem i_vc_count {k : Nat} {u : SX} {v : SY} (I : i_Rel k u v) (hk : k + 3 ≤ 1536) (v1 : Int32) : wpX_count (fun r => wpY_count (fun r' => r' = r ∧ i_Rel (k + 3) u v) v v1) u v1 := by
  obtain ⟨pr, vx, pb, vb, vy, oh, ov, rfl, rfl, h⟩ := I
  unfold wpX_count wpY_count
  dsimp only
  rcases mg_isP v1 with ⟨p, hp, rfl⟩ | ⟨nX, nY⟩
  · exact mx_isP1 hp (br_f (by decide) (mx_values hp (my_isP1 hp (br_f (by decide) (my_count hp.1 ⟨rfl, mg_rel h⟩)))))
  · exact nX _ (br_t rfl (nY _ _ _ _ _ (br_t rfl ⟨rfl, mg_rel h⟩)))
theorem i_vc_merge {k : Nat} {u : SX} {v : SY} (I : i_Rel k u v) (hk : k + 3 ≤ 1536) (v1 : Int32) (v2 : Int32) : wpX_merge (fun r u' => wpY_merge (fun r' v' => r' = r ∧ i_Rel (k + 3) u' v') v v1 v2) u v1 v2 := by
  obtain ⟨pr, vx, pb, vb, vy, oh, ov, rfl, rfl, h⟩ := I
  have h4 := h.2.2.2
  rcases mg_isP v1 with ⟨p, hp, rfl⟩ | ⟨nX, nY⟩
  · rcases mg_isP v2 with ⟨q, hq, rfl⟩ | ⟨mX, mY⟩
    · unfold wpX_merge
      dsimp only
      refine mx_isP1 hp (br_f (by decide) (mx_isP1 hq (br_f (by decide) (mx_deep hp hq (fun z => br_t rfl ?_) (fun z => br_f (by decide) ?_)))))
      · have hf := mg_fitD h.2.1 z
        have hs := mg_sizeM hp hf
        have hn := mg_cnt_le (mg_fn pr p q) 1331
        refine mx_size (mx_new hp hq hf (nm_r (nI_add _ _) (pk_le (mg_V pr 0 + mg_cnt (mg_fn pr p q) 1331) 40 (fun g => ?_) (fun g => ?_))))
        · refine mx_values hq (mx_keep h.1 ?_)
          dsimp only
          refine mx_copy hp hq hf (fun j hj => mg_cpL hj) (fun j hj => mg_cpL hj) ?_
          dsimp only
          exact my_merge hp hq h.1 h.2.1 (fun y => absurd y (by omega)) (fun _ y => absurd y (by omega)) (fun _ y _ _ => ⟨rfl, mg_rel (mg_okM h hp hf y)⟩)
        · exact my_merge hp hq h.1 h.2.1 (fun y => absurd y (by omega)) (fun _ _ v' _ _ e => ⟨rfl, mg_rel (mg_okV h e)⟩) (fun _ y => absurd y (by omega))
      · exact my_merge hp hq h.1 h.2.1 (fun _ v' _ _ e => ⟨rfl, mg_rel (mg_okV h e)⟩) (fun y => absurd y (by omega)) (fun y => absurd y (by omega))
    · unfold wpX_merge wpY_merge
      dsimp only
      exact mx_isP1 hp (br_f (by decide) (mX _ (br_t rfl (my_isP1 hp (br_f (by decide) (mY _ _ _ _ _ (br_t rfl ⟨rfl, mg_rel h⟩)))))))
  · unfold wpX_merge wpY_merge
    dsimp only
    exact nX _ (br_t rfl (nY _ _ _ _ _ (br_t rfl ⟨rfl, mg_rel h⟩)))
theorem i_vc_size {k : Nat} {u : SX} {v : SY} (I : i_Rel k u v) (hk : k + 3 ≤ 1536) : wpX_size (fun r => wpY_size (fun r' => r' = r ∧ i_Rel (k + 3) u v) v) u := by
  obtain ⟨pr, vx, pb, vb, vy, oh, ov, rfl, rfl, h⟩ := I
  refine mx_size ?_
  unfold wpY_size
  dsimp only
  exact my_count0 ⟨rfl, mg_rel h⟩
end
