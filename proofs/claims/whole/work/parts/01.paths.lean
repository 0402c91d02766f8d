/-! 01: path numbers: their lengths, weights, ends; what stands under a path; the path after a path; where a merge takes a path -/
def mg_len (p : Nat) : Nat := if p = 0 then 0 else if p % 121 = 0 then 1 else if p % 11 = 0 then 2 else 3
def mg_w (l : Nat) : Nat := if l = 0 then 1331 else if l = 1 then 121 else if l = 2 then 11 else 1
def mg_end (p : Nat) : Nat := p + mg_w (mg_len p)
def mg_path (p : Nat) : Prop := p < 1331 ∧ (p / 121 ≠ 0 ∨ p / 11 % 11 = 0) ∧ (p / 11 % 11 ≠ 0 ∨ p % 11 = 0)
def mg_dig (r i : Nat) : Nat := if i = 0 then r / 121 else if i = 1 then r / 11 % 11 else r % 11
def mg_pre (r i : Nat) : Nat := r - r % mg_w i
def mg_tgt (p q r : Nat) : Nat := p + (r - q) * mg_w (mg_len p) / mg_w (mg_len q)
def mg_T (p q r i : Nat) : Nat := p + (mg_pre r i - q) * mg_w (mg_len p) / mg_w (mg_len q)
def mg_fol (p d : Nat) : Nat := p + mg_w (mg_len p + 1) * d
theorem mg_w0 : mg_w 0 = 1331 := rfl
theorem mg_w1 : mg_w 1 = 121 := rfl
theorem mg_w2 : mg_w 2 = 11 := rfl
theorem mg_w3 : mg_w 3 = 1 := rfl
theorem mg_d0 (r : Nat) : mg_dig r 0 = r / 121 := rfl
theorem mg_d1 (r : Nat) : mg_dig r 1 = r / 11 % 11 := rfl
theorem mg_d2 (r : Nat) : mg_dig r 2 = r % 11 := rfl
theorem mg_len0 {p : Nat} (h : p = 0) : mg_len p = 0 := by rw [mg_len, if_pos h]
theorem mg_len1 {p : Nat} (h : p ≠ 0) (h1 : p % 121 = 0) : mg_len p = 1 := by rw [mg_len, if_neg h, if_pos h1]
theorem mg_len2 {p : Nat} (h1 : p % 121 ≠ 0) (h2 : p % 11 = 0) : mg_len p = 2 := by
  rw [mg_len, if_neg (show ¬ p = 0 by omega), if_neg h1, if_pos h2]
theorem mg_len3 {p : Nat} (h2 : p % 11 ≠ 0) : mg_len p = 3 := by
  rw [mg_len, if_neg (show ¬ p = 0 by omega), if_neg (show ¬ p % 121 = 0 by omega), if_neg h2]
theorem mg_lenC (p : Nat) : (p = 0 ∧ mg_len p = 0) ∨ (p ≠ 0 ∧ p % 121 = 0 ∧ mg_len p = 1) ∨ (p % 121 ≠ 0 ∧ p % 11 = 0 ∧ mg_len p = 2) ∨ (p % 11 ≠ 0 ∧ mg_len p = 3) := by
  by_cases h0 : p = 0
  · exact Or.inl ⟨h0, mg_len0 h0⟩
  · by_cases h1 : p % 121 = 0
    · exact Or.inr (Or.inl ⟨h0, h1, mg_len1 h0 h1⟩)
    · by_cases h2 : p % 11 = 0
      · exact Or.inr (Or.inr (Or.inl ⟨h1, h2, mg_len2 h1 h2⟩))
      · exact Or.inr (Or.inr (Or.inr ⟨h2, mg_len3 h2⟩))
theorem mg_len_le (p : Nat) : mg_len p ≤ 3 := by
  have h := mg_lenC p
  omega
/-- the length, the weight and the end, case by case -/
theorem mg_endC (p : Nat) : (p = 0 ∧ mg_len p = 0 ∧ mg_w (mg_len p) = 1331 ∧ mg_end p = p + 1331) ∨ (p ≠ 0 ∧ p % 121 = 0 ∧ mg_len p = 1 ∧ mg_w (mg_len p) = 121 ∧ mg_end p = p + 121) ∨ (p % 121 ≠ 0 ∧ p % 11 = 0 ∧ mg_len p = 2 ∧ mg_w (mg_len p) = 11 ∧ mg_end p = p + 11) ∨ (p % 11 ≠ 0 ∧ mg_len p = 3 ∧ mg_w (mg_len p) = 1 ∧ mg_end p = p + 1) := by
  unfold mg_end
  rcases mg_lenC p with ⟨a, e⟩ | ⟨a, b, e⟩ | ⟨a, b, e⟩ | ⟨a, e⟩
  · rw [e, mg_w0]; exact Or.inl ⟨a, rfl, rfl, rfl⟩
  · rw [e, mg_w1]; exact Or.inr (Or.inl ⟨a, b, rfl, rfl, rfl⟩)
  · rw [e, mg_w2]; exact Or.inr (Or.inr (Or.inl ⟨a, b, rfl, rfl, rfl⟩))
  · rw [e, mg_w3]; exact Or.inr (Or.inr (Or.inr ⟨a, rfl, rfl, rfl⟩))
theorem mg_end_le {p : Nat} (h : mg_path p) : mg_end p ≤ 1331 := by
  unfold mg_path at h
  have := mg_endC p
  omega
theorem mg_lt_end (p : Nat) : p < mg_end p := by
  have := mg_endC p
  omega
theorem mg_path0 : mg_path 0 := by unfold mg_path; omega
theorem mg_end0 : mg_end 0 = 1331 := rfl
theorem mg_u0 {p q : Nat} (h : mg_len p = 0) (hq : q < 1331) : p ≤ q ∧ q < mg_end p := by
  have := mg_endC p
  omega
theorem mg_u1 {p q : Nat} (h : mg_len p = 1) : q / 121 = p / 121 ↔ p ≤ q ∧ q < mg_end p := by
  have := mg_endC p
  omega
theorem mg_u2 {p q : Nat} (h : mg_len p = 2) : q / 11 = p / 11 ↔ p ≤ q ∧ q < mg_end p := by
  have := mg_endC p
  omega
theorem mg_u3 {p q : Nat} (h : mg_len p = 3) : q = p ↔ p ≤ q ∧ q < mg_end p := by
  have := mg_endC p
  omega
theorem mg_folP {p d : Nat} (h : mg_path p) (hl : mg_len p < 3) (h1 : 1 ≤ d) (hd : d ≤ 10) : mg_path (mg_fol p d) ∧ mg_len (mg_fol p d) = mg_len p + 1 := by
  unfold mg_fol
  unfold mg_path at *
  rcases mg_lenC p with ⟨a, e⟩ | ⟨a, b, e⟩ | ⟨a, b, e⟩ | ⟨a, e⟩
  · rw [e, mg_w1]
    exact ⟨by omega, mg_len1 (by omega) (by omega)⟩
  · rw [e, mg_w2]
    exact ⟨by omega, mg_len2 (by omega) (by omega)⟩
  · rw [e, mg_w3]
    exact ⟨by omega, mg_len3 (by omega)⟩
  · omega
theorem mg_preQ {q r : Nat} (h : mg_path r) (h1 : q ≤ r) (h2 : r < mg_end q) : mg_pre r (mg_len q) = q := by
  unfold mg_path at h
  unfold mg_pre
  rcases mg_endC q with ⟨a, e, f, g⟩ | ⟨a, b, e, f, g⟩ | ⟨a, b, e, f, g⟩ | ⟨a, e, f, g⟩ <;> rw [f] <;> omega
theorem mg_preR {r : Nat} (h : mg_path r) : mg_pre r (mg_len r) = r := by
  unfold mg_path at h
  unfold mg_pre
  rcases mg_endC r with ⟨a, e, f, g⟩ | ⟨a, b, e, f, g⟩ | ⟨a, b, e, f, g⟩ | ⟨a, e, f, g⟩ <;> rw [f] <;> omega
theorem mg_lenM {q r : Nat} (h1 : q ≤ r) (h2 : r < mg_end q) : mg_len q ≤ mg_len r := by
  have := mg_endC q
  have := mg_lenC r
  omega
theorem mg_digB {r i : Nat} (h : mg_path r) (hi : i < mg_len r) : 1 ≤ mg_dig r i ∧ mg_dig r i ≤ 10 := by
  unfold mg_path at h
  have hl := mg_lenC r
  have h3 := mg_len_le r
  match i, hi with
  | 0, hi => rw [mg_d0]; omega
  | 1, hi => rw [mg_d1]; omega
  | 2, hi => rw [mg_d2]; omega
  | i + 3, hi => omega
