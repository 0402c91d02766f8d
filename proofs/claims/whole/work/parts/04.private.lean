/-! 04: the small private methods of both sides, over naturals -/
theorem mg_q121 {p : Nat} (h : p < 2 ^ 31) : nI p / 121 = nI (p / 121) := pk_div (d := 121) h (by decide) (by decide)
theorem mg_q11 {p : Nat} (h : p < 2 ^ 31) : nI p / 11 = nI (p / 11) := pk_div (d := 11) h (by decide) (by decide)
theorem mg_r121 {p : Nat} (h : p < 2 ^ 31) : nI p - nI p / 121 * 121 = nI (p % 121) := pk_rem (d := 121) h (by decide) (by decide)
theorem mg_r11 {p : Nat} (h : p < 2 ^ 31) : nI p - nI p / 11 * 11 = nI (p % 11) := pk_rem (d := 11) h (by decide) (by decide)
theorem mg_rq {p : Nat} (h : p < 2 ^ 31) : nI p / 11 - nI p / 11 / 11 * 11 = nI (p / 11 % 11) := by
  rw [mg_q11 h]
  exact mg_r11 (by omega)
theorem mg_b0 : vp_nar .boolean 0 = 0 := by decide
theorem mg_b1 : vp_nar .boolean 1 = 1 := by decide
theorem mg_nb {x : Int32} (h : x = 0 ∨ x = 1) : vp_nar .boolean x = x := by
  rcases h with h | h
  · rw [h]; exact mg_b0
  · rw [h]; exact mg_b1
theorem mx_isPath {post : Int32 → Prop} {p : Nat} (h : p < 1331) (h1 : mg_path p → post 1) (h0 : ¬ mg_path p → post 0) : wpX_isPath post (nI p) := by
  have K : (¬ (p / 121 = 0) ∨ p / 11 % 11 = 0) → wX_isPath_39 post (nI (p / 11 % 11)) (nI (p % 11)) := fun k =>
    pk_eq (p / 11 % 11) 0 (fun b => pk_eq (p % 11) 0 (fun c => h1 (by unfold mg_path; omega)) (fun c => h0 (by unfold mg_path; omega))) (fun b => h1 (by unfold mg_path; omega))
  refine br_f (nI_pos (by omega)) (br_t (nI_lt (b := 1331) h (by decide)) ⟨by decide, nm_r (mg_q121 (by omega)) ⟨by decide, by decide, nm_r (mg_rq (by omega)) ⟨by decide, nm_r (mg_r11 (by omega)) ?_⟩⟩⟩)
  exact pk_eq (p / 121) 0 (fun a => pk_eq (p / 11 % 11) 0 (fun b => K (Or.inr b)) (fun b => h0 (by unfold mg_path; omega))) (fun a => K (Or.inl a))
theorem my_isPath {post : Int32 → Prop} {a b c d : Nat → Int32} {p : Nat} (h : p < 1331) (h1 : mg_path p → post 1) (h0 : ¬ mg_path p → post 0) : wpY_isPath post (a, b, c, d) (nI p) := by
  have K : (¬ (p / 121 = 0) ∨ p / 11 % 11 = 0) → wY_isPath_40 post (nI (p / 11 % 11)) (nI (p % 11)) a b c d := fun k =>
    pk_eq (p % 11) 0 (fun c => h1 (by unfold mg_path; omega)) (fun c => pk_le (p / 11 % 11) 0 (fun b => h0 (by unfold mg_path; omega)) (fun b => h1 (by unfold mg_path; omega)))
  refine br_f (nI_pos (by omega)) (br_t (nI_le (b := 1330) (by omega) (by decide)) ⟨by decide, nm_r (mg_q121 (by omega)) ⟨by decide, by decide, nm_r (mg_rq (by omega)) ⟨by decide, nm_r (mg_r11 (by omega)) ?_⟩⟩⟩)
  exact pk_eq (p / 11 % 11) 0 (fun b => K (Or.inr b)) (fun b => pk_le (p / 121) 0 (fun a => h0 (by unfold mg_path; omega)) (fun a => K (Or.inl (by omega))))
/-- an argument is a path number, or no path number to both sides -/
theorem mg_isP (v : Int32) : (∃ p, mg_path p ∧ v = nI p) ∨ ((∀ post : Int32 → Prop, post 0 → wpX_isPath post v) ∧ (∀ (post : Int32 → Prop) (a b c d : Nat → Int32), post 0 → wpY_isPath post (a, b, c, d) v)) := by
  rcases pk_ix v (n := 1331) (by decide) with h | h | ⟨p, h, rfl⟩
  · exact Or.inr ⟨fun _ hp => br_t h hp, fun _ _ _ _ _ hp => br_t h hp⟩
  · have h0 : ¬ v < 0 := Int32.not_lt.mpr (Int32.le_trans (by decide) h)
    have h1 : ¬ v < 1331 := Int32.not_lt.mpr h
    have h2 : ¬ v ≤ 1330 := fun z => absurd (Int32.le_trans h z) (by decide)
    exact Or.inr ⟨fun _ hp => br_f h0 (br_f h1 hp), fun _ _ _ _ _ hp => br_f h0 (br_f h2 hp)⟩
  · by_cases g : mg_path p
    · exact Or.inl ⟨p, g, rfl⟩
    · exact Or.inr ⟨fun _ hp => mx_isPath h (fun z => absurd z g) (fun _ => hp), fun _ _ _ _ _ hp => my_isPath h (fun z => absurd z g) (fun _ => hp)⟩
theorem mx_isP1 {post : Int32 → Prop} {p : Nat} (hp : mg_path p) (h : post 1) : wpX_isPath post (nI p) := mx_isPath hp.1 (fun _ => h) (fun z => absurd hp z)
theorem my_isP1 {post : Int32 → Prop} {a b c d : Nat → Int32} {p : Nat} (hp : mg_path p) (h : post 1) : wpY_isPath post (a, b, c, d) (nI p) := my_isPath hp.1 (fun _ => h) (fun z => absurd hp z)
theorem mx_len {post : Int32 → Prop} {p : Nat} (h : p < 2 ^ 31) (hp : post (nI (mg_len p))) : wpX_lengthOf post (nI p) := by
  have c : ∀ k, mg_len p = k → post (nI k) := fun k e => e ▸ hp
  exact pk_eq p 0 (fun z => c 0 (mg_len0 z)) (fun z => ⟨by decide, pk_eq (p % 121) 0 (fun y => c 1 (mg_len1 z y)) (fun y => ⟨by decide, pk_eq (p % 11) 0 (fun x => c 2 (mg_len2 y x)) (fun x => c 3 (mg_len3 x)) (hx := mg_r11 h)⟩) (hx := mg_r121 h)⟩)
theorem my_len {post : Int32 → Prop} {a b c d : Nat → Int32} {p : Nat} (h : p < 2 ^ 31) (hp : post (nI (mg_len p))) : wpY_lengthOf post (a, b, c, d) (nI p) := by
  have c : ∀ k, mg_len p = k → post (nI k) := fun k e => e ▸ hp
  exact ⟨by decide, pk_le (p % 11) 0 (fun z => ⟨by decide, by decide, pk_le (p / 11 % 11) 0 (fun y => pk_le p 0 (fun x => c 0 (mg_len0 (by omega))) (fun x => c 1 (mg_len1 (by omega) (by omega)))) (fun y => c 2 (mg_len2 (by omega) (by omega))) (hx := mg_rq h)⟩) (fun z => c 3 (mg_len3 (by omega))) (hx := mg_r11 h)⟩
theorem mx_wt {post : Int32 → Prop} {l : Nat} (h : l ≤ 3) (hp : post (nI (mg_w l))) : wpX_weightAt post (nI l) := by
  have c : l = 0 ∨ l = 1 ∨ l = 2 ∨ l = 3 := by omega
  rcases c with rfl | rfl | rfl | rfl
  · exact br_f (by decide) (br_f (by decide) (br_t (by decide) hp))
  · exact br_f (by decide) (br_f (by decide) (br_f (by decide) (br_t (by decide) hp)))
  · exact br_f (by decide) (br_f (by decide) (br_f (by decide) (br_f (by decide) (br_t (by decide) hp))))
  · exact br_f (by decide) (br_t (by decide) hp)
theorem mx_end {post : Int32 → Prop} {p : Nat} (h : p < 1331) (hp : post (nI (mg_end p))) : wpX_endOf post (nI p) := by
  unfold wpX_endOf
  refine mx_len (by omega) (mx_wt (mg_len_le p) ?_)
  rw [nI_add]
  exact hp
theorem my_under {post : Int32 → Prop} {a b c d : Nat → Int32} {p q : Nat} (hp : p < 1331) (hq : q < 1331) (h1 : mg_in p q = true → post 1) (h0 : mg_in p q = false → post 0) : wpY_under post (a, b, c, d) (nI q) (nI p) := by
  have hl := mg_len_le p
  have t : ∀ {P : Prop}, (P ↔ p ≤ q ∧ q < mg_end p) → P → post 1 := fun e g => h1 (mg_inT.mpr (e.mp g))
  have f : ∀ {P : Prop}, (P ↔ p ≤ q ∧ q < mg_end p) → ¬ P → post 0 := fun e g => h0 (mg_bF mg_inT (fun k => g (e.mpr k)))
  unfold wpY_under
  dsimp only
  refine my_len (by omega) ?_
  exact pk_eq (mg_len p) 0 (fun z => h1 (mg_inT.mpr (mg_u0 z hq))) (fun z0 =>
    pk_eq (mg_len p) 1 (fun z => ⟨by decide, by decide, pk_eq (q / 121) (p / 121) (t (mg_u1 z)) (f (mg_u1 z)) (hx := mg_q121 (by omega)) (hy := mg_q121 (by omega))⟩) (fun z1 =>
    pk_eq (mg_len p) 2 (fun z => ⟨by decide, by decide, pk_eq (q / 11) (p / 11) (t (mg_u2 z)) (f (mg_u2 z)) (hx := mg_q11 (by omega)) (hy := mg_q11 (by omega))⟩) (fun z2 =>
    pk_eq q p (t (mg_u3 (by omega))) (f (mg_u3 (by omega))))))
theorem mx_vu {post : Int32 → Prop} {a b c d : Nat → Int32} {p : Nat} (hp : mg_path p) (h : post (nI (mg_V a p))) : ∀ e r n, r + e = mg_end p → p ≤ r → e < n → wX_valuesUnder_10 post (nI (mg_end p)) a b c d n (nI (mg_cnt (mg_f a p) r)) (nI r) := by
  have he := mg_end_le hp
  intro e
  induction e with
  | zero =>
    intro r n hr hpr hn
    obtain ⟨m, rfl⟩ : ∃ m, n = m + 1 := ⟨n - 1, by omega⟩
    rw [Nat.add_zero] at hr
    rw [hr, mg_Vhi a hp]
    exact br_t (nI_le (Nat.le_refl _) (by omega)) h
  | succ e ih =>
    intro r n hr hpr hn
    obtain ⟨m, rfl⟩ : ∃ m, n = m + 1 := ⟨n - 1, by omega⟩
    have i := ih (r + 1) m (by omega) (by omega) (by omega)
    have cl : (nI r).toNatClampNeg = r := nI_clamp (by omega)
    refine br_f (nI_ge (by omega) (by omega)) ⟨vp_in_nI (by omega) (by decide), ?_⟩
    rw [cl]
    by_cases z : a r = 0
    · rw [mg_cntF (mg_f0 z)] at i
      exact br_t z (nm_r (nI_1 r) i)
    · rw [mg_cntT (mg_fT.mpr ⟨z, hpr, by omega⟩)] at i
      exact br_f z (nm_r (nI_1 _) (nm_r (nI_1 r) i))
theorem mx_values {post : Int32 → Prop} {a b c d : Nat → Int32} {p : Nat} (hp : mg_path p) (h : post (nI (mg_V a p))) : wpX_valuesUnder post (a, b, c, d) (nI p) := by
  have i := mx_vu (b := b) (c := c) (d := d) hp h (mg_end p - p) p (mg_end p - p + 1) (by have := mg_lt_end p; omega) (Nat.le_refl p) (by omega)
  rw [mg_Vlo] at i
  unfold wpX_valuesUnder
  dsimp only
  exact mx_end hp.1 ⟨_, i⟩
theorem mx_size {post : Int32 → Prop} {a b c d : Nat → Int32} (h : post (nI (mg_V a 0))) : wpX_size post (a, b, c, d) := by
  unfold wpX_size
  dsimp only
  exact mx_values (p := 0) mg_path0 h
theorem my_cu {post : Int32 → Prop} {a b c d : Nat → Int32} {p : Nat} (hp : p < 1331) (h : post (nI (mg_V a p))) : ∀ e r n, r + e = 1331 → e < n → wY_countUnder_4 post (nI p) a b c d n (nI (mg_cnt (mg_f a p) r)) (nI r) := by
  intro e
  induction e with
  | zero =>
    intro r n hr hn
    obtain ⟨m, rfl⟩ : ∃ m, n = m + 1 := ⟨n - 1, by omega⟩
    rw [Nat.add_zero] at hr
    rw [hr]
    exact br_t (nI_le (Nat.le_refl _) (by omega)) h
  | succ e ih =>
    intro r n hr hn
    obtain ⟨m, rfl⟩ : ∃ m, n = m + 1 := ⟨n - 1, by omega⟩
    have i := ih (r + 1) m (by omega) (by omega)
    have cl : (nI r).toNatClampNeg = r := nI_clamp (by omega)
    refine br_f (nI_ge (b := 1331) (by omega) (by omega)) ⟨vp_in_nI (by omega) (by decide), ?_⟩
    rw [cl]
    by_cases z : a r = 0
    · rw [mg_cntF (mg_f0 z)] at i
      exact br_t z (nm_r (nI_1 r) i)
    · refine br_f z (my_under hp (by omega) (fun g => br_f (by decide) ?_) (fun g => br_t rfl ?_))
      · rw [mg_cntT (mg_fT.mpr ⟨z, mg_inT.mp g⟩)] at i
        exact nm_r (nI_1 _) (nm_r (nI_1 r) i)
      · rw [mg_cntF (mg_fN (fun k => by rw [mg_inT.mpr k] at g; cases g))] at i
        exact nm_r (nI_1 r) i
theorem my_count {post : Int32 → Prop} {a b c d : Nat → Int32} {p : Nat} (hp : p < 1331) (h : post (nI (mg_V a p))) : wpY_countUnder post (a, b, c, d) (nI p) :=
  ⟨1332, my_cu (b := b) (c := c) (d := d) hp h 1331 0 1332 rfl (by omega)⟩
theorem my_count0 {post : Int32 → Prop} {a b c d : Nat → Int32} (h : post (nI (mg_V a 0))) : wpY_countUnder post (a, b, c, d) 0 := my_count (p := 0) (by decide) h
