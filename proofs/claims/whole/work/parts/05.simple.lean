/-! 05: stores of set and kill; the walks of query, order, orderBack, data -/
theorem mx_set32 {post : Int32 → SX → Prop} {a b c d : Nat → Int32} {p : Nat} {v x : Int32} (hp : p < 1331) (h1 : x = 0 → post 1 (upd a p 1, upd b p v, c, d)) (h0 : ¬ x = 0 → post 0 (upd a p 1, upd b p v, c, d)) : wX_set_32 post (nI p) v x a b c d := by
  have cl : (nI p).toNatClampNeg = p := nI_clamp (by omega)
  have hi : vp_in (nI p) 1331 := vp_in_nI hp (by decide)
  exact ⟨hi, nm_r (e' := upd a p 1) (by rw [cl, mg_b1]) ⟨hi, nm_r (e' := upd b p v) (by rw [cl]) (br_c h1 h0)⟩⟩
theorem my_set32 {post : Int32 → SY → Prop} {a b c d : Nat → Int32} {p : Nat} {v : Int32} (hp : p < 1331) (h1 : a p = 0 → post 1 (upd a p 1, upd b p v, c, d)) (h0 : ¬ a p = 0 → post 0 (upd a p 1, upd b p v, c, d)) : wY_set_32 post (nI p) v a b c d := by
  have cl : (nI p).toNatClampNeg = p := nI_clamp (by omega)
  have hi : vp_in (nI p) 1331 := vp_in_nI hp (by decide)
  have K : ∀ z : Int32, post z (upd a p 1, upd b p v, c, d) → wY_set_46 post (nI p) v z a b c d := fun z h =>
    ⟨hi, nm_r (e' := upd a p 1) (by rw [cl, mg_b1]) ⟨hi, nm_r (e' := upd b p v) (by rw [cl]) h⟩⟩
  refine ⟨hi, ?_⟩
  rw [cl]
  exact br_c (fun z => K 1 (h1 z)) (fun z => K 0 (h0 z))
/-- stores at the places of f, all of them under q -/
theorem mg_foldLo {f : Nat → Bool} {t : Nat → Nat} {x a : Nat → Int32} {q : Nat} (hf : ∀ j, f j = true → q ≤ j ∧ j < mg_end q) : mg_fold f t x a q = a := by
  apply mg_foldZ
  intro j hj
  cases e : f j with
  | false => rfl
  | true => have := hf j e; omega
theorem mg_foldEn {f : Nat → Bool} {t : Nat → Nat} {x a : Nat → Int32} {q : Nat} (hq : mg_path q) (hf : ∀ j, f j = true → q ≤ j ∧ j < mg_end q) : mg_fold f t x a (mg_end q) = mg_fold f t x a 1331 := by
  have e := mg_end_le hq
  have g := mg_foldHi (f := f) (t := t) (x := x) (a := a) (m := mg_end q) (1331 - mg_end q) (fun j h1 _ => by
    cases e : f j with
    | false => rfl
    | true => have := hf j e; omega)
  rw [show mg_end q + (1331 - mg_end q) = 1331 by omega] at g
  exact g.symm
theorem mg_cntLo {f : Nat → Bool} {q : Nat} (hf : ∀ j, f j = true → q ≤ j ∧ j < mg_end q) : mg_cnt f q = 0 := by
  apply mg_cntZ
  intro j hj
  cases e : f j with
  | false => rfl
  | true => have := hf j e; omega
theorem mg_cntEn {f : Nat → Bool} {q : Nat} (hq : mg_path q) (hf : ∀ j, f j = true → q ≤ j ∧ j < mg_end q) : mg_cnt f (mg_end q) = mg_cnt f 1331 := by
  have e := mg_end_le hq
  have g := mg_cntHi (f := f) (m := mg_end q) (1331 - mg_end q) (fun j h1 _ => by
    cases e : f j with
    | false => rfl
    | true => have := hf j e; omega)
  rw [show mg_end q + (1331 - mg_end q) = 1331 by omega] at g
  exact g.symm
def mg_kill (a : Nat → Int32) (p n : Nat) : Nat → Int32 := mg_fold (mg_in p) (fun j => j) (fun _ => 0) a n
theorem mx_kl {post : Int32 → SX → Prop} {a b c d : Nat → Int32} {p : Nat} {x : Int32} (hp : mg_path p) (h : post x (mg_kill a p 1331, b, c, d)) : ∀ e r n, r + e = mg_end p → p ≤ r → e < n → wX_kill_23 post x (nI (mg_end p)) n (nI r) (mg_kill a p r) b c d := by
  have he := mg_end_le hp
  intro e
  induction e with
  | zero =>
    intro r n hr hpr hn
    obtain ⟨m, rfl⟩ : ∃ m, n = m + 1 := ⟨n - 1, by omega⟩
    rw [Nat.add_zero] at hr
    refine br_t (nI_le (by omega) (by omega)) ?_
    have g : mg_kill a p r = mg_kill a p 1331 := by rw [hr]; exact mg_foldEn hp (fun j hj => mg_inT.mp hj)
    rw [g]
    exact h
  | succ e ih =>
    intro r n hr hpr hn
    obtain ⟨m, rfl⟩ : ∃ m, n = m + 1 := ⟨n - 1, by omega⟩
    have i := ih (r + 1) m (by omega) (by omega) (by omega)
    have cl : (nI r).toNatClampNeg = r := nI_clamp (by omega)
    have g : mg_kill a p (r + 1) = upd (mg_kill a p r) r 0 := mg_foldT (mg_inT.mpr ⟨hpr, by omega⟩)
    exact br_f (nI_ge (by omega) (by omega)) ⟨vp_in_nI (by omega) (by decide), nm_r (e' := mg_kill a p (r + 1)) (by rw [cl, mg_b0, g]) (nm_r (nI_1 r) i)⟩
theorem my_kl {post : Int32 → SY → Prop} {a b c d : Nat → Int32} {p : Nat} {x : Int32} (hp : p < 1331) (h : post x (mg_kill a p 1331, b, c, d)) : ∀ e r n, r + e = 1331 → e < n → wY_kill_18 post (nI p) x n (nI r) (mg_kill a p r) b c d := by
  intro e
  induction e with
  | zero =>
    intro r n hr hn
    obtain ⟨m, rfl⟩ : ∃ m, n = m + 1 := ⟨n - 1, by omega⟩
    rw [Nat.add_zero] at hr
    rw [hr]
    exact br_t (nI_le (Nat.le_refl _) (by omega)) h
  | succ e ih =>
    intro r n hr hn
    obtain ⟨m, rfl⟩ : ∃ m, n = m + 1 := ⟨n - 1, by omega⟩
    have i := ih (r + 1) m (by omega) (by omega)
    have cl : (nI r).toNatClampNeg = r := nI_clamp (by omega)
    refine br_f (nI_ge (b := 1331) (by omega) (by omega)) (my_under hp (by omega) (fun g => br_f (by decide) ?_) (fun g => br_t rfl ?_))
    · have k : mg_kill a p (r + 1) = upd (mg_kill a p r) r 0 := mg_foldT g
      exact ⟨vp_in_nI (by omega) (by decide), nm_r (e' := mg_kill a p (r + 1)) (by rw [cl, mg_b0, k]) (nm_r (nI_1 r) i)⟩
    · have k : mg_kill a p (r + 1) = mg_kill a p r := mg_foldF g
      rw [k] at i
      exact nm_r (nI_1 r) i
theorem mg_qry (a b c d b' c' d' : Nat → Int32) (x : Int32) : ∀ e r : Nat, r + e = 1331 → ∃ y : Int32, (∀ post : Int32 → Prop, post y → wX_query_2 post x a b c d (e + 1) (nI r)) ∧ (∀ post : Int32 → Prop, post y → wY_query_2 post x a b' c' d' (e + 1) (nI r)) := by
  intro e
  induction e with
  | zero =>
    intro r hr
    have h : (1331 : Int32) ≤ nI r := nI_le (a := 1331) (by omega) (by omega)
    exact ⟨-3, fun _ hp => br_t h hp, fun _ hp => br_t h hp⟩
  | succ e ih =>
    intro r hr
    have h : ¬ (1331 : Int32) ≤ nI r := nI_ge (b := 1331) (by omega) (by omega)
    have hi : vp_in (nI r) 1331 := vp_in_nI (by omega) (by decide)
    obtain ⟨y, iX, iY⟩ := ih (r + 1) (by omega)
    by_cases g : nI r ≤ x
    · exact ⟨y, fun post hp => br_f h (br_t g (nm_r (nI_1 r) (iX post hp))), fun post hp => br_f h (br_t g (nm_r (nI_1 r) (iY post hp)))⟩
    · by_cases z : a (nI r).toNatClampNeg = 0
      · exact ⟨y, fun post hp => br_f h (br_f g ⟨hi, br_t z (nm_r (nI_1 r) (iX post hp))⟩), fun post hp => br_f h (br_f g ⟨hi, br_t z (nm_r (nI_1 r) (iY post hp))⟩)⟩
      · exact ⟨nI r, fun post hp => br_f h (br_f g ⟨hi, br_f z hp⟩), fun post hp => br_f h (br_f g ⟨hi, br_f z hp⟩)⟩
theorem mx_hda {post : Int32 → Prop} {a b c d : Nat → Int32} {p t : Nat} (hp : mg_path p) (hl : mg_len p < 3) (ht : t < 10) (h0 : mg_V a (mg_fol p (t + 1)) = 0 → post 0) (h1 : 0 < mg_V a (mg_fol p (t + 1)) → post 1) : wpX_hasDataAfter post (a, b, c, d) (nI p) (nI t) := by
  have hf := mg_folP (d := t + 1) hp hl (by omega) (by omega)
  have hv := mg_Vle a (mg_fol p (t + 1))
  have h3 := hp.1
  unfold wpX_hasDataAfter
  dsimp only
  refine mx_len (by omega) (nm_r (nI_1 _) (mx_wt (by omega) (nm_r (e' := nI (mg_fol p (t + 1))) ?_ (mx_values hf.1 ?_))))
  · rw [nI_1, pk_mul, nI_add]
    rfl
  · exact pk_le (mg_V a (mg_fol p (t + 1))) 0 (fun z => h0 (by omega)) h1
theorem my_fol {post : Int32 → Prop} {a b c d : Nat → Int32} {p t : Nat} (hp : p < 1331) (hl : mg_len p < 3) (h : post (nI (mg_fol p (t + 1)))) : wpY_followed post (a, b, c, d) (nI p) (nI t) := by
  unfold mg_fol at h
  unfold wpY_followed
  dsimp only
  refine my_len (by omega) ?_
  refine pk_eq (mg_len p) 0 (fun z => ?_) (fun z0 => pk_eq (mg_len p) 1 (fun z => ?_) (fun z1 => ?_))
  · rw [nI_1, show (121 : Int32) = nI 121 from rfl, pk_mul, nI_add]
    rw [z] at h
    exact h
  · rw [nI_1, show (11 : Int32) = nI 11 from rfl, pk_mul, nI_add]
    rw [z] at h
    exact h
  · rw [nI_1, show (1 : Int32) = nI 1 from rfl, pk_mul, nI_add]
    rw [show mg_len p = 2 by omega] at h
    exact h
theorem my_data {post : Int32 → Prop} {a b c d : Nat → Int32} {p : Nat} (hp : p < 1331) (h0 : a p = 0 → mg_V a p = 0 → post 0) (h1 : a p = 0 → 0 < mg_V a p → post 10) (h2 : ¬ a p = 0 → mg_V a p ≤ 1 → post 1) (h3 : ¬ a p = 0 → 1 < mg_V a p → post 11) : wpY_dataOf post (a, b, c, d) (nI p) := by
  have hv := mg_Vle a p
  unfold wpY_dataOf
  dsimp only
  refine my_count hp ⟨vp_in_nI hp (by decide), ?_⟩
  rw [nI_clamp (by omega)]
  exact br_c (fun z => pk_le (mg_V a p) 0 (fun y => h0 z (by omega)) (h1 z)) (fun z => pk_le (mg_V a p) 1 (h2 z) (h3 z))
theorem my_dat {post : Int32 → Prop} {a b c d : Nat → Int32} {p : Nat} (hp : p < 1331) (h0 : mg_V a p = 0 → post 0) (h1 : 0 < mg_V a p → ∀ y : Int32, ¬ y = 0 → post y) : wpY_dataOf post (a, b, c, d) (nI p) :=
  my_data hp (fun _ => h0) (fun _ g => h1 g 10 (by decide)) (fun z _ => h1 (mg_V1 hp z) 1 (by decide)) (fun z _ => h1 (mg_V1 hp z) 11 (by decide))
theorem mg_ord (a b c d b' c' d' : Nat → Int32) {p : Nat} (x : Int32) (hp : mg_path p) (hl : mg_len p < 3) : ∀ e r : Nat, r + e = 10 → ∃ y : Int32, (∀ post : Int32 → Prop, post y → wX_order_11 post (nI p) x a b c d (e + 1) (nI r)) ∧ (∀ post : Int32 → Prop, post y → wY_order_21 post (nI p) x a b' c' d' (e + 1) (nI r)) := by
  intro e
  induction e with
  | zero =>
    intro r hr
    have h : (10 : Int32) ≤ nI r := nI_le (a := 10) (by omega) (by omega)
    have h2 : (9 : Int32) < nI r := nI_lt (a := 9) (by omega) (by omega)
    exact ⟨-3, fun _ hp => br_t h hp, fun _ hp => br_t h2 hp⟩
  | succ e ih =>
    intro r hr
    have h : ¬ (10 : Int32) ≤ nI r := nI_ge (b := 10) (by omega) (by omega)
    have h2 : ¬ (9 : Int32) < nI r := nI_nlt (a := 9) (by omega) (by omega)
    have hf := (mg_folP (d := r + 1) hp hl (by omega) (by omega)).1.1
    obtain ⟨y, iX, iY⟩ := ih (r + 1) (by omega)
    by_cases g : nI r ≤ x
    · exact ⟨y, fun post ho => br_f h (br_t g (nm_r (nI_1 r) (iX post ho))), fun post ho => br_f h2 (my_fol hp.1 hl (br_t g (nm_r (nI_1 r) (iY post ho))))⟩
    · by_cases z : mg_V a (mg_fol p (r + 1)) = 0
      · exact ⟨y, fun post ho => br_f h (br_f g (mx_hda hp hl (by omega) (fun _ => br_t rfl (nm_r (nI_1 r) (iX post ho))) (fun q => absurd q (by omega)))),
          fun post ho => br_f h2 (my_fol hp.1 hl (br_f g (my_dat hf (fun _ => br_t rfl (nm_r (nI_1 r) (iY post ho))) (fun q => absurd q (by omega)))))⟩
      · exact ⟨nI r, fun post ho => br_f h (br_f g (mx_hda hp hl (by omega) (fun q => absurd q z) (fun _ => br_f (by decide) ho))),
          fun post ho => br_f h2 (my_fol hp.1 hl (br_f g (my_dat hf (fun q => absurd q z) (fun _ _ q => br_f q ho))))⟩
/-- orderBack's walk behind place r: at place r - 1, which is -1 at the end -/
def mg_bk (r : Nat) : Int32 := nI r + (-1)
theorem mg_bk1 (r : Nat) : mg_bk (r + 1) = nI r := pk_m1 r
theorem mg_ordB (a b c d b' c' d' : Nat → Int32) {p : Nat} (x : Int32) (hp : mg_path p) (hl : mg_len p < 3) : ∀ e : Nat, e ≤ 10 → ∃ y : Int32, (∀ post : Int32 → Prop, post y → wX_orderBack_12 post (nI p) x a b c d (e + 1) (mg_bk e)) ∧ (∀ post : Int32 → Prop, post y → wY_orderBack_22 post (nI p) x a b' c' d' (e + 1) (mg_bk e)) := by
  intro e
  induction e with
  | zero =>
    intro _
    have h : mg_bk 0 < 0 := by decide
    exact ⟨-3, fun _ hp => br_t h hp, fun _ hp => br_t h hp⟩
  | succ r ih =>
    intro hr
    rw [mg_bk1]
    have h : ¬ nI r < 0 := nI_pos (by omega)
    have hf := (mg_folP (d := r + 1) hp hl (by omega) (by omega)).1.1
    obtain ⟨y, iX, iY⟩ := ih (by omega)
    by_cases g : x ≤ nI r
    · exact ⟨y, fun post ho => br_f h (br_t g (nm_e (iX post ho))), fun post ho => br_f h (my_fol hp.1 hl (br_t g (nm_e (iY post ho))))⟩
    · by_cases z : mg_V a (mg_fol p (r + 1)) = 0
      · exact ⟨y, fun post ho => br_f h (br_f g (mx_hda hp hl (by omega) (fun _ => br_t rfl (nm_e (iX post ho))) (fun q => absurd q (by omega)))),
          fun post ho => br_f h (my_fol hp.1 hl (br_f g (my_dat hf (fun _ => br_t rfl (nm_e (iY post ho))) (fun q => absurd q (by omega)))))⟩
      · exact ⟨nI r, fun post ho => br_f h (br_f g (mx_hda hp hl (by omega) (fun q => absurd q z) (fun _ => br_f (by decide) ho))),
          fun post ho => br_f h (my_fol hp.1 hl (br_f g (my_dat hf (fun q => absurd q z) (fun _ _ q => br_f q ho))))⟩
