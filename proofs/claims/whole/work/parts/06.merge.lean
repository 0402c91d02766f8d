/-! 06: merge: too deep, newcomers, the copies, X's and Y's stores -/
def mg_deep (p q r : Nat) : Bool := decide (3 + mg_len q < mg_len p + mg_len r)
theorem mg_deepT {p q r : Nat} : mg_deep p q r = true ↔ 3 + mg_len q < mg_len p + mg_len r := decide_eq_true_iff
theorem mg_deepF {p q r : Nat} (h : mg_len p + mg_len r ≤ 3 + mg_len q) : mg_deep p q r = false := mg_bF mg_deepT (by omega)
theorem mg_deepN {p q r : Nat} (h : mg_deep p q r = false) : mg_len p + mg_len r ≤ 3 + mg_len q := by
  by_cases g : 3 + mg_len q < mg_len p + mg_len r
  · rw [mg_deepT.mpr g] at h; cases h
  · omega
/-- the values under q that would go too deep, and those that don't -/
def mg_fd (a : Nat → Int32) (p q j : Nat) : Bool := mg_f a q j && mg_deep p q j
def mg_fs (a : Nat → Int32) (p q j : Nat) : Bool := mg_f a q j && !mg_deep p q j
def mg_fn (a : Nat → Int32) (p q j : Nat) : Bool := mg_f a q j && !mg_nz (a (mg_tgt p q j))
theorem mg_fd_f {a : Nat → Int32} {p q j : Nat} (h : mg_fd a p q j = true) : mg_f a q j = true := by
  unfold mg_fd at h
  rw [Bool.and_eq_true] at h
  exact h.1
theorem mg_fs_f {a : Nat → Int32} {p q j : Nat} (h : mg_fs a p q j = true) : mg_f a q j = true ∧ mg_deep p q j = false := by
  unfold mg_fs at h
  rw [Bool.and_eq_true, Bool.not_eq_true'] at h
  exact h
theorem mg_fn_f {a : Nat → Int32} {p q j : Nat} (h : mg_fn a p q j = true) : mg_f a q j = true := by
  unfold mg_fn at h
  rw [Bool.and_eq_true] at h
  exact h.1
theorem mx_deepL {post : Int32 → Prop} {a b c d : Nat → Int32} {p q : Nat} (hq : mg_path q) (h0 : mg_cnt (mg_fd a p q) 1331 = 0 → post 0) (h1 : 0 < mg_cnt (mg_fd a p q) 1331 → post 1) : ∀ e r n, r + e = mg_end q → q ≤ r → e < n → mg_cnt (mg_fd a p q) r = 0 → wX_mergeGoesTooDeep_21 post (nI (3 - mg_len p + mg_len q)) (nI (mg_end q)) a b c d n (nI r) := by
  have he := mg_end_le hq
  have lq := mg_len_le q
  have lp := mg_len_le p
  intro e
  induction e with
  | zero =>
    intro r n hr hpr hn hc
    obtain ⟨m, rfl⟩ : ∃ m, n = m + 1 := ⟨n - 1, by omega⟩
    rw [Nat.add_zero] at hr
    rw [hr, mg_cntEn hq (fun j hj => (mg_fT.mp (mg_fd_f hj)).2)] at hc
    exact br_t (nI_le (by omega) (by omega)) (h0 hc)
  | succ e ih =>
    intro r n hr hpr hn hc
    obtain ⟨m, rfl⟩ : ∃ m, n = m + 1 := ⟨n - 1, by omega⟩
    have cl : (nI r).toNatClampNeg = r := nI_clamp (by omega)
    have lr := mg_len_le r
    refine br_f (nI_ge (by omega) (by omega)) ⟨vp_in_nI (by omega) (by decide), ?_⟩
    rw [cl]
    by_cases z : a r = 0
    · refine br_t z (nm_r (nI_1 r) (ih (r + 1) m (by omega) (by omega) (by omega) ?_))
      rw [mg_cntF, hc]
      unfold mg_fd
      rw [mg_f0 z]
      rfl
    · have hf : mg_f a q r = true := mg_fT.mpr ⟨z, hpr, by omega⟩
      refine br_f z (mx_len (by omega) (pk_le (mg_len r) (3 - mg_len p + mg_len q) (fun g => ?_) (fun g => ?_)))
      · refine nm_r (nI_1 r) (ih (r + 1) m (by omega) (by omega) (by omega) ?_)
        rw [mg_cntF, hc]
        unfold mg_fd
        rw [hf, mg_deepF (by omega)]
        rfl
      · refine h1 (mg_cntPos (k := r) ?_ 1331 (by omega))
        unfold mg_fd
        rw [hf, mg_deepT.mpr (by omega)]
        rfl
theorem mx_deep {post : Int32 → Prop} {a b c d : Nat → Int32} {p q : Nat} (hp : mg_path p) (hq : mg_path q) (h0 : mg_cnt (mg_fd a p q) 1331 = 0 → post 0) (h1 : 0 < mg_cnt (mg_fd a p q) 1331 → post 1) : wpX_mergeGoesTooDeep post (a, b, c, d) (nI p) (nI q) := by
  have hp1 := hp.1
  have hq1 := hq.1
  have i := mx_deepL (b := b) (c := c) (d := d) hq h0 h1 (mg_end q - q) q (mg_end q - q + 1) (by have := mg_lt_end q; omega) (Nat.le_refl q) (by omega) (mg_cntLo (fun j hj => (mg_fT.mp (mg_fd_f hj)).2))
  unfold wpX_mergeGoesTooDeep
  dsimp only
  refine mx_len (by omega) (mx_len (by omega) (nm_r (e' := nI (3 - mg_len p + mg_len q)) ?_ (mx_end hq1 ⟨_, i⟩)))
  rw [show (3 : Int32) = nI 3 from rfl, pk_sub (mg_len_le p), nI_add]
theorem mg_w_le (l : Nat) : mg_w l ≤ 1331 ∧ 0 < mg_w l := by
  unfold mg_w
  by_cases h0 : l = 0
  · rw [if_pos h0]; omega
  · rw [if_neg h0]
    by_cases h1 : l = 1
    · rw [if_pos h1]; omega
    · rw [if_neg h1]
      by_cases h2 : l = 2
      · rw [if_pos h2]; omega
      · rw [if_neg h2]; omega
theorem mx_tgt {post : Int32 → Prop} {p q r : Nat} (hp : p < 1331) (hr : r < 1331) (h1 : q ≤ r) (h : post (nI (mg_tgt p q r))) : wpX_targetOf post (nI r) (nI p) (nI q) := by
  have wp := mg_w_le (mg_len p)
  have wq := mg_w_le (mg_len q)
  have hm : (r - q) * mg_w (mg_len p) ≤ 1331 * 1331 := Nat.mul_le_mul (by omega) wp.1
  unfold wpX_targetOf
  refine mx_len (by omega) (mx_len (by omega) (mx_wt (mg_len_le p) (mx_wt (mg_len_le q) ⟨nI_ne0 wq.2 (by omega), ?_⟩)))
  rw [pk_sub h1, pk_mul, pk_div (by omega) wq.2 (by omega), nI_add]
  exact h
/-- all that a merge wants of the paths that have values: paths all, and none goes too deep -/
def mg_fit (a : Nat → Int32) (p q : Nat) : Prop := ∀ j, mg_f a q j = true → mg_path j ∧ mg_len p + mg_len j ≤ 3 + mg_len q
theorem mx_newL {post : Int32 → Prop} {a b c d : Nat → Int32} {p q : Nat} (hp : mg_path p) (hq : mg_path q) (hf : mg_fit a p q) (h : post (nI (mg_cnt (mg_fn a p q) 1331))) : ∀ e r n, r + e = mg_end q → q ≤ r → e < n → wX_newcomersOfMerge_11 post (nI p) (nI q) (nI (mg_end q)) a b c d n (nI (mg_cnt (mg_fn a p q) r)) (nI r) := by
  have he := mg_end_le hq
  intro e
  induction e with
  | zero =>
    intro r n hr hpr hn
    obtain ⟨m, rfl⟩ : ∃ m, n = m + 1 := ⟨n - 1, by omega⟩
    rw [Nat.add_zero] at hr
    rw [hr, mg_cntEn hq (fun j hj => (mg_fT.mp (mg_fn_f hj)).2)]
    exact br_t (nI_le (Nat.le_refl _) (by omega)) h
  | succ e ih =>
    intro r n hr hpr hn
    obtain ⟨m, rfl⟩ : ∃ m, n = m + 1 := ⟨n - 1, by omega⟩
    have i := ih (r + 1) m (by omega) (by omega) (by omega)
    have cl : (nI r).toNatClampNeg = r := nI_clamp (by omega)
    refine br_f (nI_ge (by omega) (by omega)) ⟨vp_in_nI (by omega) (by decide), ?_⟩
    rw [cl]
    by_cases z : a r = 0
    · have e1 : mg_fn a p q r = false := by
        unfold mg_fn
        rw [mg_f0 z]
        rfl
      rw [mg_cntF e1] at i
      exact br_t z (nm_r (nI_1 r) i)
    · have hfr : mg_f a q r = true := mg_fT.mpr ⟨z, hpr, by omega⟩
      have ht := mg_tgtP hp (hf r hfr).1 hpr (by omega) (hf r hfr).2
      have ht1 := ht.1
      refine br_f z (mx_tgt hp.1 (by omega) hpr ⟨vp_in_nI ht1 (by decide), ?_⟩)
      rw [nI_clamp (by omega)]
      by_cases y : a (mg_tgt p q r) = 0
      · have e1 : mg_fn a p q r = true := by
          unfold mg_fn
          rw [hfr, mg_nzF y]
          rfl
        rw [mg_cntT e1] at i
        exact br_t y (nm_r (nI_1 _) (nm_r (nI_1 r) i))
      · have e1 : mg_fn a p q r = false := by
          unfold mg_fn
          rw [mg_nzT.mpr y, Bool.not_true, Bool.and_false]
        rw [mg_cntF e1] at i
        exact br_f y (nm_r (nI_1 r) i)
theorem mx_new {post : Int32 → Prop} {a b c d : Nat → Int32} {p q : Nat} (hp : mg_path p) (hq : mg_path q) (hf : mg_fit a p q) (h : post (nI (mg_cnt (mg_fn a p q) 1331))) : wpX_newcomersOfMerge post (a, b, c, d) (nI p) (nI q) := by
  have i := mx_newL (b := b) (c := c) (d := d) hp hq hf h (mg_end q - q) q (mg_end q - q + 1) (by have := mg_lt_end q; omega) (Nat.le_refl q) (by omega)
  rw [mg_cntLo (fun j hj => (mg_fT.mp (mg_fn_f hj)).2)] at i
  unfold wpX_newcomersOfMerge
  dsimp only
  exact mx_end hq.1 ⟨_, i⟩
theorem mx_keepL {post : SX → Prop} {a b c d : Nat → Int32} (ha : ∀ j, a j = 0 ∨ a j = 1) (h : post (a, b, mg_cp a c 1331, mg_cp b d 1331)) : ∀ e r n, r + e = 1331 → e < n → wX_keepStateBefore_2 post n (nI r) a b (mg_cp a c r) (mg_cp b d r) := by
  intro e
  induction e with
  | zero =>
    intro r n hr hn
    obtain ⟨m, rfl⟩ : ∃ m, n = m + 1 := ⟨n - 1, by omega⟩
    rw [Nat.add_zero] at hr
    rw [hr]
    exact br_t (nI_le (Nat.le_refl _) (by omega)) h
  | succ e ih =>
    intro r n hr hn
    obtain ⟨m, rfl⟩ : ∃ m, n = m + 1 := ⟨n - 1, by omega⟩
    have i := ih (r + 1) m (by omega) (by omega)
    have cl : (nI r).toNatClampNeg = r := nI_clamp (by omega)
    have hi : vp_in (nI r) 1331 := vp_in_nI (by omega) (by decide)
    exact br_f (nI_ge (b := 1331) (by omega) (by omega)) ⟨hi, hi, nm_r (e' := mg_cp a c (r + 1)) (by rw [cl, mg_cpS (mg_nb (ha r))]) ⟨hi, hi, nm_r (e' := mg_cp b d (r + 1)) (by rw [cl, mg_cpS rfl]) (nm_r (nI_1 r) i)⟩⟩
theorem mx_keep {post : SX → Prop} {a b c d : Nat → Int32} (ha : ∀ j, a j = 0 ∨ a j = 1) (h : post (a, b, mg_cp a c 1331, mg_cp b d 1331)) : wpX_keepStateBefore post (a, b, c, d) := by
  have i := mx_keepL ha h 1331 0 1332 rfl (by omega)
  rw [mg_cp0, mg_cp0] at i
  exact ⟨1332, i⟩
def mg_mp (a : Nat → Int32) (p q n : Nat) : Nat → Int32 := mg_fold (mg_f a q) (mg_tgt p q) (fun _ => 1) a n
def mg_mv (a b : Nat → Int32) (p q n : Nat) : Nat → Int32 := mg_fold (mg_f a q) (mg_tgt p q) b b n
theorem mx_copyL {post : SX → Prop} {a b c d : Nat → Int32} {p q : Nat} (hp : mg_path p) (hq : mg_path q) (hf : mg_fit a p q) (hc : ∀ j, j < 1331 → c j = a j) (hd : ∀ j, j < 1331 → d j = b j) (h : post (mg_mp a p q 1331, mg_mv a b p q 1331, c, d)) : ∀ e r n, r + e = mg_end q → q ≤ r → e < n → wX_copyFromStateBefore_8 post (nI p) (nI q) (nI (mg_end q)) n (nI r) (mg_mp a p q r) (mg_mv a b p q r) c d := by
  have he := mg_end_le hq
  intro e
  induction e with
  | zero =>
    intro r n hr hpr hn
    obtain ⟨m, rfl⟩ : ∃ m, n = m + 1 := ⟨n - 1, by omega⟩
    rw [Nat.add_zero] at hr
    have g1 : mg_mp a p q r = mg_mp a p q 1331 := by rw [hr]; exact mg_foldEn hq (fun j hj => (mg_fT.mp hj).2)
    have g2 : mg_mv a b p q r = mg_mv a b p q 1331 := by rw [hr]; exact mg_foldEn hq (fun j hj => (mg_fT.mp hj).2)
    rw [g1, g2]
    exact br_t (nI_le (by omega) (by omega)) h
  | succ e ih =>
    intro r n hr hpr hn
    obtain ⟨m, rfl⟩ : ∃ m, n = m + 1 := ⟨n - 1, by omega⟩
    have i := ih (r + 1) m (by omega) (by omega) (by omega)
    have cl : (nI r).toNatClampNeg = r := nI_clamp (by omega)
    have hi : vp_in (nI r) 1331 := vp_in_nI (by omega) (by decide)
    have hcr := hc r (by omega)
    have hdr := hd r (by omega)
    refine br_f (nI_ge (by omega) (by omega)) ⟨hi, ?_⟩
    rw [cl, hcr]
    by_cases z : a r = 0
    · have g1 : mg_mp a p q (r + 1) = mg_mp a p q r := mg_foldF (mg_f0 z)
      have g2 : mg_mv a b p q (r + 1) = mg_mv a b p q r := mg_foldF (mg_f0 z)
      rw [g1, g2] at i
      exact br_t z (nm_r (nI_1 r) i)
    · have hfr : mg_f a q r = true := mg_fT.mpr ⟨z, hpr, by omega⟩
      have ht := (mg_tgtP hp (hf r hfr).1 hpr (by omega) (hf r hfr).2).1
      have ct : (nI (mg_tgt p q r)).toNatClampNeg = mg_tgt p q r := nI_clamp (by omega)
      have hj : vp_in (nI (mg_tgt p q r)) 1331 := vp_in_nI ht (by decide)
      have g1 : mg_mp a p q (r + 1) = upd (mg_mp a p q r) (mg_tgt p q r) 1 := mg_foldT hfr
      have g2 : mg_mv a b p q (r + 1) = upd (mg_mv a b p q r) (mg_tgt p q r) (b r) := mg_foldT hfr
      exact br_f z (mx_tgt hp.1 (by omega) hpr ⟨hj, nm_r (e' := mg_mp a p q (r + 1)) (by rw [ct, mg_b1, g1]) ⟨hi, hj, nm_r (e' := mg_mv a b p q (r + 1)) (by rw [ct, hdr, g2]) (nm_r (nI_1 r) i)⟩⟩)
theorem mx_copy {post : SX → Prop} {a b c d : Nat → Int32} {p q : Nat} (hp : mg_path p) (hq : mg_path q) (hf : mg_fit a p q) (hc : ∀ j, j < 1331 → c j = a j) (hd : ∀ j, j < 1331 → d j = b j) (h : post (mg_mp a p q 1331, mg_mv a b p q 1331, c, d)) : wpX_copyFromStateBefore post (a, b, c, d) (nI p) (nI q) := by
  have i := mx_copyL hp hq hf hc hd h (mg_end q - q) q (mg_end q - q + 1) (by have := mg_lt_end q; omega) (Nat.le_refl q) (by omega)
  have g1 : mg_mp a p q q = a := mg_foldLo (fun j hj => (mg_fT.mp hj).2)
  have g2 : mg_mv a b p q q = b := mg_foldLo (fun j hj => (mg_fT.mp hj).2)
  rw [g1, g2] at i
  unfold wpX_copyFromStateBefore
  dsimp only
  exact mx_end hq.1 ⟨_, i⟩
