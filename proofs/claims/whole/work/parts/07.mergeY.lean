/-! 07: merge, Y's side: moved, the stores, restore -/
theorem my_sub {post : Int32 → Prop} {a b c d : Nat → Int32} {r i : Nat} (hr : r < 1331) (hi : i < 3) (h1 : 1 ≤ mg_dig r i) (h : post (nI (mg_dig r i - 1))) : wpY_subscript post (a, b, c, d) (nI r) (nI i) := by
  have e : post (nI (mg_dig r i) - 1) := by
    rw [show (1 : Int32) = nI 1 from rfl, pk_sub h1]
    exact h
  have c : i = 0 ∨ i = 1 ∨ i = 2 := by omega
  rcases c with rfl | rfl | rfl
  · refine br_t rfl ⟨by decide, ?_⟩
    rw [mg_q121 (by omega)]
    exact e
  · refine br_f (by decide) (br_t rfl ⟨by decide, by decide, ?_⟩)
    rw [mg_rq (by omega)]
    exact e
  · refine br_f (by decide) (br_f (by decide) ⟨by decide, ?_⟩)
    rw [mg_r11 (by omega)]
    exact e
theorem my_movL {post : Int32 → Prop} {a b c d : Nat → Int32} {p q r : Nat} (hp : mg_path p) (hr : mg_path r) (h1 : q ≤ r) (h2 : r < mg_end q) (k0 : mg_deep p q r = false → post (nI (mg_tgt p q r))) (k1 : mg_deep p q r = true → post (-1)) : ∀ e i n, i + e = mg_len r → mg_len q ≤ i → mg_len p + i ≤ 3 + mg_len q → e < n → wY_moved_6 post (nI r) a b c d n (nI (mg_T p q r i)) (nI i) := by
  have l3 := mg_len_le r
  have hr1 := hr.1
  intro e
  induction e with
  | zero =>
    intro i n hi hq hd hn
    obtain ⟨m, rfl⟩ : ∃ m, n = m + 1 := ⟨n - 1, by omega⟩
    rw [wY_moved_6]
    refine my_len (p := r) (by omega) (pk_le (mg_len r) i (fun _ => ?_) (fun g => absurd g (by omega)))
    rw [show i = mg_len r by omega, mg_Te hr]
    exact k0 (mg_deepF (by omega))
  | succ e ih =>
    intro i n hi hq hd hn
    obtain ⟨m, rfl⟩ : ∃ m, n = m + 1 := ⟨n - 1, by omega⟩
    have T := mg_TP hp hr h1 h2 (i - mg_len q) (by omega) (by omega)
    rw [show mg_len q + (i - mg_len q) = i by omega] at T
    have T1 := T.1.1
    have T2 := T.2
    have dg := mg_digB (i := i) hr (by omega)
    rw [wY_moved_6]
    refine my_len (p := r) (by omega) (pk_le (mg_len r) i (fun g => absurd g (by omega)) (fun _ => my_len (p := mg_T p q r i) (by omega) (pk_eq (mg_len (mg_T p q r i)) 3 (fun g => ?_) (fun g => ?_))))
    · exact k1 (mg_deepT.mpr (by omega))
    · have s := mg_Tstep (p := p) hr h1 h2 hq (by omega) (by omega)
      have f : mg_fol (mg_T p q r i) (mg_dig r i - 1 + 1) = mg_T p q r (i + 1) := by
        unfold mg_fol
        rw [← s, T2, show mg_dig r i - 1 + 1 = mg_dig r i by omega, show mg_len p + (i - mg_len q) + 1 = mg_len p + i - mg_len q + 1 by omega]
      refine my_sub hr1 (by omega) dg.1 (my_fol T1 (by omega) (nm_r (nI_1 i) ?_))
      rw [f]
      exact ih (i + 1) m (by omega) (by omega) (by omega) (by omega)
theorem my_mov {post : Int32 → Prop} {a b c d : Nat → Int32} {p q r : Nat} (hp : mg_path p) (hr : mg_path r) (h1 : q ≤ r) (h2 : r < mg_end q) (k0 : mg_deep p q r = false → post (nI (mg_tgt p q r))) (k1 : mg_deep p q r = true → post (-1)) : wpY_moved post (a, b, c, d) (nI p) (nI r) (nI (mg_len q)) := by
  have hm := mg_lenM h1 h2
  have lp := mg_len_le p
  have i := my_movL (a := a) (b := b) (c := c) (d := d) hp hr h1 h2 k0 k1 (mg_len r - mg_len q) (mg_len q) (mg_len r - mg_len q + 1) (by omega) (Nat.le_refl _) (by omega) (by omega)
  rw [mg_T0 hr h1 h2] at i
  exact ⟨_, i⟩
theorem my_resL {post : SY → Prop} {a b c d : Nat → Int32} (hc : ∀ j, j < 1331 → c j = 0 ∨ c j = 1) (h : post (mg_cp c a 1331, mg_cp d b 1331, c, d)) : ∀ e r n, r + e = 1331 → e < n → wY_restore_2 post n (nI r) (mg_cp c a r) (mg_cp d b r) c d := by
  intro e
  induction e with
  | zero =>
    intro r n hr hn
    obtain ⟨m, rfl⟩ : ∃ m, n = m + 1 := ⟨n - 1, by omega⟩
    rw [Nat.add_zero] at hr
    rw [hr]
    exact br_t (nI_le (Nat.le_refl _) (by omega)) h
  | succ e ih =>
    intro r n hr hn
    obtain ⟨m, rfl⟩ : ∃ m, n = m + 1 := ⟨n - 1, by omega⟩
    have i := ih (r + 1) m (by omega) (by omega)
    have cl : (nI r).toNatClampNeg = r := nI_clamp (by omega)
    have hi : vp_in (nI r) 1331 := vp_in_nI (by omega) (by decide)
    exact br_f (nI_ge (b := 1331) (by omega) (by omega)) ⟨hi, hi, nm_r (e' := mg_cp c a (r + 1)) (by rw [cl, mg_cpS (mg_nb (hc r (by omega)))]) ⟨hi, hi, nm_r (e' := mg_cp d b (r + 1)) (by rw [cl, mg_cpS rfl]) (nm_r (nI_1 r) i)⟩⟩
theorem my_res {post : SY → Prop} {a b c d : Nat → Int32} (hc : ∀ j, j < 1331 → c j = 0 ∨ c j = 1) (h : post (mg_cp c a 1331, mg_cp d b 1331, c, d)) : wpY_restore post (a, b, c, d) := by
  have i := my_resL hc h 1331 0 1332 rfl (by omega)
  rw [mg_cp0, mg_cp0] at i
  exact ⟨1332, i⟩
def mg_yd (a : Nat → Int32) (p q n : Nat) : Int32 := if mg_cnt (mg_fd a p q) n = 0 then 0 else 1
def mg_yp (a : Nat → Int32) (p q n : Nat) : Nat → Int32 := mg_fold (mg_fs a p q) (mg_tgt p q) (fun _ => 1) a n
def mg_yv (a b : Nat → Int32) (p q n : Nat) : Nat → Int32 := mg_fold (mg_fs a p q) (mg_tgt p q) b b n
theorem mg_ydF {a : Nat → Int32} {p q n : Nat} (h : mg_fd a p q n = false) : mg_yd a p q (n + 1) = mg_yd a p q n := by
  unfold mg_yd
  rw [mg_cntF h]
theorem mg_ydT {a : Nat → Int32} {p q n : Nat} (h : mg_fd a p q n = true) : mg_yd a p q (n + 1) = 1 := by
  unfold mg_yd
  rw [mg_cntT h, if_neg (Nat.succ_ne_zero _)]
theorem my_m78 {post : Int32 → SY → Prop} {a b c d : Nat → Int32} {p q : Nat} (hp : mg_path p) (hq : mg_path q) (hb : ∀ j, ¬ a j = 0 → mg_path j) (hc : ∀ j, j < 1331 → c j = a j) (hd : ∀ j, j < 1331 → d j = b j)
    (k0 : mg_V (mg_yp a p q 1331) 0 ≤ 40 → wY_merge_173 post (nI (mg_cnt (mg_fs a p q) 1331)) (mg_yd a p q 1331) 0 (mg_yp a p q 1331) (mg_yv a b p q 1331) c d)
    (k1 : 40 < mg_V (mg_yp a p q 1331) 0 → wY_merge_173 post (nI (mg_cnt (mg_fs a p q) 1331)) (mg_yd a p q 1331) 1 (mg_yp a p q 1331) (mg_yv a b p q 1331) c d) :
    ∀ e r n, r + e = 1331 → e < n → wY_merge_78 post (nI p) (nI q) (nI (mg_len q)) n (nI (mg_cnt (mg_fs a p q) r)) (mg_yd a p q r) (nI r) (mg_yp a p q r) (mg_yv a b p q r) c d := by
  have hv := mg_Vle (mg_yp a p q 1331) 0
  intro e
  induction e with
  | zero =>
    intro r n hr hn
    obtain ⟨m, rfl⟩ : ∃ m, n = m + 1 := ⟨n - 1, by omega⟩
    rw [Nat.add_zero] at hr
    rw [hr]
    exact br_t (nI_le (Nat.le_refl _) (by omega)) (my_count0 (pk_le (mg_V (mg_yp a p q 1331) 0) 40 k0 k1))
  | succ e ih =>
    intro r n hr hn
    obtain ⟨m, rfl⟩ : ∃ m, n = m + 1 := ⟨n - 1, by omega⟩
    have i := ih (r + 1) m (by omega) (by omega)
    have cl : (nI r).toNatClampNeg = r := nI_clamp (by omega)
    have hi : vp_in (nI r) 1331 := vp_in_nI (by omega) (by decide)
    have hcr := hc r (by omega)
    have hdr := hd r (by omega)
    have N : mg_f a q r = false → wY_merge_78 post (nI p) (nI q) (nI (mg_len q)) m (nI (mg_cnt (mg_fs a p q) r)) (mg_yd a p q r) (nI (r + 1)) (mg_yp a p q r) (mg_yv a b p q r) c d := by
      intro f0
      have s0 : mg_fs a p q r = false := by unfold mg_fs; rw [f0]; rfl
      have d0 : mg_fd a p q r = false := by unfold mg_fd; rw [f0]; rfl
      have g1 : mg_yp a p q (r + 1) = mg_yp a p q r := mg_foldF s0
      have g2 : mg_yv a b p q (r + 1) = mg_yv a b p q r := mg_foldF s0
      rw [mg_cntF s0, mg_ydF d0, g1, g2] at i
      exact i
    refine br_f (nI_ge (b := 1331) (by omega) (by omega)) ⟨hi, ?_⟩
    rw [cl, hcr]
    by_cases z : a r = 0
    · exact br_t z (nm_r (nI_1 r) (N (mg_f0 z)))
    · refine br_f z (my_under hq.1 (by omega) (fun g => br_f (by decide) ?_) (fun g => br_t rfl (nm_r (nI_1 r) (N (mg_fN (fun k => by rw [mg_inT.mpr k] at g; cases g))))))
      have g' := mg_inT.mp g
      have fr : mg_f a q r = true := mg_fT.mpr ⟨z, g'⟩
      refine my_mov hp (hb r z) g'.1 g'.2 (fun dd => ?_) (fun dd => ?_)
      · have ht := (mg_tgtP hp (hb r z) g'.1 g'.2 (mg_deepN dd)).1
        have ct : (nI (mg_tgt p q r)).toNatClampNeg = mg_tgt p q r := nI_clamp (by omega)
        have hj : vp_in (nI (mg_tgt p q r)) 1331 := vp_in_nI ht (by decide)
        have s1 : mg_fs a p q r = true := by unfold mg_fs; rw [fr, dd]; rfl
        have d0 : mg_fd a p q r = false := by unfold mg_fd; rw [fr, dd]; rfl
        have g1 : mg_yp a p q (r + 1) = upd (mg_yp a p q r) (mg_tgt p q r) 1 := mg_foldT s1
        have g2 : mg_yv a b p q (r + 1) = upd (mg_yv a b p q r) (mg_tgt p q r) (b r) := mg_foldT s1
        rw [mg_cntT s1, mg_ydF d0] at i
        exact br_t (nI_pos' (by omega)) ⟨hj, nm_r (e' := mg_yp a p q (r + 1)) (by rw [ct, mg_b1, g1]) ⟨hi, hj, nm_r (e' := mg_yv a b p q (r + 1)) (by rw [ct, hdr, g2]) (nm_r (nI_1 _) (nm_r (nI_1 r) i))⟩⟩
      · have s0 : mg_fs a p q r = false := by unfold mg_fs; rw [dd, Bool.not_true, Bool.and_false]
        have d1 : mg_fd a p q r = true := by unfold mg_fd; rw [fr, dd]; rfl
        have g1 : mg_yp a p q (r + 1) = mg_yp a p q r := mg_foldF s0
        have g2 : mg_yv a b p q (r + 1) = mg_yv a b p q r := mg_foldF s0
        rw [mg_cntF s0, mg_ydT d1, g1, g2] at i
        exact br_f (by decide) (nm_r (nI_1 r) i)
theorem my_m33 {post : Int32 → SY → Prop} {a b c d : Nat → Int32} {x1 x2 x3 x4 x5 : Int32} (ha : ∀ j, a j = 0 ∨ a j = 1) (h : ∃ n : Nat, wY_merge_78 post x1 x2 x3 n x4 x5 0 a b (mg_cp a c 1331) (mg_cp b d 1331)) : ∀ e r n, r + e = 1331 → e < n → wY_merge_33 post x1 x2 x3 x4 x5 n (nI r) a b (mg_cp a c r) (mg_cp b d r) := by
  intro e
  induction e with
  | zero =>
    intro r n hr hn
    obtain ⟨m, rfl⟩ : ∃ m, n = m + 1 := ⟨n - 1, by omega⟩
    rw [Nat.add_zero] at hr
    rw [hr]
    exact br_t (nI_le (Nat.le_refl _) (by omega)) h
  | succ e ih =>
    intro r n hr hn
    obtain ⟨m, rfl⟩ : ∃ m, n = m + 1 := ⟨n - 1, by omega⟩
    have i := ih (r + 1) m (by omega) (by omega)
    have cl : (nI r).toNatClampNeg = r := nI_clamp (by omega)
    have hi : vp_in (nI r) 1331 := vp_in_nI (by omega) (by decide)
    exact br_f (nI_ge (b := 1331) (by omega) (by omega)) ⟨hi, hi, nm_r (e' := mg_cp a c (r + 1)) (by rw [cl, mg_cpS (mg_nb (ha r))]) ⟨hi, hi, nm_r (e' := mg_cp b d (r + 1)) (by rw [cl, mg_cpS rfl]) (nm_r (nI_1 r) i)⟩⟩
/-- beyond the arrays nothing is stored: what restore brings back is the old function -/
theorem mg_back {a c : Nat → Int32} {p q : Nat} (hp : mg_path p) (hb : ∀ j, ¬ a j = 0 → mg_path j) (hc : ∀ j, j < 1331 → c j = a j) : mg_cp c (mg_yp a p q 1331) 1331 = a := by
  funext j
  by_cases h : j < 1331
  · rw [mg_cpL h]; exact hc j h
  · rw [mg_cpH (by omega)]
    rcases mg_foldV (f := mg_fs a p q) (t := mg_tgt p q) (x := fun _ => 1) (a := a) j 1331 with g | ⟨r, g1, g2, g3, g4⟩
    · exact g
    · have f := mg_fs_f g2
      have k := mg_fT.mp f.1
      have := (mg_tgtP hp (hb r k.1) k.2.1 k.2.2 (mg_deepN f.2)).1
      omega
theorem mg_fsEq {a : Nat → Int32} {p q : Nat} (h : mg_cnt (mg_fd a p q) 1331 = 0) (j : Nat) (hj : j < 1331) : mg_fs a p q j = mg_f a q j := by
  have d : mg_fd a p q j = false := by
    cases e : mg_fd a p q j with
    | false => rfl
    | true =>
      have := mg_cntPos e 1331 hj
      omega
  unfold mg_fd at d
  unfold mg_fs
  cases e : mg_f a q j with
  | false => rfl
  | true =>
    rw [e, Bool.true_and] at d
    rw [d]
    rfl
theorem my_merge {post : Int32 → SY → Prop} {a b c d : Nat → Int32} {p q : Nat} (hp : mg_path p) (hq : mg_path q) (ha : ∀ j, a j = 0 ∨ a j = 1) (hb : ∀ j, ¬ a j = 0 → mg_path j)
    (kD : 0 < mg_cnt (mg_fd a p q) 1331 → ∀ v c' d' : Nat → Int32, (∀ j, j < 1331 → v j = b j) → post (-4) (a, v, c', d'))
    (kF : mg_cnt (mg_fd a p q) 1331 = 0 → 40 < mg_V (mg_mp a p q 1331) 0 → ∀ v c' d' : Nat → Int32, (∀ j, j < 1331 → v j = b j) → post (-2) (a, v, c', d'))
    (kG : mg_cnt (mg_fd a p q) 1331 = 0 → mg_V (mg_mp a p q 1331) 0 ≤ 40 → ∀ c' d' : Nat → Int32, post (nI (mg_V a q)) (mg_mp a p q 1331, mg_mv a b p q 1331, c', d')) : wpY_merge post (a, b, c, d) (nI p) (nI q) := by
  have hq1 := hq.1
  have hc : ∀ j, j < 1331 → mg_cp a c 1331 j = a j := fun j hj => mg_cpL hj
  have hd : ∀ j, j < 1331 → mg_cp b d 1331 j = b j := fun j hj => mg_cpL hj
  have hc2 : ∀ j, j < 1331 → mg_cp a c 1331 j = 0 ∨ mg_cp a c 1331 j = 1 := fun j hj => by rw [hc j hj]; exact ha j
  have bk := mg_back (p := p) (q := q) hp hb hc
  have R : ∀ x4 x5 x6 : Int32, (∀ v : Nat → Int32, (∀ j, j < 1331 → v j = b j) → wY_merge_189 post x4 x5 x6 a v (mg_cp a c 1331) (mg_cp b d 1331)) → wY_merge_185 post x4 x5 x6 (mg_yp a p q 1331) (mg_yv a b p q 1331) (mg_cp a c 1331) (mg_cp b d 1331) := by
    intro x4 x5 x6 h
    unfold wY_merge_185
    refine my_res hc2 ?_
    rw [bk]
    exact h _ (fun j hj => by rw [mg_cpL hj, hd j hj])
  have M : wY_merge_173 post (nI (mg_cnt (mg_fs a p q) 1331)) (mg_yd a p q 1331) 0 (mg_yp a p q 1331) (mg_yv a b p q 1331) (mg_cp a c 1331) (mg_cp b d 1331) ∨ 40 < mg_V (mg_yp a p q 1331) 0 := by
    by_cases g : 40 < mg_V (mg_yp a p q 1331) 0
    · exact Or.inr g
    · apply Or.inl
      by_cases z : mg_cnt (mg_fd a p q) 1331 = 0
      · have e1 : mg_yp a p q 1331 = mg_mp a p q 1331 := mg_foldC 1331 (mg_fsEq z)
        have e2 : mg_yv a b p q 1331 = mg_mv a b p q 1331 := mg_foldC 1331 (mg_fsEq z)
        have e3 : mg_cnt (mg_fs a p q) 1331 = mg_V a q := mg_cntC 1331 (mg_fsEq z)
        have e4 : mg_yd a p q 1331 = 0 := by unfold mg_yd; rw [if_pos z]
        rw [e1] at g
        rw [e1, e2, e3, e4]
        exact br_t rfl (br_t rfl (br_t rfl (br_t rfl (kG z (by omega) _ _))))
      · have e4 : mg_yd a p q 1331 = 1 := by unfold mg_yd; rw [if_neg z]
        rw [e4]
        exact br_f (by decide) (R _ _ _ (fun v hv => br_f (by decide) (kD (by omega) v _ _ hv)))
  have M1 : 40 < mg_V (mg_yp a p q 1331) 0 → wY_merge_173 post (nI (mg_cnt (mg_fs a p q) 1331)) (mg_yd a p q 1331) 1 (mg_yp a p q 1331) (mg_yv a b p q 1331) (mg_cp a c 1331) (mg_cp b d 1331) := by
    intro g
    by_cases z : mg_cnt (mg_fd a p q) 1331 = 0
    · have e1 : mg_yp a p q 1331 = mg_mp a p q 1331 := mg_foldC 1331 (mg_fsEq z)
      have e4 : mg_yd a p q 1331 = 0 := by unfold mg_yd; rw [if_pos z]
      rw [e4]
      refine br_t rfl (br_f (by decide) (R _ _ _ (fun v hv => br_t rfl (br_f (by decide) (kF z ?_ v _ _ hv)))))
      rw [e1] at g
      exact g
    · have e4 : mg_yd a p q 1331 = 1 := by unfold mg_yd; rw [if_neg z]
      rw [e4]
      exact br_f (by decide) (R _ _ _ (fun v hv => br_f (by decide) (kD (by omega) v _ _ hv)))
  have W := my_m78 (post := post) (b := b) hp hq hb hc hd (fun g => M.elim (fun m => m) (fun k => absurd k (by omega))) M1 1331 0 1332 rfl (by omega)
  have i := my_m33 (post := post) (x1 := nI p) (x2 := nI q) (x3 := nI (mg_len q)) (x4 := 0) (x5 := 0) (c := c) (d := d) ha ⟨1332, W⟩ 1331 0 1332 rfl (by omega)
  rw [mg_cp0, mg_cp0] at i
  unfold wpY_merge
  dsimp only
  exact my_isP1 hp (br_f (by decide) (my_isP1 hq (br_f (by decide) (my_len (by omega) ⟨1332, i⟩))))
