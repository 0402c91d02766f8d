/-! 09: the relation and what is owed -/
def i_Rel (k : Nat) (u : SX) (v : SY) : Prop := ∃ pr vx pb vb vy oh ov : Nat → Int32, u = (pr, vx, pb, vb) ∧ v = (pr, vy, oh, ov) ∧ mg_ok pr vx vy
theorem mg_rel {k : Nat} {pr vx pb vb vy oh ov : Nat → Int32} (h : mg_ok pr vx vy) : i_Rel k (pr, vx, pb, vb) (pr, vy, oh, ov) := ⟨pr, vx, pb, vb, vy, oh, ov, rfl, rfl, h⟩
theorem i_up {k : Nat} {u : SX} {v : SY} (h : i_Rel k u v) : i_Rel (k + 3) u v := h
theorem i_vc0 : wpX_init (fun u => wpY_init (fun v => i_Rel 0 u v)) := mg_rel (k := 0) mg_ok0
theorem i_vc_set {k : Nat} {u : SX} {v : SY} (I : i_Rel k u v) (hk : k + 3 ≤ 1536) (v1 : Int32) (v2 : Int32) : wpX_set (fun r u' => wpY_set (fun r' v' => r' = r ∧ i_Rel (k + 3) u' v') v v1 v2) u v1 v2 := by
  obtain ⟨pr, vx, pb, vb, vy, oh, ov, rfl, rfl, h⟩ := I
  unfold wpX_set wpY_set
  dsimp only
  rcases mg_isP v1 with ⟨p, hp, rfl⟩ | ⟨nX, nY⟩
  · have hp1 := hp.1
    have h4 := h.2.2.2
    have hi : vp_in (nI p) 1331 := vp_in_nI hp1 (by decide)
    have cl : (nI p).toNatClampNeg = p := nI_clamp (by omega)
    refine mx_isP1 hp (br_f (by decide) ⟨hi, nm_r (e' := pr p) (by rw [cl]) ?_⟩)
    by_cases z : pr p = 0
    · refine br_t z (mx_size (pk_lt (mg_V pr 0) 40 (fun g => mx_set32 hp1 (fun _ => ?_) (fun y => absurd z y)) (fun g => ?_)))
      · refine my_isP1 hp (br_f (by decide) ⟨hi, br_t (by rw [cl]; exact z) (my_count0 (pk_eq (mg_V pr 0) 40 (fun y => absurd y (by omega)) (fun _ => my_set32 hp1 (fun _ => ⟨rfl, mg_rel (mg_okS h hp v2 (fun _ => g))⟩) (fun y => absurd z y))))⟩)
      · exact my_isP1 hp (br_f (by decide) ⟨hi, br_t (by rw [cl]; exact z) (my_count0 (pk_eq (mg_V pr 0) 40 (fun _ => ⟨rfl, mg_rel h⟩) (fun y => absurd (show mg_V pr 0 = 40 by omega) y)))⟩)
    · refine br_f z (mx_set32 hp1 (fun y => absurd y z) (fun _ => ?_))
      exact my_isP1 hp (br_f (by decide) ⟨hi, br_f (by rw [cl]; exact z) (my_set32 hp1 (fun y => absurd y z) (fun _ => ⟨rfl, mg_rel (mg_okS h hp v2 (fun y => absurd y z))⟩))⟩)
  · exact nX _ (br_t rfl (nY _ _ _ _ _ (br_t rfl ⟨rfl, mg_rel h⟩)))
theorem i_vc_kill {k : Nat} {u : SX} {v : SY} (I : i_Rel k u v) (hk : k + 3 ≤ 1536) (v1 : Int32) : wpX_kill (fun r u' => wpY_kill (fun r' v' => r' = r ∧ i_Rel (k + 3) u' v') v v1) u v1 := by
  obtain ⟨pr, vx, pb, vb, vy, oh, ov, rfl, rfl, h⟩ := I
  unfold wpX_kill wpY_kill
  dsimp only
  rcases mg_isP v1 with ⟨p, hp, rfl⟩ | ⟨nX, nY⟩
  · have g1 : mg_kill pr p p = pr := mg_foldLo (fun j hj => mg_inT.mp hj)
    refine mx_isP1 hp (br_f (by decide) (mx_values hp (mx_end hp.1 ⟨mg_end p - p + 1, ?_⟩)))
    have K := mx_kl (a := pr) (b := vx) (c := pb) (d := vb) (p := p) (x := nI (mg_V pr p)) (post := fun r u' => wpY_isPath (fun r_1 => (r_1 = 0 → (-1 : Int32) = r ∧ i_Rel (k + 3) u' (pr, vy, oh, ov)) ∧ (¬ r_1 = 0 → wpY_countUnder (fun r_7 => ∃ n18 : Nat, wY_kill_18 (fun r' v' => r' = r ∧ i_Rel (k + 3) u' v') (nI p) r_7 n18 0 pr vy oh ov) (pr, vy, oh, ov) (nI p))) (pr, vy, oh, ov) (nI p)) hp
      (my_isP1 hp (br_f (by decide) (my_count hp.1 ⟨1332, my_kl (a := pr) (b := vy) (c := oh) (d := ov) (p := p) hp.1 ⟨rfl, mg_rel (mg_okK h p)⟩ 1331 0 1332 rfl (by omega)⟩)))
      (mg_end p - p) p (mg_end p - p + 1) (by have := mg_lt_end p; omega) (Nat.le_refl p) (by omega)
    rw [g1] at K
    exact K
  · exact nX _ (br_t rfl (nY _ _ _ _ _ (br_t rfl ⟨rfl, mg_rel h⟩)))
theorem i_vc_value {k : Nat} {u : SX} {v : SY} (I : i_Rel k u v) (hk : k + 3 ≤ 1536) (v1 : Int32) : wpX_value (fun r => wpY_value (fun r' => r' = r ∧ i_Rel (k + 3) u v) v v1) u v1 := by
  obtain ⟨pr, vx, pb, vb, vy, oh, ov, rfl, rfl, h⟩ := I
  unfold wpX_value wpY_value
  dsimp only
  rcases mg_isP v1 with ⟨p, hp, rfl⟩ | ⟨nX, nY⟩
  · have hp1 := hp.1
    have hi : vp_in (nI p) 1331 := vp_in_nI hp1 (by decide)
    rw [nI_clamp (by omega)]
    by_cases z : pr p = 0
    · exact mx_isP1 hp (br_f (by decide) ⟨hi, br_t z (my_isP1 hp (br_f (by decide) ⟨hi, br_t z ⟨rfl, mg_rel h⟩⟩))⟩)
    · exact mx_isP1 hp (br_f (by decide) ⟨hi, br_f z ⟨hi, my_isP1 hp (br_f (by decide) ⟨hi, br_f z ⟨hi, (h.2.2.1 p z).symm, mg_rel h⟩⟩)⟩⟩)
  · exact nX _ (br_t rfl (nY _ _ _ _ _ (br_t rfl ⟨rfl, mg_rel h⟩)))
theorem i_vc_data {k : Nat} {u : SX} {v : SY} (I : i_Rel k u v) (hk : k + 3 ≤ 1536) (v1 : Int32) : wpX_data (fun r => wpY_data (fun r' => r' = r ∧ i_Rel (k + 3) u v) v v1) u v1 := by
  obtain ⟨pr, vx, pb, vb, vy, oh, ov, rfl, rfl, h⟩ := I
  unfold wpX_data wpY_data
  dsimp only
  rcases mg_isP v1 with ⟨p, hp, rfl⟩ | ⟨nX, nY⟩
  · have hp1 := hp.1
    have hv := mg_Vle pr p
    have hi : vp_in (nI p) 1331 := vp_in_nI hp1 (by decide)
    rw [nI_clamp (by omega)]
    refine mx_isP1 hp (br_f (by decide) ⟨hi, br_c (fun z => ?_) (fun z => ?_)⟩)
    · unfold wX_data_23
      refine mx_values hp (nm_r (e' := nI (mg_V pr p)) (pk_sub (b := 0) (Nat.zero_le _)) (pk_le (mg_V pr p) 0 (fun g => ?_) (fun g => ?_)))
      · exact my_isP1 hp (br_f (by decide) (my_data hp1 (fun _ _ => ⟨rfl, mg_rel h⟩) (fun _ y => absurd y (by omega)) (fun y => absurd z y) (fun y => absurd z y)))
      · exact my_isP1 hp (br_f (by decide) (my_data hp1 (fun _ y => absurd y (by omega)) (fun _ _ => ⟨by decide, mg_rel h⟩) (fun y => absurd z y) (fun y => absurd z y)))
    · have h1 := mg_V1 hp1 z
      unfold wX_data_23
      refine mx_values hp (nm_r (e' := nI (mg_V pr p - 1)) (pk_sub (b := 1) h1) (pk_le (mg_V pr p - 1) 0 (fun g => ?_) (fun g => ?_)))
      · exact my_isP1 hp (br_f (by decide) (my_data hp1 (fun y => absurd y z) (fun y => absurd y z) (fun _ _ => ⟨rfl, mg_rel h⟩) (fun _ y => absurd y (by omega))))
      · exact my_isP1 hp (br_f (by decide) (my_data hp1 (fun y => absurd y z) (fun y => absurd y z) (fun _ y => absurd y (by omega)) (fun _ _ => ⟨by decide, mg_rel h⟩)))
  · exact nX _ (br_t rfl (nY _ _ _ _ _ (br_t rfl ⟨rfl, mg_rel h⟩)))
theorem i_vc_query {k : Nat} {u : SX} {v : SY} (I : i_Rel k u v) (hk : k + 3 ≤ 1536) (v1 : Int32) : wpX_query (fun r => wpY_query (fun r' => r' = r ∧ i_Rel (k + 3) u v) v v1) u v1 := by
  obtain ⟨pr, vx, pb, vb, vy, oh, ov, rfl, rfl, h⟩ := I
  obtain ⟨y, iX, iY⟩ := mg_qry pr vx pb vb vy oh ov v1 1331 0 rfl
  exact ⟨1332, iX _ ⟨1332, iY _ ⟨rfl, mg_rel h⟩⟩⟩
theorem mx_cbf {post : Int32 → Prop} {p : Nat} (hp : mg_path p) (h0 : mg_len p = 3 → post 0) (h1 : mg_len p < 3 → post 1) : wpX_canBeFollowed post (nI p) := by
  have hp1 := hp.1
  have hl := mg_len_le p
  unfold wpX_canBeFollowed
  exact mx_isP1 hp (br_f (by decide) (mx_len (by omega) (pk_le 3 (mg_len p) (fun g => h0 (by omega)) h1)))
theorem i_vc_order {k : Nat} {u : SX} {v : SY} (I : i_Rel k u v) (hk : k + 3 ≤ 1536) (v1 : Int32) (v2 : Int32) : wpX_order (fun r => wpY_order (fun r' => r' = r ∧ i_Rel (k + 3) u v) v v1 v2) u v1 v2 := by
  obtain ⟨pr, vx, pb, vb, vy, oh, ov, rfl, rfl, h⟩ := I
  unfold wpX_order wpY_order
  dsimp only
  rcases mg_isP v1 with ⟨p, hp, rfl⟩ | ⟨nX, nY⟩
  · have hp1 := hp.1
    have hl := mg_len_le p
    refine mx_cbf hp (fun g => br_t rfl ?_) (fun g => br_f (by decide) ?_)
    · exact my_isP1 hp (br_f (by decide) (my_len (by omega) (pk_eq (mg_len p) 3 (fun _ => ⟨rfl, mg_rel h⟩) (fun y => absurd g y))))
    · obtain ⟨y, iX, iY⟩ := mg_ord pr vx pb vb vy oh ov v2 hp g 10 0 rfl
      exact ⟨11, iX _ (my_isP1 hp (br_f (by decide) (my_len (by omega) (pk_eq (mg_len p) 3 (fun z => absurd z (by omega)) (fun _ => ⟨11, iY _ ⟨rfl, mg_rel h⟩⟩)))))⟩
  · unfold wpX_canBeFollowed
    exact nX _ (br_t rfl (br_t rfl (nY _ _ _ _ _ (br_t rfl ⟨rfl, mg_rel h⟩))))
theorem i_vc_orderBack {k : Nat} {u : SX} {v : SY} (I : i_Rel k u v) (hk : k + 3 ≤ 1536) (v1 : Int32) (v2 : Int32) : wpX_orderBack (fun r => wpY_orderBack (fun r' => r' = r ∧ i_Rel (k + 3) u v) v v1 v2) u v1 v2 := by
  obtain ⟨pr, vx, pb, vb, vy, oh, ov, rfl, rfl, h⟩ := I
  unfold wpX_orderBack wpY_orderBack
  dsimp only
  rcases mg_isP v1 with ⟨p, hp, rfl⟩ | ⟨nX, nY⟩
  · have hp1 := hp.1
    have hl := mg_len_le p
    refine mx_cbf hp (fun g => br_t rfl ?_) (fun g => br_f (by decide) ?_)
    · exact my_isP1 hp (br_f (by decide) (my_len (by omega) (pk_eq (mg_len p) 3 (fun _ => ⟨rfl, mg_rel h⟩) (fun y => absurd g y))))
    · obtain ⟨y, iX, iY⟩ := mg_ordB pr vx pb vb vy oh ov v2 hp g 10 (Nat.le_refl _)
      rw [show mg_bk 10 = 9 by decide] at iX iY
      exact ⟨11, iX _ (my_isP1 hp (br_f (by decide) (my_len (by omega) (pk_eq (mg_len p) 3 (fun z => absurd z (by omega)) (fun _ => ⟨11, iY _ ⟨rfl, mg_rel h⟩⟩)))))⟩
  · unfold wpX_canBeFollowed
    exact nX _ (br_t rfl (br_t rfl (nY _ _ _ _ _ (br_t rfl ⟨rfl, mg_rel h⟩))))
theorem i_vc_count {k : Nat} {u : SX} {v : SY} (I : i_Rel k u v) (hk : k + 3 ≤ 1536) (v1 : Int32) : wpX_count (fun r => wpY_count (fun r' => r' = r ∧ i_Rel (k + 3) u v) v v1) u v1 := by
  obtain ⟨pr, vx, pb, vb, vy, oh, ov, rfl, rfl, h⟩ := I
  unfold wpX_count wpY_count
  dsimp only
  rcases mg_isP v1 with ⟨p, hp, rfl⟩ | ⟨nX, nY⟩
  · exact mx_isP1 hp (br_f (by decide) (mx_values hp (my_isP1 hp (br_f (by decide) (my_count hp.1 ⟨rfl, mg_rel h⟩)))))
  · exact nX _ (br_t rfl (nY _ _ _ _ _ (br_t rfl ⟨rfl, mg_rel h⟩)))
theorem i_vc_merge {k : Nat} {u : SX} {v : SY} (I : i_Rel k u v) (hk : k + 3 ≤ 1536) (v1 : Int32) (v2 : Int32) : wpX_merge (fun r u' => wpY_merge (fun r' v' => r' = r ∧ i_Rel (k + 3) u' v') v v1 v2) u v1 v2 := by
  obtain ⟨pr, vx, pb, vb, vy, oh, ov, rfl, rfl, h⟩ := I
  have h4 := h.2.2.2
  rcases mg_isP v1 with ⟨p, hp, rfl⟩ | ⟨nX, nY⟩
  · rcases mg_isP v2 with ⟨q, hq, rfl⟩ | ⟨mX, mY⟩
    · unfold wpX_merge
      dsimp only
      refine mx_isP1 hp (br_f (by decide) (mx_isP1 hq (br_f (by decide) (mx_deep hp hq (fun z => br_t rfl ?_) (fun z => br_f (by decide) ?_)))))
      · have hf := mg_fitD h.2.1 z
        have hs := mg_sizeM hp hf
        have hn := mg_cnt_le (mg_fn pr p q) 1331
        refine mx_size (mx_new hp hq hf (nm_r (nI_add _ _) (pk_le (mg_V pr 0 + mg_cnt (mg_fn pr p q) 1331) 40 (fun g => ?_) (fun g => ?_))))
        · refine mx_values hq (mx_keep h.1 ?_)
          dsimp only
          refine mx_copy hp hq hf (fun j hj => mg_cpL hj) (fun j hj => mg_cpL hj) ?_
          dsimp only
          exact my_merge hp hq h.1 h.2.1 (fun y => absurd y (by omega)) (fun _ y => absurd y (by omega)) (fun _ y _ _ => ⟨rfl, mg_rel (mg_okM h hp hf y)⟩)
        · exact my_merge hp hq h.1 h.2.1 (fun y => absurd y (by omega)) (fun _ _ v' _ _ e => ⟨rfl, mg_rel (mg_okV h e)⟩) (fun _ y => absurd y (by omega))
      · exact my_merge hp hq h.1 h.2.1 (fun _ v' _ _ e => ⟨rfl, mg_rel (mg_okV h e)⟩) (fun y => absurd y (by omega)) (fun y => absurd y (by omega))
    · unfold wpX_merge wpY_merge
      dsimp only
      exact mx_isP1 hp (br_f (by decide) (mX _ (br_t rfl (my_isP1 hp (br_f (by decide) (mY _ _ _ _ _ (br_t rfl ⟨rfl, mg_rel h⟩)))))))
  · unfold wpX_merge wpY_merge
    dsimp only
    exact nX _ (br_t rfl (nY _ _ _ _ _ (br_t rfl ⟨rfl, mg_rel h⟩)))
theorem i_vc_size {k : Nat} {u : SX} {v : SY} (I : i_Rel k u v) (hk : k + 3 ≤ 1536) : wpX_size (fun r => wpY_size (fun r' => r' = r ∧ i_Rel (k + 3) u v) v) u := by
  obtain ⟨pr, vx, pb, vb, vy, oh, ov, rfl, rfl, h⟩ := I
  refine mx_size ?_
  unfold wpY_size
  dsimp only
  exact my_count0 ⟨rfl, mg_rel h⟩
