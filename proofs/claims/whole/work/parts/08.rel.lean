/-! 08: what the relation holds of the arrays: kept by set, kill and merge -/
def mg_ok (pr vx vy : Nat → Int32) : Prop := (∀ j, pr j = 0 ∨ pr j = 1) ∧ (∀ j, ¬ pr j = 0 → mg_path j) ∧ (∀ j, ¬ pr j = 0 → vx j = vy j) ∧ mg_V pr 0 ≤ 40
theorem mg_ok0 : mg_ok (fun _ => 0) (fun _ => 0) (fun _ => 0) := by
  refine ⟨fun _ => Or.inl rfl, fun _ h => absurd rfl h, fun _ _ => rfl, ?_⟩
  have h : mg_V (fun _ => 0) 0 = 0 := mg_cntZ 1331 (fun j _ => mg_f0 rfl)
  omega
theorem mg_okV {pr vx vy vz : Nat → Int32} (h : mg_ok pr vx vy) (e : ∀ j, j < 1331 → vz j = vy j) : mg_ok pr vx vz :=
  ⟨h.1, h.2.1, fun j hj => (h.2.2.1 j hj).trans (e j (h.2.1 j hj).1).symm, h.2.2.2⟩
theorem mg_okS {pr vx vy : Nat → Int32} (h : mg_ok pr vx vy) {p : Nat} (hp : mg_path p) (v : Int32) (hv : pr p = 0 → mg_V pr 0 < 40) : mg_ok (upd pr p 1) (upd vx p v) (upd vy p v) := by
  refine ⟨fun j => ?_, fun j hj => ?_, fun j hj => ?_, ?_⟩
  · by_cases e : j = p
    · rw [e, mg_us]; exact Or.inr rfl
    · rw [mg_un e]; exact h.1 j
  · by_cases e : j = p
    · rw [e]; exact hp
    · rw [mg_un e] at hj; exact h.2.1 j hj
  · by_cases e : j = p
    · rw [e, mg_us, mg_us]
    · rw [mg_un e] at hj
      rw [mg_un e, mg_un e]
      exact h.2.2.1 j hj
  · by_cases z : pr p = 0
    · rw [mg_VUn hp.1 (by decide) z]
      have := hv z
      omega
    · rw [mg_VUo (by decide) z]
      exact h.2.2.2
theorem mg_okK {pr vx vy : Nat → Int32} (h : mg_ok pr vx vy) (p : Nat) : mg_ok (mg_kill pr p 1331) vx vy := by
  have k : ∀ j, mg_kill pr p 1331 j = pr j ∨ mg_kill pr p 1331 j = 0 := by
    intro j
    rcases mg_foldV (f := mg_in p) (t := fun j => j) (x := fun _ => 0) (a := pr) j 1331 with g | ⟨r, g1, g2, g3, g4⟩
    · exact Or.inl g
    · exact Or.inr g4
  have k2 : ∀ j, ¬ mg_kill pr p 1331 j = 0 → ¬ pr j = 0 := by
    intro j hj
    rcases k j with g | g
    · rw [g] at hj; exact hj
    · exact absurd g hj
  refine ⟨fun j => ?_, fun j hj => h.2.1 j (k2 j hj), fun j hj => h.2.2.1 j (k2 j hj), Nat.le_trans (mg_VM 0 k2) h.2.2.2⟩
  rcases k j with g | g
  · rw [g]; exact h.1 j
  · exact Or.inl g
theorem mg_fitD {a : Nat → Int32} {p q : Nat} (hb : ∀ j, ¬ a j = 0 → mg_path j) (h : mg_cnt (mg_fd a p q) 1331 = 0) : mg_fit a p q := by
  intro j hj
  have k := mg_fT.mp hj
  have hpj := hb j k.1
  have e := mg_fsEq h j hpj.1
  exact ⟨hpj, mg_deepN (mg_fs_f (e.trans hj)).2⟩
theorem mg_sizeM {a : Nat → Int32} {p q : Nat} (hp : mg_path p) (hf : mg_fit a p q) : mg_V (mg_mp a p q 1331) 0 = mg_V a 0 + mg_cnt (mg_fn a p q) 1331 := by
  refine mg_foldS (N := 1331) (fun r _ hr => ?_) (fun r s _ _ hr hs e => ?_) 1331 (Nat.le_refl _)
  · have k := mg_fT.mp hr
    exact (mg_tgtP hp (hf r hr).1 k.2.1 k.2.2 (hf r hr).2).1
  · have k := mg_fT.mp hr
    have l := mg_fT.mp hs
    exact mg_tgtI k.2.1 k.2.2 l.2.1 l.2.2 (hf r hr).2 (hf s hs).2 e
theorem mg_okM {pr vx vy : Nat → Int32} (h : mg_ok pr vx vy) {p q : Nat} (hp : mg_path p) (hf : mg_fit pr p q) (hv : mg_V (mg_mp pr p q 1331) 0 ≤ 40) : mg_ok (mg_mp pr p q 1331) (mg_mv pr vx p q 1331) (mg_mv pr vy p q 1331) := by
  have k : ∀ j, mg_mp pr p q 1331 j = pr j ∨ (mg_mp pr p q 1331 j = 1 ∧ mg_path j) := by
    intro j
    rcases mg_foldV (f := mg_f pr q) (t := mg_tgt p q) (x := fun _ => 1) (a := pr) j 1331 with g | ⟨r, g1, g2, g3, g4⟩
    · exact Or.inl g
    · refine Or.inr ⟨g4, ?_⟩
      have l := mg_fT.mp g2
      rw [← g3]
      exact mg_tgtP hp (hf r g2).1 l.2.1 l.2.2 (hf r g2).2
  refine ⟨fun j => ?_, fun j hj => ?_, fun j hj => ?_, hv⟩
  · rcases k j with g | g
    · rw [g]; exact h.1 j
    · exact Or.inr g.1
  · rcases k j with g | g
    · rw [g] at hj; exact h.2.1 j hj
    · exact g.2
  · exact mg_foldE (f := mg_f pr q) (t := mg_tgt p q) h.2.2.1 (fun j hj => (mg_fT.mp hj).1) j 1331 hj
