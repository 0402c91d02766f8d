/-! 02: where a merge takes a path: step by step along the subscripts, and by one product and quotient -/
theorem mg_ts_000 {q r : Nat} (hr : r < 1331) (hB : q % 1331 = 0) (h1 : q ≤ r) (h2 : r < q + 1331) : (r - r % 1331 - q) * 1331 / 1331 + 121 * (r / 121) = (r - r % 121 - q) * 1331 / 1331 := by omega
theorem mg_ts_001 {q r : Nat} (hr : r < 1331) (hB : q % 1331 = 0) (h1 : q ≤ r) (h2 : r < q + 1331) : (r - r % 121 - q) * 1331 / 1331 + 11 * (r / 11 % 11) = (r - r % 11 - q) * 1331 / 1331 := by omega
theorem mg_ts_002 {q r : Nat} (hr : r < 1331) (hB : q % 1331 = 0) (h1 : q ≤ r) (h2 : r < q + 1331) : (r - r % 11 - q) * 1331 / 1331 + 1 * (r % 11) = (r - r % 1 - q) * 1331 / 1331 := by omega
theorem mg_ts_011 {q r : Nat} (hr : r < 1331) (hB : q % 121 = 0) (h1 : q ≤ r) (h2 : r < q + 121) : (r - r % 121 - q) * 1331 / 121 + 121 * (r / 11 % 11) = (r - r % 11 - q) * 1331 / 121 := by omega
theorem mg_ts_012 {q r : Nat} (hr : r < 1331) (hB : q % 121 = 0) (h1 : q ≤ r) (h2 : r < q + 121) : (r - r % 11 - q) * 1331 / 121 + 11 * (r % 11) = (r - r % 1 - q) * 1331 / 121 := by omega
theorem mg_ts_022 {q r : Nat} (hr : r < 1331) (hB : q % 11 = 0) (h1 : q ≤ r) (h2 : r < q + 11) : (r - r % 11 - q) * 1331 / 11 + 121 * (r % 11) = (r - r % 1 - q) * 1331 / 11 := by omega
theorem mg_ts_100 {q r : Nat} (hr : r < 1331) (hB : q % 1331 = 0) (h1 : q ≤ r) (h2 : r < q + 1331) : (r - r % 1331 - q) * 121 / 1331 + 11 * (r / 121) = (r - r % 121 - q) * 121 / 1331 := by omega
theorem mg_ts_101 {q r : Nat} (hr : r < 1331) (hB : q % 1331 = 0) (h1 : q ≤ r) (h2 : r < q + 1331) : (r - r % 121 - q) * 121 / 1331 + 1 * (r / 11 % 11) = (r - r % 11 - q) * 121 / 1331 := by omega
theorem mg_ts_111 {q r : Nat} (hr : r < 1331) (hB : q % 121 = 0) (h1 : q ≤ r) (h2 : r < q + 121) : (r - r % 121 - q) * 121 / 121 + 11 * (r / 11 % 11) = (r - r % 11 - q) * 121 / 121 := by omega
theorem mg_ts_112 {q r : Nat} (hr : r < 1331) (hB : q % 121 = 0) (h1 : q ≤ r) (h2 : r < q + 121) : (r - r % 11 - q) * 121 / 121 + 1 * (r % 11) = (r - r % 1 - q) * 121 / 121 := by omega
theorem mg_ts_122 {q r : Nat} (hr : r < 1331) (hB : q % 11 = 0) (h1 : q ≤ r) (h2 : r < q + 11) : (r - r % 11 - q) * 121 / 11 + 11 * (r % 11) = (r - r % 1 - q) * 121 / 11 := by omega
theorem mg_ts_200 {q r : Nat} (hr : r < 1331) (hB : q % 1331 = 0) (h1 : q ≤ r) (h2 : r < q + 1331) : (r - r % 1331 - q) * 11 / 1331 + 1 * (r / 121) = (r - r % 121 - q) * 11 / 1331 := by omega
theorem mg_ts_211 {q r : Nat} (hr : r < 1331) (hB : q % 121 = 0) (h1 : q ≤ r) (h2 : r < q + 121) : (r - r % 121 - q) * 11 / 121 + 1 * (r / 11 % 11) = (r - r % 11 - q) * 11 / 121 := by omega
theorem mg_ts_222 {q r : Nat} (hr : r < 1331) (hB : q % 11 = 0) (h1 : q ≤ r) (h2 : r < q + 11) : (r - r % 11 - q) * 11 / 11 + 1 * (r % 11) = (r - r % 1 - q) * 11 / 11 := by omega
theorem mg_tsA (lp lq i q r : Nat) (h3 : lp ≤ 3) (hi : lq ≤ i) (hi3 : i < 3) (hd : lp + i < 3 + lq) (hr : r < 1331) (hB : q % mg_w lq = 0) (h1 : q ≤ r) (h2 : r < q + mg_w lq) : (r - r % mg_w i - q) * mg_w lp / mg_w lq + mg_w (lp + i - lq + 1) * mg_dig r i = (r - r % mg_w (i + 1) - q) * mg_w lp / mg_w lq := by
  have c1 : lp = 0 ∨ lp = 1 ∨ lp = 2 ∨ lp = 3 := by omega
  have c2 : lq = 0 ∨ lq = 1 ∨ lq = 2 := by omega
  have c3 : i = 0 ∨ i = 1 ∨ i = 2 := by omega
  rcases c1 with rfl | rfl | rfl | rfl <;> rcases c2 with rfl | rfl | rfl <;> rcases c3 with rfl | rfl | rfl
  · exact mg_ts_000 hr hB h1 h2
  · exact mg_ts_001 hr hB h1 h2
  · exact mg_ts_002 hr hB h1 h2
  · omega
  · exact mg_ts_011 hr hB h1 h2
  · exact mg_ts_012 hr hB h1 h2
  · omega
  · omega
  · exact mg_ts_022 hr hB h1 h2
  · exact mg_ts_100 hr hB h1 h2
  · exact mg_ts_101 hr hB h1 h2
  · omega
  · omega
  · exact mg_ts_111 hr hB h1 h2
  · exact mg_ts_112 hr hB h1 h2
  · omega
  · omega
  · exact mg_ts_122 hr hB h1 h2
  · exact mg_ts_200 hr hB h1 h2
  · omega
  · omega
  · omega
  · exact mg_ts_211 hr hB h1 h2
  · omega
  · omega
  · omega
  · exact mg_ts_222 hr hB h1 h2
  · omega
  · omega
  · omega
  · omega
  · omega
  · omega
  · omega
  · omega
  · omega
theorem mg_qw (q : Nat) : q % mg_w (mg_len q) = 0 := by
  rcases mg_endC q with ⟨a, e, f, g⟩ | ⟨a, b, e, f, g⟩ | ⟨a, b, e, f, g⟩ | ⟨a, e, f, g⟩ <;> rw [f] <;> omega
theorem mg_Tstep {p q r i : Nat} (hr : mg_path r) (h1 : q ≤ r) (h2 : r < mg_end q) (hi : mg_len q ≤ i) (hir : i < mg_len r) (hd : mg_len p + i < 3 + mg_len q) : mg_T p q r i + mg_w (mg_len p + i - mg_len q + 1) * mg_dig r i = mg_T p q r (i + 1) := by
  have h := mg_tsA (mg_len p) (mg_len q) i q r (mg_len_le p) hi (by have := mg_len_le r; omega) hd hr.1 (mg_qw q) h1 h2
  unfold mg_T mg_pre
  rw [Nat.add_assoc, h]
theorem mg_T0 {p q r : Nat} (hr : mg_path r) (h1 : q ≤ r) (h2 : r < mg_end q) : mg_T p q r (mg_len q) = p := by
  unfold mg_T
  rw [mg_preQ hr h1 h2, Nat.sub_self, Nat.zero_mul, Nat.zero_div, Nat.add_zero]
theorem mg_Te {p q r : Nat} (hr : mg_path r) : mg_T p q r (mg_len r) = mg_tgt p q r := by
  unfold mg_T mg_tgt
  rw [mg_preR hr]
theorem mg_TP {p q r : Nat} (hp : mg_path p) (hr : mg_path r) (h1 : q ≤ r) (h2 : r < mg_end q) : ∀ d, mg_len q + d ≤ mg_len r → mg_len p + d ≤ 3 → mg_path (mg_T p q r (mg_len q + d)) ∧ mg_len (mg_T p q r (mg_len q + d)) = mg_len p + d := by
  intro d
  induction d with
  | zero =>
    intro _ _
    rw [Nat.add_zero, mg_T0 hr h1 h2]
    exact ⟨hp, rfl⟩
  | succ d ih =>
    intro hd h3
    obtain ⟨a, b⟩ := ih (by omega) (by omega)
    have e := mg_Tstep (p := p) (i := mg_len q + d) hr h1 h2 (by omega) (by omega) (by omega)
    have e2 : mg_len p + (mg_len q + d) - mg_len q + 1 = mg_len p + d + 1 := by omega
    rw [e2] at e
    have g := mg_digB (i := mg_len q + d) hr (by omega)
    have f := mg_folP (d := mg_dig r (mg_len q + d)) a (by omega) g.1 g.2
    unfold mg_fol at f
    rw [b, e] at f
    exact f
theorem mg_tgtP {p q r : Nat} (hp : mg_path p) (hr : mg_path r) (h1 : q ≤ r) (h2 : r < mg_end q) (hd : mg_len p + mg_len r ≤ 3 + mg_len q) : mg_path (mg_tgt p q r) := by
  have hm := mg_lenM h1 h2
  have h := mg_TP hp hr h1 h2 (mg_len r - mg_len q) (by omega) (by omega)
  rw [show mg_len q + (mg_len r - mg_len q) = mg_len r by omega, mg_Te hr] at h
  exact h.1
theorem mg_rw {r l : Nat} (hl : l ≤ 3) (h : mg_len r ≤ l) : r % mg_w l = 0 := by
  have c : l = 0 ∨ l = 1 ∨ l = 2 ∨ l = 3 := by omega
  have := mg_lenC r
  rcases c with rfl | rfl | rfl | rfl
  · rw [mg_w0]; omega
  · rw [mg_w1]; omega
  · rw [mg_w2]; omega
  · rw [mg_w3]; omega
theorem mg_ti_00 {q r s : Nat} (hr : r % 1 = 0) (hs : s % 1 = 0) (hB : q % 1331 = 0) (h1 : q ≤ r) (h2 : r < q + 1331) (h3 : q ≤ s) (h4 : s < q + 1331) (h : (r - q) * 1331 / 1331 = (s - q) * 1331 / 1331) : r = s := by omega
theorem mg_ti_01 {q r s : Nat} (hr : r % 1 = 0) (hs : s % 1 = 0) (hB : q % 121 = 0) (h1 : q ≤ r) (h2 : r < q + 121) (h3 : q ≤ s) (h4 : s < q + 121) (h : (r - q) * 1331 / 121 = (s - q) * 1331 / 121) : r = s := by omega
theorem mg_ti_02 {q r s : Nat} (hr : r % 1 = 0) (hs : s % 1 = 0) (hB : q % 11 = 0) (h1 : q ≤ r) (h2 : r < q + 11) (h3 : q ≤ s) (h4 : s < q + 11) (h : (r - q) * 1331 / 11 = (s - q) * 1331 / 11) : r = s := by omega
theorem mg_ti_03 {q r s : Nat} (hr : r % 1 = 0) (hs : s % 1 = 0) (hB : q % 1 = 0) (h1 : q ≤ r) (h2 : r < q + 1) (h3 : q ≤ s) (h4 : s < q + 1) (h : (r - q) * 1331 / 1 = (s - q) * 1331 / 1) : r = s := by omega
theorem mg_ti_10 {q r s : Nat} (hr : r % 11 = 0) (hs : s % 11 = 0) (hB : q % 1331 = 0) (h1 : q ≤ r) (h2 : r < q + 1331) (h3 : q ≤ s) (h4 : s < q + 1331) (h : (r - q) * 121 / 1331 = (s - q) * 121 / 1331) : r = s := by omega
theorem mg_ti_11 {q r s : Nat} (hr : r % 1 = 0) (hs : s % 1 = 0) (hB : q % 121 = 0) (h1 : q ≤ r) (h2 : r < q + 121) (h3 : q ≤ s) (h4 : s < q + 121) (h : (r - q) * 121 / 121 = (s - q) * 121 / 121) : r = s := by omega
theorem mg_ti_12 {q r s : Nat} (hr : r % 1 = 0) (hs : s % 1 = 0) (hB : q % 11 = 0) (h1 : q ≤ r) (h2 : r < q + 11) (h3 : q ≤ s) (h4 : s < q + 11) (h : (r - q) * 121 / 11 = (s - q) * 121 / 11) : r = s := by omega
theorem mg_ti_13 {q r s : Nat} (hr : r % 1 = 0) (hs : s % 1 = 0) (hB : q % 1 = 0) (h1 : q ≤ r) (h2 : r < q + 1) (h3 : q ≤ s) (h4 : s < q + 1) (h : (r - q) * 121 / 1 = (s - q) * 121 / 1) : r = s := by omega
theorem mg_ti_20 {q r s : Nat} (hr : r % 121 = 0) (hs : s % 121 = 0) (hB : q % 1331 = 0) (h1 : q ≤ r) (h2 : r < q + 1331) (h3 : q ≤ s) (h4 : s < q + 1331) (h : (r - q) * 11 / 1331 = (s - q) * 11 / 1331) : r = s := by omega
theorem mg_ti_21 {q r s : Nat} (hr : r % 11 = 0) (hs : s % 11 = 0) (hB : q % 121 = 0) (h1 : q ≤ r) (h2 : r < q + 121) (h3 : q ≤ s) (h4 : s < q + 121) (h : (r - q) * 11 / 121 = (s - q) * 11 / 121) : r = s := by omega
theorem mg_ti_22 {q r s : Nat} (hr : r % 1 = 0) (hs : s % 1 = 0) (hB : q % 11 = 0) (h1 : q ≤ r) (h2 : r < q + 11) (h3 : q ≤ s) (h4 : s < q + 11) (h : (r - q) * 11 / 11 = (s - q) * 11 / 11) : r = s := by omega
theorem mg_ti_23 {q r s : Nat} (hr : r % 1 = 0) (hs : s % 1 = 0) (hB : q % 1 = 0) (h1 : q ≤ r) (h2 : r < q + 1) (h3 : q ≤ s) (h4 : s < q + 1) (h : (r - q) * 11 / 1 = (s - q) * 11 / 1) : r = s := by omega
theorem mg_ti_30 {q r s : Nat} (hr : r % 1331 = 0) (hs : s % 1331 = 0) (hB : q % 1331 = 0) (h1 : q ≤ r) (h2 : r < q + 1331) (h3 : q ≤ s) (h4 : s < q + 1331) (h : (r - q) * 1 / 1331 = (s - q) * 1 / 1331) : r = s := by omega
theorem mg_ti_31 {q r s : Nat} (hr : r % 121 = 0) (hs : s % 121 = 0) (hB : q % 121 = 0) (h1 : q ≤ r) (h2 : r < q + 121) (h3 : q ≤ s) (h4 : s < q + 121) (h : (r - q) * 1 / 121 = (s - q) * 1 / 121) : r = s := by omega
theorem mg_ti_32 {q r s : Nat} (hr : r % 11 = 0) (hs : s % 11 = 0) (hB : q % 11 = 0) (h1 : q ≤ r) (h2 : r < q + 11) (h3 : q ≤ s) (h4 : s < q + 11) (h : (r - q) * 1 / 11 = (s - q) * 1 / 11) : r = s := by omega
theorem mg_ti_33 {q r s : Nat} (hr : r % 1 = 0) (hs : s % 1 = 0) (hB : q % 1 = 0) (h1 : q ≤ r) (h2 : r < q + 1) (h3 : q ≤ s) (h4 : s < q + 1) (h : (r - q) * 1 / 1 = (s - q) * 1 / 1) : r = s := by omega
theorem mg_tiA (lp lq q r s : Nat) (c1 : lp ≤ 3) (c2 : lq ≤ 3) (hr : r % mg_w (min 3 (3 + lq - lp)) = 0) (hs : s % mg_w (min 3 (3 + lq - lp)) = 0) (hB : q % mg_w lq = 0) (h1 : q ≤ r) (h2 : r < q + mg_w lq) (h3 : q ≤ s) (h4 : s < q + mg_w lq) (h : (r - q) * mg_w lp / mg_w lq = (s - q) * mg_w lp / mg_w lq) : r = s := by
  have c1 : lp = 0 ∨ lp = 1 ∨ lp = 2 ∨ lp = 3 := by omega
  have c2 : lq = 0 ∨ lq = 1 ∨ lq = 2 ∨ lq = 3 := by omega
  rcases c1 with rfl | rfl | rfl | rfl <;> rcases c2 with rfl | rfl | rfl | rfl
  · exact mg_ti_00 hr hs hB h1 h2 h3 h4 h
  · exact mg_ti_01 hr hs hB h1 h2 h3 h4 h
  · exact mg_ti_02 hr hs hB h1 h2 h3 h4 h
  · exact mg_ti_03 hr hs hB h1 h2 h3 h4 h
  · exact mg_ti_10 hr hs hB h1 h2 h3 h4 h
  · exact mg_ti_11 hr hs hB h1 h2 h3 h4 h
  · exact mg_ti_12 hr hs hB h1 h2 h3 h4 h
  · exact mg_ti_13 hr hs hB h1 h2 h3 h4 h
  · exact mg_ti_20 hr hs hB h1 h2 h3 h4 h
  · exact mg_ti_21 hr hs hB h1 h2 h3 h4 h
  · exact mg_ti_22 hr hs hB h1 h2 h3 h4 h
  · exact mg_ti_23 hr hs hB h1 h2 h3 h4 h
  · exact mg_ti_30 hr hs hB h1 h2 h3 h4 h
  · exact mg_ti_31 hr hs hB h1 h2 h3 h4 h
  · exact mg_ti_32 hr hs hB h1 h2 h3 h4 h
  · exact mg_ti_33 hr hs hB h1 h2 h3 h4 h
theorem mg_tgtI {p q r s : Nat} (h1 : q ≤ r) (h2 : r < mg_end q) (h3 : q ≤ s) (h4 : s < mg_end q) (hd : mg_len p + mg_len r ≤ 3 + mg_len q) (he : mg_len p + mg_len s ≤ 3 + mg_len q) (h : mg_tgt p q r = mg_tgt p q s) : r = s := by
  have g1 := mg_len_le r
  have g2 := mg_len_le s
  exact mg_tiA (mg_len p) (mg_len q) q r s (mg_len_le p) (mg_len_le q) (mg_rw (by omega) (by omega)) (mg_rw (by omega) (by omega)) (mg_qw q) h1 h2 h3 h4 (Nat.add_left_cancel h)
