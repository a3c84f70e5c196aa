/-! layer 2, the chart's word and letters as Reach reads them -/
theorem X0_length_m {σ : Mem} {w L : Nat} {wd : Nat → Nat} (h : WC σ w L wd) : f_X0_length σ = some (L : Int) := by
  obtain ⟨w1, w2, ⟨w3, w4, w5, w6, w7⟩, w8⟩ := h
  unfold f_X0_length
  rw [w1, Int.toNat_natCast, gd_pos w3, w4]
theorem letterAt_out {σ : Mem} {w L k : Nat} {wd : Nat → Nat} (h : WD σ w L wd) (hk : L ≤ k) (hk2 : k < 100) : f_X10_letterAt w (k : Int) σ = some (-1) := by
  obtain ⟨h1, h2, h3, h4, h5⟩ := h
  unfold f_X10_letterAt
  rw [h2, ifl_f (by omega) (by omega) (by omega), ifle_t (by omega) (by omega) (by omega)]
theorem letterStandsAt_m {σ : Mem} {w L k s : Nat} {wd : Nat → Nat} (h : WC σ w L wd) (hs : s < 4) (hk : k < 100) : f_X0_letterStandsAt (s : Int) (k : Int) σ = some (if k < L ∧ wd k = s then 1 else 0) := by
  have hW := h.2.2.1
  obtain ⟨w1, w2, ⟨w3, w4, w5, w6, w7⟩, w8⟩ := h
  unfold f_X0_letterStandsAt
  rw [w1, Int.toNat_natCast, gd_pos w3]
  by_cases q : k < L
  · have := (w7 k q).2
    rw [bV_ok (letterAt_m hW q rfl)]
    by_cases e : wd k = s
    · rw [ife_t (by omega), if_pos ⟨q, e⟩]
    · rw [ife_f (by omega) (by omega) (by omega) (by omega) (by omega), if_neg (fun z => e z.2)]
  · rw [bV_ok (letterAt_out hW (by omega) hk), ife_f (by omega) (by omega) (by omega) (by omega) (by omega), if_neg (fun z => q z.1)]
