/-! layer 2, the chart's word and letters as Reach reads them -/
theorem X0_length_m {σ : Mem} {w L : Nat} {wd : Nat → Nat} (h : WC σ w L wd) : f_X0_length σ = some (L : Int) := by
  obtain ⟨w1, w2, ⟨w3, w4, w5, w6, w7⟩, w8⟩ := h
  unfold f_X0_length
  rw [w1, Int.toNat_natCast, gd_pos w3, w4]
theorem letterAt_out {σ : Mem} {w L k : Nat} {wd : Nat → Nat} (h : WD σ w L wd) (hk : L ≤ k) (hk2 : k < 100) : f_X10_letterAt w (k : Int) σ = some (-1) := by
  obtain ⟨h1, h2, h3, h4, h5⟩ := h
  unfold f_X10_letterAt
  rw [h2, ifl_f (by omega) (by omega) (by omega), ifle_t (by omega) (by omega) (by omega)]
theorem letterStandsAt_m {σ : Mem} {w L k s : Nat} {wd : Nat → Nat} (h : WC σ w L wd) (hs : s < 4) (hk : k < 100) : f_X0_letterStandsAt (s : Int) (k : Int) σ = some (if k < L ∧ wd k = s then 1 else 0) := by
  have hW := h.2.2.1
  obtain ⟨w1, w2, ⟨w3, w4, w5, w6, w7⟩, w8⟩ := h
  unfold f_X0_letterStandsAt
  rw [w1, Int.toNat_natCast, gd_pos w3]
  by_cases q : k < L
  · have := (w7 k q).2
    rw [bV_ok (letterAt_m hW q rfl)]
    by_cases e : wd k = s
    · rw [ife_t (by omega), if_pos ⟨q, e⟩]
    · rw [ife_f (by omega) (by omega) (by omega) (by omega) (by omega), if_neg (fun z => e z.2)]
  · rw [bV_ok (letterAt_out hW (by omega) hk), ife_f (by omega) (by omega) (by omega) (by omega) (by omega), if_neg (fun z => q z.1)]
/-- a sign comes to a part as it is: at no cost -/
def asis (v : Nat) : Prop := v ≠ TT ∧ Cv v = 0
theorem fitsAsItIs_m {σ : Mem} {v s a b : Nat} (hs : s < 60) (ha : a ≤ 6) (hb : b ≤ 6) (h : σ 28 (s * 49 + a * 7 + b) = enc v) (hv : sm v) [Decidable (asis v)] : f_X0_fitsAsItIs (s : Int) (a : Int) (b : Int) σ = some (if asis v then 1 else 0) := by
  unfold f_X0_fitsAsItIs f_X0_fitOf
  rw [bV_ok (bV_ok (fitAt_m (s * 49 + a * 7 + b) (by omega) (by omega))), h]
  have r := enc_rng hv
  by_cases q : v = TT
  · have eT : enc v = 9223372036854775807 := by rw [q, enc_TT]
    rw [eT, if_pos ((lCmp_eq (by omega) (by omega) (by omega) (by omega)).mpr rfl), if_neg (fun z => z.1 q)]
  · have r3 := r.2.2 q
    rw [if_neg (fun z => by
      have := (lCmp_eq (by omega) (by omega) (by omega) (by omega)).mp z
      omega), bV_ok (costOf_v hv q)]
    have hc : Cv v ≤ 1000000 := by
      rcases hv with z | z
      · exact absurd z q
      · exact z.1
    by_cases c : Cv v = 0
    · rw [ife_t (by omega), if_pos ⟨q, c⟩]
    · rw [ife_f (by omega) (by omega) (by omega) (by omega) (by omega), if_neg (fun z => c z.2)]
