/-! layer 2, Chart.fill: all parts -/
def Dk (L len fr a b : Nat) : Prop := a ≤ b ∧ b ≤ L ∧ (b - a < len ∨ (b - a = len ∧ a < fr))
theorem Dk_next {L len fr : Nat} (h : L < fr + len) : Dk L len fr = Dk L (len + 1) 0 := by
  funext a b
  unfold Dk
  exact propext ⟨fun ⟨h1, h2, h3⟩ => ⟨h1, h2, by omega⟩, fun ⟨h1, h2, h3⟩ => ⟨h1, h2, by omega⟩⟩
theorem fill35 {σ0 : Mem} {dr pu L len N w : Nat} {lt : Nat → Nat → Nat → Nat} {wd : Nat → Nat} {w0 : Nat} (hN : 10 ≤ N) (hw : wfM σ0) (hd : σ0 12 0 = (dr : Int)) (hl : LT dr pu L lt) (hlen : len ≤ L) :
    ∀ (m fr fuel : Nat) (σ : Mem) (X : Nat → Nat → Nat → Nat), fr + len + m = L + 1 → m < fuel → WC σ w L wd → FI σ0 σ dr pu L lt X (Dk L len fr) →
    ∃ τ X2, f_X0_fill_L35 N w0 (len : Int) fuel (fr : Int) σ = some τ ∧ (∀ k, k ≠ 28 → τ k = σ k) ∧ FI σ0 τ dr pu L lt X2 (Dk L (len + 1) 0) := by
  have hL := hl.2.2.2.1
  intro m
  induction m with
  | zero =>
    intro fr fuel σ X hm hf hc hF
    obtain ⟨f, rfl⟩ : ∃ f, fuel = f + 1 := ⟨fuel - 1, by omega⟩
    obtain ⟨w1, w2, ⟨w3, w4, w5, w6, w7⟩, w8⟩ := hc
    refine ⟨σ, X, ?_, fun _ _ => rfl, ?_⟩
    · rw [f_X0_fill_L35, w1, Int.toNat_natCast, gd_pos w3, w4, ifl_t (by omega) (by omega) (by omega)]
    · rw [← Dk_next (by omega : L < fr + len)]; exact hF
  | succ m ih =>
    intro fr fuel σ X hm hf hc hF
    obtain ⟨f, rfl⟩ : ∃ f, fuel = f + 1 := ⟨fuel - 1, by omega⟩
    obtain ⟨w1, w2, ⟨w3, w4, w5, w6, w7⟩, w8⟩ := id hc
    obtain ⟨ρ, X2, r1, r2, r3⟩ := FI_step (i := fr) (j := fr + len) (D2 := Dk L len (fr + 1)) hN hw hd hl hF (by omega) (by omega) (fun a b h => ⟨h.1, h.2.1⟩)
      (fun a b c d ⟨h1, h2, h3⟩ k1 k2 k3 => ⟨k2, by omega, by omega⟩) (fun ⟨h1, h2, h3⟩ => by omega) (fun a b h1 h2 h3 h4 => ⟨h2, by omega, by omega⟩) (fun h => ⟨Nat.le_refl _, Nat.zero_le _, by omega⟩) (fun h a b ⟨h1, h2, h3⟩ => by omega)
      (fun a b => ⟨fun ⟨h1, h2, h3⟩ => by
        by_cases q : a = fr ∧ b = fr + len
        · exact Or.inr q
        · exact Or.inl ⟨h1, h2, by omega⟩, fun h => by
        rcases h with ⟨h1, h2, h3⟩ | ⟨h1, h2⟩
        · exact ⟨h1, h2, by omega⟩
        · exact ⟨by omega, by omega, by omega⟩⟩)
    obtain ⟨τ, X3, t1, t2, t3⟩ := ih (fr + 1) f ρ X2 (by omega) (by omega) (WC_eq hc r2) r3
    refine ⟨τ, X3, ?_, fun k hk => (t2 k hk).trans (r2 k hk), t3⟩
    have r1' : f_X0_settle N (fr : Int) ((fr : Int) + (len : Int)) σ = some ρ := r1
    rw [f_X0_fill_L35, w1, Int.toNat_natCast, gd_pos w3, w4, ifl_f (by omega) (by omega) (by omega), bV_ok r1']
    exact t1
theorem fill22 {σ0 : Mem} {dr pu L N w : Nat} {lt : Nat → Nat → Nat → Nat} {wd : Nat → Nat} {w0 : Nat} (hN : 10 ≤ N) (hw : wfM σ0) (hd : σ0 12 0 = (dr : Int)) (hl : LT dr pu L lt) :
    ∀ (m len fuel : Nat) (σ : Mem) (X : Nat → Nat → Nat → Nat), len + m = L + 1 → m < fuel → WC σ w L wd → FI σ0 σ dr pu L lt X (Dk L len 0) →
    ∃ τ X2, f_X0_fill_L22 N w0 fuel (len : Int) σ = some τ ∧ (∀ k, k ≠ 28 → τ k = σ k) ∧ FI σ0 τ dr pu L lt X2 (Dk L (L + 1) 0) := by
  have hL := hl.2.2.2.1
  intro m
  induction m with
  | zero =>
    intro len fuel σ X hm hf hc hF
    obtain ⟨f, rfl⟩ : ∃ f, fuel = f + 1 := ⟨fuel - 1, by omega⟩
    obtain ⟨w1, w2, ⟨w3, w4, w5, w6, w7⟩, w8⟩ := hc
    have e : len = L + 1 := by omega
    subst e
    refine ⟨σ, X, ?_, fun _ _ => rfl, hF⟩
    rw [f_X0_fill_L22, w1, Int.toNat_natCast, gd_pos w3, w4, ifl_t (by omega) (by omega) (by omega)]
  | succ m ih =>
    intro len fuel σ X hm hf hc hF
    obtain ⟨f, rfl⟩ : ∃ f, fuel = f + 1 := ⟨fuel - 1, by omega⟩
    obtain ⟨w1, w2, ⟨w3, w4, w5, w6, w7⟩, w8⟩ := id hc
    obtain ⟨ρ, X2, r1, r2, r3⟩ := fill35 (len := len) (w0 := w0) hN hw hd hl (by omega) (L + 1 - len) 0 N σ X (by omega) (by omega) hc hF
    obtain ⟨τ, X3, t1, t2, t3⟩ := ih (len + 1) f ρ X2 (by omega) (by omega) (WC_eq hc r2) r3
    refine ⟨τ, X3, ?_, fun k hk => (t2 k hk).trans (r2 k hk), t3⟩
    have r1' : f_X0_fill_L35 N w0 (len : Int) N 0 σ = some ρ := r1
    rw [f_X0_fill_L22, w1, Int.toNat_natCast, gd_pos w3, w4, ifl_f (by omega) (by omega) (by omega), bV_ok r1']
    exact t1
/-- the chart's values are no longer than their cost allows -/
theorem FI_sm {σ0 σ : Mem} {dr pu L : Nat} {lt X : Nat → Nat → Nat → Nat} {D : Nat → Nat → Prop} (hl : LT dr pu L lt) (hF : FI σ0 σ dr pu L lt X D) {n a b : Nat} (hn : n < 6) (hab : a ≤ b) (hb : b ≤ L) (h : D a b) : sm (X n a b) := by
  obtain ⟨l1, l2, l3, l4, l5, l6, l7, l8⟩ := hl
  have h7 := hF.2.2.2.2.2.2.1 n a b hn h
  have h1 : dr * (b - a) ≤ 9 * 6 := Nat.mul_le_mul l1 (by omega)
  refine bound_sm (l := 0) (pu := pu) (c := dr * (b - a) + pu * 4096) (s := b - a) l2 l3 (by omega) h7.1 ?_ h7.2
  have : pu * 4096 ≤ pu * 90112 := Nat.mul_le_mul_left _ (by decide)
  omega
/-- Chart.fill finds the greatest closed table -/
theorem fill_m {σ : Mem} {dr pu ch L N w : Nat} {wd : Nat → Nat} (hN : 10 ≤ N) (hw : wfM σ) (hc : CS σ dr pu ch) (hW : WD σ w L wd) (hw27 : w ≠ 27 ∧ w + 1 ≠ 27 ∧ w ≠ 28 ∧ w + 1 ≠ 28 ∧ w ≠ 29 ∧ w + 1 ≠ 29) :
    ∃ τ X, f_X0_fill N w σ = some τ ∧ (∀ k, k ≠ 27 → k ≠ 28 → k ≠ 29 → τ k = σ k) ∧ τ 27 = (st σ 27 2 (w : Int)) 27 ∧ leastT dr L (ltV wd dr pu ch) (rcC σ) (rlC σ) (rsC σ) X ∧
      (∀ s a b, s < 10 → a ≤ b → b ≤ L → τ 28 (s * 49 + a * 7 + b) = enc (onev (ltV wd dr pu ch) X s a b) ∧ sm (onev (ltV wd dr pu ch) X s a b)) ∧
      ∀ n a b, n < 6 → a ≤ b → b ≤ L → cB (dr * (b - a) + pu * 4096) (X n a b) ∧ len_ok pu (b - a) (X n a b) := by
  obtain ⟨c1, c2, c3, c4, c5, c6, c7, c8, c9⟩ := id hc
  obtain ⟨k1, k2, k3, k4, k5, k6⟩ := hw27
  have hL := hW.2.2.1
  generalize hs1 : st σ 27 2 (w : Int) = σ1
  have e1 : ∀ k, k ≠ 27 → σ1 k = σ k := fun k hk => by rw [← hs1]; exact st_other σ _ hk
  have hg1 : EqG σ σ1 := ⟨e1 3 (by decide), e1 4 (by decide), e1 5 (by decide), e1 6 (by decide), e1 12 (by decide)⟩
  have hw1 := EqG_wf hg1 hw
  obtain ⟨σ2, q1, q2, q3⟩ := findUsers_m (N := N) hw1 hN
  have h39 := ltW hW.1
  have hWC2 : WC σ2 w L wd := by
    refine ⟨?_, h39, WD_eq hW ?_ ?_, k3, k4⟩
    · rw [q2 27 (by decide), ← hs1, st_eq]
    · rw [q2 w k5, e1 w k1]
    · rw [q2 _ k6, e1 _ k2]
  have hCS2 : CS σ2 dr pu ch := CS_eq hc (by rw [q2 12 (by decide), e1 12 (by decide)])
  obtain ⟨σ3, r1, r2, r3⟩ := fillLetters_m (N := N) hN hWC2 hCS2
  have hl : LT dr pu L (ltV wd dr pu ch) := ltV_LT c5 c7 c6 hL
  have hF0 : FI σ1 σ3 dr pu L (ltV wd dr pu ch) (fun _ _ _ => TT) (Dk L 0 0) := by
    refine ⟨⟨?_, ?_, ?_, ?_, ?_⟩, fun m hm => ?_, fun _ _ _ _ _ _ => Or.inl rfl, r3, fun n a b _ ⟨_, _, h⟩ => by omega, fun n r q a b _ _ _ _ ⟨_, _, h⟩ => by omega, fun n a b _ ⟨_, _, h⟩ => by omega, fun n r a b _ _ ⟨_, _, h⟩ => by omega, fun Y _ _ n a b _ ⟨_, _, h⟩ => by omega, fun ⟨_, _, h⟩ => by omega, fun n a _ ⟨_, _, h⟩ => by omega, fun n a b _ ⟨_, _, h⟩ => by omega⟩
    · rw [r2 3 (by decide), q2 3 (by decide)]
    · rw [r2 4 (by decide), q2 4 (by decide)]
    · rw [r2 5 (by decide), q2 5 (by decide)]
    · rw [r2 6 (by decide), q2 6 (by decide)]
    · rw [r2 12 (by decide), q2 12 (by decide)]
    · obtain ⟨u, u1, u2⟩ := q3 m hm
      exact ⟨u, by rw [r2 29 (by decide)]; exact u1, u2⟩
  obtain ⟨τ, X, t1, t2, t3⟩ := fill22 (w0 := w) hN hw1 (by rw [e1 12 (by decide)]; exact c1) hl (L + 1) 0 N σ3 _ (by omega) (by omega) (WC_eq hWC2 r2) hF0
  have hD : ∀ a b, a ≤ b → b ≤ L → Dk L (L + 1) 0 a b := fun a b h1 h2 => ⟨h1, h2, by omega⟩
  obtain ⟨f1, f2, f3, f4, f5, f6, f7, f8, f9, f10, f11, f12⟩ := id t3
  refine ⟨τ, X, ?_, fun k h1 h2 h3 => ?_, ?_, ⟨f3, fun n r i j hn hr h1 h2 => ?_, fun Y hY hYc n i j hn h1 h2 => ?_⟩, fun s a b hs h1 h2 => ?_, fun n a b hn h1 h2 => f7 n a b hn (hD a b h1 h2)⟩
  · have t1' : f_X0_fill_L22 N w N 0 σ3 = some τ := t1
    unfold f_X0_fill
    simp only [nm]
    rw [hs1, bV_ok q1, bV_ok r1, bV_ok t1']
  · rw [t2 k h2, r2 k h2, q2 k h3, e1 k h1]
  · rw [t2 27 (by decide), r2 27 (by decide), q2 27 (by decide)]
  · rw [← EqG_rcF hg1] at hr
    have := f8 n r i j hn hr (hD i j h1 h2)
    rw [EqG_rlF hg1, EqG_rsF hg1] at this
    exact this
  · refine f9 Y hY ?_ n i j hn (hD i j h1 h2)
    rw [EqG_rcF hg1, EqG_rlF hg1, EqG_rsF hg1]
    exact hYc
  · by_cases q : s < 4
    · have e : onev (ltV wd dr pu ch) X s a b = ltV wd dr pu ch s a b := if_pos q
      rw [e]
      exact ⟨f4 s a b q h1 h2, ltV_sm c5 c7 q h1 (by omega)⟩
    · have e : onev (ltV wd dr pu ch) X s a b = X (s - 4) a b := if_neg q
      have h5 := f5 (s - 4) a b (by omega) (hD a b h1 h2)
      rw [show 4 + (s - 4) = s by omega] at h5
      rw [e]
      exact ⟨h5, FI_sm hl t3 (by omega) h1 h2 (hD a b h1 h2)⟩
