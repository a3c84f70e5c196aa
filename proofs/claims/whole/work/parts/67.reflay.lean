/-! layer 2, the reference's layMends: what holds all the time -/
/-- the reference's grammar -/
def GR (σ : Mem) (rc : Nat → Nat) (rl : Nat → Nat → Nat) (rs : Nat → Nat → Nat → Nat) : Prop := (∀ n, n < 6 → σ 2 n = (rc n : Int) ∧ rc n ≤ 5) ∧ (∀ n r, n < 6 → r < rc n → σ 3 (5 * n + r) = (rl n r : Int) ∧ rl n r ≤ 4) ∧ ∀ n r q, n < 6 → r < rc n → q < rl n r → σ 4 (4 * (5 * n + r) + q) = ((sgx (rs n r q) : Nat) : Int) ∧ rs n r q < 10
theorem GR_B {σ τ : Mem} {rc : Nat → Nat} {rl : Nat → Nat → Nat} {rs : Nat → Nat → Nat → Nat} (h : GR σ rc rl rs) (hb : eqB σ τ) : GR τ rc rl rs := by
  unfold GR
  rw [hb.1 2 (by decide) (by decide), hb.1 3 (by decide) (by decide), hb.1 4 (by decide) (by decide)]
  exact h
theorem RB_B {σ τ : Mem} {L dr pu ch : Nat} {wd : Nat → Nat} (h : RB σ L dr pu ch wd) (hr : eqB σ τ) : RB τ L dr pu ch wd := RB_eq h (hr.2 12 (by decide) (by decide) (by decide)) (hr.1 9 (by decide) (by decide)) (hr.1 8 (by decide) (by decide))
/-- a table above every closed one -/
def LM (σ : Mem) (L dr pu ch : Nat) (wd : Nat → Nat) (rc : Nat → Nat) (rl : Nat → Nat → Nat) (rs : Nat → Nat → Nat → Nat) (Y : Nat → Nat → Nat → Nat) : Prop :=
  RB σ L dr pu ch wd ∧ TB σ L Y ∧ okT L Y ∧ GR σ rc rl rs ∧ ∀ Z, okT L Z → closedT dr L (ltV wd dr pu ch) rc rl rs Z → ∀ n i j, n < 6 → i ≤ j → j ≤ L → Z n i j ≤ Y n i j
/-- the table after a rule is tried for a part -/
def nx (dr pu ch : Nat) (wd : Nat → Nat) (rl : Nat → Nat → Nat) (rs : Nat → Nat → Nat → Nat) (Y : Nat → Nat → Nat → Nat) (n r i j : Nat) : Nat → Nat → Nat → Nat := ud Y n i j (min (Y n i j) (rulev dr (onev (ltV wd dr pu ch) Y) (rl n r) (rs n r) i j))
theorem nx_le {dr pu ch : Nat} {wd : Nat → Nat} {rl : Nat → Nat → Nat} {rs : Nat → Nat → Nat → Nat} {Y : Nat → Nat → Nat → Nat} {n r i j : Nat} (m a b : Nat) : nx dr pu ch wd rl rs Y n r i j m a b ≤ Y m a b := by
  unfold nx ud
  split
  · next e => rw [e.1, e.2.1, e.2.2]; exact Nat.min_le_left _ _
  · exact Nat.le_refl _
theorem LM_step {σ : Mem} {L dr pu ch N : Nat} {wd : Nat → Nat} {rc : Nat → Nat} {rl : Nat → Nat → Nat} {rs : Nat → Nat → Nat → Nat} {Y : Nat → Nat → Nat → Nat} {n r i j : Nat} (hN : 40 ≤ N) (h : LM σ L dr pu ch wd rc rl rs Y) (hn : n < 6) (hr : r < rc n) (hij : i ≤ j) (hj : j ≤ L) :
    ∃ (b : Int) (τ : Mem), f_X12_better N (n : Int) (r : Int) (i : Int) (j : Int) σ = some (b, τ) ∧ eqB σ τ ∧ LM τ L dr pu ch wd rc rl rs (nx dr pu ch wd rl rs Y n r i j) ∧
      ((b = 1 ∧ nx dr pu ch wd rl rs Y n r i j n i j < Y n i j) ∨ (b = 0 ∧ Y n i j ≤ rulev dr (onev (ltV wd dr pu ch) Y) (rl n r) (rs n r) i j ∧ nx dr pu ch wd rl rs Y n r i j = Y)) := by
  obtain ⟨h1, h2, h3, h4, h5⟩ := h
  obtain ⟨r1, r2, r3, r4, r5, r6, r7, r8, r9, r10, r11, r12⟩ := id h1
  obtain ⟨g1, g2, g3⟩ := id h4
  have ho : okO L (onev (ltV wd dr pu ch) Y) := onev_ok (ltV_ok r8 r10 r9 r1) h3
  have hsg : ∀ q, q < rl n r → rs n r q < 10 := fun q hq => (g3 n r q hn hr hq).2
  have hrc := (g1 n hn).2
  obtain ⟨b, τ, k1, k2, k3, k4⟩ := better_m (N := N) (sg := rs n r) hN hn (by omega) hij hj (g2 n r hn hr).2 hsg h3 h1 h2 (g2 n r hn hr).1 (fun q hq => (g3 n r q hn hr hq).1)
  have hv := rulev_ok (len := rl n r) (sg := rs n r) r8 ho (by omega) hsg hij hj
  refine ⟨b, τ, k1, k2, ⟨RB_B h1 k2, k3, fun m a c hm hac hc => ?_, GR_B h4 k2, fun Z hZ hZc m a c hm hac hc => ?_⟩, ?_⟩
  · unfold nx ud
    split
    · next e =>
      rw [e.2.1, e.2.2]
      rcases Nat.le_total (Y n i j) (rulev dr (onev (ltV wd dr pu ch) Y) (rl n r) (rs n r) i j) with q | q
      · rw [Nat.min_eq_left q]; exact h3 n i j hn hij hj
      · rw [Nat.min_eq_right q]; exact hv
    · exact h3 m a c hm hac hc
  · unfold nx ud
    split
    · next e =>
      rw [e.1, e.2.1, e.2.2]
      refine Nat.le_min.mpr ⟨h5 Z hZ hZc n i j hn hij hj, Nat.le_trans (hZc n r i j hn hr hij hj) ?_⟩
      exact rulev_mono (L := L) (onev_ok (ltV_ok r8 r10 r9 r1) hZ) ho (by omega) (onev_mono (fun m a b hm _ hab hb => h5 Z hZ hZc m a b hm hab hb)) hsg hij hj
    · exact h5 Z hZ hZc m a c hm hac hc
  · rcases k4 with ⟨e, q⟩ | ⟨e, q⟩
    · refine Or.inl ⟨e, ?_⟩
      unfold nx ud
      rw [if_pos ⟨rfl, rfl, rfl⟩]
      omega
    · refine Or.inr ⟨e, q, ?_⟩
      funext m a c
      unfold nx ud
      split
      · next z => rw [z.1, z.2.1, z.2.2]; exact Nat.min_eq_left q
      · rfl
/-- the table's sum, which every better value lessens -/
def mu (Y : Nat → Nat → Nat → Nat) : Nat → Nat
  | 0 => 0
  | k + 1 => mu Y k + Y (k / 49) (k / 7 % 7) (k % 7)
theorem mu_le {Y Z : Nat → Nat → Nat → Nat} (h : ∀ n a b, Z n a b ≤ Y n a b) : ∀ k, mu Z k ≤ mu Y k
  | 0 => Nat.le_refl _
  | k + 1 => Nat.add_le_add (mu_le h k) (h _ _ _)
theorem mu_lt {Y Z : Nat → Nat → Nat → Nat} (h : ∀ n a b, Z n a b ≤ Y n a b) {n i j : Nat} (hi : i < 7) (hj : j < 7) (hlt : Z n i j < Y n i j) : ∀ k, 49 * n + 7 * i + j < k → mu Z k < mu Y k
  | k + 1, hk => by
    show mu Z k + Z (k / 49) (k / 7 % 7) (k % 7) < mu Y k + Y (k / 49) (k / 7 % 7) (k % 7)
    by_cases e : 49 * n + 7 * i + j = k
    · have e1 : k / 49 = n := by omega
      have e2 : k / 7 % 7 = i := by omega
      have e3 : k % 7 = j := by omega
      rw [e1, e2, e3]
      exact Nat.add_lt_add_of_le_of_lt (mu_le h k) hlt
    · exact Nat.add_lt_add_of_lt_of_le (mu_lt h hi hj hlt k (by omega)) (h _ _ _)
