/-! layer 2, Chart.fill: what holds when the parts D are settled -/
def FI (σ0 σ : Mem) (dr pu L : Nat) (lt X : Nat → Nat → Nat → Nat) (D : Nat → Nat → Prop) : Prop :=
  EqG σ0 σ ∧ US σ0 σ ∧ okT L X ∧
  (∀ s a b, s < 4 → a ≤ b → b ≤ L → σ 28 (s * 49 + a * 7 + b) = enc (lt s a b)) ∧
  (∀ n a b, n < 6 → D a b → σ 28 ((4 + n) * 49 + a * 7 + b) = enc (X n a b)) ∧
  (∀ n r q a b, n < 6 → r < rcC σ0 n → 1 ≤ q → q + 1 < rlC σ0 n r → D a b → σ 28 ((10 + slC σ0 n r * 2 + q - 1) * 49 + a * 7 + b) = enc (rowv (onev lt X) (rsC σ0 n r) a (q + 1) b)) ∧
  (∀ n a b, n < 6 → D a b → cB (dr * (b - a) + pu * 4096) (X n a b) ∧ len_ok pu (b - a) (X n a b)) ∧
  (∀ n r a b, n < 6 → r < rcC σ0 n → D a b → X n a b ≤ rulev dr (onev lt X) (rlC σ0 n r) (rsC σ0 n r) a b) ∧
  (∀ Y, okT L Y → closedT dr L lt (rcC σ0) (rlC σ0) (rsC σ0) Y → ∀ n a b, n < 6 → D a b → Y n a b ≤ X n a b) ∧
  (D 0 0 → ∀ y, goodV 0 0 y → (∀ n, n < 6 → y n ≤ RVr dr lt (rcC σ0) (rlC σ0) (rsC σ0) X 0 0 y n) → ∀ n, n < 6 → y n ≤ X n 0 0) ∧
  (∀ n a, n < 6 → D a a → X n a a = X n 0 0) ∧
  (∀ n a b, n < 6 → D a b → X n 0 0 = TT → X n a b = TT)
/-- letters' values that a part's settling relies on -/
def LT (dr pu L : Nat) (lt : Nat → Nat → Nat → Nat) : Prop := dr ≤ 9 ∧ 1 ≤ pu ∧ pu ≤ 9 ∧ L ≤ 6 ∧ okL L lt ∧
  (∀ s a b, s < 4 → a ≤ b → b ≤ L → cB (dr * (b - a) + pu) (lt s a b) ∧ len_ok pu (b - a) (lt s a b)) ∧
  (∀ s a, s < 4 → a ≤ L → lt s a a = lt s 0 0 ∧ Cv (lt s a a) = pu) ∧ (∀ s a b, s < 4 → a ≤ b → b ≤ L → Cv (lt s a b) ≤ dr * (b - a) + pu)
theorem ltV_LT {wd : Nat → Nat} {dr pu ch L : Nat} (hd : dr ≤ 9) (hp : pu ≤ 9) (hp1 : 1 ≤ pu) (hL : L ≤ 6) : LT dr pu L (ltV wd dr pu ch) := by
  refine ⟨hd, hp1, hp, hL, ltV_ok hd hp hp1 hL, ltV_G hd hp hp1 hL, fun s a hs ha => ⟨?_, ?_⟩, fun s a b hs hab hb => ?_⟩
  · unfold ltV lcost
    rw [if_pos rfl, if_pos rfl]
  · rw [(ltV_fld hs).1]
    unfold lcost
    rw [if_pos rfl]
  · rw [(ltV_fld hs).1]
    exact (lcost_le hd hp hab (by omega)).1
theorem Xw_at {X : Nat → Nat → Nat → Nat} {i j n : Nat} {vec : Nat → Nat} : Xw X i j vec n i j = vec n := if_pos ⟨rfl, rfl⟩
theorem Xw_off {X : Nat → Nat → Nat → Nat} {i j n a b : Nat} {vec : Nat → Nat} (h : ¬ (a = i ∧ b = j)) : Xw X i j vec n a b = X n a b := if_neg h
theorem Xw_Xw {X : Nat → Nat → Nat → Nat} {i j : Nat} {vec y : Nat → Nat} : Xw (Xw X i j vec) i j y = Xw X i j y := by
  funext n a b
  unfold Xw
  split <;> rfl
theorem onev_cong {lt X Y : Nat → Nat → Nat → Nat} {s a b : Nat} (h : 4 ≤ s → X (s - 4) a b = Y (s - 4) a b) : onev lt X s a b = onev lt Y s a b := by
  unfold onev
  split
  · rfl
  · exact h (by omega)
theorem rowE_cong {E F sg : Nat → Nat} : ∀ {p : Nat}, (∀ q, q < p → E (sg q) = F (sg q)) → rowE E sg p = rowE F sg p
  | 0, _ => rfl
  | p + 1, h => by
    unfold rowE
    rw [rowE_cong (fun q hq => h q (by omega)), h p (by omega)]
theorem mnk_cong {f g : Nat → Nat} {k : Nat} (h : ∀ r, r < k → f r = g r) : mnk f k = mnk g k :=
  Nat.le_antisymm (le_mnk (mnk_TT _ _) (fun r hr => Nat.le_trans (mnk_le hr) (Nat.le_of_eq (h r hr)))) (le_mnk (mnk_TT _ _) (fun r hr => Nat.le_trans (mnk_le hr) (Nat.le_of_eq (h r hr).symm)))
/-- the empty part's equations are the same everywhere -/
theorem RVr_diag {dr pu L i : Nat} {lt X Z : Nat → Nat → Nat → Nat} {rc : Nat → Nat} {rl : Nat → Nat → Nat} {rs : Nat → Nat → Nat → Nat} {y : Nat → Nat} (hl : LT dr pu L lt) (hX : okT L X) (hZ : okT L Z) (hG : wfG rc rl rs) (hi : i ≤ L) (hy : goodV 0 0 y) {n : Nat} (hn : n < 6) : RVr dr lt rc rl rs X i i y n = RVr dr lt rc rl rs Z 0 0 y n := by
  have hy2 : goodV i i y := fun m hm => by
    have := hy m hm
    rw [Nat.sub_self] at this ⊢
    exact this
  have o1 : okO L (onev lt (Xw X i i y)) := onev_ok hl.2.2.2.2.1 (Xw_ok hX hy2)
  have o2 : okO L (onev lt (Xw Z 0 0 y)) := onev_ok hl.2.2.2.2.1 (Xw_ok hZ hy)
  have hL := hl.2.2.2.1
  unfold RVr
  refine mnk_cong (fun r hr => ?_)
  have hsg : ∀ q, q < rl n r → rs n r q < 10 := fun q hq => hG n r q hn hr hq
  unfold rulev
  split
  · rw [Nat.sub_self, Nat.sub_self]
  · rw [rowv_ii o1 (by omega) hi hsg, rowv_ii o2 (by omega) (Nat.zero_le _) hsg]
    refine rowE_cong (fun q hq => ?_)
    show onev lt (Xw X i i y) (rs n r q) i i = onev lt (Xw Z 0 0 y) (rs n r q) 0 0
    unfold onev
    split
    · next h4 => exact (hl.2.2.2.2.2.2.1 _ i h4 hi).1
    · rw [Xw_at, Xw_at]
theorem Given_of {σ0 σ : Mem} {dr pu L i j : Nat} {lt X : Nat → Nat → Nat → Nat} {D : Nat → Nat → Prop} (hw : wfM σ0) (hl : LT dr pu L lt) (hF : FI σ0 σ dr pu L lt X D) (hij : i ≤ j) (hj : j ≤ L) (hsub : ∀ a b, i ≤ a → a ≤ b → b ≤ j → ¬ (a = i ∧ b = j) → D a b) : Given dr pu L lt (rcC σ0) (rlC σ0) (rsC σ0) X i j := by
  obtain ⟨l1, l2, l3, l4, l5, l6, l7, l8⟩ := hl
  obtain ⟨f1, f2, f3, f4, f5, f6, f7, f8, f9, f10, f11, f12⟩ := hF
  exact ⟨l1, l2, l3, l4, hij, hj, l5, f3, wfC_G hw, fun n r hn hr => rlC_le hw hn, l6, fun n a b hn h1 h2 h3 h4 => f7 n a b hn (hsub a b h1 h2 h3 h4)⟩
theorem PreT_of {σ0 σ : Mem} {dr pu L i j : Nat} {lt X : Nat → Nat → Nat → Nat} {D : Nat → Nat → Prop} (hF : FI σ0 σ dr pu L lt X D) (hij : i ≤ j) (hj : j ≤ L) (hsub : ∀ a b, i ≤ a → a ≤ b → b ≤ j → ¬ (a = i ∧ b = j) → D a b) : PreT σ0 σ lt X i j := by
  obtain ⟨f1, f2, f3, f4, f5, f6, f7, f8, f9, f10, f11, f12⟩ := hF
  refine ⟨f1, fun s a b hs h1 h2 h3 h4 => ?_, fun n r q b hn hr h1 h2 h3 h4 => f6 n r q i b hn hr h1 h2 (hsub i b (Nat.le_refl _) h3 (by omega) (by omega)), f2⟩
  by_cases q : s < 4
  · have e : onev lt X s a b = lt s a b := if_pos q
    rw [e]; exact f4 s a b q h2 (by omega)
  · have e : onev lt X s a b = X (s - 4) a b := if_neg q
    have := f5 (s - 4) a b (by omega) (hsub a b h1 h2 h3 (fun z => h4 ⟨by omega, z⟩))
    rw [show 4 + (s - 4) = s by omega] at this
    rw [e]; exact this
