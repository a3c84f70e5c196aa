/-! layer 2: grammars that agree have one table -/
def sameG (rc rc2 : Nat → Nat) (rl rl2 : Nat → Nat → Nat) (rs rs2 : Nat → Nat → Nat → Nat) : Prop := (∀ n, n < 6 → rc n = rc2 n) ∧ (∀ n r, n < 6 → r < rc n → rl n r = rl2 n r) ∧ ∀ n r p, n < 6 → r < rc n → p < rl n r → rs n r p = rs2 n r p
theorem closedT_cong {dr L : Nat} {lt : Nat → Nat → Nat → Nat} {rc rc2 : Nat → Nat} {rl rl2 : Nat → Nat → Nat} {rs rs2 : Nat → Nat → Nat → Nat} (h : sameG rc rc2 rl rl2 rs rs2) {X : Nat → Nat → Nat → Nat} : closedT dr L lt rc rl rs X ↔ closedT dr L lt rc2 rl2 rs2 X := by
  obtain ⟨h1, h2, h3⟩ := h
  have e : ∀ n r i j, n < 6 → r < rc n → rulev dr (onev lt X) (rl n r) (rs n r) i j = rulev dr (onev lt X) (rl2 n r) (rs2 n r) i j := fun n r i j hn hr => by
    rw [← h2 n r hn hr]
    refine rulev_cong (fun q hq => h3 n r q hn hr hq) (fun q a c hq _ _ _ => rfl)
  constructor
  · intro h n r i j hn hr hij hj
    rw [← h1 n hn] at hr
    rw [← e n r i j hn hr]
    exact h n r i j hn hr hij hj
  · intro h n r i j hn hr hij hj
    rw [e n r i j hn hr]
    exact h n r i j hn (by rw [← h1 n hn]; exact hr) hij hj
theorem leastT_cong {dr L : Nat} {lt : Nat → Nat → Nat → Nat} {rc rc2 : Nat → Nat} {rl rl2 : Nat → Nat → Nat} {rs rs2 : Nat → Nat → Nat → Nat} (h : sameG rc rc2 rl rl2 rs rs2) {X : Nat → Nat → Nat → Nat} (hX : leastT dr L lt rc rl rs X) : leastT dr L lt rc2 rl2 rs2 X :=
  ⟨hX.1, (closedT_cong h).mp hX.2.1, fun Y hY hc => hX.2.2 Y hY ((closedT_cong h).mpr hc)⟩
/-- the class's chart and the reference's table -/
theorem one_table {σ σ2 : Mem} {dr pu ch L N w : Nat} {wd : Nat → Nat} {rc : Nat → Nat} {rl : Nat → Nat → Nat} {rs : Nat → Nat → Nat → Nat} (hN : 300 ≤ N) (hN2 : mu (fun _ _ _ => TT) 294 + 2 ≤ N) (hw : wfM σ) (hc : CS σ dr pu ch) (hW : WD σ w L wd) (hw27 : w ≠ 27 ∧ w + 1 ≠ 27 ∧ w ≠ 28 ∧ w + 1 ≠ 28 ∧ w ≠ 29 ∧ w + 1 ≠ 29)
    (hR : RB σ2 L dr pu ch wd) (hG : GR σ2 rc rl rs) (hs : sameG (rcC σ) rc (rlC σ) rl (rsC σ) rs) :
    ∃ (τ τ2 : Mem) (X : Nat → Nat → Nat → Nat), f_X0_fill N w σ = some τ ∧ f_X12_layMends N σ2 = some τ2 ∧ (∀ k, k ≠ 27 → k ≠ 28 → k ≠ 29 → τ k = σ k) ∧ τ 27 = (st σ 27 2 (w : Int)) 27 ∧ eqB σ2 τ2 ∧
      (∀ s a b, s < 10 → a ≤ b → b ≤ L → τ 28 (s * 49 + a * 7 + b) = enc (onev (ltV wd dr pu ch) X s a b) ∧ sm (onev (ltV wd dr pu ch) X s a b)) ∧ TB τ2 L X ∧ okT L X ∧
      ∀ n a b, n < 6 → a ≤ b → b ≤ L → cB (dr * (b - a) + pu * 4096) (X n a b) ∧ len_ok pu (b - a) (X n a b) := by
  obtain ⟨τ, X, t1, t2, t3, t4, t5, t6⟩ := fill_m (N := N) (by omega) hw hc hW hw27
  obtain ⟨τ2, Z, u1, u2, u3, u4⟩ := layMends_m hN hN2 hR hG
  have he := leastT_uniq (leastT_cong hs t4) u4
  refine ⟨τ, τ2, X, t1, u1, t2, t3, u2, t5, fun n a b hn hab hb => ?_, t4.1, t6⟩
  rw [he n a b hn hab hb]
  exact u3 n a b hn hab hb
