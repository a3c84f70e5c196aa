/-! layer 2, Reach.endsBehind: whole -/
theorem ends5 {σ : Mem} {w L N s st0 : Nat} {wd : Nat → Nat} {F : Nat → Nat → Nat → Nat} (hN : 20 ≤ N) (hW : WC σ w L wd) (hF : HC σ L F) (hs : s < 10) (hst : st0 < 128) : ∀ (m a fuel u : Nat), a + m = L + 1 → m < fuel → u < 128 →
    ∃ u2 : Nat, f_X6_endsBehind_L5 N (st0 : Int) (s : Int) σ fuel (u : Int) (a : Int) = some (u2 : Int) ∧ u2 < 128 ∧ ∀ k, k < 7 → (u2.testBit k = true ↔ (u.testBit k = true ∨ ∃ b, a ≤ b ∧ st0.testBit b = true ∧ b ≤ k ∧ k ≤ L ∧ asis (F s b k))) := by
  have hL := hW.2.2.1.2.2.1
  intro m
  induction m with
  | zero =>
    intro a fuel u hb hf hu
    obtain ⟨f, rfl⟩ : ∃ f, fuel = f + 1 := ⟨fuel - 1, by omega⟩
    refine ⟨u, ?_, hu, fun k hk => ⟨Or.inl, fun z => z.elim id (fun ⟨b, z1, z2, z3, z4, z5⟩ => by omega)⟩⟩
    rw [f_X6_endsBehind_L5, bV_ok (X0_length_m hW), ifl_t (by omega) (by omega) (by omega)]
  | succ m ih =>
    intro a fuel u hb hf hu
    obtain ⟨f, rfl⟩ : ∃ f, fuel = f + 1 := ⟨fuel - 1, by omega⟩
    obtain ⟨u1, t1, t2, t3⟩ := ends21 (N := N) hW hF hs hst (by omega : a ≤ L) (L + 1 - a) a N u (by omega) (Nat.le_refl _) (by omega) hu
    obtain ⟨u2, v1, v2, v3⟩ := ih (a + 1) f u1 (by omega) (by omega) t2
    refine ⟨u2, ?_, v2, fun k hk => ?_⟩
    · rw [f_X6_endsBehind_L5, bV_ok (X0_length_m hW), ifl_f (by omega) (by omega) (by omega), bV_ok t1, nm_s]
      exact v1
    · rw [v3 k hk, t3 k hk]
      constructor
      · rintro ((y | ⟨y1, y2, y3, y4⟩) | ⟨b, z1, z2, z3, z4, z5⟩)
        · exact Or.inl y
        · exact Or.inr ⟨a, Nat.le_refl _, y1, y2, y3, y4⟩
        · exact Or.inr ⟨b, by omega, z2, z3, z4, z5⟩
      · rintro (y | ⟨b, z1, z2, z3, z4, z5⟩)
        · exact Or.inl (Or.inl y)
        · by_cases e : b = a
          · rw [e] at z2 z3 z5; exact Or.inl (Or.inr ⟨z2, z3, z4, z5⟩)
          · exact Or.inr ⟨b, by omega, z2, z3, z4, z5⟩
theorem endsBehind_m {σ : Mem} {w L N s st0 : Nat} {wd : Nat → Nat} {F : Nat → Nat → Nat → Nat} (hN : 20 ≤ N) (hW : WC σ w L wd) (hF : HC σ L F) (hs : s < 10) (hst : st0 < 128) :
    ∃ u2 : Nat, f_X6_endsBehind N (st0 : Int) (s : Int) σ = some (u2 : Int) ∧ u2 < 128 ∧ ∀ k, k < 7 → (u2.testBit k = true ↔ ∃ b, st0.testBit b = true ∧ b ≤ k ∧ k ≤ L ∧ asis (F s b k)) := by
  have hL := hW.2.2.1.2.2.1
  obtain ⟨u2, v1, v2, v3⟩ := ends5 (N := N) hN hW hF hs hst (L + 1) 0 N 0 (by omega) (by omega) (by decide)
  refine ⟨u2, ?_, v2, fun k hk => ?_⟩
  · unfold f_X6_endsBehind
    have v1' : f_X6_endsBehind_L5 N (st0 : Int) (s : Int) σ N 0 0 = some (u2 : Int) := v1
    rw [bV_ok v1']
  · rw [v3 k hk]
    constructor
    · rintro (y | ⟨b, z1, z2⟩)
      · rw [Nat.zero_testBit] at y; cases y
      · exact ⟨b, z2⟩
    · rintro ⟨b, z2⟩
      exact Or.inr ⟨b, Nat.zero_le _, z2⟩
