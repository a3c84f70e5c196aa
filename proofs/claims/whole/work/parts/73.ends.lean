/-! layer 2, Reach.endsBehind -/
theorem mask7 : ∀ m : Nat, m < 128 → ∀ y : Nat, y < 7 → iOr (m : Int) (iShl 1 (y : Int)) = ((m ||| 2 ^ y : Nat) : Int) ∧ m ||| 2 ^ y < 128 := by decide +kernel
theorem mask7_bit : ∀ m : Nat, m < 128 → ∀ y : Nat, y < 7 → ∀ k : Nat, k < 7 → ((m ||| 2 ^ y).testBit k = (m.testBit k || decide (y = k))) := by decide +kernel
/-- the chart's values in the memory -/
def HC (σ : Mem) (L : Nat) (F : Nat → Nat → Nat → Nat) : Prop := ∀ s a b, s < 10 → a ≤ b → b ≤ L → σ 28 (s * 49 + a * 7 + b) = enc (F s a b) ∧ sm (F s a b)
theorem ends21 {σ : Mem} {w L N s a st0 : Nat} {wd : Nat → Nat} {F : Nat → Nat → Nat → Nat} (hW : WC σ w L wd) (hF : HC σ L F) (hs : s < 10) (hst : st0 < 128) (ha : a ≤ L) : ∀ (m b fuel u : Nat), b + m = L + 1 → a ≤ b → m < fuel → u < 128 →
    ∃ u2 : Nat, f_X6_endsBehind_L21 N (st0 : Int) (s : Int) (a : Int) σ fuel (u : Int) (b : Int) = some (u2 : Int) ∧ u2 < 128 ∧ ∀ k, k < 7 → (u2.testBit k = true ↔ (u.testBit k = true ∨ (st0.testBit a = true ∧ b ≤ k ∧ k ≤ L ∧ asis (F s a k)))) := by
  have hL := hW.2.2.1.2.2.1
  have hbit := bit_test st0 a (by omega) (by omega)
  intro m
  induction m with
  | zero =>
    intro b fuel u hb hab hf hu
    obtain ⟨f, rfl⟩ : ∃ f, fuel = f + 1 := ⟨fuel - 1, by omega⟩
    refine ⟨u, ?_, hu, fun k hk => ⟨Or.inl, fun z => z.elim id (fun z => by omega)⟩⟩
    rw [f_X6_endsBehind_L21]
    by_cases q : zI (iAnd (iShr (st0 : Int) (a : Int)) 1) = zI 0
    · rw [if_pos q]
    · rw [if_neg q, bV_ok (X0_length_m hW), ifl_t (by omega) (by omega) (by omega)]
  | succ m ih =>
    intro b fuel u hb hab hf hu
    obtain ⟨f, rfl⟩ : ∃ f, fuel = f + 1 := ⟨fuel - 1, by omega⟩
    rw [f_X6_endsBehind_L21]
    by_cases q : zI (iAnd (iShr (st0 : Int) (a : Int)) 1) = zI 0
    · refine ⟨u, by rw [if_pos q], hu, fun k hk => ⟨Or.inl, fun z => z.elim id (fun z => ?_)⟩⟩
      rw [hbit.mp q] at z
      exact absurd z.1 (by decide)
    · have hb1 : st0.testBit a = true := by
        cases e : st0.testBit a with
        | true => rfl
        | false => exact absurd (hbit.mpr e) q
      have hc := hF s a b hs hab (by omega)
      have : Decidable (asis (F s a b)) := Classical.propDecidable _
      have hv := fitsAsItIs_m (by omega : s < 60) (by omega) (by omega) hc.1 hc.2
      by_cases z : asis (F s a b)
      · rw [if_pos z] at hv
        obtain ⟨m1, m2⟩ := mask7 u hu b (by omega)
        obtain ⟨u2, v1, v2, v3⟩ := ih (b + 1) f (u ||| 2 ^ b) (by omega) (by omega) (by omega) m2
        refine ⟨u2, ?_, v2, fun k hk => ?_⟩
        · rw [if_neg q, bV_ok (X0_length_m hW), ifl_f (by omega) (by omega) (by omega), bV_ok hv, if_neg (by decide), nm_s, bV_s, nm_s, m1]
          exact v1
        · rw [v3 k hk, mask7_bit u hu b (by omega) k hk, Bool.or_eq_true, decide_eq_true_eq]
          constructor
          · rintro ((y | y) | ⟨y1, y2, y3, y4⟩)
            · exact Or.inl y
            · rw [← y]; exact Or.inr ⟨hb1, Nat.le_refl _, by omega, z⟩
            · exact Or.inr ⟨y1, by omega, y3, y4⟩
          · rintro (y | ⟨y1, y2, y3, y4⟩)
            · exact Or.inl (Or.inl y)
            · by_cases e : b = k
              · exact Or.inl (Or.inr e)
              · exact Or.inr ⟨y1, by omega, y3, y4⟩
      · rw [if_neg z] at hv
        obtain ⟨u2, v1, v2, v3⟩ := ih (b + 1) f u (by omega) (by omega) (by omega) hu
        refine ⟨u2, ?_, v2, fun k hk => ?_⟩
        · rw [if_neg q, bV_ok (X0_length_m hW), ifl_f (by omega) (by omega) (by omega), bV_ok hv, if_pos rfl, bV_s, nm_s]
          exact v1
        · rw [v3 k hk]
          constructor
          · rintro (y | ⟨y1, y2, y3, y4⟩)
            · exact Or.inl y
            · exact Or.inr ⟨y1, by omega, y3, y4⟩
          · rintro (y | ⟨y1, y2, y3, y4⟩)
            · exact Or.inl y
            · by_cases e : k = b
              · rw [e] at y4; exact absurd y4 z
              · exact Or.inr ⟨y1, by omega, y3, y4⟩
