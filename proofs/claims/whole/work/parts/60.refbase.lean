/-! layer 2, the reference's values: cost, length, text apart -/
def R3 (c l t : Int) (v : Nat) : Prop := (v = TT ∧ 100000000 ≤ c ∧ c ≤ 200000000) ∨ (v ≠ TT ∧ Cv v < 100000000 ∧ c = (Cv v : Int) ∧ l = (Lv v : Int) ∧ t = (Tv v : Int))
theorem R3_TT {c l t : Int} {v : Nat} (h : R3 c l t v) : 100000000 ≤ c ↔ v = TT := by
  rcases h with ⟨h1, h2, h3⟩ | ⟨h1, h2, h3, h4, h5⟩
  · exact ⟨fun _ => h1, fun _ => h2⟩
  · exact ⟨fun z => by omega, fun z => absurd z h1⟩
theorem R3_rng {c l t : Int} {v : Nat} (h : R3 c l t v) : 0 ≤ c ∧ c ≤ 200000000 := by
  rcases h with ⟨h1, h2, h3⟩ | ⟨h1, h2, h3, h4, h5⟩ <;> omega
theorem isBetter_01 (c l t c2 l2 t2 : Int) : ∃ b : Int, f_X12_isBetter c l t c2 l2 t2 = some b ∧ (b = 0 ∨ b = 1) := by
  unfold f_X12_isBetter
  split
  · split
    · split
      · exact ⟨0, rfl, Or.inl rfl⟩
      · split
        · exact ⟨0, rfl, Or.inl rfl⟩
        · exact ⟨1, rfl, Or.inr rfl⟩
    · split
      · exact ⟨0, rfl, Or.inl rfl⟩
      · exact ⟨1, rfl, Or.inr rfl⟩
  · split
    · exact ⟨0, rfl, Or.inl rfl⟩
    · exact ⟨1, rfl, Or.inr rfl⟩
/-- the reference's comparison is the values' order -/
theorem isBetter_m {c l t c2 l2 t2 : Int} {v w s s2 : Nat} (h : R3 c l t v) (h2 : R3 c2 l2 t2 w) (ov : ok s v) (ow : ok s2 w) (hs : s ≤ 100) (hs2 : s2 ≤ 100) : ∃ b : Int, f_X12_isBetter c l t c2 l2 t2 = some b ∧ (b = 0 ∨ b = 1) ∧ (v ≠ TT → (b = 1 ↔ v < w)) ∧ (v = TT → w ≠ TT → b = 0) := by
  have r1 := R3_rng h
  have r2 := R3_rng h2
  rcases h with ⟨a1, a2, a3⟩ | ⟨a1, a2, a3, a4, a5⟩
  · rcases h2 with ⟨b1, b2, b3⟩ | ⟨b1, b2, b3, b4, b5⟩
    · obtain ⟨b, k1, k2⟩ := isBetter_01 c l t c2 l2 t2
      exact ⟨b, k1, k2, fun z => absurd a1 z, fun _ z => absurd b1 z⟩
    · refine ⟨0, ?_, Or.inl rfl, fun z => absurd a1 z, fun _ _ => rfl⟩
      unfold f_X12_isBetter
      rw [ife_f (by omega) (by omega) (by omega) (by omega) (by omega), ifle_t (by omega) (by omega) (by omega)]
  · have o1 := ok_lt ov a1
    rcases h2 with ⟨b1, b2, b3⟩ | ⟨b1, b2, b3, b4, b5⟩
    · refine ⟨1, ?_, Or.inr rfl, fun _ => ⟨fun _ => ?_, fun _ => rfl⟩, fun z => absurd z a1⟩
      · unfold f_X12_isBetter
        rw [ife_f (by omega) (by omega) (by omega) (by omega) (by omega), ifle_f (by omega) (by omega) (by omega)]
      · have := ok_le ov
        omega
    · have o2 := ok_lt ow b1
      subst a3; subst a4; subst a5; subst b3; subst b4; subst b5
      have hlt : v < w ↔ ¬ w ≤ v := by omega
      have hle := v_le w v
      have hl1 := Lv_lt v
      have t1 := Tv_lt v
      have t2 := Tv_lt w
      unfold f_X12_isBetter
      by_cases q : Cv v = Cv w
      · by_cases q2 : Lv v = Lv w
        · by_cases q3 : 12 < Lv v
          · refine ⟨0, ?_, Or.inl rfl, fun _ => ⟨fun z => by omega, fun z => ?_⟩, fun z => absurd z a1⟩
            · rw [ife_t (by omega), ife_t (by omega), ifl_t (by omega) (by omega) (by omega)]
            · have e1 := o1.2.2.2 q3
              have e2 := o2.2.2.2 (by omega)
              rw [hlt, hle] at z
              omega
          · by_cases q4 : Tv w ≤ Tv v
            · refine ⟨0, ?_, Or.inl rfl, fun _ => ⟨fun z => by omega, fun z => ?_⟩, fun z => absurd z a1⟩
              · rw [ife_t (by omega), ife_t (by omega), ifl_f (by omega) (by omega) (by omega), ifle_t (by omega) (by omega) (by omega)]
              · rw [hlt, hle] at z
                omega
            · refine ⟨1, ?_, Or.inr rfl, fun _ => ⟨fun z => ?_, fun z => rfl⟩, fun z => absurd z a1⟩
              · rw [ife_t (by omega), ife_t (by omega), ifl_f (by omega) (by omega) (by omega), ifle_f (by omega) (by omega) (by omega)]
              · rw [hlt, hle]
                omega
        · by_cases q4 : Lv w ≤ Lv v
          · refine ⟨0, ?_, Or.inl rfl, fun _ => ⟨fun z => by omega, fun z => ?_⟩, fun z => absurd z a1⟩
            · rw [ife_t (by omega), ife_f (by omega) (by omega) (by omega) (by omega) (by omega), ifle_t (by omega) (by omega) (by omega)]
            · rw [hlt, hle] at z
              omega
          · refine ⟨1, ?_, Or.inr rfl, fun _ => ⟨fun z => ?_, fun z => rfl⟩, fun z => absurd z a1⟩
            · rw [ife_t (by omega), ife_f (by omega) (by omega) (by omega) (by omega) (by omega), ifle_f (by omega) (by omega) (by omega)]
            · rw [hlt, hle]
              omega
      · by_cases q4 : Cv w ≤ Cv v
        · refine ⟨0, ?_, Or.inl rfl, fun _ => ⟨fun z => by omega, fun z => ?_⟩, fun z => absurd z a1⟩
          · rw [ife_f (by omega) (by omega) (by omega) (by omega) (by omega), ifle_t (by omega) (by omega) (by omega)]
          · rw [hlt, hle] at z
            omega
        · refine ⟨1, ?_, Or.inr rfl, fun _ => ⟨fun z => ?_, fun z => rfl⟩, fun z => absurd z a1⟩
          · rw [ife_f (by omega) (by omega) (by omega) (by omega) (by omega), ifle_f (by omega) (by omega) (by omega)]
          · rw [hlt, hle]
            omega
