/-! layer 2, the reference's beginsRule -/
/-- what the reference's memory gives for beginnings -/
def RF2 (σ : Mem) (L dr pu ch : Nat) (wd : Nat → Nat) (X : Nat → Nat → Nat → Nat) (rc : Nat → Nat) (rl : Nat → Nat → Nat) (rs : Nat → Nat → Nat → Nat) : Prop :=
  RB σ L dr pu ch wd ∧ GR σ rc rl rs ∧ TB σ L X ∧ KXb wd L (rA (ltV wd dr pu ch) X) (fun s => onev (ltV wd dr pu ch) X s 0 0 ≠ TT) rc rl rs
/-- the table of beginnings in the memory -/
def Pm (σ : Mem) (n a b : Nat) : Prop := σ 16 (49 * n + 7 * a + b) = 1
def BB (σ : Mem) : Prop := ∀ z, z < 294 → σ 16 z = 0 ∨ σ 16 z = 1
def off17 (σ0 σ : Mem) : Prop := ∀ k, k ≠ 17 → σ k = σ0 k
theorem off17_RF {σ0 σ : Mem} {L dr pu ch : Nat} {wd : Nat → Nat} {X : Nat → Nat → Nat → Nat} {rc : Nat → Nat} {rl : Nat → Nat → Nat} {rs : Nat → Nat → Nat → Nat} (h : ∀ k, k ≠ 16 → k ≠ 17 → σ k = σ0 k) (hR : RF2 σ0 L dr pu ch wd X rc rl rs) : RF2 σ L dr pu ch wd X rc rl rs := by
  obtain ⟨h1, h2, h3, h4⟩ := hR
  refine ⟨RB_eq h1 (by rw [h 0 (by decide) (by decide)]) (h 9 (by decide) (by decide)) (h 8 (by decide) (by decide)), ⟨?_, ?_, ?_⟩, fun n a b hn hab hb => ?_, h4⟩
  · rw [h 2 (by decide) (by decide)]; exact h2.1
  · rw [h 3 (by decide) (by decide)]; exact h2.2.1
  · rw [h 4 (by decide) (by decide)]; exact h2.2.2
  · rw [h 10 (by decide) (by decide), h 11 (by decide) (by decide), h 12 (by decide) (by decide)]; exact h3 n a b hn hab hb
theorem ltV_nTT {wd : Nat → Nat} {dr pu ch s a b : Nat} (hd : dr ≤ 9) (hp : pu ≤ 9) (hs : s < 4) (hab : a ≤ b) (hb : b ≤ 6) : ltV wd dr pu ch s a b ≠ TT := fun z => by
  have e1 := (ltV_fld (wd := wd) (dr := dr) (pu := pu) (ch := ch) (a := a) (b := b) hs).1
  have := (lcost_le (wd := wd) (ch := ch) (s := s) hd hp hab hb).2
  rw [z, C_TT] at e1
  omega
theorem comes_m {σ : Mem} {L dr pu ch s : Nat} {wd : Nat → Nat} {X : Nat → Nat → Nat → Nat} (hR : RB σ L dr pu ch wd) (hT : TB σ L X) (hs : s < 10) : ∃ v : Int, f_X12_comes ((sgx s : Nat) : Int) σ = some v ∧ ((v = 1 ∧ onev (ltV wd dr pu ch) X s 0 0 ≠ TT) ∨ (v = 0 ∧ ¬ onev (ltV wd dr pu ch) X s 0 0 ≠ TT)) := by
  obtain ⟨r1, r2, r3, r4, r5, r6, r7, r8, r9, r10, r11, r12⟩ := hR
  unfold f_X12_comes sgx onev
  by_cases h4 : s < 4
  · rw [if_pos h4, if_pos h4, ifl_t (by omega) (by omega) (by omega)]
    exact ⟨1, rfl, Or.inl ⟨rfl, ltV_nTT r8 r10 h4 (Nat.le_refl _) (by decide)⟩⟩
  · have hT1 := hT (s - 4) 0 0 (by omega) (Nat.le_refl _) (Nat.zero_le _)
    have e : (49 : Int) * (((s + 6 : Nat) : Int) - 10) = ((49 * (s - 4) + 7 * 0 + 0 : Nat) : Int) := by omega
    have hr := R3_rng hT1
    rw [if_neg h4, if_neg h4, ifl_f (by omega) (by omega) (by omega), e, gd_pos ⟨by omega, by omega⟩, Int.toNat_natCast]
    by_cases q : X (s - 4) 0 0 = TT
    · have := (R3_TT hT1).mpr q
      rw [ifle_t this (by omega) (by omega)]
      exact ⟨0, rfl, Or.inr ⟨rfl, fun z => z q⟩⟩
    · have : ¬ _ := fun z => q ((R3_TT hT1).mp z)
      rw [ifle_f (by omega) (by omega) (by omega)]
      exact ⟨1, rfl, Or.inl ⟨rfl, q⟩⟩
theorem R3_zero {c l t : Int} {v : Nat} (h : R3 c l t v) : c = 0 ↔ asis v := by
  unfold asis
  rcases h with ⟨h1, h2, h3⟩ | ⟨h1, h2, h3, h4⟩
  · constructor
    · intro z; omega
    · intro z; exact absurd h1 z.1
  · constructor
    · intro z; exact ⟨h1, by omega⟩
    · intro z; have := z.2; omega
theorem makes_m {σ : Mem} {L dr pu ch s a b : Nat} {wd : Nat → Nat} {X : Nat → Nat → Nat → Nat} (hR : RB σ L dr pu ch wd) (hT : TB σ L X) (hs : s < 10) (hab : a ≤ b) (hb : b ≤ L) : ∃ v : Int, f_X12_makes ((sgx s : Nat) : Int) (a : Int) (b : Int) σ = some v ∧ ((v = 1 ∧ rA (ltV wd dr pu ch) X s a b) ∨ (v = 0 ∧ ¬ rA (ltV wd dr pu ch) X s a b)) := by
  obtain ⟨r1, r2, r3, r4, r5, r6, r7, r8, r9, r10, r11, r12⟩ := hR
  unfold f_X12_makes sgx rA onev
  by_cases h4 : s < 4
  · rw [if_pos h4, if_pos h4, ifl_t (by omega) (by omega) (by omega), ltV_asis r7 r9 r11 h4 hab]
    by_cases q : b = a + 1
    · obtain ⟨w1, w2⟩ := r3 a (by omega)
      rw [ife_t (by omega), gd_pos ⟨by omega, by omega⟩, Int.toNat_natCast, w1]
      by_cases q2 : wd a = s
      · rw [ife_t (by omega)]
        exact ⟨1, rfl, Or.inl ⟨rfl, q, q2⟩⟩
      · rw [ife_f (by omega) (by omega) (by omega) (by omega) (by omega)]
        exact ⟨0, rfl, Or.inr ⟨rfl, fun z => q2 z.2⟩⟩
    · rw [ife_f (by omega) (by omega) (by omega) (by omega) (by omega)]
      exact ⟨0, rfl, Or.inr ⟨rfl, fun z => q z.1⟩⟩
  · have hT1 := hT (s - 4) a b (by omega) hab hb
    have e : ((49 : Int) * (((s + 6 : Nat) : Int) - 10)) + 7 * (a : Int) + (b : Int) = ((49 * (s - 4) + 7 * a + b : Nat) : Int) := by omega
    have hr := R3_rng hT1
    rw [if_neg h4, if_neg h4, ifl_f (by omega) (by omega) (by omega), e, gd_pos ⟨by omega, by omega⟩, Int.toNat_natCast]
    by_cases q : asis (X (s - 4) a b)
    · rw [ife_t ((R3_zero hT1).mpr q)]
      exact ⟨1, rfl, Or.inl ⟨rfl, q⟩⟩
    · rw [ife_f (fun z => q ((R3_zero hT1).mp z)) (by omega) (by omega) (by omega) (by omega)]
      exact ⟨0, rfl, Or.inr ⟨rfl, q⟩⟩
theorem beginsOne_m {σ : Mem} {L dr pu ch s a b : Nat} {wd : Nat → Nat} (hR : RB σ L dr pu ch wd) (hB : BB σ) (hs : s < 10) (hab : a ≤ b) (hb : b ≤ L) : ∃ v : Int, f_X12_beginsOne ((sgx s : Nat) : Int) (a : Int) (b : Int) σ = some v ∧ ((v = 1 ∧ bOne wd L (Pm σ) s a b) ∨ (v = 0 ∧ ¬ bOne wd L (Pm σ) s a b)) := by
  obtain ⟨r1, r2, r3, r4, r5, r6, r7, r8, r9, r10, r11, r12⟩ := hR
  unfold f_X12_beginsOne sgx bOne
  by_cases h4 : s < 4
  · rw [if_pos h4, ifl_t (by omega) (by omega) (by omega)]
    by_cases q0 : b = a
    · rw [ife_t (by omega)]
      exact ⟨1, rfl, Or.inl ⟨rfl, Or.inl ⟨h4, Or.inl q0⟩⟩⟩
    · rw [ife_f (by omega) (by omega) (by omega) (by omega) (by omega)]
      by_cases q : b = a + 1
      · obtain ⟨w1, w2⟩ := r3 a (by omega)
        rw [ife_t (by omega), gd_pos ⟨by omega, by omega⟩, Int.toNat_natCast, w1]
        by_cases q2 : wd a = s
        · rw [ife_t (by omega)]
          exact ⟨1, rfl, Or.inl ⟨rfl, Or.inl ⟨h4, Or.inr ⟨q, by omega, q2⟩⟩⟩⟩
        · rw [ife_f (by omega) (by omega) (by omega) (by omega) (by omega)]
          refine ⟨0, rfl, Or.inr ⟨rfl, fun z => ?_⟩⟩
          rcases z with ⟨_, z | z⟩ | z
          · exact q0 z
          · exact q2 z.2.2
          · omega
      · rw [ife_f (by omega) (by omega) (by omega) (by omega) (by omega)]
        refine ⟨0, rfl, Or.inr ⟨rfl, fun z => ?_⟩⟩
        rcases z with ⟨_, z | z⟩ | z
        · exact q0 z
        · exact q z.1
        · omega
  · have e : ((49 : Int) * (((s + 6 : Nat) : Int) - 10)) + 7 * (a : Int) + (b : Int) = ((49 * (s - 4) + 7 * a + b : Nat) : Int) := by omega
    have hB1 := hB (49 * (s - 4) + 7 * a + b) (by omega)
    rw [if_neg h4, ifl_f (by omega) (by omega) (by omega), e, gd_pos ⟨by omega, by omega⟩, Int.toNat_natCast, gd_pos hB1]
    refine ⟨_, rfl, ?_⟩
    rcases hB1 with z | z
    · exact Or.inr ⟨z, fun y => y.elim (fun y => h4 y.1) (fun y => by have y2 : σ 16 (49 * (s - 4) + 7 * a + b) = 1 := y.2; omega)⟩
    · exact Or.inl ⟨z, Or.inr ⟨by omega, z⟩⟩
/-- a row of ends in the memory -/
def rowE2 (σ : Mem) (q i j : Nat) (f : Nat → Prop) : Prop := ∀ y, i ≤ y → y ≤ j → (σ 17 (7 * q + y) = 1 ∧ f y) ∨ (σ 17 (7 * q + y) = 0 ∧ ¬ f y)
theorem br19 {N i : Nat} {x4 x5 x6 : Int} (hi : i ≤ 6) : ∀ (m y fuel : Nat) (σ : Mem), y + m = 35 → m < fuel → (∀ z, z < y → σ 17 z = if z = i then 1 else 0) →
    ∃ τ, f_X12_beginsRule_L19 N (i : Int) x4 x5 x6 fuel (y : Int) σ = some τ ∧ off17 σ τ ∧ ∀ z, z < 35 → τ 17 z = if z = i then 1 else 0 := by
  intro m
  induction m with
  | zero =>
    intro y fuel σ hy hf h
    obtain ⟨f, rfl⟩ : ∃ f, fuel = f + 1 := ⟨fuel - 1, by omega⟩
    refine ⟨σ, ?_, fun _ _ => rfl, fun z hz => h z (by omega)⟩
    rw [f_X12_beginsRule_L19, ifle_t (by omega) (by omega) (by omega)]
  | succ m ih =>
    intro y fuel σ hy hf h
    obtain ⟨f, rfl⟩ : ∃ f, fuel = f + 1 := ⟨fuel - 1, by omega⟩
    obtain ⟨τ, t1, t2, t3⟩ := ih (y + 1) f (st σ 17 y (if y = i then 1 else 0)) (by omega) (by omega) (fun z hz => by
      by_cases e : z = y
      · rw [e, st_eq]
      · rw [st_ne σ _ e]; exact h z (by omega))
    refine ⟨τ, ?_, fun k hk => by rw [t2 k hk]; exact st_other σ _ hk, t3⟩
    rw [f_X12_beginsRule_L19, ifle_f (by omega) (by omega) (by omega)]
    by_cases e : y = i
    · rw [ife_t (by omega), bV_s, gd_pos ⟨by omega, by omega⟩, gd_pos (Or.inr rfl), nm_s, nm_s, Int.toNat_natCast]
      rw [if_pos e] at t1
      exact t1
    · rw [ife_f (by omega) (by omega) (by omega) (by omega) (by omega), bV_s, gd_pos ⟨by omega, by omega⟩, gd_pos (Or.inl rfl), nm_s, nm_s, Int.toNat_natCast]
      rw [if_neg e] at t1
      exact t1
/-- a rule in the reference's memory -/
def RX (σ : Mem) (xs len : Nat) (sg : Nat → Nat) : Prop := xs < 30 ∧ len ≤ 4 ∧ ∀ q, q < len → σ 4 (4 * xs + q) = ((sgx (sg q) : Nat) : Int) ∧ sg q < 10
theorem br53 {σ : Mem} {L dr pu ch xs len N : Nat} {wd sg : Nat → Nat} {X : Nat → Nat → Nat → Nat} {x3 x4 : Int} (hR : RB σ L dr pu ch wd) (hT : TB σ L X) (hX : RX σ xs len sg) : ∀ (m q fuel : Nat), q + m = len → m < fuel → (∀ x, x < q → onev (ltV wd dr pu ch) X (sg x) 0 0 ≠ TT) →
    ∃ t : Nat, f_X12_beginsRule_L53 N x3 x4 (xs : Int) (len : Int) σ fuel (q : Int) = some t ∧ ((t = 1 ∧ ∀ x, x < len → onev (ltV wd dr pu ch) X (sg x) 0 0 ≠ TT) ∨ (t = 0 ∧ ¬ ∀ x, x < len → onev (ltV wd dr pu ch) X (sg x) 0 0 ≠ TT)) := by
  obtain ⟨x1, x2, x5⟩ := hX
  intro m
  induction m with
  | zero =>
    intro q fuel hq hf h
    obtain ⟨f, rfl⟩ : ∃ f, fuel = f + 1 := ⟨fuel - 1, by omega⟩
    refine ⟨1, ?_, Or.inl ⟨rfl, fun x hx => h x (by omega)⟩⟩
    rw [f_X12_beginsRule_L53, ifle_t (by omega) (by omega) (by omega)]
  | succ m ih =>
    intro q fuel hq hf h
    obtain ⟨f, rfl⟩ : ∃ f, fuel = f + 1 := ⟨fuel - 1, by omega⟩
    obtain ⟨y1, y2⟩ := x5 q (by omega)
    obtain ⟨v, v1, v2⟩ := comes_m hR hT y2
    have e : (4 * (xs : Int)) + (q : Int) = ((4 * xs + q : Nat) : Int) := by omega
    rw [f_X12_beginsRule_L53, ifle_f (by omega) (by omega) (by omega), e, gd_pos ⟨by omega, by omega⟩, Int.toNat_natCast, y1, bV_ok v1]
    rcases v2 with ⟨rfl, z⟩ | ⟨rfl, z⟩
    · obtain ⟨t, t1, t2⟩ := ih (q + 1) f (by omega) (by omega) (fun x hx => by
        by_cases e : x = q
        · rw [e]; exact z
        · exact h x (by omega))
      refine ⟨t, ?_, t2⟩
      rw [if_neg (by decide), nm_s]
      exact t1
    · exact ⟨0, by rw [if_pos rfl], Or.inr ⟨rfl, fun y => z (y q (by omega))⟩⟩
theorem br152 {L dr pu ch xs len p a j N : Nat} {wd sg : Nat → Nat} {X : Nat → Nat → Nat → Nat} {x3 x6 : Int} (hp : p < len) (hlen : len ≤ 4) (hj : j ≤ L) : ∀ (m b fuel : Nat) (σ : Mem), b + m = j + 1 → a ≤ b → m < fuel → RB σ L dr pu ch wd → TB σ L X → RX σ xs len sg → σ 17 (7 * p + a) = 1 → (∀ y, b ≤ y → y ≤ j → σ 17 (7 * (p + 1) + y) = 0 ∨ σ 17 (7 * (p + 1) + y) = 1) →
    ∃ τ, f_X12_beginsRule_L152 N x3 (j : Int) (xs : Int) x6 (p : Int) (a : Int) fuel (b : Int) σ = some τ ∧ off17 σ τ ∧ (∀ z, (∀ y, b ≤ y → y ≤ j → z ≠ 7 * (p + 1) + y) → τ 17 z = σ 17 z) ∧
      ∀ y, b ≤ y → y ≤ j → (τ 17 (7 * (p + 1) + y) = 1 ∧ (σ 17 (7 * (p + 1) + y) = 1 ∨ rA (ltV wd dr pu ch) X (sg p) a y)) ∨ (τ 17 (7 * (p + 1) + y) = 0 ∧ ¬ (σ 17 (7 * (p + 1) + y) = 1 ∨ rA (ltV wd dr pu ch) X (sg p) a y)) := by
  intro m
  induction m with
  | zero =>
    intro b fuel σ hb hab hf hR hT hX h1 h01
    have hL := hR.1
    obtain ⟨f, rfl⟩ : ∃ f, fuel = f + 1 := ⟨fuel - 1, by omega⟩
    refine ⟨σ, ?_, fun _ _ => rfl, fun _ _ => rfl, fun y h2 h3 => by omega⟩
    rw [f_X12_beginsRule_L152, ifl_t (by omega) (by omega) (by omega)]
  | succ m ih =>
    intro b fuel σ hb hab hf hR hT hX h1 h01
    have hL := hR.1
    obtain ⟨f, rfl⟩ : ∃ f, fuel = f + 1 := ⟨fuel - 1, by omega⟩
    obtain ⟨x1, x2, x5⟩ := hX
    obtain ⟨y1, y2⟩ := x5 p hp
    obtain ⟨v, v1, v2⟩ := makes_m (b := b) hR hT y2 hab (by omega)
    have e1 : (7 * (p : Int)) + (a : Int) = ((7 * p + a : Nat) : Int) := by omega
    have e2 : (7 * ((p : Int) + 1)) + (b : Int) = ((7 * (p + 1) + b : Nat) : Int) := by omega
    have e3 : (4 * (xs : Int)) + (p : Int) = ((4 * xs + p : Nat) : Int) := by omega
    have step : ∀ u : Int, (u = 0 ∨ u = 1) → ∃ τ, f_X12_beginsRule_L152 N x3 (j : Int) (xs : Int) x6 (p : Int) (a : Int) f ((b + 1 : Nat) : Int) (st σ 17 (7 * (p + 1) + b) u) = some τ ∧ off17 σ τ ∧ (∀ z, (∀ y, b ≤ y → y ≤ j → z ≠ 7 * (p + 1) + y) → τ 17 z = σ 17 z) ∧ τ 17 (7 * (p + 1) + b) = u ∧
        ∀ y, b + 1 ≤ y → y ≤ j → (τ 17 (7 * (p + 1) + y) = 1 ∧ (σ 17 (7 * (p + 1) + y) = 1 ∨ rA (ltV wd dr pu ch) X (sg p) a y)) ∨ (τ 17 (7 * (p + 1) + y) = 0 ∧ ¬ (σ 17 (7 * (p + 1) + y) = 1 ∨ rA (ltV wd dr pu ch) X (sg p) a y)) := fun u hu => by
      have ho : ∀ k, k ≠ 17 → (st σ 17 (7 * (p + 1) + b) u) k = σ k := fun k hk => st_other σ _ hk
      obtain ⟨τ, t1, t2, t3, t4⟩ := ih (b + 1) f (st σ 17 (7 * (p + 1) + b) u) (by omega) (by omega) (by omega) (RB_eq hR (by rw [ho 0 (by decide)]) (ho 9 (by decide)) (ho 8 (by decide))) (fun n c d hn hcd hd => by
        rw [ho 10 (by decide), ho 11 (by decide), ho 12 (by decide)]; exact hT n c d hn hcd hd) ⟨x1, x2, by rw [ho 4 (by decide)]; exact x5⟩ (by rw [st_ne σ _ (by omega)]; exact h1) (fun y h2 h3 => by rw [st_ne σ _ (by omega)]; exact h01 y (by omega) h3)
      refine ⟨τ, t1, fun k hk => by rw [t2 k hk]; exact ho k hk, fun z hz => ?_, ?_, fun y h2 h3 => ?_⟩
      · rw [t3 z (fun y h2 h3 => hz y (by omega) h3), st_ne σ _ (hz b (Nat.le_refl _) (by omega))]
      · rw [t3 _ (fun y h2 h3 => by omega), st_eq]
      · have := t4 y h2 h3
        rw [st_ne σ u (by omega : 7 * (p + 1) + y ≠ 7 * (p + 1) + b)] at this
        exact this
    have c1 : zI (σ 17 (7 * p + a)) ≠ zI 0 := by rw [h1]; decide
    rw [f_X12_beginsRule_L152, ifl_f (by omega) (by omega) (by omega), e1, gd_pos ⟨by omega, by omega⟩, Int.toNat_natCast, if_neg c1, e2, gd_pos ⟨by omega, by omega⟩, Int.toNat_natCast]
    have eb1 : (b : Int) + 1 = ((b + 1 : Nat) : Int) := by omega
    rcases h01 b (Nat.le_refl _) (by omega) with z | z
    · rw [ife_t z, e3, gd_pos ⟨by omega, by omega⟩, Int.toNat_natCast, y1]
      rcases v2 with ⟨rfl, r⟩ | ⟨rfl, r⟩
      · obtain ⟨τ, t1, t2, t3, t4, t5⟩ := step 1 (Or.inr rfl)
        refine ⟨τ, ?_, t2, t3, fun y h2 h3 => ?_⟩
        · rw [bV_k, bV_ok v1, if_neg (by decide), bV_s, if_pos rfl, nm_s, nm_s, eb1]
          exact t1
        · by_cases e : y = b
          · rw [e]; exact Or.inl ⟨t4, Or.inr r⟩
          · exact t5 y (by omega) h3
      · obtain ⟨τ, t1, t2, t3, t4, t5⟩ := step 0 (Or.inl rfl)
        refine ⟨τ, ?_, t2, t3, fun y h2 h3 => ?_⟩
        · rw [bV_k, bV_ok v1, if_pos rfl, bV_s, if_neg (by decide), nm_s, nm_s, eb1]
          exact t1
        · by_cases e : y = b
          · rw [e]; exact Or.inr ⟨t4, fun w => w.elim (fun w => by omega) r⟩
          · exact t5 y (by omega) h3
    · obtain ⟨τ, t1, t2, t3, t4, t5⟩ := step 1 (Or.inr rfl)
      refine ⟨τ, ?_, t2, t3, fun y h2 h3 => ?_⟩
      · have c2 : zI (σ 17 (7 * (p + 1) + b)) ≠ zI 0 := by rw [z]; decide
        rw [if_neg c2, bV_s, if_pos rfl, nm_s, nm_s, eb1]
        exact t1
      · by_cases e : y = b
        · rw [e]; exact Or.inl ⟨t4, Or.inl z⟩
        · exact t5 y (by omega) h3
