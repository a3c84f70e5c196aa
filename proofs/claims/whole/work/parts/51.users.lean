/-! layer 2, Grammar.findUsers -/
theorem sg_v {σ : Mem} (h : wfM σ) {s p : Nat} (hs : s < 25) (hp : p < 4) : σ 6 (s * 4 + p) = ((sgC σ s p : Nat) : Int) ∧ sgC σ s p < 10 := by
  have := h.2.2.1 (s * 4 + p) (by omega)
  unfold sgC
  omega
theorem ln_v {σ : Mem} (h : wfM σ) {s : Nat} (hs : s < 25) : σ 5 s = (((σ 5 s).toNat : Nat) : Int) ∧ (σ 5 s).toNat ≤ 4 := by
  have := h.2.1 s hs
  omega
theorem or_lt64 {u v : Nat} (h : u < 64) (h2 : v < 64) : u ||| v < 64 := Nat.or_lt_two_pow (n := 6) h h2
theorem one_bit : ∀ k : Nat, k < 6 → ∀ m : Nat, m < 6 → ((2 ^ k : Nat).testBit m = true ↔ k = m) := by decide
theorem pow_lt64 : ∀ k : Nat, k < 6 → (2 ^ k : Nat) < 64 := by decide
theorem used24 {σ : Mem} (h : wfM σ) {s N : Nat} {x1 x3 : Int} (hs : s < 25) : ∀ (m p fuel u : Nat), p + m = (σ 5 s).toNat → m < fuel → u < 64 →
    ∃ u2 : Nat, f_X4_namesUsedBy_L24 N x1 x3 (s : Int) σ fuel (u : Int) (p : Int) = some (u2 : Int) ∧ u2 < 64 ∧ ∀ k, k < 6 → (u2.testBit k = true ↔ (u.testBit k = true ∨ ∃ q, p ≤ q ∧ q < (σ 5 s).toNat ∧ sgC σ s q = k + 4)) := by
  obtain ⟨l1, l2⟩ := ln_v h hs
  intro m
  induction m with
  | zero =>
    intro p fuel u hp hf hu
    obtain ⟨f, rfl⟩ : ∃ f, fuel = f + 1 := ⟨fuel - 1, by omega⟩
    refine ⟨u, ?_, hu, fun k hk => ⟨Or.inl, fun z => ?_⟩⟩
    · rw [f_X4_namesUsedBy_L24, bV_ok (lengthOf_m 3 s hs)]
      show (if zI (σ 5 s) ≤ zI (p : Int) then _ else _) = _
      rw [ifle_t (by omega) (by omega) (by omega)]
    · rcases z with z | ⟨q, q1, q2, q3⟩
      · exact z
      · omega
  | succ m ih =>
    intro p fuel u hp hf hu
    obtain ⟨f, rfl⟩ : ∃ f, fuel = f + 1 := ⟨fuel - 1, by omega⟩
    obtain ⟨e1, e2⟩ := sg_v h (p := p) hs (by omega)
    have hb : ∃ b : Nat, (if zI (σ 6 (s * 4 + p)) < zI 4 then (some (0 : Int)) else (some (iShl 1 (σ 6 (s * 4 + p) - 4)))) = some (b : Int) ∧ b < 64 ∧ ∀ k, k < 6 → (b.testBit k = true ↔ sgC σ s p = k + 4) := by
      rw [e1]
      by_cases q : sgC σ s p < 4
      · refine ⟨0, ?_, by decide, fun k hk => ⟨fun z => ?_, fun z => by omega⟩⟩
        · rw [ifl_t (by omega) (by omega) (by omega)]; rfl
        · rw [Nat.zero_testBit] at z; cases z
      · refine ⟨2 ^ (sgC σ s p - 4), ?_, pow_lt64 _ (by omega), fun k hk => ?_⟩
        · rw [ifl_f (by omega) (by omega) (by omega), show ((sgC σ s p : Nat) : Int) - 4 = ((sgC σ s p - 4 : Nat) : Int) by omega]
          have := iShl_n 1 (sgC σ s p - 4) (by omega) (by have := pow_lt64 (sgC σ s p - 4) (by omega); omega)
          rw [Nat.one_mul] at this
          exact congrArg some this
        · rw [one_bit _ (by omega) _ hk]; omega
    obtain ⟨b, b1, b2, b3⟩ := hb
    obtain ⟨u2, v1, v2, v3⟩ := ih (p + 1) f (u ||| b) (by omega) (by omega) (or_lt64 hu b2)
    refine ⟨u2, ?_, v2, fun k hk => ?_⟩
    · rw [f_X4_namesUsedBy_L24, bV_ok (lengthOf_m 3 s hs)]
      show (if zI (σ 5 s) ≤ zI (p : Int) then _ else _) = _
      rw [ifle_f (by omega) (by omega) (by omega), bV_ok (signAt_m s p hs (by omega)), b1, bV_s]
      simp only [nm]
      rw [iOr_n _ _ (by omega) (by omega)]
      exact v1
    · rw [v3 k hk, Nat.testBit_or, Bool.or_eq_true, b3 k hk]
      constructor
      · rintro ((a | a) | ⟨q, q1, q2, q3⟩)
        · exact Or.inl a
        · exact Or.inr ⟨p, Nat.le_refl _, by omega, a⟩
        · exact Or.inr ⟨q, by omega, q2, q3⟩
      · rintro (a | ⟨q, q1, q2, q3⟩)
        · exact Or.inl (Or.inl a)
        · by_cases e : q = p
          · rw [e] at q3; exact Or.inl (Or.inr q3)
          · exact Or.inr ⟨q, by omega, q2, q3⟩
theorem used4 {σ : Mem} (h : wfM σ) {x N : Nat} (hx : x < 6) (hN : 8 ≤ N) : ∀ (m r fuel u : Nat), r + m = rcC σ x → m < fuel → u < 64 →
    ∃ u2 : Nat, f_X4_namesUsedBy_L4 N (x : Int) σ fuel (u : Int) (r : Int) = some (u2 : Int) ∧ u2 < 64 ∧ ∀ k, k < 6 → (u2.testBit k = true ↔ (u.testBit k = true ∨ ∃ q, r ≤ q ∧ q < rcC σ x ∧ ∃ p, p < rlC σ x q ∧ rsC σ x q p = k + 4)) := by
  have hc := rcC_le h hx
  intro m
  induction m with
  | zero =>
    intro r fuel u hp hf hu
    obtain ⟨f, rfl⟩ : ∃ f, fuel = f + 1 := ⟨fuel - 1, by omega⟩
    refine ⟨u, ?_, hu, fun k hk => ⟨Or.inl, fun z => ?_⟩⟩
    · rw [f_X4_namesUsedBy_L4, bV_ok (countOf_v h hx), ifle_t (by omega) (by omega) (by omega)]
    · rcases z with z | ⟨q, q1, q2, q3⟩
      · exact z
      · omega
  | succ m ih =>
    intro r fuel u hp hf hu
    obtain ⟨f, rfl⟩ : ∃ f, fuel = f + 1 := ⟨fuel - 1, by omega⟩
    have hs := slC_lt (r := r) h hx
    obtain ⟨l1, l2⟩ := ln_v h hs
    obtain ⟨u1, t1, t2, t3⟩ := used24 (N := N) (x1 := (x : Int)) (x3 := (r : Int)) h hs (σ 5 (slC σ x r)).toNat 0 N u (by omega) (by omega) hu
    obtain ⟨u2, v1, v2, v3⟩ := ih (r + 1) f u1 (by omega) (by omega) t2
    refine ⟨u2, ?_, v2, fun k hk => ?_⟩
    · rw [f_X4_namesUsedBy_L4, bV_ok (countOf_v h hx), ifle_f (by omega) (by omega) (by omega), bV_ok (slotOf_v h hx (by omega))]
      have t1' : f_X4_namesUsedBy_L24 N (x : Int) (r : Int) ((slC σ x r : Nat) : Int) σ N (u : Int) 0 = some (u1 : Int) := t1
      rw [bV_ok t1']
      exact v1
    · rw [v3 k hk, t3 k hk]
      constructor
      · rintro ((a | ⟨p, p1, p2, p3⟩) | ⟨q, q1, q2, q3⟩)
        · exact Or.inl a
        · exact Or.inr ⟨r, Nat.le_refl _, by omega, p, p2, p3⟩
        · exact Or.inr ⟨q, by omega, q2, q3⟩
      · rintro (a | ⟨q, q1, q2, p, p2, p3⟩)
        · exact Or.inl (Or.inl a)
        · by_cases e : q = r
          · rw [e] at p2 p3; exact Or.inl (Or.inr ⟨p, Nat.zero_le _, p2, p3⟩)
          · exact Or.inr ⟨q, by omega, q2, p, p2, p3⟩
theorem used_m {σ : Mem} (h : wfM σ) {x N : Nat} (hx : x < 6) (hN : 8 ≤ N) : ∃ u : Nat, f_X4_namesUsedBy N (x : Int) σ = some (u : Int) ∧ u < 64 ∧ ∀ k, k < 6 → (u.testBit k = true ↔ usesG (rcC σ) (rlC σ) (rsC σ) x k) := by
  have hc := rcC_le h hx
  obtain ⟨u2, v1, v2, v3⟩ := used4 (N := N) h hx hN (rcC σ x) 0 N 0 (by omega) (by omega) (by decide)
  refine ⟨u2, ?_, v2, fun k hk => ?_⟩
  · unfold f_X4_namesUsedBy
    have v1' : f_X4_namesUsedBy_L4 N (x : Int) σ N 0 0 = some (u2 : Int) := v1
    rw [bV_ok v1']
  · rw [v3 k hk]
    unfold usesG
    constructor
    · rintro (a | ⟨q, -, q2, p, p2, p3⟩)
      · rw [Nat.zero_testBit] at a; cases a
      · exact ⟨q, q2, p, p2, p3⟩
    · rintro ⟨q, q2, p, p2, p3⟩
      exact Or.inr ⟨q, Nat.zero_le _, q2, p, p2, p3⟩
/-- the users told of the first X names -/
def UX (σ0 σ : Mem) (X K : Nat) : Prop := ∀ m, m < 6 → ∃ u : Nat, σ 29 m = (u : Int) ∧ u < 64 ∧ ∀ x, x < 6 → (u.testBit x = true ↔ ((x < X ∨ (x = X ∧ m < K)) ∧ usesG (rcC σ0) (rlC σ0) (rsC σ0) x m))
theorem bitz : ∀ a : Nat, a < 64 → ∀ m : Nat, m < 6 → ∀ x : Nat, x < 6 → iShl (iAnd (iShr (a : Int) (m : Int)) 1) (x : Int) = ((if a.testBit m then 2 ^ x else 0 : Nat) : Int) := by decide +kernel
theorem fu22 {σ0 : Mem} {x u N : Nat} (hx : x < 6) (hu : u < 64) (hb : ∀ k, k < 6 → (u.testBit k = true ↔ usesG (rcC σ0) (rlC σ0) (rsC σ0) x k)) : ∀ (m k fuel : Nat) (σ : Mem), k + m = 6 → m < fuel → UX σ0 σ x k →
    ∃ τ, f_X4_findUsers_L22 N (x : Int) (u : Int) fuel (k : Int) σ = some τ ∧ (∀ c, c ≠ 29 → τ c = σ c) ∧ UX σ0 τ x 6 := by
  intro m
  induction m with
  | zero =>
    intro k fuel σ hk hf hs
    obtain ⟨f, rfl⟩ : ∃ f, fuel = f + 1 := ⟨fuel - 1, by omega⟩
    have e : k = 6 := by omega
    subst e
    refine ⟨σ, ?_, fun _ _ => rfl, hs⟩
    rw [f_X4_findUsers_L22, ifle_t (by omega) (by omega) (by omega)]
  | succ m ih =>
    intro k fuel σ hk hf hs
    obtain ⟨f, rfl⟩ : ∃ f, fuel = f + 1 := ⟨fuel - 1, by omega⟩
    obtain ⟨w, w1, w2, w3⟩ := hs k (by omega)
    have hp : (if u.testBit k then 2 ^ x else 0 : Nat) < 64 := by
      split
      · exact pow_lt64 x hx
      · decide
    have hux : UX σ0 (st σ 29 k ((w ||| (if u.testBit k then 2 ^ x else 0) : Nat) : Int)) x (k + 1) := by
      intro m2 hm2
      by_cases e : m2 = k
      · subst e
        refine ⟨w ||| (if u.testBit m2 then 2 ^ x else 0), st_eq _ _ _ _, or_lt64 w2 hp, fun y hy => ?_⟩
        rw [Nat.testBit_or, Bool.or_eq_true, w3 y hy]
        by_cases q : y = x
        · subst q
          have := hb m2 (by omega)
          constructor
          · rintro (a | a)
            · omega
            · by_cases z : u.testBit m2 = true
              · exact ⟨by omega, this.mp z⟩
              · rw [if_neg z, Nat.zero_testBit] at a; cases a
          · rintro ⟨-, a⟩
            right
            rw [if_pos (this.mpr a)]
            exact (one_bit y hx y hx).mpr rfl
        · have hz : ((if u.testBit m2 then 2 ^ x else 0 : Nat)).testBit y = true → False := fun a => by
            split at a
            · exact q ((one_bit x hx y hy).mp a).symm
            · rw [Nat.zero_testBit] at a; cases a
          constructor
          · rintro (a | a)
            · exact ⟨by omega, a.2⟩
            · exact absurd a hz
          · rintro ⟨a, a2⟩
            exact Or.inl ⟨by omega, a2⟩
      · obtain ⟨v, v1, v2, v3⟩ := hs m2 hm2
        refine ⟨v, by rw [st_ne _ _ e]; exact v1, v2, fun y hy => ?_⟩
        rw [v3 y hy]
        constructor
        · rintro ⟨a, a2⟩; exact ⟨by omega, a2⟩
        · rintro ⟨a, a2⟩; exact ⟨by omega, a2⟩
    obtain ⟨τ, t1, t2, t3⟩ := ih (k + 1) f _ (by omega) (by omega) hux
    refine ⟨τ, ?_, fun c hc => (t2 c hc).trans (st_other σ _ hc), t3⟩
    rw [f_X4_findUsers_L22, ifle_f (by omega) (by omega) (by omega), ifle_f (by omega) (by omega) (by omega), gd_pos (by omega), Int.toNat_natCast, w1, bitz u hu k (by omega) x hx]
    simp only [nm]
    rw [iOr_n _ _ (by omega) (by omega)]
    exact t1
theorem UX_next {σ0 σ : Mem} {x : Nat} (h : UX σ0 σ x 6) : UX σ0 σ (x + 1) 0 := fun m hm => by
  obtain ⟨v, v1, v2, v3⟩ := h m hm
  refine ⟨v, v1, v2, fun y hy => ?_⟩
  rw [v3 y hy]
  constructor
  · rintro ⟨a, a2⟩; exact ⟨by omega, a2⟩
  · rintro ⟨a, a2⟩; exact ⟨by omega, a2⟩
theorem EqG_rcF {σ0 σ : Mem} (h : EqG σ0 σ) : rcC σ = rcC σ0 := funext (EqG_rc h)
theorem EqG_rlF {σ0 σ : Mem} (h : EqG σ0 σ) : rlC σ = rlC σ0 := by funext n r; unfold rlC; rw [EqG_sl h, h.2.2.1]
theorem EqG_rsF {σ0 σ : Mem} (h : EqG σ0 σ) : rsC σ = rsC σ0 := by funext n r p; unfold rsC sgC; rw [EqG_sl h, h.2.2.2.1]
theorem fu7 {σ0 : Mem} {N : Nat} (hw : wfM σ0) (hN : 10 ≤ N) : ∀ (m x fuel : Nat) (σ : Mem), x + m = 6 → m < fuel → (∀ c, c ≠ 29 → σ c = σ0 c) → UX σ0 σ x 0 →
    ∃ τ, f_X4_findUsers_L7 N fuel (x : Int) σ = some τ ∧ (∀ c, c ≠ 29 → τ c = σ0 c) ∧ US σ0 τ := by
  intro m
  induction m with
  | zero =>
    intro x fuel σ hk hf hc hs
    obtain ⟨f, rfl⟩ : ∃ f, fuel = f + 1 := ⟨fuel - 1, by omega⟩
    refine ⟨σ, ?_, hc, fun m hm => ?_⟩
    · rw [f_X4_findUsers_L7, ifle_t (by omega) (by omega) (by omega)]
    · obtain ⟨v, v1, v2, v3⟩ := hs m hm
      refine ⟨v, v1, v2, fun y hy => ?_⟩
      rw [v3 y hy]
      constructor
      · rintro ⟨a, a2⟩; exact a2
      · exact fun a => ⟨by omega, a⟩
  | succ m ih =>
    intro x fuel σ hk hf hc hs
    obtain ⟨f, rfl⟩ : ∃ f, fuel = f + 1 := ⟨fuel - 1, by omega⟩
    have hg : EqG σ0 σ := ⟨hc 3 (by decide), hc 4 (by decide), hc 5 (by decide), hc 6 (by decide), hc 12 (by decide)⟩
    obtain ⟨u, u1, u2, u3⟩ := used_m (N := N) (EqG_wf hg hw) (by omega : x < 6) (by omega)
    rw [EqG_rcF hg, EqG_rlF hg, EqG_rsF hg] at u3
    obtain ⟨τ, t1, t2, t3⟩ := fu22 (N := N) (by omega : x < 6) u2 u3 6 0 N σ (by omega) (by omega) hs
    obtain ⟨ρ, r1, r2, r3⟩ := ih (x + 1) f τ (by omega) (by omega) (fun c hc2 => (t2 c hc2).trans (hc c hc2)) (UX_next t3)
    refine ⟨ρ, ?_, r2, r3⟩
    rw [f_X4_findUsers_L7, ifle_f (by omega) (by omega) (by omega), bV_ok u1]
    have t1' : f_X4_findUsers_L22 N (x : Int) (u : Int) N 0 σ = some τ := t1
    rw [bV_ok t1']
    exact r1
theorem findUsers_m {σ0 : Mem} {N : Nat} (hw : wfM σ0) (hN : 10 ≤ N) : ∃ τ, f_X4_findUsers N σ0 = some τ ∧ (∀ c, c ≠ 29 → τ c = σ0 c) ∧ US σ0 τ := by
  have hz : UX σ0 (fil σ0 29 6 0) 0 0 := fun m hm => by
    refine ⟨0, ?_, by decide, fun y hy => ⟨fun a => ?_, fun a => by omega⟩⟩
    · simp [fil, hm]
    · rw [Nat.zero_testBit] at a; cases a
  obtain ⟨τ, t1, t2, t3⟩ := fu7 (N := N) hw hN 6 0 N (fil σ0 29 6 0) (by omega) (by omega) (fun c hc => by funext y; simp [fil, hc]) hz
  refine ⟨τ, ?_, t2, t3⟩
  unfold f_X4_findUsers
  have t1' : f_X4_findUsers_L7 N N 0 (fil σ0 29 6 0) = some τ := t1
  simp only [nm]
  rw [bV_ok t1']
