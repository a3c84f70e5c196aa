/-! layer 2, the reference's better: all rows of a rule -/
theorem b80 {L dr pu ch i j p s xs N : Nat} {wd : Nat → Nat} {Y : Nat → Nat → Nat → Nat} {f : Nat → Nat} {x1 x6 : Int} (hN : 10 ≤ N) (hj : j ≤ L) (hp : p < 4) (hs : s < 10) (hxs : xs < 30) (ho : okO L (onev (ltV wd dr pu ch) Y)) (hf : ∀ b, i ≤ b → b ≤ j → ok (b - i) (f b)) :
    ∀ (m a fuel : Nat) (σ : Mem), a + m = j + 1 → i ≤ a → m < fuel → RB σ L dr pu ch wd → TB σ L Y → σ 4 (4 * xs + p) = ((sgx s : Nat) : Int) → Rw σ p i j f → Rw σ (p + 1) i j (acc f (onev (ltV wd dr pu ch) Y s) i a a) →
    ∃ τ, f_X12_better_L80 N x1 (i : Int) (j : Int) (xs : Int) x6 (p : Int) fuel (a : Int) σ = some τ ∧ eqR σ τ ∧ Rw τ (p + 1) i j (fun b => mnr (fun x => cat (f x) (onev (ltV wd dr pu ch) Y s x b)) i b) ∧ ∀ y, 7 * (p + 2) ≤ y → τ 13 y = σ 13 y := by
  intro m
  induction m with
  | zero =>
    intro a fuel σ hb hia hfu hR hT h4 hr1 hr2
    obtain ⟨k, rfl⟩ : ∃ k, fuel = k + 1 := ⟨fuel - 1, by omega⟩
    have hL := hR.1
    have e : a = j + 1 := by omega
    subst e
    refine ⟨σ, ?_, eqR_rfl σ, fun b h1 h2 => ?_, fun _ _ => rfl⟩
    · rw [f_X12_better_L80, ifl_t (by omega) (by omega) (by omega)]
    · have h := hr2 b h1 h2
      rw [acc_all (by omega), show b + 1 - i = b - i + 1 by omega, mnx_mnr, show i + (b - i) = b by omega] at h
      exact h
  | succ m ih =>
    intro a fuel σ hb hia hfu hR hT h4 hr1 hr2
    obtain ⟨k, rfl⟩ : ∃ k, fuel = k + 1 := ⟨fuel - 1, by omega⟩
    have hL := hR.1
    obtain ⟨τ, t1, t2, t3, t4, t5⟩ := b91 (N := N) (x1 := x1) (x6 := x6) hN hia (by omega : a ≤ j) hj hp hs hxs ho hf (j + 1 - a) a N σ (by omega) (Nat.le_refl _) (by omega) hR hT h4 hr1 hr2
    have hq : Rw τ (p + 1) i j (acc f (onev (ltV wd dr pu ch) Y s) i (a + 1) (a + 1)) := fun b h1 h2 => by
      have e : acc f (onev (ltV wd dr pu ch) Y s) i (a + 1) (a + 1) b = acc f (onev (ltV wd dr pu ch) Y s) i a (j + 1) b := by
        by_cases z : b < a
        · rw [acc_all z, acc_all (by omega)]
        · by_cases z2 : b = a
          · subst z2
            rw [acc_all (by omega), acc_hi (by omega) (by omega)]
          · rw [acc_lo (by omega) (by omega), acc_hi (by omega) (by omega)]
      rw [e]; exact t4 b h1 h2
    obtain ⟨ω, v1, v2, v3, v4⟩ := ih (a + 1) k τ (by omega) (by omega) (by omega) (RB_R hR t2) (TB_R hT t2) (by rw [t2.1 4 (by decide) (by decide) (by decide) (by decide)]; exact h4) t3 hq
    refine ⟨ω, ?_, eqR_trans t2 v2, v3, fun y hy => (v4 y hy).trans (t5 y hy)⟩
    rw [f_X12_better_L80, ifl_f (by omega) (by omega) (by omega), bV_ok t1]
    exact v1
theorem b70 {L dr pu ch i j xs len N : Nat} {wd : Nat → Nat} {Y : Nat → Nat → Nat → Nat} {sg : Nat → Nat} {x1 : Int} (hN : 10 ≤ N) (hij : i ≤ j) (hj : j ≤ L) (hlen : len ≤ 4) (hsg : ∀ q, q < len → sg q < 10) (hxs : xs < 30) (ho : okO L (onev (ltV wd dr pu ch) Y)) :
    ∀ (m p fuel : Nat) (σ : Mem), p + m = len → m < fuel → RB σ L dr pu ch wd → TB σ L Y → (∀ q, q < len → σ 4 (4 * xs + q) = ((sgx (sg q) : Nat) : Int)) → Rw σ p i j (rowv (onev (ltV wd dr pu ch) Y) sg i p) → (∀ y, 7 * (p + 1) ≤ y → y < 7 * (len + 1) → σ 13 y = 100000000) →
    ∃ τ, f_X12_better_L70 N x1 (i : Int) (j : Int) (xs : Int) (len : Int) fuel (p : Int) σ = some τ ∧ eqR σ τ ∧ Rw τ len i j (rowv (onev (ltV wd dr pu ch) Y) sg i len) := by
  intro m
  induction m with
  | zero =>
    intro p fuel σ hb hfu hR hT h4 hr1 hr2
    obtain ⟨k, rfl⟩ : ∃ k, fuel = k + 1 := ⟨fuel - 1, by omega⟩
    have e : p = len := by omega
    subst e
    refine ⟨σ, ?_, eqR_rfl σ, hr1⟩
    rw [f_X12_better_L70, ifle_t (by omega) (by omega) (by omega)]
  | succ m ih =>
    intro p fuel σ hb hfu hR hT h4 hr1 hr2
    obtain ⟨k, rfl⟩ : ∃ k, fuel = k + 1 := ⟨fuel - 1, by omega⟩
    have hL := hR.1
    have hs := hsg p (by omega)
    have hr0 : Rw σ (p + 1) i j (acc (rowv (onev (ltV wd dr pu ch) Y) sg i p) (onev (ltV wd dr pu ch) Y (sg p)) i i i) := fun b h1 h2 => by
      have e := hr2 (7 * (p + 1) + b) (by omega) (by omega)
      rw [acc_lo h1 h1, Nat.sub_self]
      exact Or.inl ⟨rfl, by omega, by omega⟩
    obtain ⟨τ, t1, t2, t3, t4⟩ := b80 (N := N) (x1 := x1) (x6 := (len : Int)) (f := rowv (onev (ltV wd dr pu ch) Y) sg i p) hN hj (by omega) hs hxs ho (fun b h1 h2 => rowv_ok ho (by omega) (fun q hq => hsg q (by omega)) h1 (by omega)) (j + 1 - i) i N σ (by omega) (Nat.le_refl _) (by omega) hR hT (h4 p (by omega)) hr1 hr0
    obtain ⟨ω, v1, v2, v3⟩ := ih (p + 1) k τ (by omega) (by omega) (RB_R hR t2) (TB_R hT t2) (fun q hq => by rw [t2.1 4 (by decide) (by decide) (by decide) (by decide)]; exact h4 q hq) t3 (fun y h1 h2 => by rw [t4 y (by omega)]; exact hr2 y (by omega) h2)
    refine ⟨ω, ?_, eqR_trans t2 v2, v3⟩
    rw [f_X12_better_L70, ifle_f (by omega) (by omega) (by omega), bV_ok t1]
    exact v1
theorem b19 {len N : Nat} {x1 x3 x4 x5 : Int} (hlen : len ≤ 4) : ∀ (m y fuel : Nat) (σ : Mem), y + m = 7 * (len + 1) → m < fuel → (∀ z, z < y → σ 13 z = 100000000) →
    ∃ τ, f_X12_better_L19 N x1 x3 x4 x5 (len : Int) fuel (y : Int) σ = some τ ∧ eqR σ τ ∧ ∀ z, z < 7 * (len + 1) → τ 13 z = 100000000 := by
  intro m
  induction m with
  | zero =>
    intro y fuel σ hb hfu h
    obtain ⟨k, rfl⟩ : ∃ k, fuel = k + 1 := ⟨fuel - 1, by omega⟩
    refine ⟨σ, ?_, eqR_rfl σ, fun z hz => h z (by omega)⟩
    rw [f_X12_better_L19, ifle_t (by omega) (by omega) (by omega)]
  | succ m ih =>
    intro y fuel σ hb hfu h
    obtain ⟨k, rfl⟩ : ∃ k, fuel = k + 1 := ⟨fuel - 1, by omega⟩
    obtain ⟨τ, t1, t2, t3⟩ := ih (y + 1) k (st σ 13 y 100000000) (by omega) (by omega) (fun z hz => by
      by_cases e : z = y
      · rw [e, st_eq]
      · rw [st_ne _ _ e]; exact h z (by omega))
    refine ⟨τ, ?_, eqR_trans (eqR_st (Or.inl rfl)) t2, t3⟩
    rw [f_X12_better_L19, ifle_f (by omega) (by omega) (by omega), gd_pos (by omega), Int.toNat_natCast, nm_s, nm_s]
    exact t1
