/-! layer 2, the reference's layMends: whole -/
theorem lay2 {N : Nat} : ∀ (m y fuel : Nat) (σ : Mem), y + m = 294 → m < fuel → (∀ z, z < y → σ 10 z = 100000000) →
    ∃ τ, f_X12_layMends_L2 N fuel (y : Int) σ = some τ ∧ eqB σ τ ∧ ∀ z, z < 294 → τ 10 z = 100000000 := by
  intro m
  induction m with
  | zero =>
    intro y fuel σ hb hf h
    obtain ⟨k, rfl⟩ : ∃ k, fuel = k + 1 := ⟨fuel - 1, by omega⟩
    refine ⟨σ, ?_, ⟨fun _ _ _ => rfl, fun _ _ _ _ => rfl⟩, fun z hz => h z (by omega)⟩
    rw [f_X12_layMends_L2, ifle_t (by omega) (by omega) (by omega)]
  | succ m ih =>
    intro y fuel σ hb hf h
    obtain ⟨k, rfl⟩ : ∃ k, fuel = k + 1 := ⟨fuel - 1, by omega⟩
    obtain ⟨τ, t1, t2, t3⟩ := ih (y + 1) k (st (st (st σ 10 y 100000000) 11 y 0) 12 y 0) (by omega) (by omega) (fun z hz => by
      rw [st_other _ _ (by decide : 10 ≠ 12), st_other _ _ (by decide : 10 ≠ 11)]
      by_cases e : z = y
      · rw [e, st_eq]
      · rw [st_ne _ _ e]; exact h z (by omega))
    refine ⟨τ, ?_, eqB_trans (eqB_trans (eqB_st (Or.inl rfl)) (eqB_trans (eqB_st (Or.inr (Or.inl rfl))) (eqB_st (Or.inr (Or.inr rfl))))) t2, t3⟩
    rw [f_X12_layMends_L2, ifle_f (by omega) (by omega) (by omega), gd_pos (by omega), Int.toNat_natCast, nm_s, nm_s, nm_s, nm_s]
    exact t1
/-- layMends finds the greatest closed table -/
theorem layMends_m {σ : Mem} {L dr pu ch N : Nat} {wd : Nat → Nat} {rc : Nat → Nat} {rl : Nat → Nat → Nat} {rs : Nat → Nat → Nat → Nat} (hN : 300 ≤ N) (hN2 : mu (fun _ _ _ => TT) 294 + 2 ≤ N) (hR : RB σ L dr pu ch wd) (hG : GR σ rc rl rs) :
    ∃ (τ : Mem) (Z : Nat → Nat → Nat → Nat), f_X12_layMends N σ = some τ ∧ eqB σ τ ∧ TB τ L Z ∧ leastT dr L (ltV wd dr pu ch) rc rl rs Z := by
  obtain ⟨σ1, a1, a2, a3⟩ := lay2 (N := N) 294 0 N σ rfl (by omega) (fun z hz => absurd hz (Nat.not_lt_zero _))
  have hL := hR.1
  have h0 : LM σ1 L dr pu ch wd rc rl rs (fun _ _ _ => TT) := by
    refine ⟨RB_B hR a2, fun n a b hn hab hb => ?_, fun _ _ _ _ _ _ => Or.inl rfl, GR_B hG a2, fun Z hZ _ n i j hn hij hj => ok_le (hZ n i j hn hij hj)⟩
    have := a3 (49 * n + 7 * a + b) (by omega)
    exact Or.inl ⟨rfl, by omega, by omega⟩
  obtain ⟨τ, Z, t1, t2, t3, t4⟩ := lay39 (N := N) (by omega) (mu (fun _ _ _ => TT) 294) N σ1 _ (Nat.le_refl _) (by omega) h0
  refine ⟨τ, Z, ?_, eqB_trans a2 t2, t3.2.1, t4⟩
  have a1' : f_X12_layMends_L2 N N 0 σ = some σ1 := a1
  unfold f_X12_layMends
  rw [bV_ok a1', bV_ok t1]
