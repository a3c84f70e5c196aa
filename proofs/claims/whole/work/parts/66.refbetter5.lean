/-! layer 2, the reference's better: whole -/
theorem R3_0 : R3 0 0 0 0 := Or.inr ⟨by decide, by decide, by decide, by decide, by decide⟩
theorem R3_00 {l t : Int} {c : Int} (h : R3 c l t 0) : l = 0 ∧ t = 0 := by
  rcases h with ⟨h1, -⟩ | ⟨-, -, -, h4, h5⟩
  · exact absurd h1 (by decide)
  · exact ⟨h4, h5⟩
theorem better_m {L dr pu ch i j n r len N : Nat} {wd : Nat → Nat} {Y : Nat → Nat → Nat → Nat} {sg : Nat → Nat} {σ : Mem} (hN : 40 ≤ N) (hn : n < 6) (hr5 : r < 5) (hij : i ≤ j) (hj : j ≤ L) (hlen : len ≤ 4) (hsg : ∀ q, q < len → sg q < 10) (hY : okT L Y)
    (hR : RB σ L dr pu ch wd) (hT : TB σ L Y) (h3 : σ 3 (5 * n + r) = (len : Int)) (h4 : ∀ q, q < len → σ 4 (4 * (5 * n + r) + q) = ((sgx (sg q) : Nat) : Int)) :
    ∃ (b : Int) (τ : Mem), f_X12_better N (n : Int) (r : Int) (i : Int) (j : Int) σ = some (b, τ) ∧ eqB σ τ ∧ TB τ L (ud Y n i j (min (Y n i j) (rulev dr (onev (ltV wd dr pu ch) Y) len sg i j))) ∧ ((b = 1 ∧ rulev dr (onev (ltV wd dr pu ch) Y) len sg i j < Y n i j) ∨ (b = 0 ∧ Y n i j ≤ rulev dr (onev (ltV wd dr pu ch) Y) len sg i j)) := by
  obtain ⟨r1, r2, r3, r4, r5, r6, r7, r8, r9, r10, r11, r12⟩ := id hR
  have ho : okO L (onev (ltV wd dr pu ch) Y) := onev_ok (ltV_ok r8 r10 r9 r1) hY
  obtain ⟨σ4, a1, a2, a3⟩ := b19 (N := N) (x1 := (n : Int)) (x3 := (i : Int)) (x4 := (j : Int)) (x5 := ((5 * n + r : Nat) : Int)) hlen (7 * (len + 1)) 0 N σ (by omega) (by omega) (fun z hz => absurd hz (Nat.not_lt_zero _))
  generalize hs8 : st (st (st σ4 13 i 0) 14 i 0) 15 i 0 = σ8
  have e8 : eqR σ4 σ8 := by
    rw [← hs8]
    exact eqR_trans (eqR_st (Or.inl rfl)) (eqR_trans (eqR_st (Or.inr (Or.inl rfl))) (eqR_st (Or.inr (Or.inr rfl))))
  have e08 := eqR_trans a2 e8
  have c13 : ∀ y, y ≠ i → σ8 13 y = σ4 13 y := fun y hy => by
    rw [← hs8, st_other _ _ (by decide : 13 ≠ 15), st_other _ _ (by decide : 13 ≠ 14), st_ne _ _ hy]
  have d13 : σ8 13 i = 0 ∧ σ8 14 i = 0 ∧ σ8 15 i = 0 := by
    rw [← hs8]
    refine ⟨?_, ?_, st_eq _ _ _ _⟩
    · rw [st_other _ _ (by decide : 13 ≠ 15), st_other _ _ (by decide : 13 ≠ 14), st_eq]
    · rw [st_other _ _ (by decide : 14 ≠ 15), st_eq]
  have hrow0 : Rw σ8 0 i j (rowv (onev (ltV wd dr pu ch) Y) sg i 0) := fun b h1 h2 => by
    rw [Nat.mul_zero, Nat.zero_add]
    unfold rowv
    by_cases q : b = i
    · rw [if_pos q, q, d13.1, d13.2.1, d13.2.2]; exact R3_0
    · rw [if_neg q]
      have := a3 b (by omega)
      rw [← c13 b q] at this
      exact Or.inl ⟨rfl, by omega, by omega⟩
  obtain ⟨σ9, b1, b2, b3⟩ := b70 (N := N) (xs := 5 * n + r) (x1 := (n : Int)) (by omega) hij hj hlen hsg (by omega) ho len 0 N σ8 (by omega) (by omega) (RB_R hR e08) (TB_R hT e08)
    (fun q hq => by rw [e08.1 4 (by decide) (by decide) (by decide) (by decide)]; exact h4 q hq) hrow0 (fun y h1 h2 => by rw [c13 y (by omega)]; exact a3 y h2)
  have e09 := eqR_trans e08 b2
  have hT9 := TB_R hT e09
  have h89 : σ9 8 (0 : Int).toNat = (dr : Int) := by
    rw [e09.1 8 (by decide) (by decide) (by decide) (by decide)]; exact r4
  have hv : ∃ (x10 : Nat) (c : Int), x10 < 35 ∧ (if zI (len : Int) = zI 0 then (some (i : Int)) else (some (7 * (len : Int) + (j : Int)))) = some (x10 : Int) ∧
      (if zI (len : Int) = zI 0 then (gd (0 ≤ (0 : Int) ∧ (0 : Int) < ((3 : Nat) : Int)) (some (((j : Int) - (i : Int)) * (σ9 8 (0 : Int).toNat)))) else (gd (0 ≤ (x10 : Int) ∧ (x10 : Int) < ((35 : Nat) : Int)) (some (σ9 13 (x10 : Int).toNat)))) = some c ∧
      R3 c (σ9 14 x10) (σ9 15 x10) (rulev dr (onev (ltV wd dr pu ch) Y) len sg i j) := by
    by_cases q : len = 0
    · subst q
      have hd1 := drop_ok (dr := dr) (s := j - i) r8 (by omega)
      have hdl : dr * (j - i) ≤ 9 * 6 := Nat.mul_le_mul r8 (by omega)
      refine ⟨i, ((dr * (j - i) : Nat) : Int), by omega, by rw [ife_t (by omega)], ?_, ?_⟩
      · rw [ife_t (by omega), gd_pos (by decide), h89, show ((j : Int) - (i : Int)) = ((j - i : Nat) : Int) by omega, ← Int.natCast_mul, Nat.mul_comm]
      · have h0 := b3 i (Nat.le_refl _) hij
        rw [Nat.mul_zero, Nat.zero_add] at h0
        unfold rowv at h0
        rw [if_pos rfl] at h0
        have h00 := R3_00 h0
        unfold rulev
        rw [if_pos rfl, h00.1, h00.2]
        refine Or.inr ⟨ok_nTT (by rw [hd1.2]; omega), by rw [hd1.2]; omega, by rw [hd1.2], ?_, ?_⟩
        · rw [pk_L (by decide) (by decide)]; rfl
        · rw [pk_T (by decide)]; rfl
    · refine ⟨7 * len + j, σ9 13 (7 * len + j), by omega, ?_, ?_, ?_⟩
      · rw [ife_f (by omega) (by omega) (by omega) (by omega) (by omega)]
        congr 1
      · rw [ife_f (by omega) (by omega) (by omega) (by omega) (by omega), gd_pos (by omega), Int.toNat_natCast]
      · unfold rulev
        rw [if_neg q]
        exact b3 j hij (Nat.le_refl _)
  obtain ⟨x10, c, hx, hv1, hv2, hv3⟩ := hv
  have ov := rulev_ok (len := len) (sg := sg) r8 ho (by omega) hsg hij hj
  obtain ⟨b, τ, k1, k2, k3, k4⟩ := keepB r1 hn hij hj hT9 hv3 ov (by omega) (hY n i j hn hij hj)
    (fun t19 => if t19 = 0 then (nm (st σ9 10 (49 * n + 7 * i + j) c) (fun (σ25 : Mem) => gd (0 ≤ (x10 : Int) ∧ (x10 : Int) < ((35 : Nat) : Int)) (nm (st σ25 11 (49 * n + 7 * i + j) (σ25 14 x10)) (fun (σ27 : Mem) => nm (st σ27 12 (49 * n + 7 * i + j) (σ27 15 x10)) (fun (σ28 : Mem) => some (1, σ28)))))) else (some (0, σ9)))
    (by
      rw [if_pos rfl, nm_s, gd_pos (by omega), nm_s, nm_s, st_other _ _ (by decide : 15 ≠ 11), st_other _ _ (by decide : 15 ≠ 10), st_other _ _ (by decide : 14 ≠ 10)])
    (fun x hx0 => if_neg hx0)
  refine ⟨b, τ, ?_, eqB_trans (eqB_R e09) k2, k3, k4⟩
  have i1 : 5 * (n : Int) + (r : Int) = ((5 * n + r : Nat) : Int) := by omega
  have i2 : 49 * (n : Int) + 7 * (i : Int) + (j : Int) = ((49 * n + 7 * i + j : Nat) : Int) := by omega
  have a1' : f_X12_better_L19 N (n : Int) (i : Int) (j : Int) ((5 * n + r : Nat) : Int) (len : Int) N 0 σ = some σ4 := a1
  have b1' : f_X12_better_L70 N (n : Int) (i : Int) (j : Int) ((5 * n + r : Nat) : Int) (len : Int) N 0 σ8 = some σ9 := b1
  unfold f_X12_better
  rw [nm_s, i1, gd_pos (by omega), Int.toNat_natCast, nm_s, h3, bV_ok a1', gd_pos (by omega), Int.toNat_natCast, nm_s, nm_s, nm_s, hs8, bV_ok b1', hv1, bV_s, hv2, bV_s, nm_s, i2, gd_pos (by omega), gd_pos (by omega), Int.toNat_natCast, Int.toNat_natCast]
  exact k1
