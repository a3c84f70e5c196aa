/-! layer 2, the reference's better -/
def ud (Y : Nat → Nat → Nat → Nat) (n i j v : Nat) : Nat → Nat → Nat → Nat := fun m a b => if m = n ∧ a = i ∧ b = j then v else Y m a b
def eqB (σ τ : Mem) : Prop := (∀ k, k ≠ 0 → k < 10 ∨ 15 < k → τ k = σ k) ∧ ∀ j, j ≠ 20 → j ≠ 21 → j ≠ 22 → τ 0 j = σ 0 j
theorem eqB_R {σ τ : Mem} (h : eqR σ τ) : eqB σ τ := ⟨fun k a b => h.1 k a (by omega) (by omega) (by omega), h.2⟩
theorem eqB_trans {σ τ ρ : Mem} (h : eqB σ τ) (h2 : eqB τ ρ) : eqB σ ρ := ⟨fun k a b => (h2.1 k a b).trans (h.1 k a b), fun j a b c => (h2.2 j a b c).trans (h.2 j a b c)⟩
theorem eqB_st {σ : Mem} {k j : Nat} {v : Int} (h : k = 10 ∨ k = 11 ∨ k = 12) : eqB σ (st σ k j v) := ⟨fun q a b => st_other σ _ (by omega), fun i _ _ _ => by rw [st_other σ _ (by omega : 0 ≠ k)]⟩
/-- the value that a rule gives, held against the table's -/
theorem keepB {σ : Mem} {L n i j : Nat} {Y : Nat → Nat → Nat → Nat} {c l t : Int} {v s : Nat} (hL : L ≤ 6) (hn : n < 6) (hij : i ≤ j) (hj : j ≤ L) (hT : TB σ L Y) (hv : R3 c l t v) (ov : ok s v) (hs : s ≤ 100) (oY : ok (j - i) (Y n i j)) (K : Nat → Option (Int × Mem)) (hK0 : K 0 = some (1, st (st (st σ 10 (49 * n + 7 * i + j) c) 11 (49 * n + 7 * i + j) l) 12 (49 * n + 7 * i + j) t)) (hK1 : ∀ x, x ≠ 0 → K x = some (0, σ)) :
    ∃ (b : Int) (τ : Mem), (if zI 100000000 ≤ zI c then (some ((0 : Int), σ)) else bV (if zI 100000000 ≤ zI (σ 10 (49 * n + 7 * i + j)) then (some 0) else (bV (f_X12_isBetter c l t (σ 10 (49 * n + 7 * i + j)) (σ 11 (49 * n + 7 * i + j)) (σ 12 (49 * n + 7 * i + j))) (fun (y23 : Int) => if zI y23 = zI 0 then (some 1) else (some 0)))) K) = some (b, τ) ∧ eqB σ τ ∧ TB τ L (ud Y n i j (min (Y n i j) v)) ∧ ((b = 1 ∧ v < Y n i j) ∨ (b = 0 ∧ Y n i j ≤ v)) := by
  have hr := R3_rng hv
  have hc := hT n i j hn hij hj
  have hrc := R3_rng hc
  have vle := ok_le ov
  have yle := ok_le oY
  have hsame : Y n i j ≤ v → TB σ L (ud Y n i j (min (Y n i j) v)) := fun h m a b hm hab hb => by
    unfold ud
    split
    · next e => rw [e.1, e.2.1, e.2.2, Nat.min_eq_left h]; exact hc
    · exact hT m a b hm hab hb
  have hnew : v < Y n i j → TB (st (st (st σ 10 (49 * n + 7 * i + j) c) 11 (49 * n + 7 * i + j) l) 12 (49 * n + 7 * i + j) t) L (ud Y n i j (min (Y n i j) v)) := fun h m a b hm hab hb => by
    unfold ud
    by_cases e : m = n ∧ a = i ∧ b = j
    · rw [if_pos e, e.1, e.2.1, e.2.2, Nat.min_eq_right (by omega), st_other _ _ (by decide : 10 ≠ 12), st_other _ _ (by decide : 10 ≠ 11), st_eq, st_other _ _ (by decide : 11 ≠ 12), st_eq, st_eq]
      exact hv
    · rw [if_neg e, st_other _ _ (by decide : 10 ≠ 12), st_other _ _ (by decide : 10 ≠ 11), st_ne _ _ (by omega), st_other _ _ (by decide : 11 ≠ 12), st_ne _ _ (by omega), st_other _ _ (by decide : 11 ≠ 10), st_ne _ _ (by omega), st_other _ _ (by decide : 12 ≠ 11), st_other _ _ (by decide : 12 ≠ 10)]
      exact hT m a b hm hab hb
  have hB : eqB σ (st (st (st σ 10 (49 * n + 7 * i + j) c) 11 (49 * n + 7 * i + j) l) 12 (49 * n + 7 * i + j) t) := eqB_trans (eqB_st (Or.inl rfl)) (eqB_trans (eqB_st (Or.inr (Or.inl rfl))) (eqB_st (Or.inr (Or.inr rfl))))
  have hB0 : eqB σ σ := ⟨fun _ _ _ => rfl, fun _ _ _ _ => rfl⟩
  by_cases q : v = TT
  · refine ⟨0, σ, ?_, hB0, hsame (by omega), Or.inr ⟨rfl, by omega⟩⟩
    rw [ifle_t ((R3_TT hv).mpr q) (by omega) (by omega)]
  · have h1 : c < 100000000 := Int.lt_of_not_ge (fun z => q ((R3_TT hv).mp z))
    rw [ifle_f h1 (by omega) (by omega)]
    by_cases h2 : 100000000 ≤ σ 10 (49 * n + 7 * i + j)
    · have hT2 := (R3_TT hc).mp h2
      refine ⟨1, _, ?_, hB, hnew (by omega), Or.inl ⟨rfl, by omega⟩⟩
      rw [ifle_t h2 (by omega) (by omega), bV_s]
      exact hK0
    · obtain ⟨b, b1, b2, b3, b4⟩ := isBetter_m hv hc ov oY hs (by omega)
      rw [ifle_f (by omega) (by omega) (by omega), b1, bV_s]
      rcases b2 with b2 | b2
      · have hle : Y n i j ≤ v := by
          have := b3 q
          omega
        refine ⟨0, σ, ?_, hB0, hsame hle, Or.inr ⟨rfl, hle⟩⟩
        rw [b2, if_pos rfl, bV_s]
        exact hK1 1 (by decide)
      · have hlt : v < Y n i j := (b3 q).mp b2
        refine ⟨1, _, ?_, hB, hnew hlt, Or.inl ⟨rfl, hlt⟩⟩
        rw [b2, if_neg (by decide), bV_s]
        exact hK0
