/-! layer 2, calls that only change or tell what is held -/
def aSay (A : AS) (s : Nat) : AS := fun k x y z => if k = 0 then aC A + 1 else if k = 1 ∧ x = aC A then s else A k x y z
def aWipe (A : AS) : AS := fun k x y z => if k = 0 then 0 else A k x y z
def aCost (A : AS) (w v : Nat) : AS := fun k x y z => if k = 8 ∧ x = w then v else A k x y z
def aWord (A : AS) : AS := fun k x y z => if k = 0 then 0 else if k = 6 then aC A else if k = 7 then aP A x - 97 else A k x y z
def aExa (A : AS) : AS := fun k x y z => if k = 9 then aE A + 1 else if k = 10 ∧ x = aE A then aL A else if k = 11 ∧ x = aE A then aW A y else A k x y z
def aForg (A : AS) : AS := fun k x y z => if k = 9 then 0 else A k x y z
theorem say_m {σ τ : Mem} {A : AS} {a : Int} (h : Inv σ τ A) (h1 : -2147483648 ≤ a) (h2 : a < 2147483648) : SameI (f_X11_say a σ) (f_X12_say a τ) := by
  obtain ⟨⟨p1, p2, p3, p4⟩, g2, g3, g4, g5, g6, g7, g8, g9⟩ := id h
  by_cases q : 33 ≤ a ∧ a ≤ 126
  · obtain ⟨s, rfl⟩ : ∃ s : Nat, a = (s : Int) := ⟨a.toNat, by omega⟩
    by_cases q2 : aC A = 60
    · refine ⟨-4, σ, τ, A, ?_, ?_, h⟩
      · unfold f_X11_say f_X5_add
        rw [ifl_f (by omega) (by omega) (by omega), ifle_t (by omega) (by omega) (by omega), p2, ifl_f (by omega) (by omega) (by omega), ifl_f (by omega) (by omega) (by omega), bL1_s, if_pos z00]
      · unfold f_X12_say
        rw [in_v h1 h2 (by decide) (by decide) (by decide) (by decide), if_pos q, bV_s, if_neg z10, p3, ife_t (by omega)]
    · refine ⟨((aC A + 1 : Nat) : Int), st (st σ 2 (aC A) (s : Int)) 1 1 ((aC A + 1 : Nat) : Int), st (st τ 1 (aC A) (s : Int)) 0 0 ((aC A + 1 : Nat) : Int), aSay A s, ?_, ?_, ?_⟩
      · unfold f_X11_say f_X5_add
        rw [ifl_f (by omega) (by omega) (by omega), ifle_t (by omega) (by omega) (by omega), p2, ifl_f (by omega) (by omega) (by omega), ifl_t (by omega) (by omega) (by omega), gd_pos ⟨by omega, by omega⟩, Int.toNat_natCast, nm_s, nm_s, bL1_s, if_neg z10, st_eq, st_other _ _ (by decide : 1 ≠ 2), p2]
        rfl
      · unfold f_X12_say
        rw [in_v h1 h2 (by decide) (by decide) (by decide) (by decide), if_pos q, bV_s, if_neg z10, p3, ife_f (by omega) (by omega) (by omega) (by omega) (by omega), gd_pos ⟨by omega, by omega⟩, Int.toNat_natCast, nm_s, nm_s, st_eq, st_other _ _ (by decide : 0 ≠ 1), p3]
        rfl
      · have c : ∀ k, k ≠ 1 → k ≠ 2 → (st (st σ 2 (aC A) (s : Int)) 1 1 ((aC A + 1 : Nat) : Int)) k = σ k := fun k a b => by rw [st_other _ _ a, st_other _ _ b]
        have r : ∀ k, k ≠ 0 → k ≠ 1 → (st (st τ 1 (aC A) (s : Int)) 0 0 ((aC A + 1 : Nat) : Int)) k = τ k := fun k a b => by rw [st_other _ _ a, st_other _ _ b]
        have r0 : ∀ j, j ≠ 0 → (st (st τ 1 (aC A) (s : Int)) 0 0 ((aC A + 1 : Nat) : Int)) 0 j = τ 0 j := fun j a => by rw [st_ne _ _ a, st_other _ _ (by decide : 0 ≠ 1)]
        refine ⟨⟨?_, st_eq _ _ _ _, st_eq _ _ _ _, fun k hk => ?_⟩, ?_, ?_, ?_, ?_, ?_, ?_, ?_, ?_⟩
        · show aC A + 1 ≤ 60
          omega
        · have hk2 : k < aC A + 1 := hk
          rw [st_other _ _ (by decide : 2 ≠ 1), st_other _ _ (by decide : 1 ≠ 0), st_row, st_row]
          have ea : aP (aSay A s) k = if k = aC A then s else aP A k := by
            show (if 1 = 0 then aC A + 1 else if 1 = 1 ∧ k = aC A then s else A 1 k 0 0) = _
            by_cases e : k = aC A
            · rw [if_neg (by decide), if_pos ⟨rfl, e⟩, if_pos e]
            · rw [if_neg (by decide), if_neg (fun z => e z.2), if_neg e]; rfl
          rw [ea]
          by_cases e : k = aC A
          · rw [if_pos e, if_pos e, if_pos e]
            exact ⟨rfl, rfl, by omega, by omega⟩
          · rw [if_neg e, if_neg e, if_neg e]
            exact p4 k (by omega)
        · exact (GraS_eq g2 (c 3 (by decide) (by decide)) (c 4 (by decide) (by decide)) (c 5 (by decide) (by decide)) (c 6 (by decide) (by decide)) (c 12 (by decide) (by decide)) (r0 5 (by decide)) (r 2 (by decide) (by decide)) (r 3 (by decide) (by decide)) (r 4 (by decide) (by decide)) : GraS _ _ A)
        · exact (WrdS_eq g3 (c 13 (by decide) (by decide)) (c 14 (by decide) (by decide)) (r0 6 (by decide)) (r 5 (by decide) (by decide)) : WrdS _ _ A)
        · exact (CosS_eq g4 (c 12 (by decide) (by decide)) (r 8 (by decide) (by decide)) : CosS _ _ A)
        · exact (ExaS_eq g5 (fun k a b => c k (by omega) (by omega)) (r0 8 (by decide)) (r 6 (by decide) (by decide)) (r 7 (by decide) (by decide)) : ExaS _ _ A)
        · exact DraS_eq g6 (c 7 (by decide) (by decide)) (c 9 (by decide) (by decide)) (c 10 (by decide) (by decide))
        · exact (ChaS_eq g7 (c 0 (by decide) (by decide)) (c 27 (by decide) (by decide)) (c 28 (by decide) (by decide)) : ChaS _ A)
        · exact (ClaS_eq g8 (c 38 (by decide) (by decide)) (c 5 (by decide) (by decide)) (c 6 (by decide) (by decide)) : ClaS _ A)
        · exact (RefS_eq g9 (fun k a b => r k (by omega) (by omega)) : RefS _ A)
  · refine ⟨-2, σ, τ, A, ?_, ?_, h⟩
    · unfold f_X11_say
      by_cases q2 : a < 33
      · rw [ifl_t q2 (by omega) (by omega)]
      · rw [ifl_f (by omega) (by omega) (by omega), ifle_f (by omega) (by omega) (by omega)]
    · unfold f_X12_say
      rw [in_v h1 h2 (by decide) (by decide) (by decide) (by decide), if_neg q, bV_s, if_pos z00]
theorem wipe_m {σ τ : Mem} {A : AS} (h : Inv σ τ A) : SameI (f_X11_wipe σ) (f_X12_wipe τ) := by
  obtain ⟨⟨p1, p2, p3, p4⟩, g2, g3, g4, g5, g6, g7, g8, g9⟩ := id h
  have c : ∀ k, k ≠ 1 → (st σ 1 1 0) k = σ k := fun k a => by rw [st_other _ _ a]
  have r : ∀ k, k ≠ 0 → (st τ 0 0 0) k = τ k := fun k a => by rw [st_other _ _ a]
  have r0 : ∀ j, j ≠ 0 → (st τ 0 0 0) 0 j = τ 0 j := fun j a => by rw [st_ne _ _ a]
  refine ⟨(aC A : Int), st σ 1 1 0, st τ 0 0 0, aWipe A, ?_, ?_, ⟨Nat.zero_le _, st_eq _ _ _ _, st_eq _ _ _ _, fun k hk => absurd hk (Nat.not_lt_zero k)⟩, ?_, ?_, ?_, ?_, ?_, ?_, ?_, ?_⟩
  · unfold f_X11_wipe
    rw [nm_s, nm_s, p2]
  · unfold f_X12_wipe
    rw [nm_s, nm_s, p3]
  · exact (GraS_eq g2 (c 3 (by decide)) (c 4 (by decide)) (c 5 (by decide)) (c 6 (by decide)) (c 12 (by decide)) (r0 5 (by decide)) (r 2 (by decide)) (r 3 (by decide)) (r 4 (by decide)) : GraS _ _ A)
  · exact (WrdS_eq g3 (c 13 (by decide)) (c 14 (by decide)) (r0 6 (by decide)) (r 5 (by decide)) : WrdS _ _ A)
  · exact (CosS_eq g4 (c 12 (by decide)) (r 8 (by decide)) : CosS _ _ A)
  · exact (ExaS_eq g5 (fun k a b => c k (by omega)) (r0 8 (by decide)) (r 6 (by decide)) (r 7 (by decide)) : ExaS _ _ A)
  · exact DraS_eq g6 (c 7 (by decide)) (c 9 (by decide)) (c 10 (by decide))
  · exact (ChaS_eq g7 (c 0 (by decide)) (c 27 (by decide)) (c 28 (by decide)) : ChaS _ A)
  · exact (ClaS_eq g8 (c 38 (by decide)) (c 5 (by decide)) (c 6 (by decide)) : ClaS _ A)
  · exact (RefS_eq g9 (fun k a b => r k (by omega)) : RefS _ A)
theorem turn2 {N : Nat} : ∀ (m y fuel : Nat) (τ : Mem), y + m = 6 → m < fuel → (∀ z, z < y → τ 23 z = 0) →
    ∃ τ2, f_X12_turn_L2 N fuel (y : Int) τ = some τ2 ∧ (∀ k, k ≠ 23 → τ2 k = τ k) ∧ ∀ z, z < 6 → τ2 23 z = 0 := by
  intro m
  induction m with
  | zero =>
    intro y fuel τ hb hf h
    obtain ⟨k, rfl⟩ : ∃ k, fuel = k + 1 := ⟨fuel - 1, by omega⟩
    refine ⟨τ, ?_, fun _ _ => rfl, fun z hz => h z (by omega)⟩
    rw [f_X12_turn_L2, ifle_t (by omega) (by omega) (by omega)]
  | succ m ih =>
    intro y fuel τ hb hf h
    obtain ⟨k, rfl⟩ : ∃ k, fuel = k + 1 := ⟨fuel - 1, by omega⟩
    obtain ⟨τ2, t1, t2, t3⟩ := ih (y + 1) k (st τ 23 y 0) (by omega) (by omega) (fun z hz => by
      by_cases e : z = y
      · rw [e, st_eq]
      · rw [st_ne _ _ e]; exact h z (by omega))
    refine ⟨τ2, ?_, fun q hq => by rw [t2 q hq]; exact st_other _ _ hq, t3⟩
    rw [f_X12_turn_L2, ifle_f (by omega) (by omega) (by omega), gd_pos (by omega), Int.toNat_natCast, nm_s, nm_s]
    exact t1
theorem turn_m {τ : Mem} {N : Nat} (hN : 20 ≤ N) : ∃ τ2, f_X12_turn N τ = some τ2 ∧ (∀ k, k ≠ 23 → τ2 k = τ k) ∧ ∀ z, z < 6 → τ2 23 z = 0 := by
  obtain ⟨τ2, t1, t2, t3⟩ := turn2 (N := N) 6 0 N τ rfl (by omega) (fun z hz => absurd hz (Nat.not_lt_zero z))
  have t1' : f_X12_turn_L2 N N 0 τ = some τ2 := t1
  refine ⟨τ2, ?_, t2, t3⟩
  unfold f_X12_turn
  rw [bV_ok t1']
theorem forgetAnswers_m {σ : Mem} : f_X11_forgetAnswers σ = some (st (st σ 0 12 0) 38 3 (-1)) := by
  unfold f_X11_forgetAnswers f_X9_forgetBest
  rw [nm_s, nm_s, bV_s]
theorem wfM_cost {σ σ2 : Mem} {A : AS} {dr pu ch : Nat} (h : wfM σ) (h3 : σ2 3 = σ 3) (h4 : σ2 4 = σ 4) (h5 : σ2 5 = σ 5) (h6 : σ2 6 = σ 6) (hc : CS σ2 dr pu ch) : wfM σ2 := by
  obtain ⟨a1, a2, a3, a4, a5⟩ := h
  obtain ⟨c1, c2, c3, c4, c5, c6, c7, c8, c9⟩ := hc
  unfold wfM
  rw [h3, h4, h5, h6]
  refine ⟨a1, a2, a3, a4, fun k hk => ?_⟩
  have : k = 0 ∨ k = 1 ∨ k = 2 := by omega
  rcases this with rfl | rfl | rfl
  · rw [c1]; omega
  · rw [c2]; omega
  · rw [c3]; omega
theorem cost_m {σ τ : Mem} {A : AS} {N : Nat} {a b : Int} (hN : 20 ≤ N) (h : Inv σ τ A) (h1 : -2147483648 ≤ a) (h2 : a < 2147483648) (h3 : -2147483648 ≤ b) (h4 : b < 2147483648) : SameI (f_X11_cost a b σ) (f_X12_cost N a b τ) := by
  obtain ⟨g1, g2, g3, g4, g5, g6, g7, g8, g9⟩ := id h
  by_cases qa : 0 ≤ a ∧ a ≤ 2
  · by_cases qb : 1 ≤ b ∧ b ≤ 9
    · obtain ⟨w, rfl⟩ : ∃ w : Nat, a = (w : Int) := ⟨a.toNat, by omega⟩
      obtain ⟨v, rfl⟩ : ∃ v : Nat, b = (v : Int) := ⟨b.toNat, by omega⟩
      obtain ⟨⟨c1, c2, c3, c4, c5, c6, c7, c8, c9⟩, d1, d2, d3⟩ := g4
      have hsame : σ 12 w = τ 8 w := by
        have : w = 0 ∨ w = 1 ∨ w = 2 := by omega
        rcases this with rfl | rfl | rfl
        · rw [c1, d1]
        · rw [c2, d2]
        · rw [c3, d3]
      obtain ⟨τ2, t1, t2, t3⟩ := turn_m (N := N) (τ := st τ 8 w (v : Int)) hN
      have c : ∀ k, k ≠ 0 → k ≠ 12 → k ≠ 38 → (st (st (st σ 12 w (v : Int)) 0 12 0) 38 3 (-1)) k = σ k := fun k x y z => by rw [st_other _ _ z, st_other _ _ x, st_other _ _ y]
      have e12 : ∀ j, (st (st (st σ 12 w (v : Int)) 0 12 0) 38 3 (-1)) 12 j = if j = w then (v : Int) else σ 12 j := fun j => by rw [st_other _ _ (by decide : 12 ≠ 38), st_other _ _ (by decide : 12 ≠ 0), st_row]
      have r : ∀ k, k ≠ 8 → k ≠ 23 → τ2 k = τ k := fun k x y => by rw [t2 k y, st_other _ _ x]
      have e8 : ∀ j, τ2 8 j = if j = w then (v : Int) else τ 8 j := fun j => by rw [t2 8 (by decide), st_row]
      have aA : ∀ x, aCost A w v 8 x 0 0 = if x = w then v else A 8 x 0 0 := fun x => by
        show (if 8 = 8 ∧ x = w then v else A 8 x 0 0) = _
        by_cases e : x = w
        · rw [if_pos ⟨rfl, e⟩, if_pos e]
        · rw [if_neg (fun z => e z.2), if_neg e]
      have eD : aD (aCost A w v) = if 0 = w then v else aD A := aA 0
      have eU : aU (aCost A w v) = if 1 = w then v else aU A := aA 1
      have eH : aH (aCost A w v) = if 2 = w then v else aH A := aA 2
      have hCS : CS (st (st (st σ 12 w (v : Int)) 0 12 0) 38 3 (-1)) (aD (aCost A w v)) (aU (aCost A w v)) (aH (aCost A w v)) := by
        unfold CS
        rw [e12, e12, e12, eD, eU, eH, c1, c2, c3]
        refine ⟨?_, ?_, ?_, ?_, ?_, ?_, ?_, ?_, ?_⟩ <;> split <;> omega
      refine ⟨τ 8 w, st (st (st σ 12 w (v : Int)) 0 12 0) 38 3 (-1), τ2, aCost A w v, ?_, ?_, ?_, ?_, ?_, ⟨hCS, ?_, ?_, ?_⟩, ?_, ?_, ?_, ?_, ?_⟩
      · unfold f_X11_cost f_X1_of f_X1_set
        rw [ifl_f (by omega) (by omega) (by omega), ifle_f (by omega) (by omega) (by omega), ifl_f (by omega) (by omega) (by omega), ifle_t (by omega) (by omega) (by omega), ifl_f (by omega) (by omega) (by omega), ifle_f (by omega) (by omega) (by omega), gd_pos ⟨by omega, by omega⟩, bV_s, ifl_f (by omega) (by omega) (by omega), ifle_f (by omega) (by omega) (by omega), gd_pos ⟨by omega, by omega⟩, nm_s, bV_s, Int.toNat_natCast, bV_ok forgetAnswers_m, hsame]
      · unfold f_X12_cost
        rw [in_v h1 h2 (by decide) (by decide) (by decide) (by decide), if_pos qa, bV_s, if_neg z10, in_v h3 h4 (by decide) (by decide) (by decide) (by decide), if_pos qb, bV_s, if_neg z10, gd_pos ⟨by omega, by omega⟩, Int.toNat_natCast, nm_s, nm_s, bV_ok t1]
      · exact (PadS_eq g1 (c 1 (by decide) (by decide) (by decide)) (c 2 (by decide) (by decide) (by decide)) (by rw [r 0 (by decide) (by decide)]) (r 1 (by decide) (by decide)) : PadS _ _ A)
      · obtain ⟨a1, a2, a3, a4, a5, a6, a7, a8, a9⟩ := g2
        have e3 := c 3 (by decide) (by decide) (by decide)
        have e4 := c 4 (by decide) (by decide) (by decide)
        have e5 := c 5 (by decide) (by decide) (by decide)
        have e6 := c 6 (by decide) (by decide) (by decide)
        have hG : GraS _ _ A := ⟨wfM_cost (A := A) a1 e3 e4 e5 e6 hCS, by rw [e3]; exact a2, by rw [rcC_eq e3 e4, rlC_eq e4 e5, rsC_eq e4 e6]; exact a3, GR_eq a4 (r 2 (by decide) (by decide)) (r 3 (by decide) (by decide)) (r 4 (by decide) (by decide)), a5, a6, by rw [e3]; exact a7, by rw [r 0 (by decide) (by decide)]; exact a8, by rw [e3]; exact a9⟩
        exact hG
      · exact (WrdS_eq g3 (c 13 (by decide) (by decide) (by decide)) (c 14 (by decide) (by decide) (by decide)) (by rw [r 0 (by decide) (by decide)]) (r 5 (by decide) (by decide)) : WrdS _ _ A)
      · rw [e8, eD, d1]; split <;> rfl
      · rw [e8, eU, d2]; split <;> rfl
      · rw [e8, eH, d3]; split <;> rfl
      · exact (ExaS_eq g5 (fun k x y => c k (by omega) (by omega) (by omega)) (by rw [r 0 (by decide) (by decide)]) (r 6 (by decide) (by decide)) (r 7 (by decide) (by decide)) : ExaS _ _ A)
      · exact DraS_eq g6 (c 7 (by decide) (by decide) (by decide)) (c 9 (by decide) (by decide) (by decide)) (c 10 (by decide) (by decide) (by decide))
      · exact Or.inl (by rw [st_other _ _ (by decide : 0 ≠ 38), st_eq])
      · exact Or.inl (st_eq _ _ _ _)
      · exact fun n hn => Or.inl (t3 n hn)
    · refine ⟨-2, σ, τ, A, ?_, ?_, h⟩
      · unfold f_X11_cost
        rw [ifl_f (a := a) (b := 0) (by omega) (by omega) (by omega), ifle_f (a := 3) (by omega) (by omega) (by omega)]
        by_cases q2 : b < 1
        · rw [ifl_t q2 (by omega) (by omega)]
        · rw [ifl_f (by omega) (by omega) (by omega), ifle_f (by omega) (by omega) (by omega)]
      · unfold f_X12_cost
        rw [in_v h1 h2 (by decide) (by decide) (by decide) (by decide), if_pos qa, bV_s, if_neg z10, in_v h3 h4 (by decide) (by decide) (by decide) (by decide), if_neg qb, bV_s, if_pos z00]
  · refine ⟨-2, σ, τ, A, ?_, ?_, h⟩
    · unfold f_X11_cost
      by_cases q2 : a < 0
      · rw [ifl_t q2 (by omega) (by omega)]
      · rw [ifl_f (a := a) (b := 0) (by omega) (by omega) (by omega), ifle_t (by omega) (by omega) (by omega)]
    · unfold f_X12_cost
      rw [in_v h1 h2 (by decide) (by decide) (by decide) (by decide), if_neg qa, bV_s, if_pos z00]
theorem forget_m {σ τ : Mem} {A : AS} {N : Nat} (hN : 20 ≤ N) (h : Inv σ τ A) : SameI (f_X11_forget σ) (f_X12_forget N τ) := by
  obtain ⟨g1, g2, g3, g4, ⟨b1, b2, b3, b4, b5⟩, g6, g7, g8, g9⟩ := id h
  obtain ⟨τ2, t1, t2, t3⟩ := turn_m (N := N) (τ := st τ 0 8 0) hN
  have c : ∀ k, k ≠ 25 → k ≠ 38 → (st (st σ 25 2 0) 38 3 (-1)) k = σ k := fun k y z => by rw [st_other _ _ z, st_other _ _ y]
  have r : ∀ k, k ≠ 0 → k ≠ 23 → τ2 k = τ k := fun k x y => by rw [t2 k y, st_other _ _ x]
  have r0 : ∀ j, j ≠ 8 → τ2 0 j = τ 0 j := fun j a => by rw [t2 0 (by decide), st_ne _ _ a]
  refine ⟨(aE A : Int), st (st σ 25 2 0) 38 3 (-1), τ2, aForg A, ?_, ?_, ?_, ?_, ?_, ?_, ⟨Nat.zero_le _, ?_, ?_, ?_, fun i hi => absurd hi (Nat.not_lt_zero i)⟩, ?_, ?_, ?_, ?_⟩
  · unfold f_X11_forget f_X9_forgetBest
    rw [nm_s, nm_s, nm_s, bV_s, b2]
  · unfold f_X12_forget
    rw [nm_s, nm_s, bV_ok t1, b3]
  · exact (PadS_eq g1 (c 1 (by decide) (by decide)) (c 2 (by decide) (by decide)) (r0 0 (by decide)) (r 1 (by decide) (by decide)) : PadS _ _ A)
  · exact (GraS_eq g2 (c 3 (by decide) (by decide)) (c 4 (by decide) (by decide)) (c 5 (by decide) (by decide)) (c 6 (by decide) (by decide)) (c 12 (by decide) (by decide)) (r0 5 (by decide)) (r 2 (by decide) (by decide)) (r 3 (by decide) (by decide)) (r 4 (by decide) (by decide)) : GraS _ _ A)
  · exact (WrdS_eq g3 (c 13 (by decide) (by decide)) (c 14 (by decide) (by decide)) (r0 6 (by decide)) (r 5 (by decide) (by decide)) : WrdS _ _ A)
  · exact (CosS_eq g4 (c 12 (by decide) (by decide)) (r 8 (by decide) (by decide)) : CosS _ _ A)
  · rw [st_other _ _ (by decide : 25 ≠ 38), st_eq]; rfl
  · rw [t2 0 (by decide), st_eq]; rfl
  · rw [c 26 (by decide) (by decide)]; exact b4
  · exact DraS_eq g6 (c 7 (by decide) (by decide)) (c 9 (by decide) (by decide)) (c 10 (by decide) (by decide))
  · exact (ChaS_eq g7 (c 0 (by decide) (by decide)) (c 27 (by decide) (by decide)) (c 28 (by decide) (by decide)) : ChaS _ A)
  · exact Or.inl (st_eq _ _ _ _)
  · exact fun n hn => Or.inl (t3 n hn)
