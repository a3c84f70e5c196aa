/-! layer 2, word, example, rule, told, near -/
/-- all signs of the pad are letters -/
def allL (A : AS) : Prop := ∀ k, k < aC A → 97 ≤ aP A k ∧ aP A k ≤ 100
theorem signAt5_m {σ τ : Mem} {A : AS} {k : Nat} (h : PadS σ τ A) (hk : k < aC A) : f_X5_signAt (k : Int) σ = some (aP A k : Int) := by
  obtain ⟨p1, p2, p3, p4⟩ := h
  unfold f_X5_signAt
  rw [p2, ifl_f (by omega) (by omega) (by omega), ifle_f (by omega) (by omega) (by omega), ifle_f (by omega) (by omega) (by omega), gd_pos ⟨by omega, by omega⟩, Int.toNat_natCast, (p4 k hk).1]
theorem isWord13 {σ τ : Mem} {A : AS} {N : Nat} (h : PadS σ τ A) : ∀ (m k fuel : Nat), k + m = aC A → m < fuel → (∀ x, x < k → 97 ≤ aP A x ∧ aP A x ≤ 100) →
    ∃ t : Nat, f_X5_isWord_L13 N σ fuel (k : Int) = some t ∧ ((t = 1 ∧ allL A) ∨ (t = 0 ∧ ¬ allL A)) := by
  have h2 := h.2.1
  have h60 := h.1
  intro m
  induction m with
  | zero =>
    intro k fuel hk hf hx
    obtain ⟨f, rfl⟩ : ∃ f, fuel = f + 1 := ⟨fuel - 1, by omega⟩
    refine ⟨1, ?_, Or.inl ⟨rfl, fun x hx2 => hx x (by omega)⟩⟩
    rw [f_X5_isWord_L13, h2, ifle_t (by omega) (by omega) (by omega)]
  | succ m ih =>
    intro k fuel hk hf hx
    obtain ⟨f, rfl⟩ : ∃ f, fuel = f + 1 := ⟨fuel - 1, by omega⟩
    have hp := (h.2.2.2 k (by omega)).2.2
    rw [f_X5_isWord_L13, h2, ifle_f (by omega) (by omega) (by omega), bV_ok (signAt5_m h (by omega))]
    by_cases q1 : aP A k < 97
    · refine ⟨0, by rw [ifl_t (by omega) (by omega) (by omega)], Or.inr ⟨rfl, fun z => ?_⟩⟩
      have := z k (by omega)
      omega
    · rw [ifl_f (by omega) (by omega) (by omega)]
      by_cases q2 : aP A k ≤ 100
      · obtain ⟨t, t1, t2⟩ := ih (k + 1) f (by omega) (by omega) (fun x hx2 => by
          by_cases e : x = k
          · rw [e]; omega
          · exact hx x (by omega))
        refine ⟨t, ?_, t2⟩
        rw [ifl_t (by omega) (by omega) (by omega), nm_s]
        exact t1
      · refine ⟨0, by rw [ifl_f (by omega) (by omega) (by omega)], Or.inr ⟨rfl, fun z => ?_⟩⟩
        have := z k (by omega)
        omega
theorem word17 {σ τ : Mem} {A : AS} {N : Nat} (h : PadS σ τ A) : ∀ (m k fuel : Nat) (x : Int), k + m = aC A → m < fuel → ((x = 1 ∧ ∀ y, y < k → 97 ≤ aP A y ∧ aP A y ≤ 100) ∨ (x = 0 ∧ ¬ (aC A ≤ 6 ∧ allL A))) → aC A ≤ 6 ∨ x = 0 →
    ∃ t : Int, f_X12_word_L17 N τ fuel x (k : Int) = some t ∧ ((t = 1 ∧ aC A ≤ 6 ∧ allL A) ∨ (t = 0 ∧ ¬ (aC A ≤ 6 ∧ allL A))) := by
  have h3 := h.2.2.1
  have h60 := h.1
  intro m
  induction m with
  | zero =>
    intro k fuel x hk hf hx h6
    obtain ⟨f, rfl⟩ : ∃ f, fuel = f + 1 := ⟨fuel - 1, by omega⟩
    refine ⟨x, ?_, ?_⟩
    · rw [f_X12_word_L17, h3, ifle_t (by omega) (by omega) (by omega)]
    · rcases hx with ⟨e, hx⟩ | ⟨e, hx⟩
      · exact Or.inl ⟨e, by omega, fun y hy => hx y (by omega)⟩
      · exact Or.inr ⟨e, hx⟩
  | succ m ih =>
    intro k fuel x hk hf hx h6
    obtain ⟨f, rfl⟩ : ∃ f, fuel = f + 1 := ⟨fuel - 1, by omega⟩
    have hp := (h.2.2.2 k (by omega)).2
    have en : (k : Int) + 1 = ((k + 1 : Nat) : Int) := by omega
    rw [f_X12_word_L17, h3, ifle_f (by omega) (by omega) (by omega)]
    rcases hx with ⟨e, hx⟩ | ⟨e, hx⟩
    · rw [e, ife_f (by decide) (by decide) (by decide) (by decide) (by decide), gd_pos ⟨by omega, by omega⟩, Int.toNat_natCast, hp.1, in_v (by omega) (by omega) (by decide) (by decide) (by decide) (by decide), bV_s]
      by_cases q : 97 ≤ aP A k ∧ aP A k ≤ 100
      · obtain ⟨t, t1, t2⟩ := ih (k + 1) f 1 (by omega) (by omega) (Or.inl ⟨rfl, fun y hy => by
          by_cases e2 : y = k
          · rw [e2]; exact q
          · exact hx y (by omega)⟩) (by omega)
        refine ⟨t, ?_, t2⟩
        rw [if_pos (c := (97 : Int) ≤ (aP A k : Int) ∧ (aP A k : Int) ≤ 100) (by omega), if_neg z10, bV_s, if_neg (by decide), nm_s, en]
        exact t1
      · obtain ⟨t, t1, t2⟩ := ih (k + 1) f 0 (by omega) (by omega) (Or.inr ⟨rfl, fun y => q (y.2 k (by omega))⟩) (Or.inr rfl)
        refine ⟨t, ?_, t2⟩
        rw [if_neg (c := (97 : Int) ≤ (aP A k : Int) ∧ (aP A k : Int) ≤ 100) (by omega), if_pos z00, bV_s, if_pos rfl, nm_s, en]
        exact t1
    · obtain ⟨t, t1, t2⟩ := ih (k + 1) f 0 (by omega) (by omega) (Or.inr ⟨rfl, hx⟩) (Or.inr rfl)
      refine ⟨t, ?_, t2⟩
      rw [e, ife_t rfl, bV_s, if_pos rfl, nm_s, en]
      exact t1
theorem word22 {A : AS} {N : Nat} (h6 : aC A ≤ 6) (hl : allL A) : ∀ (m k fuel : Nat) (σ τ : Mem), k + m = aC A → m < fuel → PadS σ τ A → σ 13 1 = (k : Int) → (∀ x, x < k → σ 14 x = ((aP A x - 97 : Nat) : Int)) →
    ∃ σ2, f_X11_word_L22 N fuel (k : Int) σ = some σ2 ∧ (∀ r, r ≠ 13 → r ≠ 14 → σ2 r = σ r) ∧ σ2 13 1 = (aC A : Int) ∧ ∀ x, x < aC A → σ2 14 x = ((aP A x - 97 : Nat) : Int) := by
  intro m
  induction m with
  | zero =>
    intro k fuel σ τ hk hf h h1 h2
    obtain ⟨f, rfl⟩ : ∃ f, fuel = f + 1 := ⟨fuel - 1, by omega⟩
    have e : k = aC A := by omega
    refine ⟨σ, ?_, fun _ _ _ => rfl, by rw [← e]; exact h1, fun x hx => h2 x (by omega)⟩
    rw [f_X11_word_L22, h.2.1, ifle_t (by omega) (by omega) (by omega)]
  | succ m ih =>
    intro k fuel σ τ hk hf h h1 h2
    obtain ⟨f, rfl⟩ : ∃ f, fuel = f + 1 := ⟨fuel - 1, by omega⟩
    have hp := hl k (by omega)
    have ep : (aP A k : Int) - 97 = ((aP A k - 97 : Nat) : Int) := by omega
    have hadd := X10_add_m (w := 13) (a := ((aP A k - 97 : Nat) : Int)) h1 (by show k < 6; omega)
    obtain ⟨σ2, t1, t2, t3, t4⟩ := ih (k + 1) f (st (st σ (13 + 1) k ((aP A k - 97 : Nat) : Int)) 13 1 ((k + 1 : Nat) : Int)) τ (by omega) (by omega) (PadS_eq h (by rw [st_other _ _ (by decide), st_other _ _ (by decide)]) (by rw [st_other _ _ (by decide), st_other _ _ (by decide)]) rfl rfl) (st_eq _ _ _ _) (fun x hx => by
      rw [st_other _ _ (by decide : 14 ≠ 13), show (13 + 1) = 14 from rfl]
      by_cases e : x = k
      · rw [e, st_eq]
      · rw [st_ne _ _ e]; exact h2 x (by omega))
    refine ⟨σ2, ?_, fun r a b => by rw [t2 r a b, st_other _ _ a, st_other _ _ b], t3, t4⟩
    rw [f_X11_word_L22, h.2.1, ifle_f (by omega) (by omega) (by omega), bV_ok (signAt5_m h (by omega)), ep, bV_ok hadd, nm_s]
    exact t1
theorem word74 {σ : Mem} {A : AS} {N : Nat} (h6 : aC A ≤ 6) (hl : allL A) : ∀ (m k fuel : Nat) (τ : Mem), k + m = aC A → m < fuel → PadS σ τ A → (∀ x, x < k → τ 5 x = ((aP A x - 97 : Nat) : Int)) →
    ∃ τ2, f_X12_word_L74 N fuel (k : Int) τ = some τ2 ∧ (∀ r, r ≠ 5 → τ2 r = τ r) ∧ ∀ x, x < aC A → τ2 5 x = ((aP A x - 97 : Nat) : Int) := by
  intro m
  induction m with
  | zero =>
    intro k fuel τ hk hf h h2
    obtain ⟨f, rfl⟩ : ∃ f, fuel = f + 1 := ⟨fuel - 1, by omega⟩
    refine ⟨τ, ?_, fun _ _ => rfl, fun x hx => h2 x (by omega)⟩
    rw [f_X12_word_L74, h.2.2.1, ifle_t (by omega) (by omega) (by omega)]
  | succ m ih =>
    intro k fuel τ hk hf h h2
    obtain ⟨f, rfl⟩ : ∃ f, fuel = f + 1 := ⟨fuel - 1, by omega⟩
    have hp := hl k (by omega)
    have ep : (aP A k : Int) - 97 = ((aP A k - 97 : Nat) : Int) := by omega
    obtain ⟨τ2, t1, t2, t3⟩ := ih (k + 1) f (st τ 5 k ((aP A k - 97 : Nat) : Int)) (by omega) (by omega) (PadS_eq h rfl rfl (by rw [st_other _ _ (by decide)]) (by rw [st_other _ _ (by decide)])) (fun x hx => by
      by_cases e : x = k
      · rw [e, st_eq]
      · rw [st_ne _ _ e]; exact h2 x (by omega))
    refine ⟨τ2, ?_, fun r a => by rw [t2 r a, st_other _ _ a], t3⟩
    rw [f_X12_word_L74, h.2.2.1, ifle_f (by omega) (by omega) (by omega), gd_pos ⟨by omega, by omega⟩, gd_pos ⟨by omega, by omega⟩, Int.toNat_natCast, (h.2.2.2 k (by omega)).2.1, ep, nm_s, nm_s]
    exact t1
theorem word_m {σ τ : Mem} {A : AS} {N : Nat} (hN : 100 ≤ N) (h : Inv σ τ A) : SameI (f_X11_word N σ) (f_X12_word N τ) := by
  obtain ⟨g1, g2, g3, g4, g5, g6, g7, g8, g9⟩ := id h
  have h60 := g1.1
  have hc := g1.2.1
  have hr := g1.2.2.1
  have hcl : ∃ v : Int, f_X5_isWord N σ = some v ∧ ((v = 1 ∧ aC A ≤ 6 ∧ allL A) ∨ (v = 0 ∧ ¬ (aC A ≤ 6 ∧ allL A))) := by
    unfold f_X5_isWord
    rw [hc]
    by_cases q : aC A ≤ 6
    · obtain ⟨t, t1, t2⟩ := isWord13 (N := N) g1 (aC A) 0 N (by omega) (by omega) (fun x hx => absurd hx (Nat.not_lt_zero x))
      have t1' : f_X5_isWord_L13 N σ N 0 = some t := t1
      rw [ifle_t (by omega) (by omega) (by omega), bV_ok t1']
      rcases t2 with ⟨e, z⟩ | ⟨e, z⟩
      · exact ⟨1, by rw [e, if_neg (by decide)], Or.inl ⟨rfl, q, z⟩⟩
      · exact ⟨0, by rw [e, if_pos rfl], Or.inr ⟨rfl, fun y => z y.2⟩⟩
    · rw [ifle_f (by omega) (by omega) (by omega)]
      exact ⟨0, rfl, Or.inr ⟨rfl, fun y => q y.1⟩⟩
  have hrf : ∃ v0 t : Int, (if zI 6 < zI (τ 0 0) then some 0 else some 1) = some v0 ∧ f_X12_word_L17 N τ N v0 0 = some t ∧ ((t = 1 ∧ aC A ≤ 6 ∧ allL A) ∨ (t = 0 ∧ ¬ (aC A ≤ 6 ∧ allL A))) := by
    rw [hr]
    by_cases q : aC A ≤ 6
    · obtain ⟨t, t1, t2⟩ := word17 (N := N) g1 (aC A) 0 N 1 (by omega) (by omega) (Or.inl ⟨rfl, fun x hx => absurd hx (Nat.not_lt_zero x)⟩) (Or.inl q)
      exact ⟨1, t, by rw [ifl_f (by omega) (by omega) (by omega)], t1, t2⟩
    · obtain ⟨t, t1, t2⟩ := word17 (N := N) g1 (aC A) 0 N 0 (by omega) (by omega) (Or.inr ⟨rfl, fun y => q y.1⟩) (Or.inr rfl)
      exact ⟨0, t, by rw [ifl_t (by omega) (by omega) (by omega)], t1, t2⟩
  obtain ⟨v, v1, v2⟩ := hcl
  obtain ⟨v0, t, r1, r2, r3⟩ := hrf
  by_cases q : aC A ≤ 6 ∧ allL A
  · have ev : v = 1 := by
      rcases v2 with z | z
      · exact z.1
      · exact absurd q z.2
    have et : t = 1 := by
      rcases r3 with z | z
      · exact z.1
      · exact absurd q z.2
    rw [ev] at v1
    rw [et] at r2
    obtain ⟨σ2, a1, a2, a3, a4⟩ := word22 (N := N) q.1 q.2 (aC A) 0 N (st σ 13 1 0) τ (by omega) (by omega) (PadS_eq g1 (by rw [st_other _ _ (by decide)]) (by rw [st_other _ _ (by decide)]) rfl rfl) (st_eq _ _ _ _) (fun x hx => absurd hx (Nat.not_lt_zero x))
    obtain ⟨τ2, b1, b2, b3⟩ := word74 (N := N) (σ := σ) q.1 q.2 (aC A) 0 N (st τ 0 6 (aC A : Int)) (by omega) (by omega) (PadS_eq g1 rfl rfl (by rw [st_ne _ _ (by decide)]) (by rw [st_other _ _ (by decide)])) (fun x hx => absurd hx (Nat.not_lt_zero x))
    have a1' : f_X11_word_L22 N N 0 (st σ 13 1 0) = some σ2 := a1
    have b1' : f_X12_word_L74 N N 0 (st τ 0 6 (aC A : Int)) = some τ2 := b1
    have c : ∀ k, k ≠ 0 → k ≠ 1 → k ≠ 13 → k ≠ 14 → k ≠ 38 → (st (st (st σ2 1 1 0) 0 12 0) 38 3 (-1)) k = σ k := fun k x y z w u => by rw [st_other _ _ u, st_other _ _ x, st_other _ _ y, a2 k z w, st_other _ _ z]
    have c13 : ∀ k, k = 13 ∨ k = 14 → (st (st (st σ2 1 1 0) 0 12 0) 38 3 (-1)) k = σ2 k := fun k hk => by rw [st_other _ _ (by omega), st_other _ _ (by omega), st_other _ _ (by omega)]
    have r : ∀ k, k ≠ 0 → k ≠ 5 → (st τ2 0 0 0) k = τ k := fun k x y => by rw [st_other _ _ x, b2 k y, st_other _ _ x]
    have r0 : ∀ j, j ≠ 0 → j ≠ 6 → (st τ2 0 0 0) 0 j = τ 0 j := fun j x y => by rw [st_ne _ _ x, b2 0 (by decide), st_ne _ _ y]
    refine ⟨(aC A : Int), st (st (st σ2 1 1 0) 0 12 0) 38 3 (-1), st τ2 0 0 0, aWord A, ?_, ?_, ⟨Nat.zero_le _, ?_, st_eq _ _ _ _, fun k hk => absurd hk (Nat.not_lt_zero k)⟩, ?_, ⟨⟨Or.inl rfl, ?_, q.1, q.1, fun k hk => ?_⟩, ?_, fun k hk => ?_⟩, ?_, ?_, ?_, ?_, ?_, ?_⟩
    · unfold f_X11_word f_X10_clear
      rw [bV_ok v1, if_neg z10, nm_s, bV_s, bV_ok a1', nm_s, bV_ok forgetAnswers_m, c13 13 (Or.inl rfl), a3]
    · unfold f_X12_word
      rw [r1, bV_s, bV_ok r2, if_neg z10, hr, nm_s, bV_ok b1', nm_s, st_ne _ _ (by decide), b2 0 (by decide), st_eq]
    · rw [st_other _ _ (by decide), st_other _ _ (by decide), st_eq]; rfl
    · exact (GraS_eq g2 (c 3 (by decide) (by decide) (by decide) (by decide) (by decide)) (c 4 (by decide) (by decide) (by decide) (by decide) (by decide)) (c 5 (by decide) (by decide) (by decide) (by decide) (by decide)) (c 6 (by decide) (by decide) (by decide) (by decide) (by decide)) (c 12 (by decide) (by decide) (by decide) (by decide) (by decide)) (r0 5 (by decide) (by decide)) (r 2 (by decide) (by decide)) (r 3 (by decide) (by decide)) (r 4 (by decide) (by decide)) : GraS _ _ A)
    · rw [c13 13 (Or.inl rfl)]; exact a3
    · rw [c13 14 (Or.inr rfl)]
      have hk2 : k < aC A := hk
      have hlk := q.2 k hk2
      refine ⟨a4 k hk2, ?_⟩
      show aP A k - 97 < 4
      omega
    · rw [st_ne _ _ (by decide), b2 0 (by decide), st_eq]; rfl
    · rw [st_other _ _ (by decide)]
      exact b3 k hk
    · exact (CosS_eq g4 (c 12 (by decide) (by decide) (by decide) (by decide) (by decide)) (r 8 (by decide) (by decide)) : CosS _ _ A)
    · exact (ExaS_eq g5 (fun k x y => c k (by omega) (by omega) (by omega) (by omega) (by omega)) (r0 8 (by decide) (by decide)) (r 6 (by decide) (by decide)) (r 7 (by decide) (by decide)) : ExaS _ _ A)
    · exact DraS_eq g6 (c 7 (by decide) (by decide) (by decide) (by decide) (by decide)) (c 9 (by decide) (by decide) (by decide) (by decide) (by decide)) (c 10 (by decide) (by decide) (by decide) (by decide) (by decide))
    · exact Or.inl (by rw [st_other _ _ (by decide), st_eq])
    · exact Or.inl (st_eq _ _ _ _)
    · exact (RefS_eq g9 (fun k x y => r k (by omega) (by omega)) : RefS _ A)
  · have ev : v = 0 := by
      rcases v2 with z | z
      · exact absurd z.2 q
      · exact z.1
    have et : t = 0 := by
      rcases r3 with z | z
      · exact absurd z.2 q
      · exact z.1
    rw [ev] at v1
    rw [et] at r2
    refine ⟨-5, σ, τ, A, ?_, ?_, h⟩
    · unfold f_X11_word
      rw [bV_ok v1, if_pos z00]
    · unfold f_X12_word
      rw [r1, bV_s, bV_ok r2, if_pos z00]
