/-! layer 2, example, rule, told, near -/
theorem copy6 {w0 w1 L N : Nat} {wd : Nat → Nat} (hw : w1 ≠ w0 ∧ w1 ≠ w0 + 1 ∧ w1 + 1 ≠ w0 ∧ w1 + 1 ≠ w0 + 1) (hl1 : lenW w1 = 6) : ∀ (m k fuel : Nat) (σ : Mem), k + m = L → m < fuel → WD σ w0 L wd → σ w1 1 = (k : Int) → (∀ x, x < k → σ (w1 + 1) x = (wd x : Int)) →
    ∃ σ2, f_X10_copy_L6 N w1 w0 fuel (k : Int) σ = some σ2 ∧ (∀ r, r ≠ w1 → r ≠ w1 + 1 → σ2 r = σ r) ∧ σ2 w1 1 = (L : Int) ∧ ∀ x, x < L → σ2 (w1 + 1) x = (wd x : Int) := by
  intro m
  induction m with
  | zero =>
    intro k fuel σ hk hf h h1 h2
    obtain ⟨f, rfl⟩ : ∃ f, fuel = f + 1 := ⟨fuel - 1, by omega⟩
    have e : k = L := by omega
    have hL := h.2.2.1
    refine ⟨σ, ?_, fun _ _ _ => rfl, by rw [← e]; exact h1, fun x hx => h2 x (by omega)⟩
    rw [f_X10_copy_L6, h.2.1, ifle_t (by omega) (by omega) (by omega)]
  | succ m ih =>
    intro k fuel σ hk hf h h1 h2
    obtain ⟨f, rfl⟩ : ∃ f, fuel = f + 1 := ⟨fuel - 1, by omega⟩
    have hL := h.2.2.1
    have hadd := X10_add_m (w := w1) (a := (wd k : Int)) h1 (by rw [hl1]; omega)
    obtain ⟨σ2, t1, t2, t3, t4⟩ := ih (k + 1) f (st (st σ (w1 + 1) k (wd k : Int)) w1 1 ((k + 1 : Nat) : Int)) (by omega) (by omega) (WD_eq h (by rw [st_other _ _ (Ne.symm hw.1), st_other _ _ (Ne.symm hw.2.2.1)]) (by rw [st_other _ _ (Ne.symm hw.2.1), st_other _ _ (Ne.symm hw.2.2.2)])) (st_eq _ _ _ _) (fun x hx => by
      rw [st_other _ _ (by omega : w1 + 1 ≠ w1)]
      by_cases e : x = k
      · rw [e, st_eq]
      · rw [st_ne _ _ e]; exact h2 x (by omega))
    refine ⟨σ2, ?_, fun r a b => by rw [t2 r a b, st_other _ _ a, st_other _ _ b], t3, t4⟩
    rw [f_X10_copy_L6, h.2.1, ifle_f (by omega) (by omega) (by omega), bV_ok (letterAt_m h (by omega : k < L) rfl), bV_ok hadd, nm_s]
    exact t1
theorem exa26 {e L N : Nat} {wd : Nat → Nat} (hL : L ≤ 6) (he : e < 3) : ∀ (m k fuel : Nat) (τ : Mem), k + m = L → m < fuel → τ 0 6 = (L : Int) → τ 0 8 = (e : Int) → (∀ x, x < L → τ 5 x = (wd x : Int)) → (∀ x, x < k → τ 7 (6 * e + x) = (wd x : Int)) →
    ∃ τ2, f_X12_example_L26 N fuel (k : Int) τ = some τ2 ∧ (∀ r, r ≠ 7 → τ2 r = τ r) ∧ (∀ z, z < 6 * e → τ2 7 z = τ 7 z) ∧ ∀ x, x < L → τ2 7 (6 * e + x) = (wd x : Int) := by
  intro m
  induction m with
  | zero =>
    intro k fuel τ hk hf h6 h8 h5 h2
    obtain ⟨f, rfl⟩ : ∃ f, fuel = f + 1 := ⟨fuel - 1, by omega⟩
    refine ⟨τ, ?_, fun _ _ => rfl, fun _ _ => rfl, fun x hx => h2 x (by omega)⟩
    rw [f_X12_example_L26, h6, ifle_t (by omega) (by omega) (by omega)]
  | succ m ih =>
    intro k fuel τ hk hf h6 h8 h5 h2
    obtain ⟨f, rfl⟩ : ∃ f, fuel = f + 1 := ⟨fuel - 1, by omega⟩
    have e6 : (6 * (e : Int)) + (k : Int) = ((6 * e + k : Nat) : Int) := by omega
    obtain ⟨τ2, t1, t2, t3, t4⟩ := ih (k + 1) f (st τ 7 (6 * e + k) (wd k : Int)) (by omega) (by omega) (by rw [st_other _ _ (by decide)]; exact h6) (by rw [st_other _ _ (by decide)]; exact h8) (by rw [st_other _ _ (by decide)]; exact h5) (fun x hx => by
      by_cases q : x = k
      · rw [q, st_eq]
      · rw [st_ne _ _ (by omega)]; exact h2 x (by omega))
    refine ⟨τ2, ?_, fun r a => by rw [t2 r a, st_other _ _ a], fun z hz => by rw [t3 z hz, st_ne _ _ (by omega)], t4⟩
    rw [f_X12_example_L26, h6, ifle_f (by omega) (by omega) (by omega), gd_pos ⟨by omega, by omega⟩, h8, e6, gd_pos ⟨by omega, by omega⟩, Int.toNat_natCast, Int.toNat_natCast, h5 k (by omega), nm_s, nm_s]
    exact t1
theorem isW_e {i : Nat} (hi : i < 3) : isW (17 + 2 * i) ∧ lenW (17 + 2 * i) = 6 := by
  have : i = 0 ∨ i = 1 ∨ i = 2 := by omega
  rcases this with rfl | rfl | rfl
  · exact ⟨Or.inr (Or.inr (Or.inl rfl)), by decide⟩
  · exact ⟨Or.inr (Or.inr (Or.inr (Or.inl rfl))), by decide⟩
  · exact ⟨Or.inr (Or.inr (Or.inr (Or.inr (Or.inl rfl)))), by decide⟩
theorem X2_at_m {σ : Mem} {i e : Nat} (he : e ≤ 3) (h1 : σ 25 2 = (e : Int)) (h2 : ∀ i, i < 3 → σ 26 i = ((17 + 2 * i : Nat) : Int)) (hi : i < e) : f_X2_at (i : Int) σ = some (17 + 2 * i) := by
  have hw := (isW_e (i := i) (by omega)).1
  unfold f_X2_at f_X2_has
  rw [h1, ifl_f (by omega) (by omega) (by omega), ifle_f (by omega) (by omega) (by omega), ifle_f (by omega) (by omega) (by omega), bV_s, if_neg z10, gd_pos ⟨by omega, by omega⟩, Int.toNat_natCast, h2 i (by omega), Int.toNat_natCast, gd_pos hw]
theorem example_m {σ τ : Mem} {A : AS} {N : Nat} (hN : 100 ≤ N) (h : Inv σ τ A) : SameI (f_X11_example N σ) (f_X12_example N τ) := by
  obtain ⟨g1, g2, g3, g4, ⟨b1, b2, b3, b4, b5⟩, g6, g7, g8, g9⟩ := id h
  have hL := Inv_L h
  by_cases q : aE A = 3
  · refine ⟨-4, σ, τ, A, ?_, ?_, h⟩
    · unfold f_X11_example f_X2_add
      rw [b2, ifl_f (by omega) (by omega) (by omega), bL1_s, if_pos z00]
    · unfold f_X12_example
      rw [b3, ife_t (by omega)]
  · have hw := isW_e (i := aE A) (by omega)
    have hat := X2_at_m (σ := st σ 25 2 ((aE A + 1 : Nat) : Int)) (i := aE A) (e := aE A + 1) (by omega) (st_eq _ _ _ _) (by rw [st_other _ _ (by decide)]; exact b4) (by omega)
    obtain ⟨σ2, a1, a2, a3, a4⟩ := copy6 (N := N) (w0 := 13) (w1 := 17 + 2 * aE A) (wd := aW A) ⟨by omega, by omega, by omega, by omega⟩ hw.2 (aL A) 0 N (st (st σ 25 2 ((aE A + 1 : Nat) : Int)) (17 + 2 * aE A) 1 0) (by omega) (by omega) (WD_eq g3.1 (by rw [st_other _ _ (by omega), st_other _ _ (by decide)]) (by rw [st_other _ _ (by omega), st_other _ _ (by decide)])) (st_eq _ _ _ _) (fun x hx => absurd hx (Nat.not_lt_zero x))
    have a1' : f_X10_copy_L6 N (17 + 2 * aE A) 13 N 0 (st (st σ 25 2 ((aE A + 1 : Nat) : Int)) (17 + 2 * aE A) 1 0) = some σ2 := a1
    obtain ⟨τ1, t1, t2, t3, t4⟩ := exa26 (N := N) (e := aE A) (wd := aW A) hL (by omega) (aL A) 0 N (st τ 6 (aE A) (aL A : Int)) (by omega) (by omega) (by rw [st_other _ _ (by decide)]; exact g3.2.1) (by rw [st_other _ _ (by decide)]; exact b3) (by rw [st_other _ _ (by decide)]; exact g3.2.2) (fun x hx => absurd hx (Nat.not_lt_zero x))
    have t1' : f_X12_example_L26 N N 0 (st τ 6 (aE A) (aL A : Int)) = some τ1 := t1
    obtain ⟨τ2, u1, u2, u3⟩ := turn_m (N := N) (τ := st τ1 0 8 ((aE A + 1 : Nat) : Int)) (by omega)
    have c : ∀ k, k ≠ 25 → k ≠ 17 + 2 * aE A → k ≠ 17 + 2 * aE A + 1 → k ≠ 38 → (st σ2 38 3 (-1)) k = σ k := fun k x y z w => by rw [st_other _ _ w, a2 k y z, st_other _ _ y, st_other _ _ x]
    have r : ∀ k, k ≠ 0 → k ≠ 6 → k ≠ 7 → k ≠ 23 → τ2 k = τ k := fun k x y z w => by rw [u2 k w, st_other _ _ x, t2 k z, st_other _ _ y]
    have r0 : ∀ j, j ≠ 8 → τ2 0 j = τ 0 j := fun j a => by rw [u2 0 (by decide), st_ne _ _ a, t2 0 (by decide), st_other _ _ (by decide)]
    have aeL : ∀ i, aEL (aExa A) i = if i = aE A then aL A else aEL A i := fun i => by
      show (if 10 = 9 then aE A + 1 else if 10 = 10 ∧ i = aE A then aL A else if 10 = 11 ∧ i = aE A then aW A 0 else A 10 i 0 0) = _
      by_cases e : i = aE A
      · rw [if_neg (by decide), if_pos ⟨rfl, e⟩, if_pos e]
      · rw [if_neg (by decide), if_neg (fun z => e z.2), if_neg (fun z => e z.2), if_neg e]; rfl
    have aeW : ∀ i k, aEW (aExa A) i k = if i = aE A then aW A k else aEW A i k := fun i k => by
      show (if 11 = 9 then aE A + 1 else if 11 = 10 ∧ i = aE A then aL A else if 11 = 11 ∧ i = aE A then aW A k else A 11 i k 0) = _
      by_cases e : i = aE A
      · rw [if_neg (by decide), if_neg (fun z => absurd z.1 (by decide)), if_pos ⟨rfl, e⟩, if_pos e]
      · rw [if_neg (by decide), if_neg (fun z => e z.2), if_neg (fun z => e z.2), if_neg e]; rfl
    have e25 : (st σ2 38 3 (-1)) 25 2 = ((aE A + 1 : Nat) : Int) := by rw [st_other _ _ (by decide), a2 25 (by omega) (by omega), st_other _ _ (by omega), st_eq]
    have e08 : τ2 0 8 = ((aE A + 1 : Nat) : Int) := by rw [u2 0 (by decide), st_eq]
    refine ⟨(aE A : Int), st σ2 38 3 (-1), τ2, aExa A, ?_, ?_, ?_, ?_, ?_, ?_, ⟨?_, e25, e08, ?_, fun i hi => ?_⟩, ?_, ?_, ?_, ?_⟩
    · unfold f_X11_example f_X2_add f_X10_copy f_X10_clear f_X9_forgetBest
      have e1 : (aE A : Int) + 1 = ((aE A + 1 : Nat) : Int) := by omega
      have e2 : ((aE A + 1 : Nat) : Int) - 1 = (aE A : Int) := by omega
      rw [b2, ifl_t (by omega) (by omega) (by omega), e1, nm_s, st_eq, e2, bV_ok hat, gd_pos hw.1, nm_s, bV_s, bV_ok a1', bV_s, bL1_s, if_neg z10, nm_s, bV_s, e25, e2]
    · unfold f_X12_example
      have e1 : (aE A : Int) + 1 = ((aE A + 1 : Nat) : Int) := by omega
      have e2 : ((aE A + 1 : Nat) : Int) - 1 = (aE A : Int) := by omega
      have e8 : τ1 0 8 = (aE A : Int) := by rw [t2 0 (by decide), st_other _ _ (by decide)]; exact b3
      rw [b3, ife_f (by omega) (by omega) (by omega) (by omega) (by omega), gd_pos ⟨by omega, by omega⟩, Int.toNat_natCast, g3.2.1, nm_s, bV_ok t1', e8, e1, nm_s, bV_ok u1, e08, e2]
    · exact (PadS_eq g1 (c 1 (by decide) (by omega) (by omega) (by decide)) (c 2 (by decide) (by omega) (by omega) (by decide)) (r0 0 (by decide)) (r 1 (by decide) (by decide) (by decide) (by decide)) : PadS _ _ A)
    · exact (GraS_eq g2 (c 3 (by decide) (by omega) (by omega) (by decide)) (c 4 (by decide) (by omega) (by omega) (by decide)) (c 5 (by decide) (by omega) (by omega) (by decide)) (c 6 (by decide) (by omega) (by omega) (by decide)) (c 12 (by decide) (by omega) (by omega) (by decide)) (r0 5 (by decide)) (r 2 (by decide) (by decide) (by decide) (by decide)) (r 3 (by decide) (by decide) (by decide) (by decide)) (r 4 (by decide) (by decide) (by decide) (by decide)) : GraS _ _ A)
    · exact (WrdS_eq g3 (c 13 (by decide) (by omega) (by omega) (by decide)) (c 14 (by decide) (by omega) (by omega) (by decide)) (r0 6 (by decide)) (r 5 (by decide) (by decide) (by decide) (by decide)) : WrdS _ _ A)
    · exact (CosS_eq g4 (c 12 (by decide) (by omega) (by omega) (by decide)) (r 8 (by decide) (by decide) (by decide) (by decide)) : CosS _ _ A)
    · show aE A + 1 ≤ 3
      omega
    · rw [c 26 (by decide) (by omega) (by omega) (by decide)]; exact b4
    · have hi2 : i < aE A + 1 := hi
      have e6 : ∀ z, τ2 6 z = if z = aE A then (aL A : Int) else τ 6 z := fun z => by rw [u2 6 (by decide), st_other _ _ (by decide), t2 6 (by decide), st_row]
      have e7 : ∀ z, τ2 7 z = τ1 7 z := fun z => by rw [u2 7 (by decide), st_other _ _ (by decide)]
      have e7b : ∀ z, z < 6 * aE A → τ1 7 z = τ 7 z := fun z hz => by rw [t3 z hz, st_other _ _ (by decide)]
      by_cases e : i = aE A
      · rw [e]
        have l1 : aEL (aExa A) (aE A) = aL A := by rw [aeL, if_pos rfl]
        have l2 : aEW (aExa A) (aE A) = aW A := by
          funext k
          rw [aeW, if_pos rfl]
        rw [l1, l2]
        refine ⟨⟨hw.1, ?_, hL, by rw [hw.2]; exact hL, fun k hk => ⟨?_, (g3.1.2.2.2.2 k hk).2⟩⟩, by rw [e6, if_pos rfl], fun k hk => by rw [e7]; exact t4 k hk⟩
        · rw [st_other _ _ (by omega)]; exact a3
        · rw [st_other _ _ (by omega)]; exact a4 k hk
      · have l1 : aEL (aExa A) i = aEL A i := by rw [aeL, if_neg e]
        have l2 : aEW (aExa A) i = aEW A i := by
          funext k
          rw [aeW, if_neg e]
        rw [l1, l2]
        obtain ⟨x1, x2, x3⟩ := b5 i (by omega)
        refine ⟨WD_eq x1 (c _ (by omega) (by omega) (by omega) (by omega)) (c _ (by omega) (by omega) (by omega) (by omega)), by rw [e6, if_neg e]; exact x2, fun k hk => ?_⟩
        have := x1.2.2.1
        rw [e7, e7b _ (by omega)]
        exact x3 k hk
    · exact DraS_eq g6 (c 7 (by decide) (by omega) (by omega) (by decide)) (c 9 (by decide) (by omega) (by omega) (by decide)) (c 10 (by decide) (by omega) (by omega) (by decide))
    · exact (ChaS_eq g7 (c 0 (by decide) (by omega) (by omega) (by decide)) (c 27 (by decide) (by omega) (by omega) (by decide)) (c 28 (by decide) (by omega) (by omega) (by decide)) : ChaS _ A)
    · exact Or.inl (st_eq _ _ _ _)
    · exact fun n hn => Or.inl (u3 n hn)
/-! rule and told -/
theorem codeOf_m {s : Nat} (hs : s < 10) : f_X11_codeOf (s : Int) = some ((sgx s : Nat) : Int) := by
  unfold f_X11_codeOf sgx
  by_cases q : s < 4
  · rw [ifle_f (by omega) (by omega) (by omega), if_pos q]
  · rw [ifle_t (by omega) (by omega) (by omega), if_neg q]
    congr 1
    omega
theorem rule_m {σ τ : Mem} {A : AS} {a b c : Int} (h : Inv σ τ A) (h1 : -2147483648 ≤ a) (h2 : a < 2147483648) (h3 : -2147483648 ≤ b) (h4 : b < 2147483648) (h5 : -2147483648 ≤ c) (h6 : c < 2147483648) : ∃ v : Int, f_X11_rule a b c σ = some v ∧ f_X12_rule a b c τ = some v := by
  obtain ⟨a1, a2, ⟨s1, s2, s3⟩, ⟨r1, r2, r3⟩, a5, -⟩ := h.2.1
  rcases name_cases h1 h2 with ⟨n, hn, rfl⟩ | hn
  · have hcnt := countOf_v a1 hn
    rw [s1 n hn] at hcnt
    have h4c := a5 n hn
    obtain ⟨e1, e2⟩ := r1 n hn
    by_cases q : 0 ≤ b ∧ b < (aRc A n : Int)
    · obtain ⟨i, rfl⟩ : ∃ i : Nat, b = (i : Int) := ⟨b.toNat, by omega⟩
      have hi : i < aRc A n := by omega
      have hsl := slotOf_v a1 hn (r := i) (by omega)
      have hs25 := slC_lt a1 hn (r := i)
      obtain ⟨l1, l2⟩ := r2 n i hn hi
      obtain ⟨m1, m2, m3, m4⟩ := RM_of a1 hn (r := i)
      rw [s2 n i hn (by rw [s1 n hn]; exact hi)] at m3 m4
      have hlen : f_X4_lengthOf 3 ((slC σ n i : Nat) : Int) σ = some (aRl A n i : Int) := by rw [lengthOf_m 3 _ hs25, m3]
      have e5 : (5 * (n : Int)) + (i : Int) = ((5 * n + i : Nat) : Int) := by omega
      by_cases q1 : c = -1
      · refine ⟨(aRl A n i : Int), ?_, ?_⟩
        · unfold f_X11_rule
          rw [bV_ok (isName_v n hn), if_neg z10, ifl_f (by omega) (by omega) (by omega), bV_ok hcnt, ifl_t (by omega) (by omega) (by omega), bV_ok hsl, bV_ok hlen, ife_t q1]
        · unfold f_X12_rule
          rw [bV_ok (isName2_v n hn), if_neg z10, gd_pos ⟨by omega, by omega⟩, Int.toNat_natCast, e1, in_v (by omega) (by omega) (by decide) (by decide) (by omega) (by omega), if_pos (by omega), bV_s, if_neg z10, nm_s, e5, ife_t q1, gd_pos ⟨by omega, by omega⟩, Int.toNat_natCast, l1]
      · by_cases q2 : 0 ≤ c ∧ c < (aRl A n i : Int)
        · obtain ⟨j, rfl⟩ : ∃ j : Nat, c = (j : Int) := ⟨c.toNat, by omega⟩
          have hj : j < aRl A n i := by omega
          obtain ⟨n1, n2⟩ := m4 j hj
          have hrs := r3 n i j hn hi hj
          have esg := s3 n i j hn (by rw [s1 n hn]; exact hi) (by rw [s2 n i hn (by rw [s1 n hn]; exact hi)]; exact hj)
          have e4 : (4 * ((5 * n + i : Nat) : Int)) + (j : Int) = ((4 * (5 * n + i) + j : Nat) : Int) := by omega
          have hsig : f_X4_signAt ((slC σ n i : Nat) : Int) (j : Int) σ = some ((aRs A n i j : Nat) : Int) := by rw [signAt_m _ _ hs25 (by omega), n1, esg]
          refine ⟨((sgx (aRs A n i j) : Nat) : Int), ?_, ?_⟩
          · unfold f_X11_rule
            rw [bV_ok (isName_v n hn), if_neg z10, ifl_f (by omega) (by omega) (by omega), bV_ok hcnt, ifl_t (by omega) (by omega) (by omega), bV_ok hsl, bV_ok hlen, ife_f q1 (by omega) (by omega) (by omega) (by omega), ifl_f (by omega) (by omega) (by omega), ifle_f (by omega) (by omega) (by omega), bV_ok hsig, bV_ok (codeOf_m hrs.2)]
          · unfold f_X12_rule
            rw [bV_ok (isName2_v n hn), if_neg z10, gd_pos ⟨by omega, by omega⟩, Int.toNat_natCast, e1, in_v (by omega) (by omega) (by decide) (by decide) (by omega) (by omega), if_pos (by omega), bV_s, if_neg z10, nm_s, e5, ife_f q1 (by omega) (by omega) (by omega) (by omega), gd_pos ⟨by omega, by omega⟩, Int.toNat_natCast, l1, in_v (by omega) (by omega) (by decide) (by decide) (by omega) (by omega), if_pos (by omega), bV_s, if_neg z10, e4, gd_pos ⟨by omega, by omega⟩, Int.toNat_natCast, hrs.1]
        · refine ⟨-6, ?_, ?_⟩
          · unfold f_X11_rule
            rw [bV_ok (isName_v n hn), if_neg z10, ifl_f (by omega) (by omega) (by omega), bV_ok hcnt, ifl_t (by omega) (by omega) (by omega), bV_ok hsl, bV_ok hlen, ife_f q1 (by omega) (by omega) (by omega) (by omega)]
            by_cases q3 : c < 0
            · rw [ifl_t q3 (by omega) (by omega)]
            · rw [ifl_f (by omega) (by omega) (by omega), ifle_t (by omega) (by omega) (by omega)]
          · unfold f_X12_rule
            rw [bV_ok (isName2_v n hn), if_neg z10, gd_pos ⟨by omega, by omega⟩, Int.toNat_natCast, e1, in_v (by omega) (by omega) (by decide) (by decide) (by omega) (by omega), if_pos (by omega), bV_s, if_neg z10, nm_s, e5, ife_f q1 (by omega) (by omega) (by omega) (by omega), gd_pos ⟨by omega, by omega⟩, Int.toNat_natCast, l1, in_v (by omega) (by omega) (by decide) (by decide) (by omega) (by omega), if_neg (by omega), bV_s, if_pos z00]
    · refine ⟨-1, ?_, ?_⟩
      · unfold f_X11_rule
        rw [bV_ok (isName_v n hn), if_neg z10]
        by_cases q3 : b < 0
        · rw [ifl_t q3 (by omega) (by omega)]
        · rw [ifl_f (by omega) (by omega) (by omega), bV_ok hcnt, ifl_f (by omega) (by omega) (by omega)]
      · unfold f_X12_rule
        rw [bV_ok (isName2_v n hn), if_neg z10, gd_pos ⟨by omega, by omega⟩, Int.toNat_natCast, e1, in_v (by omega) (by omega) (by decide) (by decide) (by omega) (by omega), if_neg (by omega), bV_s, if_pos z00]
  · refine ⟨-1, ?_, ?_⟩
    · unfold f_X11_rule
      rw [bV_ok (isName_f hn h1 h2), if_pos z00]
    · unfold f_X12_rule
      rw [bV_ok (isName2_f hn h1 h2), if_pos z00]
theorem told4 {τ : Mem} {N : Nat} {x1 : Int} {rc : Nat → Nat} (hr : ∀ n, n < 6 → τ 2 n = (rc n : Int) ∧ rc n ≤ 5) : ∀ (m n fuel u : Nat), n + m = 6 → m < fuel → u < 64 → (∀ x, x < 6 → (u.testBit x = true ↔ (x < n ∧ 0 < rc x))) →
    ∃ u2 : Nat, f_X12_told_L4 N x1 τ fuel (u : Int) (n : Int) = some (u2 : Int) ∧ u2 < 64 ∧ ∀ x, x < 6 → (u2.testBit x = true ↔ 0 < rc x) := by
  intro m
  induction m with
  | zero =>
    intro n fuel u hn hf hu hb
    obtain ⟨f, rfl⟩ : ∃ f, fuel = f + 1 := ⟨fuel - 1, by omega⟩
    refine ⟨u, ?_, hu, fun x hx => (hb x hx).trans ⟨fun z => z.2, fun z => ⟨by omega, z⟩⟩⟩
    rw [f_X12_told_L4, ifle_t (by omega) (by omega) (by omega)]
  | succ m ih =>
    intro n fuel u hn hf hu hb
    obtain ⟨f, rfl⟩ : ∃ f, fuel = f + 1 := ⟨fuel - 1, by omega⟩
    obtain ⟨e1, e2⟩ := hr n (by omega)
    obtain ⟨m1, m2⟩ := mask6 u hu n (by omega)
    have hbit := mask7_bit u (by omega) n (by omega)
    rw [f_X12_told_L4, ifle_f (by omega) (by omega) (by omega), gd_pos ⟨by omega, by omega⟩, Int.toNat_natCast, e1]
    by_cases q : rc n = 0
    · obtain ⟨u2, v1, v2⟩ := ih (n + 1) f u (by omega) (by omega) hu (fun x hx => by
        rw [hb x hx]
        constructor
        · intro z; exact ⟨by omega, z.2⟩
        · intro z
          refine ⟨?_, z.2⟩
          by_cases e : x = n
          · rw [e] at z; omega
          · omega)
      refine ⟨u2, ?_, v2⟩
      rw [ifle_t (by omega) (by omega) (by omega), bV_s, nm_s, or_z u hu, nm_s]
      exact v1
    · obtain ⟨u2, v1, v2⟩ := ih (n + 1) f (u ||| 2 ^ n) (by omega) (by omega) m2 (fun x hx => by
        rw [hbit x (by omega), Bool.or_eq_true, decide_eq_true_eq, hb x hx]
        constructor
        · rintro (z | z)
          · exact ⟨by omega, z.2⟩
          · rw [← z]; exact ⟨by omega, by omega⟩
        · intro z
          by_cases e : n = x
          · exact Or.inr e
          · exact Or.inl ⟨by omega, z.2⟩)
      refine ⟨u2, ?_, v2⟩
      rw [ifle_f (by omega) (by omega) (by omega), bV_s, nm_s, m1, nm_s]
      exact v1
theorem bits6_eq {x y : Nat} (hx : x < 64) (hy : y < 64) (h : ∀ k, k < 6 → (x.testBit k = true ↔ y.testBit k = true)) : x = y := by
  refine Nat.eq_of_testBit_eq (fun k => ?_)
  by_cases q : k < 6
  · have := h k q
    cases ex : x.testBit k <;> cases ey : y.testBit k <;> simp_all
  · have p : (64 : Nat) ≤ 2 ^ k := Nat.pow_le_pow_right (n := 2) (by decide) (by omega : 6 ≤ k)
    rw [Nat.testBit_lt_two_pow (by omega), Nat.testBit_lt_two_pow (by omega)]
theorem told_m {σ τ : Mem} {A : AS} {N : Nat} {a : Int} (hN : 20 ≤ N) (h : Inv σ τ A) (h1 : -2147483648 ≤ a) (h2 : a < 2147483648) : ∃ v : Int, f_X11_told a σ = some v ∧ f_X12_told N a τ = some v := by
  obtain ⟨g1, ⟨a1, a2, ⟨s1, s2, s3⟩, ⟨r1, r2, r3⟩, a5, a6, a7, a8, b, b1, b2, b3⟩, g3, ⟨⟨c1, c2, c3, c4, c5, c6, c7, c8, c9⟩, d1, d2, d3⟩, g5, g6⟩ := h
  obtain ⟨u, u1, u2, u3⟩ := told4 (N := N) (x1 := a) r1 6 0 N 0 rfl (by omega) (by decide) (fun x hx => by
    rw [Nat.zero_testBit]
    exact ⟨fun z => (by cases z), fun z => absurd z.1 (Nat.not_lt_zero x)⟩)
  have u1' : f_X12_told_L4 N a τ N 0 0 = some (u : Int) := u1
  have eu : u = b := bits6_eq u2 b1 (fun k hk => (u3 k hk).trans (b3 k hk).symm)
  rw [eu] at u1'
  by_cases q1 : 5 ≤ a ∧ a ≤ 7
  · obtain ⟨w, hw⟩ : ∃ w : Nat, a = (w : Int) + 5 := ⟨(a - 5).toNat, by omega⟩
    have hsame : σ 12 w = τ 8 w := by
      have : w = 0 ∨ w = 1 ∨ w = 2 := by omega
      rcases this with rfl | rfl | rfl
      · rw [c1, d1]
      · rw [c2, d2]
      · rw [c3, d3]
    have e5 : a - 5 = (w : Int) := by omega
    refine ⟨σ 12 w, ?_, ?_⟩
    · unfold f_X11_told f_X1_of
      rw [ifl_f (by omega) (by omega) (by omega), ifle_f (by omega) (by omega) (by omega), bV_s, if_neg (by decide), e5, ifl_f (by omega) (by omega) (by omega), ifle_f (by omega) (by omega) (by omega), gd_pos ⟨by omega, by omega⟩, Int.toNat_natCast, bV_s]
    · unfold f_X12_told
      rw [bV_ok u1', in_v h1 h2 (by decide) (by decide) (by decide) (by decide), if_neg (by omega), bV_s, if_pos z00, ife_f (by omega) (by omega) (by omega) (by omega) (by omega), ife_f (by omega) (by omega) (by omega) (by omega) (by omega), ife_f (by omega) (by omega) (by omega) (by omega) (by omega), ife_f (by omega) (by omega) (by omega) (by omega) (by omega), ife_f (by omega) (by omega) (by omega) (by omega) (by omega), in_v h1 h2 (by decide) (by decide) (by decide) (by decide), if_pos q1, bV_s, if_neg z10, e5, gd_pos ⟨by omega, by omega⟩, Int.toNat_natCast, hsame]
  · have hA : (bV (if zI a < zI 5 then some 0 else if zI 8 ≤ zI a then some 0 else some 1) (fun (t1 : Nat) => if t1 = 0 then (bV (if zI a < zI 10 then some 0 else if zI 16 ≤ zI a then some 0 else some 1) (fun (t4 : Nat) => if t4 = 0 then (if zI a = zI 0 then some (σ 1 1) else if zI a = zI 1 then some (σ 3 3) else if zI a = zI 2 then some (σ 3 4) else if zI a = zI 3 then some (σ 13 1) else if zI a = zI 4 then some (σ 25 2) else some (-2)) else bV (f_X4_countOf 3 (a - 10) σ) (fun (y13 : Int) => some y13))) else bV (f_X1_of (a - 5) σ) (fun (y15 : Int) => some y15))) = (bV (if zI a < zI 10 then some 0 else if zI 16 ≤ zI a then some 0 else some 1) (fun (t4 : Nat) => if t4 = 0 then (if zI a = zI 0 then some (σ 1 1) else if zI a = zI 1 then some (σ 3 3) else if zI a = zI 2 then some (σ 3 4) else if zI a = zI 3 then some (σ 13 1) else if zI a = zI 4 then some (σ 25 2) else some (-2)) else bV (f_X4_countOf 3 (a - 10) σ) (fun (y13 : Int) => some y13))) := by
      by_cases z : a < 5
      · rw [ifl_t z (by omega) (by omega), bV_s, if_pos rfl]
      · rw [ifl_f (a := a) (b := 5) (by omega) (by omega) (by omega), ifle_t (a := 8) (by omega) (by omega) (by omega), bV_s, if_pos rfl]
    by_cases q2 : 10 ≤ a ∧ a ≤ 15
    · obtain ⟨n, hn⟩ : ∃ n : Nat, a = (n : Int) + 10 := ⟨(a - 10).toNat, by omega⟩
      have e10 : a - 10 = (n : Int) := by omega
      have hcnt := countOf_v a1 (by omega : n < 6)
      rw [s1 n (by omega)] at hcnt
      refine ⟨(aRc A n : Int), ?_, ?_⟩
      · unfold f_X11_told
        rw [hA, ifl_f (a := a) (b := 10) (by omega) (by omega) (by omega), ifle_f (a := 16) (by omega) (by omega) (by omega), bV_s, if_neg (by decide), e10, bV_ok hcnt]
      · unfold f_X12_told
        rw [bV_ok u1', in_v h1 h2 (by decide) (by decide) (by decide) (by decide), if_pos q2, bV_s, if_neg z10, e10, gd_pos ⟨by omega, by omega⟩, Int.toNat_natCast, (r1 n (by omega)).1]
    · have hB : f_X11_told a σ = (if zI a = zI 0 then some (σ 1 1) else if zI a = zI 1 then some (σ 3 3) else if zI a = zI 2 then some (σ 3 4) else if zI a = zI 3 then some (σ 13 1) else if zI a = zI 4 then some (σ 25 2) else some (-2)) := by
        unfold f_X11_told
        rw [hA]
        by_cases z : a < 10
        · rw [ifl_t z (by omega) (by omega), bV_s, if_pos rfl]
        · rw [ifl_f (a := a) (b := 10) (by omega) (by omega) (by omega), ifle_t (a := 16) (by omega) (by omega) (by omega), bV_s, if_pos rfl]
      have hC : f_X12_told N a τ = (if zI a = zI 0 then some (τ 0 0) else if zI a = zI 1 then some (b : Int) else if zI a = zI 2 then some (τ 0 5) else if zI a = zI 3 then some (τ 0 6) else if zI a = zI 4 then some (τ 0 8) else some (-2)) := by
        unfold f_X12_told
        rw [bV_ok u1', in_v h1 h2 (by decide) (by decide) (by decide) (by decide), if_neg q2, bV_s, if_pos z00, in_v h1 h2 (by decide) (by decide) (by decide) (by decide), if_neg q1, bV_s, if_pos z00]
      rw [hB, hC, g1.2.1, g1.2.2.1, b2, a7, a8, g3.1.2.1, g3.2.1, g5.2.1, g5.2.2.1]
      by_cases e0 : zI a = zI 0
      · rw [if_pos e0]
        exact ⟨_, rfl, rfl⟩
      rw [if_neg e0]
      by_cases e1 : zI a = zI 1
      · rw [if_pos e1]
        exact ⟨_, rfl, rfl⟩
      rw [if_neg e1]
      by_cases e2 : zI a = zI 2
      · rw [if_pos e2]
        exact ⟨_, rfl, rfl⟩
      rw [if_neg e2]
      by_cases e3 : zI a = zI 3
      · rw [if_pos e3]
        exact ⟨_, rfl, rfl⟩
      rw [if_neg e3]
      by_cases e4 : zI a = zI 4
      · rw [if_pos e4]
        exact ⟨_, rfl, rfl⟩
      rw [if_neg e4]
      exact ⟨_, rfl, rfl⟩
/-! near -/
theorem take23e {e L N : Nat} {wd : Nat → Nat} (hL : L ≤ 6) (he : e < 3) : ∀ (m k fuel : Nat) (τ : Mem), k + m = L → m < fuel → τ 0 12 = (L : Int) → (∀ x, x < L → τ 7 (6 * e + x) = (wd x : Int)) → (∀ x, x < k → τ 9 x = (wd x : Int)) →
    ∃ τ2, f_X12_take_L23 N (e : Int) fuel (k : Int) τ = some τ2 ∧ (∀ r, r ≠ 9 → τ2 r = τ r) ∧ ∀ x, x < L → τ2 9 x = (wd x : Int) := by
  intro m
  induction m with
  | zero =>
    intro k fuel τ hk hf h12 h5 h9
    obtain ⟨f, rfl⟩ : ∃ f, fuel = f + 1 := ⟨fuel - 1, by omega⟩
    refine ⟨τ, ?_, fun _ _ => rfl, fun x hx => h9 x (by omega)⟩
    rw [f_X12_take_L23, h12, ifle_t (by omega) (by omega) (by omega)]
  | succ m ih =>
    intro k fuel τ hk hf h12 h5 h9
    obtain ⟨f, rfl⟩ : ∃ f, fuel = f + 1 := ⟨fuel - 1, by omega⟩
    have e6 : (6 * (e : Int)) + (k : Int) = ((6 * e + k : Nat) : Int) := by omega
    obtain ⟨τ2, t1, t2, t3⟩ := ih (k + 1) f (st τ 9 k (wd k : Int)) (by omega) (by omega) (by rw [st_other _ _ (by decide : 0 ≠ 9)]; exact h12) (by rw [st_other _ _ (by decide : 7 ≠ 9)]; exact h5) (fun x hx => by
      by_cases e : x = k
      · rw [e, st_eq]
      · rw [st_ne _ _ e]; exact h9 x (by omega))
    refine ⟨τ2, ?_, fun r hr => by rw [t2 r hr]; exact st_other _ _ hr, t3⟩
    rw [f_X12_take_L23, h12, ifle_f (by omega) (by omega) (by omega), ifle_t (by omega) (by omega) (by omega), e6, gd_pos ⟨by omega, by omega⟩, Int.toNat_natCast, h5 k (by omega), bV_s, gd_pos ⟨by omega, by omega⟩, Int.toNat_natCast, nm_s, nm_s]
    exact t1
theorem takeE_m {τ : Mem} {e L N : Nat} {wd : Nat → Nat} (hN : 20 ≤ N) (hL : L ≤ 6) (he : e < 3) (h6 : τ 6 e = (L : Int)) (h7 : ∀ x, x < L → τ 7 (6 * e + x) = (wd x : Int)) :
    ∃ τ1, f_X12_take N (e : Int) τ = some τ1 ∧ keepR τ τ1 ∧ τ1 0 12 = (L : Int) ∧ ∀ k, k < L → τ1 9 k = (wd k : Int) := by
  obtain ⟨τ1, t1, t2, t3⟩ := take23e (N := N) (wd := wd) hL he L 0 N (st τ 0 12 (L : Int)) (by omega) (by omega) (st_eq _ _ _ _) (by rw [st_other _ _ (by decide)]; exact h7) (fun x hx => absurd hx (Nat.not_lt_zero x))
  have t1' : f_X12_take_L23 N (e : Int) N 0 (st τ 0 12 (L : Int)) = some τ1 := t1
  refine ⟨τ1, ?_, ⟨fun k a b => by rw [t2 k (by omega), st_other _ _ (by omega)], fun j a _ _ _ _ => by rw [t2 0 (by decide), st_ne _ _ a]⟩, by rw [t2 0 (by decide), st_eq], t3⟩
  unfold f_X12_take
  rw [ifle_t (by omega) (by omega) (by omega), gd_pos ⟨by omega, by omega⟩, Int.toNat_natCast, h6, bV_s, nm_s, bV_ok t1']
theorem near35 {e L N : Nat} {wd : Nat → Nat} (hL : L ≤ 6) (he : e < 3) : ∀ (m k fuel : Nat) (τ : Mem), k + m = L → m < fuel → τ 0 25 = (L : Int) → (∀ x, x < L → τ 7 (6 * e + x) = (wd x : Int)) → (∀ x, x < k → τ 18 x = (wd x : Int)) →
    ∃ τ2, f_X12_near_L35 N (e : Int) fuel (k : Int) τ = some τ2 ∧ (∀ r, r ≠ 18 → τ2 r = τ r) ∧ ∀ x, x < L → τ2 18 x = (wd x : Int) := by
  intro m
  induction m with
  | zero =>
    intro k fuel τ hk hf h12 h5 h9
    obtain ⟨f, rfl⟩ : ∃ f, fuel = f + 1 := ⟨fuel - 1, by omega⟩
    refine ⟨τ, ?_, fun _ _ => rfl, fun x hx => h9 x (by omega)⟩
    rw [f_X12_near_L35, h12, ifle_t (by omega) (by omega) (by omega)]
  | succ m ih =>
    intro k fuel τ hk hf h12 h5 h9
    obtain ⟨f, rfl⟩ : ∃ f, fuel = f + 1 := ⟨fuel - 1, by omega⟩
    have e6 : (6 * (e : Int)) + (k : Int) = ((6 * e + k : Nat) : Int) := by omega
    obtain ⟨τ2, t1, t2, t3⟩ := ih (k + 1) f (st τ 18 k (wd k : Int)) (by omega) (by omega) (by rw [st_other _ _ (by decide : 0 ≠ 18)]; exact h12) (by rw [st_other _ _ (by decide : 7 ≠ 18)]; exact h5) (fun x hx => by
      by_cases e : x = k
      · rw [e, st_eq]
      · rw [st_ne _ _ e]; exact h9 x (by omega))
    refine ⟨τ2, ?_, fun r hr => by rw [t2 r hr]; exact st_other _ _ hr, t3⟩
    rw [f_X12_near_L35, h12, ifle_f (by omega) (by omega) (by omega), e6, gd_pos ⟨by omega, by omega⟩, gd_pos ⟨by omega, by omega⟩, Int.toNat_natCast, Int.toNat_natCast, h5 k (by omega), nm_s, nm_s]
    exact t1
theorem has_v {σ : Mem} {a : Int} {e : Nat} (he : e ≤ 3) (h : σ 25 2 = (e : Int)) (h1 : -2147483648 ≤ a) (h2 : a < 2147483648) : f_X2_has a σ = some (if 0 ≤ a ∧ a < (e : Int) then 1 else 0) := by
  unfold f_X2_has
  rw [h]
  by_cases q : a < 0
  · rw [ifl_t q (by omega) (by omega), if_neg (by omega)]
  · rw [ifl_f (by omega) (by omega) (by omega)]
    by_cases q2 : (e : Int) ≤ a
    · rw [ifle_t q2 (by omega) (by omega), if_neg (by omega)]
    · rw [ifle_f (by omega) (by omega) (by omega), ifle_f (by omega) (by omega) (by omega), if_pos (by omega)]
theorem isExample_v {τ : Mem} {a : Int} {e : Nat} (he : e ≤ 3) (h : τ 0 8 = (e : Int)) (h1 : -2147483648 ≤ a) (h2 : a < 2147483648) : f_X12_isExample a τ = some (if 0 ≤ a ∧ a < (e : Int) then 1 else 0) := by
  unfold f_X12_isExample
  rw [h, in_v h1 h2 (by decide) (by decide) (by omega) (by omega), bV_s]
  by_cases q : 0 ≤ a ∧ a < (e : Int)
  · rw [if_pos (c := 0 ≤ a ∧ a ≤ (e : Int) - 1) (by omega), if_pos q, gd_pos (Or.inr rfl)]
  · rw [if_neg (c := 0 ≤ a ∧ a ≤ (e : Int) - 1) (by omega), if_neg q, gd_pos (Or.inl rfl)]
theorem near_m {σ τ : Mem} {A : AS} {N : Nat} {a b : Int} (hN : 200 ≤ N) (h : Inv σ τ A) (h1 : -2147483648 ≤ a) (h2 : a < 2147483648) (h3 : -2147483648 ≤ b) (h4 : b < 2147483648) : SameI (f_X11_near N a b σ) (f_X12_near N a b τ) := by
  obtain ⟨g1, g2, g3, g4, ⟨b1, b2, b3, b4, b5⟩, g6, g7, g8, g9⟩ := id h
  by_cases qa : 0 ≤ a ∧ a < (aE A : Int)
  · by_cases qb : 0 ≤ b ∧ b < (aE A : Int)
    · obtain ⟨i, rfl⟩ : ∃ i : Nat, a = (i : Int) := ⟨a.toNat, by omega⟩
      obtain ⟨j, rfl⟩ : ∃ j : Nat, b = (j : Int) := ⟨b.toNat, by omega⟩
      obtain ⟨x1, x2, x3⟩ := b5 i (by omega)
      obtain ⟨y1, y2, y3⟩ := b5 j (by omega)
      have hFW : FW σ (17 + 2 * i) (17 + 2 * j) (aEL A i) (aEL A j) (aD A) (aU A) (aH A) (aEW A i) (aEW A j) := ⟨WL_of x1, WL_of y1, x1.2.2.1, g4.1⟩
      obtain ⟨σ2, c1, c2, c3⟩ := X7_fill_m (N := N) (bk := 0) (by omega) (Or.inl rfl) (Or.inl rfl) hFW
      obtain ⟨τ1, t1, t2, t3, t4⟩ := takeE_m (N := N) (wd := aEW A i) (by omega) x1.2.2.1 (by omega) x2 x3
      have e6 : τ1 6 j = (aEL A j : Int) := by rw [t2.1 6 (by decide) (by decide)]; exact y2
      obtain ⟨τ2, u1, u2, u3⟩ := near35 (N := N) (e := j) (wd := aEW A j) y1.2.2.1 (by omega) (aEL A j) 0 N (st τ1 0 25 (aEL A j : Int)) (by omega) (by have := y1.2.2.1; omega) (st_eq _ _ _ _) (by rw [st_other _ _ (by decide), t2.1 7 (by decide) (by decide)]; exact y3) (fun x hx => absurd hx (Nat.not_lt_zero x))
      have u1' : f_X12_near_L35 N (j : Int) N 0 (st τ1 0 25 (aEL A j : Int)) = some τ2 := u1
      have hk2 : keepR τ τ2 := keepR_trans t2 ⟨fun k a b => by rw [u2 k (by omega), st_other _ _ (by omega)], fun q _ _ _ _ a => by rw [u2 0 (by decide), st_ne _ _ a]⟩
      obtain ⟨⟨-, -, -, k1, k2, k3, k4, k5, k6⟩, d1, d2, d3⟩ := g4
      have hFR : FR τ2 (aEL A i) (aEL A j) (aD A) (aU A) (aH A) (aEW A i) (aEW A j) := by
        refine ⟨⟨x1.2.2.1, ?_, fun k hk => ⟨?_, (x1.2.2.2.2 k hk).2⟩, ?_, ?_, ?_, k1, k2, k3, k4, k5, k6⟩, ?_, ?_, fun k hk => ⟨u3 k hk, (y1.2.2.2.2 k hk).2⟩⟩
        · rw [u2 0 (by decide), st_ne _ _ (by decide)]; exact t3
        · rw [u2 9 (by decide), st_other _ _ (by decide)]; exact t4 k hk
        · rw [hk2.1 8 (by decide) (by decide)]; exact d1
        · rw [hk2.1 8 (by decide) (by decide)]; exact d2
        · rw [hk2.1 8 (by decide) (by decide)]; exact d3
        · have := y1.2.2.1; omega
        · rw [u2 0 (by decide), st_eq]
      obtain ⟨τ3, v1, v2, v3⟩ := layRows_m (N := N) (by omega) hFR
      have hI := Inv_keep h (keepC_R (Or.inl rfl) c2) (keepR_trans hk2 ⟨fun k a b => v2 k (by omega), fun q _ _ _ _ _ => by rw [v2 0 (by decide)]⟩)
      have r1 := c3 (aEL A i) (aEL A j) (Nat.le_refl _) (Nat.le_refl _)
      have epc : pcd (aEW A i) (aEW A j) (aH A) (aEL A i) (aEL A j) 0 = pcc (aEW A i) (aEW A j) (aH A) := by
        unfold pcd
        rw [if_pos rfl]
      rw [epc, Cf_both] at r1
      have r2 := (v3 0 0 (Nat.zero_le _) (Nat.zero_le _)).2
      rw [Nat.sub_zero, Nat.sub_zero] at r2
      have eq := (Rq_uniq r1 r2).1
      have hl1 : σ2 (17 + 2 * i) 1 = (aEL A i : Int) := (FW_off (Or.inl rfl) hFW c2).1.2.1
      have hl2 : σ2 (17 + 2 * j) 1 = (aEL A j : Int) := (FW_off (Or.inl rfl) hFW c2).2.1.2.1
      have e20 : τ3 20 (0 : Int).toNat = σ2 (32 + 1) (13 * aEL A i + aEL A j) := eq.symm
      refine ⟨σ2 (32 + 1) (13 * aEL A i + aEL A j), σ2, τ3, A, ?_, ?_, hI⟩
      · unfold f_X11_near
        rw [has_v b1 b2 h1 h2, if_pos qa, bV_s, if_neg z10, has_v b1 b2 h3 h4, if_pos qb, bV_s, if_neg z10, bV_ok (X2_at_m b1 b2 b4 (by omega : i < aE A)), gd_pos x1.1, bV_ok (X2_at_m b1 b2 b4 (by omega : j < aE A)), gd_pos y1.1, bV_ok c1, hl1, hl2, bV_ok (X7_leastAt_m x1.2.2.1 (by have := y1.2.2.1; omega))]
      · unfold f_X12_near
        rw [isExample_v b1 b3 h1 h2, if_pos qa, bV_s, if_neg z10, isExample_v b1 b3 h3 h4, if_pos qb, bV_s, if_neg z10, bV_ok t1, gd_pos ⟨by omega, by omega⟩, Int.toNat_natCast, e6, nm_s, bV_ok u1', bV_ok v1, gd_pos ⟨by omega, by omega⟩, e20]
    · refine ⟨-1, σ, τ, A, ?_, ?_, h⟩
      · unfold f_X11_near
        rw [has_v b1 b2 h1 h2, if_pos qa, bV_s, if_neg z10, has_v b1 b2 h3 h4, if_neg qb, bV_s, if_pos z00]
      · unfold f_X12_near
        rw [isExample_v b1 b3 h1 h2, if_pos qa, bV_s, if_neg z10, isExample_v b1 b3 h3 h4, if_neg qb, bV_s, if_pos z00]
  · refine ⟨-1, σ, τ, A, ?_, ?_, h⟩
    · unfold f_X11_near
      rw [has_v b1 b2 h1 h2, if_neg qa, bV_s, if_pos z00]
    · unfold f_X12_near
      rw [isExample_v b1 b3 h1 h2, if_neg qa, bV_s, if_pos z00]
