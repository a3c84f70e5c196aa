/-! layer 2, calls that ask the word's table -/
theorem in_v {a lo hi : Int} (h1 : -2147483648 ≤ a) (h2 : a < 2147483648) (h3 : -1000 ≤ lo) (h4 : lo ≤ 1000) (h5 : -1000 ≤ hi) (h6 : hi ≤ 1000) : f_X12_in a lo hi = some (if lo ≤ a ∧ a ≤ hi then 1 else 0) := by
  unfold f_X12_in
  by_cases q : a < lo
  · rw [ifl_t q (by omega) (by omega), if_neg (by omega)]
  · rw [ifl_f (by omega) (by omega) (by omega)]
    by_cases q2 : hi < a
    · rw [ifl_t q2 (by omega) (by omega), if_neg (by omega)]
    · rw [ifl_f (by omega) (by omega) (by omega), if_pos (by omega)]
theorem isName2_v (n : Nat) (h : n < 6) : f_X12_isName (n : Int) = some 1 := by
  unfold f_X12_isName
  rw [in_v (by omega) (by omega) (by decide) (by decide) (by decide) (by decide), if_pos (by omega), bV_s, gd_pos (Or.inr rfl)]
theorem isName2_f {a : Int} (h : a < 0 ∨ 6 ≤ a) (h1 : -2147483648 ≤ a) (h2 : a < 2147483648) : f_X12_isName a = some 0 := by
  unfold f_X12_isName
  rw [in_v (by omega) (by omega) (by decide) (by decide) (by decide) (by decide), if_neg (by omega), bV_s, gd_pos (Or.inl rfl)]
theorem z10 : ¬ zI 1 = zI 0 := by decide
theorem z00 : zI 0 = zI 0 := rfl
/-- both answer alike, and both memories hold what they must -/
def SameI (o o2 : Option (Int × Mem)) : Prop := ∃ (v : Int) (σ2 τ2 : Mem) (A2 : AS), o = some (v, σ2) ∧ o2 = some (v, τ2) ∧ Inv σ2 τ2 A2
theorem onev_n {lt X : Nat → Nat → Nat → Nat} {n a b : Nat} : onev lt X (4 + n) a b = X n a b := by
  unfold onev
  rw [if_neg (by omega), Nat.add_sub_cancel_left]
theorem name_cases {a : Int} (h1 : -2147483648 ≤ a) (h2 : a < 2147483648) : (∃ n : Nat, n < 6 ∧ a = (n : Int)) ∨ (a < 0 ∨ 6 ≤ a) := by
  by_cases q : 0 ≤ a ∧ a < 6
  · exact Or.inl ⟨a.toNat, by omega, by omega⟩
  · exact Or.inr (by omega)
theorem Inv_L {σ τ : Mem} {A : AS} (h : Inv σ τ A) : aL A ≤ 6 := h.2.2.1.1.2.2.1
/-- MendTexts.is -/
theorem is_m {σ τ : Mem} {A : AS} {N : Nat} {a : Int} (hN : 300 ≤ N) (hN2 : mu (fun _ _ _ => TT) 294 + 2 ≤ N) (h : Inv σ τ A) (h1 : -2147483648 ≤ a) (h2 : a < 2147483648) : SameI (f_X11_is N a σ) (f_X12_is N a τ) := by
  have hL := Inv_L h
  unfold f_X11_is f_X12_is
  rcases name_cases h1 h2 with ⟨n, hn, rfl⟩ | hn
  · obtain ⟨σ2, X, t1, t2, t3, t4⟩ := chartOfWord_m hN h
    obtain ⟨τ1, τ2, u1, u2, u3, u4, u5, u6⟩ := layWord_m hN hN2 t2 t4.1
    have hI := Inv_keep t2 (keepC_rfl σ2) u3
    have hc := t4.2 (4 + n) 0 (aL A) (by omega) (Nat.zero_le _) (Nat.le_refl _)
    rw [onev_n] at hc
    have : Decidable (asis (X n 0 (aL A))) := Classical.propDecidable _
    have hf := fitsAsItIs_m (s := 4 + n) (a := 0) (b := aL A) (by omega) (by decide) hL hc.1 hc.2
    have hT := u5 n 0 (aL A) hn (Nat.zero_le _) (Nat.le_refl _)
    have hr := R3_rng hT
    have hz := R3_zero hT
    have e4 : (4 : Int) + (n : Int) = ((4 + n : Nat) : Int) := by omega
    have hw := t3.2.2.1.2.1
    have h6 : τ2 0 6 = (aL A : Int) := hI.2.2.1.2.1
    have e49 : (49 * (n : Int)) + (aL A : Int) = ((49 * n + 7 * 0 + aL A : Nat) : Int) := by omega
    have hf' : f_X0_fitsAsItIs ((4 + n : Nat) : Int) 0 (aL A : Int) σ2 = some (if asis (X n 0 (aL A)) then 1 else 0) := hf
    rw [bV_ok (isName_v n hn), if_neg z10, bL1_ok t1, gd_pos rfl, e4, hw, bV_ok hf', bV_ok (isName2_v n hn), if_neg z10, bV_ok u1, bV_ok u2, h6, e49, gd_pos ⟨by omega, by omega⟩, Int.toNat_natCast]
    by_cases q : asis (X n 0 (aL A))
    · rw [if_pos q, if_neg z10, ife_t (hz.mpr q)]
      exact ⟨1, σ2, τ2, A, rfl, rfl, hI⟩
    · rw [if_neg q, if_pos z00, ife_f (fun z => q (hz.mp z)) (by omega) (by omega) (by omega) (by omega)]
      exact ⟨0, σ2, τ2, A, rfl, rfl, hI⟩
  · rw [bV_ok (isName_f hn h1 h2), if_pos z00, bV_ok (isName2_f hn h1 h2), if_pos z00]
    exact ⟨-1, σ, τ, A, rfl, rfl, h⟩
theorem keepC_31 {σ σ2 : Mem} (h : off31 σ σ2) : keepC σ σ2 := fun k _ _ _ d _ _ _ _ => h k d
theorem keepR_1617 {τ τ2 : Mem} (h : ∀ k, k ≠ 16 → k ≠ 17 → τ2 k = τ k) : keepR τ τ2 := ⟨fun k a b => h k (by omega) (by omega), fun j _ _ _ _ _ => by rw [h 0 (by decide) (by decide)]⟩
/-- MendTexts.first -/
theorem first_m {σ τ : Mem} {A : AS} {N : Nat} {a : Int} (hN : 400 ≤ N) (hN2 : mu (fun _ _ _ => TT) 294 + 2 ≤ N) (h : Inv σ τ A) (h1 : -2147483648 ≤ a) (h2 : a < 2147483648) : SameI (f_X11_first N a σ) (f_X12_first N a τ) := by
  have hL := Inv_L h
  unfold f_X11_first f_X12_first
  rcases name_cases h1 h2 with ⟨n, hn, rfl⟩ | hn
  · obtain ⟨σ2, X, t1, t2, t3, t4⟩ := chartOfWord_m (N := N) (by omega) h
    obtain ⟨τ1, τ2, u1, u2, u3, u4, u5, u6⟩ := layWord_m (N := N) (by omega) hN2 t2 t4.1
    have hI := Inv_keep t2 (keepC_rfl σ2) u3
    have hG := t2.2.1
    obtain ⟨-, -, -, d1, d2, d3, d4, d5, d6⟩ := t2.2.2.2.1.1
    have hB : ∀ n, n < 6 → cB (aU A * 4096) (X n 0 0) := fun m hm => by
      have := (t4.1.2 m 0 0 hm (Nat.le_refl _) (Nat.zero_le _)).1
      rw [Nat.sub_self, Nat.mul_zero, Nat.zero_add] at this
      exact this
    have K := KX_of d1 d2 d3 d4 d5 hL (wfC_G hG.1) (fun m r hm _ => rlC_le hG.1 hm) (leastT_cong (sameG_symm hG.2.2.1) t4.1.1) hB
    have K2 := KX_of d1 d2 d3 d4 d5 hL (fun m r p hm hr hp => (u6.2.2 m r p hm hr hp).2) (fun m r hm hr => (u6.2.1 m r hm hr).2) t4.1.1 hB
    obtain ⟨σ3, τ8, τ9, v, t, u, a1, a2, a3, a4, a5, a6, a7, a8⟩ := first_eq hN hn hG.1 t3 t4.2 ⟨u4, u6, u5, K2⟩ hI.2.2.1.2.1 hG.2.2.1 K
    have hI2 := Inv_keep hI (keepC_31 a2) (keepR_1617 a6)
    have hw : σ3 13 1 = (aL A : Int) := hI2.2.2.1.1.2.1
    rw [bV_ok (isName_v n hn), if_neg z10, bL1_ok t1, gd_pos rfl, bL1_ok a1, hw, bV_ok (isName2_v n hn), if_neg z10, bV_ok u1, bV_ok u2, bV_ok a4, bV_ok a5, bL1_ok a7]
    rcases a8 with ⟨b1, b2, b3⟩ | ⟨b1, b2⟩
    · rw [ife_f (by omega) (by omega) (by omega) (by omega) (by omega), b1, if_pos rfl, b3]
      exact ⟨(v : Int), σ3, τ9, A, by congr 2; omega, rfl, hI2⟩
    · rw [ife_t (by omega), b1, if_neg (by decide)]
      exact ⟨-6, σ3, τ9, A, rfl, rfl, hI2⟩
  · rw [bV_ok (isName_f hn h1 h2), if_pos z00, bV_ok (isName2_f hn h1 h2), if_pos z00]
    exact ⟨-1, σ, τ, A, rfl, rfl, h⟩
/-- MendTexts.mend -/
theorem mend_m {σ τ : Mem} {A : AS} {N : Nat} {a b c : Int} (hN : 400 ≤ N) (hN2 : mu (fun _ _ _ => TT) 294 + 2 ≤ N) (h : Inv σ τ A) (h1 : -2147483648 ≤ a) (h2 : a < 2147483648) (h3 : -2147483648 ≤ b) (h4 : b < 2147483648) (h5 : -2147483648 ≤ c) (h6 : c < 2147483648) : SameI (f_X11_mend N a b c σ) (f_X12_mend N a b c τ) := by
  have hL := Inv_L h
  have hw : σ 13 1 = (aL A : Int) := h.2.2.1.1.2.1
  have hw2 : τ 0 6 = (aL A : Int) := h.2.2.1.2.1
  unfold f_X11_mend f_X12_mend
  rcases name_cases h1 h2 with ⟨n, hn, rfl⟩ | hn
  · rw [bV_ok (isName_v n hn), if_neg z10, bV_ok (isName2_v n hn), if_neg z10, hw, hw2]
    by_cases q1 : b < 0
    · rw [ifl_t q1 (by omega) (by omega)]
      rw [ifl_t q1 (by omega) (by omega)]
      exact ⟨-2, σ, τ, A, rfl, rfl, h⟩
    · rw [ifl_f (a := b) (b := 0) (by omega) (by omega) (by omega), ifl_f (a := b) (b := 0) (by omega) (by omega) (by omega)]
      by_cases q2 : c < b
      · rw [ifl_t q2 (by omega) (by omega), ifl_t q2 (by omega) (by omega)]
        exact ⟨-2, σ, τ, A, rfl, rfl, h⟩
      · rw [ifl_f (a := c) (b := b) (by omega) (by omega) (by omega), ifl_f (a := c) (b := b) (by omega) (by omega) (by omega)]
        by_cases q3 : c ≤ (aL A : Int)
        · obtain ⟨i, rfl⟩ : ∃ i : Nat, b = (i : Int) := ⟨b.toNat, by omega⟩
          obtain ⟨j, rfl⟩ : ∃ j : Nat, c = (j : Int) := ⟨c.toNat, by omega⟩
          obtain ⟨σ2, X, t1, t2, t3, t4⟩ := chartOfWord_m (N := N) (by omega) h
          obtain ⟨τ1, τ2, u1, u2, u3, u4, u5, u6⟩ := layWord_m (N := N) (by omega) hN2 t2 t4.1
          have hI := Inv_keep t2 (keepC_rfl σ2) u3
          have hc := t4.2 (4 + n) i j (by omega) (by omega) (by omega)
          have hT := u5 n i j hn (by omega) (by omega)
          rw [onev_n] at hc
          have hr := R3_rng hT
          have he := enc_rng hc.2
          have hfit : f_X0_fitOf (4 + (n : Int)) (i : Int) (j : Int) σ2 = some (enc (X n i j)) := by
            unfold f_X0_fitOf
            rw [bV_ok (fitAt_m ((4 + n) * 49 + i * 7 + j) (by omega) (by omega)), hc.1]
          have e49 : ((49 * (n : Int)) + (7 * (i : Int))) + (j : Int) = ((49 * n + 7 * i + j : Nat) : Int) := by omega
          rw [ifle_t (a := (j : Int)) (b := (aL A : Int)) q3 (by omega) (by omega), ifle_t (a := (j : Int)) (b := (aL A : Int)) q3 (by omega) (by omega), bL1_ok t1, gd_pos rfl, bV_ok hfit, bV_ok u1, bV_ok u2, e49, gd_pos ⟨by omega, by omega⟩, Int.toNat_natCast, nm_s]
          by_cases q : X n i j = TT
          · have hT1 := (R3_TT hT).mpr q
            have eT : enc (X n i j) = 9223372036854775807 := by rw [q, enc_TT]
            rw [eT, if_pos ((lCmp_eq (by omega) (by omega) (by omega) (by omega)).mpr rfl), ifl_f hT1 (by omega) (by omega)]
            exact ⟨-5, σ2, τ2, A, rfl, rfl, hI⟩
          · have hT1 : ¬ _ := fun z => q ((R3_TT hT).mp z)
            have he2 := he.2.2 q
            rw [if_neg (fun z => by
              have := (lCmp_eq (by omega) (by omega) (by omega) (by omega)).mp z
              omega), bV_ok (costOf_v hc.2 q), ifl_t (by omega) (by omega) (by omega)]
            rcases hT with ⟨z, _⟩ | ⟨_, _, z, _⟩
            · exact absurd z q
            · exact ⟨((Cv (X n i j) : Nat) : Int), σ2, τ2, A, rfl, by rw [z], hI⟩
        · rw [ifle_f (a := c) (b := (aL A : Int)) (by omega) (by omega) (by omega), ifle_f (a := c) (b := (aL A : Int)) (by omega) (by omega) (by omega)]
          exact ⟨-2, σ, τ, A, rfl, rfl, h⟩
  · rw [bV_ok (isName_f hn h1 h2), if_pos z00, bV_ok (isName2_f hn h1 h2), if_pos z00]
    exact ⟨-1, σ, τ, A, rfl, rfl, h⟩
/-! letters of a value -/
def lets (v : Nat) (a : Int) : Int := if v = TT ∨ 12 < Lv v then -6 else if a = -1 then (Lv v : Int) else if 0 ≤ a ∧ a < (Lv v : Int) then ((Tv v / 4 ^ (Lv v - 1 - a.toNat) % 4 : Nat) : Int) else -6
theorem lettersOf_v {v : Nat} {a : Int} (h : sm v) (h1 : -2147483648 ≤ a) (h2 : a < 2147483648) : f_X11_lettersOf (enc v) a = some (lets v a) := by
  have he := enc_rng h
  unfold f_X11_lettersOf lets
  by_cases q : v = TT
  · have eT : enc v = 9223372036854775807 := by rw [q, enc_TT]
    rw [eT, if_pos ((lCmp_eq (by omega) (by omega) (by omega) (by omega)).mpr rfl), if_pos (Or.inl q)]
  · have he2 := he.2.2 q
    have hl : Lv v ≤ 500000 := by
      rcases h with z | z
      · exact absurd z q
      · exact z.2
    rw [if_neg (fun z => by
      have := (lCmp_eq (by omega) (by omega) (by omega) (by omega)).mp z
      omega), bV_ok (lengthOf_v h q)]
    by_cases q2 : 12 < Lv v
    · rw [ifle_f (by omega) (by omega) (by omega), if_pos (Or.inr q2)]
    · rw [ifle_t (by omega) (by omega) (by omega), bV_ok (lengthOf_v h q), if_neg (c := v = TT ∨ 12 < Lv v) (fun z => z.elim q q2)]
      by_cases q3 : a = -1
      · rw [ife_t q3, if_pos q3]
      · rw [ife_f q3 (by omega) (by omega) (by omega) (by omega), if_neg q3]
        by_cases q4 : a < 0
        · rw [ifl_t q4 (by omega) (by omega), if_neg (by omega)]
        · rw [ifl_f (by omega) (by omega) (by omega)]
          by_cases q5 : (Lv v : Int) ≤ a
          · rw [ifle_t q5 (by omega) (by omega), if_neg (by omega)]
          · obtain ⟨j, rfl⟩ : ∃ j : Nat, a = (j : Int) := ⟨a.toNat, by omega⟩
            rw [ifle_f (by omega) (by omega) (by omega), bV_ok (letterAt_v h q (by omega) (by omega : j < Lv v)), if_pos (by omega), Int.toNat_natCast]
theorem reftext {t k : Nat} {e : Int} (ht : t < 16777216) (hk : k ≤ 11) (he : e = (k : Int)) : iAnd (iShr (t : Int) (2 * e)) 3 = ((t / 4 ^ k % 4 : Nat) : Int) := by
  have e1 : (2 : Int) * e = ((2 * k : Nat) : Int) := by omega
  have h1 : t / 2 ^ (2 * k) ≤ t := Nat.div_le_self _ _
  rw [e1, iShr_n t (2 * k) (by omega) (by omega)]
  have h3 := iAnd_n (t / 2 ^ (2 * k)) 3 (by omega)
  have e3 : ((3 : Nat) : Int) = 3 := rfl
  rw [e3] at h3
  rw [h3]
  congr 1
  have : t / 2 ^ (2 * k) &&& 3 = t / 2 ^ (2 * k) % 2 ^ 2 := Nat.and_two_pow_sub_one_eq_mod _ 2
  rw [this, Nat.pow_mul]
