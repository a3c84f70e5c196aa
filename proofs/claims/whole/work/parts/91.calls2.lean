/-! layer 2, least, nothing, text -/
/-- the empty part's values hang on no word -/
theorem leastT_rest {dr L : Nat} {lt lt2 X : Nat → Nat → Nat → Nat} {rc : Nat → Nat} {rl : Nat → Nat → Nat} {rs : Nat → Nat → Nat → Nat} (hlt : ∀ s, s < 4 → lt2 s 0 0 = lt s 0 0) (hX : leastT dr L lt rc rl rs X) : leastT dr 0 lt2 rc rl rs X := by
  have e1 : ∀ (Y : Nat → Nat → Nat → Nat) (n r : Nat), rulev dr (onev lt2 Y) (rl n r) (rs n r) 0 0 = rulev dr (onev lt Y) (rl n r) (rs n r) 0 0 := fun Y n r => rulev_cong (fun _ _ => rfl) (fun q a c hq h1 h2 h3 => by
    have ea : a = 0 := by omega
    have ec : c = 0 := by omega
    rw [ea, ec]
    unfold onev
    split
    · next h4 => exact hlt _ h4
    · rfl)
  refine ⟨fun n i j hn hij hj => hX.1 n i j hn hij (by omega), fun n r i j hn hr hij hj => ?_, fun Y hY hc n i j hn hij hj => ?_⟩
  · have ei : i = 0 := by omega
    have ej : j = 0 := by omega
    rw [ei, ej, e1]
    exact hX.2.1 n r 0 0 hn hr (Nat.le_refl _) (Nat.zero_le _)
  · have ei : i = 0 := by omega
    have ej : j = 0 := by omega
    rw [ei, ej]
    have h := hX.2.2 (fun n i j => if i = 0 ∧ j = 0 then Y n 0 0 else 0) (fun m a b hm hab hb => by
      show ok (b - a) (if a = 0 ∧ b = 0 then Y m 0 0 else 0)
      by_cases q : a = 0 ∧ b = 0
      · rw [if_pos q, q.1, q.2]
        exact hY m 0 0 hm (Nat.le_refl _) (Nat.le_refl _)
      · rw [if_neg q]; exact ok_0 _) (fun m r a b hm hr hab hb => by
      show (if a = 0 ∧ b = 0 then Y m 0 0 else 0) ≤ _
      by_cases q : a = 0 ∧ b = 0
      · rw [if_pos q, q.1, q.2]
        have h2 := hc m r 0 0 hm hr (Nat.le_refl _) (Nat.le_refl _)
        rw [e1] at h2
        have e2 : rulev dr (onev lt (fun n i j => if i = 0 ∧ j = 0 then Y n 0 0 else 0)) (rl m r) (rs m r) 0 0 = rulev dr (onev lt Y) (rl m r) (rs m r) 0 0 := rulev_cong (fun _ _ => rfl) (fun x c d hx h3 h4 h5 => by
          have ec : c = 0 := by omega
          have ed : d = 0 := by omega
          rw [ec, ed]
          rfl)
        rw [e2]; exact h2
      · rw [if_neg q]; exact Nat.zero_le _) n 0 0 hn (Nat.le_refl _) (Nat.zero_le _)
    exact h
theorem lay0_m {σ τ : Mem} {A : AS} {N : Nat} {X : Nat → Nat → Nat → Nat} (hN : 300 ≤ N) (hN2 : mu (fun _ _ _ => TT) 294 + 2 ≤ N) (h : Inv σ τ A) (hX : LX A (aL A) (aW A) (aRc A) (aRl A) (aRs A) X) :
    ∃ τ2 : Mem, f_X12_layMends N (st τ 0 12 0) = some τ2 ∧ keepR τ τ2 ∧ TB τ2 0 X := by
  obtain ⟨h1, h2, h3, h4, h5, h6, h7, h8, h9⟩ := id h
  obtain ⟨⟨-, -, -, c1, c2, c3, c4, c5, c6⟩, d1, d2, d3⟩ := h4
  have o : ∀ k, k ≠ 0 → (st τ 0 12 0) k = τ k := fun k hk => st_other _ _ hk
  have hRB : RB (st τ 0 12 0) 0 (aD A) (aU A) (aH A) (aW A) := ⟨Nat.zero_le _, st_eq _ _ _ _, fun k hk => absurd hk (Nat.not_lt_zero k), by rw [o 8 (by decide)]; exact d1, by rw [o 8 (by decide)]; exact d2, by rw [o 8 (by decide)]; exact d3, c1, c2, c3, c4, c5, c6⟩
  have hGR : GR (st τ 0 12 0) (aRc A) (aRl A) (aRs A) := GR_eq h2.2.2.2.1 (o 2 (by decide)) (o 3 (by decide)) (o 4 (by decide))
  obtain ⟨τ2, Z, u1, u2, u3, u4⟩ := layMends_m hN hN2 hRB hGR
  have he := leastT_uniq (leastT_rest (fun _ _ => rfl) hX.1) u4
  refine ⟨τ2, u1, keepR_trans ⟨fun k a b => o k (by omega), fun j a _ _ _ _ => st_ne _ _ a⟩ (keepR_B u2), fun n a b hn hab hb => ?_⟩
  rw [he n a b hn hab hb]
  exact u3 n a b hn hab hb
/-- the reference's letters of a value -/
theorem ref_lets {c l t a : Int} {v : Nat} {τ : Mem} (hR : R3 c l t v) (hn : v ≠ TT) (hl : Lv v ≤ 12) (h1 : -2147483648 ≤ a) (h2 : a < 2147483648) :
    (if zI a = zI (-1) then some (l, τ) else bV (f_X12_in a 0 (l - 1)) (fun (y : Int) => if zI y = zI 0 then some (-6, τ) else some (iAnd (iShr t (2 * ((l - 1) - a))) 3, τ))) = some (lets v a, τ) := by
  rcases hR with ⟨z, _⟩ | ⟨_, _, _, z1, z2⟩
  · exact absurd z hn
  · rw [z1, z2]
    unfold lets
    rw [if_neg (c := v = TT ∨ 12 < Lv v) (fun z => z.elim hn (by omega))]
    by_cases q : a = -1
    · rw [ife_t q, if_pos q]
    · rw [ife_f q (by omega) (by omega) (by omega) (by omega), if_neg q, in_v h1 h2 (by decide) (by decide) (by omega) (by omega), bV_s]
      by_cases q2 : 0 ≤ a ∧ a < (Lv v : Int)
      · rw [if_pos (c := 0 ≤ a ∧ a ≤ (Lv v : Int) - 1) (by omega), if_neg z10, if_pos q2, reftext (k := Lv v - 1 - a.toNat) (Tv_lt v) (by omega) (by omega)]
      · rw [if_neg (c := 0 ≤ a ∧ a ≤ (Lv v : Int) - 1) (by omega), if_pos z00, if_neg q2]
/-- MendTexts.least -/
theorem least_m {σ τ : Mem} {A : AS} {N : Nat} {a b : Int} (hN : 400 ≤ N) (hN2 : mu (fun _ _ _ => TT) 294 + 2 ≤ N) (h : Inv σ τ A) (h1 : -2147483648 ≤ a) (h2 : a < 2147483648) (h3 : -2147483648 ≤ b) (h4 : b < 2147483648) : SameI (f_X11_least N a b σ) (f_X12_least N a b τ) := by
  have hL := Inv_L h
  rcases name_cases h1 h2 with ⟨n, hn, rfl⟩ | hn
  · obtain ⟨σ2, X, t1, t2, t3, t4⟩ := chartOfWord_m (N := N) (by omega) h
    obtain ⟨τ2, u2, u3, u5⟩ := lay0_m (N := N) (by omega) hN2 t2 t4.1
    have hI := Inv_keep t2 (keepC_rfl σ2) u3
    have hc := t4.2 (4 + n) 0 0 (by omega) (Nat.le_refl _) (Nat.zero_le _)
    rw [onev_n] at hc
    have hT := u5 n 0 0 hn (Nat.le_refl _) (Nat.le_refl _)
    have hr := R3_rng hT
    have hfit : f_X0_leastOf (n : Int) σ2 = some (enc (X n 0 0)) := by
      unfold f_X0_leastOf f_X0_fitOf
      rw [bV_ok (bV_ok (fitAt_m ((4 + n) * 49 + 0 * 7 + 0) (by omega) (by omega))), hc.1]
    have e49 : 49 * (n : Int) = ((49 * n + 7 * 0 + 0 : Nat) : Int) := by omega
    refine ⟨lets (X n 0 0) b, σ2, τ2, A, ?_, ?_, hI⟩
    · unfold f_X11_least
      rw [bV_ok (isName_v n hn), if_neg z10, bL1_ok t1, gd_pos rfl, bV_ok hfit, bV_ok (lettersOf_v hc.2 h3 h4)]
    · unfold f_X12_least
      rw [bV_ok (isName2_v n hn), if_neg z10, nm_s, bV_ok u2, e49, gd_pos ⟨by omega, by omega⟩, Int.toNat_natCast, nm_s]
      by_cases q : X n 0 0 = TT
      · rw [ifle_t ((R3_TT hT).mpr q) (by omega) (by omega)]
        unfold lets
        rw [if_pos (Or.inl q)]
      · have hT1 : ¬ _ := fun z => q ((R3_TT hT).mp z)
        rw [ifle_f (a := 100000000) (by omega) (by omega) (by omega)]
        have hlen : τ2 11 (49 * n + 7 * 0 + 0) = (Lv (X n 0 0) : Int) := by
          rcases hT with ⟨z, _⟩ | ⟨_, _, _, z, _⟩
          · exact absurd z q
          · exact z
        have hl5 : Lv (X n 0 0) ≤ 500000 := by
          rcases hc.2 with z | z
          · exact absurd z q
          · exact z.2
        by_cases q2 : Lv (X n 0 0) ≤ 12
        · have e := ref_lets (τ := τ2) hT q q2 h3 h4
          rw [hlen] at e ⊢
          rw [ifle_t (b := 12) (by omega) (by omega) (by omega)]
          exact e
        · rw [hlen, ifle_f (b := 12) (by omega) (by omega) (by omega)]
          unfold lets
          rw [if_pos (Or.inr (by omega))]
  · unfold f_X11_least f_X12_least
    rw [bV_ok (isName_f hn h1 h2), if_pos z00, bV_ok (isName2_f hn h1 h2), if_pos z00]
    exact ⟨-1, σ, τ, A, rfl, rfl, h⟩
theorem mask6 : ∀ m : Nat, m < 64 → ∀ y : Nat, y < 6 → iOr (m : Int) (iShl 1 (y : Int)) = ((m ||| 2 ^ y : Nat) : Int) ∧ m ||| 2 ^ y < 64 := by decide +kernel
theorem or_z : ∀ m : Nat, m < 64 → iOr (m : Int) 0 = (m : Int) := by decide +kernel
theorem nothing_both {σ τ : Mem} {N : Nat} {X : Nat → Nat → Nat → Nat} (hC : ∀ n, n < 6 → σ 28 ((4 + n) * 49 + 0 * 7 + 0) = enc (X n 0 0) ∧ sm (X n 0 0)) (hT : TB τ 0 X) : ∀ (m n fuel u : Nat), n + m = 6 → m < fuel → u < 64 →
    ∃ v : Int, f_X11_nothing_L9 N σ fuel (u : Int) (n : Int) = some v ∧ f_X12_nothing_L13 N τ fuel (u : Int) (n : Int) = some v := by
  intro m
  induction m with
  | zero =>
    intro n fuel u hn hf hu
    obtain ⟨f, rfl⟩ : ∃ f, fuel = f + 1 := ⟨fuel - 1, by omega⟩
    refine ⟨(u : Int), ?_, ?_⟩
    · rw [f_X11_nothing_L9, ifle_t (by omega) (by omega) (by omega)]
    · rw [f_X12_nothing_L13, ifle_t (by omega) (by omega) (by omega)]
  | succ m ih =>
    intro n fuel u hn hf hu
    obtain ⟨f, rfl⟩ : ∃ f, fuel = f + 1 := ⟨fuel - 1, by omega⟩
    obtain ⟨c1, c2⟩ := hC n (by omega)
    have hT1 := hT n 0 0 (by omega) (Nat.le_refl _) (Nat.le_refl _)
    have hr := R3_rng hT1
    have he := enc_rng c2
    have hfit : f_X0_leastOf (n : Int) σ = some (enc (X n 0 0)) := by
      unfold f_X0_leastOf f_X0_fitOf
      rw [bV_ok (bV_ok (fitAt_m ((4 + n) * 49 + 0 * 7 + 0) (by omega) (by omega))), c1]
    have e49 : 49 * (n : Int) = ((49 * n + 7 * 0 + 0 : Nat) : Int) := by omega
    have en : (n : Int) + 1 = ((n + 1 : Nat) : Int) := by omega
    obtain ⟨m1, m2⟩ := mask6 u hu n (by omega)
    by_cases q : X n 0 0 = TT
    · have eT : enc (X n 0 0) = 9223372036854775807 := by rw [q, enc_TT]
      obtain ⟨v, v1, v2⟩ := ih (n + 1) f (u ||| 2 ^ n) (by omega) (by omega) m2
      refine ⟨v, ?_, ?_⟩
      · rw [f_X11_nothing_L9, ifle_f (by omega) (by omega) (by omega), bV_ok hfit, eT, if_pos ((lCmp_eq (by omega) (by omega) (by omega) (by omega)).mpr rfl), nm_s, bV_s, nm_s, en, m1]
        exact v1
      · rw [f_X12_nothing_L13, ifle_f (by omega) (by omega) (by omega), e49, gd_pos ⟨by omega, by omega⟩, Int.toNat_natCast, ifl_f ((R3_TT hT1).mpr q) (by omega) (by omega), bV_s, nm_s, nm_s, en, m1]
        exact v2
    · have he2 := he.2.2 q
      have hT2 : ¬ _ := fun z => q ((R3_TT hT1).mp z)
      obtain ⟨v, v1, v2⟩ := ih (n + 1) f u (by omega) (by omega) hu
      refine ⟨v, ?_, ?_⟩
      · rw [f_X11_nothing_L9, ifle_f (by omega) (by omega) (by omega), bV_ok hfit, if_neg (fun z => by
          have := (lCmp_eq (by omega) (by omega) (by omega) (by omega)).mp z
          omega), bV_s, nm_s, en]
        exact v1
      · rw [f_X12_nothing_L13, ifle_f (by omega) (by omega) (by omega), e49, gd_pos ⟨by omega, by omega⟩, Int.toNat_natCast, ifl_t (by omega) (by omega) (by omega), bV_s, nm_s, nm_s, en, or_z u hu]
        exact v2
/-- MendTexts.nothing -/
theorem nothing_m {σ τ : Mem} {A : AS} {N : Nat} (hN : 400 ≤ N) (hN2 : mu (fun _ _ _ => TT) 294 + 2 ≤ N) (h : Inv σ τ A) : SameI (f_X11_nothing N σ) (f_X12_nothing N τ) := by
  have hL := Inv_L h
  obtain ⟨σ2, X, t1, t2, t3, t4⟩ := chartOfWord_m (N := N) (by omega) h
  obtain ⟨τ2, u2, u3, u5⟩ := lay0_m (N := N) (by omega) hN2 t2 t4.1
  have hI := Inv_keep t2 (keepC_rfl σ2) u3
  obtain ⟨v, v1, v2⟩ := nothing_both (N := N) (σ := σ2) (τ := τ2) (X := X) (fun n hn => by
    have hc := t4.2 (4 + n) 0 0 (by omega) (Nat.le_refl _) (Nat.zero_le _)
    rw [onev_n] at hc
    exact hc) u5 6 0 N 0 rfl (by omega) (by decide)
  have v1' : f_X11_nothing_L9 N σ2 N 0 0 = some v := v1
  have v2' : f_X12_nothing_L13 N τ2 N 0 0 = some v := v2
  refine ⟨v, σ2, τ2, A, ?_, ?_, hI⟩
  · unfold f_X11_nothing
    rw [bL1_ok t1, gd_pos rfl, bV_ok v1']
  · unfold f_X12_nothing
    rw [nm_s, bV_ok u2, bV_ok v2']
/-! the text -/
def rfs (v : Nat) : Int := if v = TT then -5 else if 12 < Lv v then -3 else 0
theorem rfs_0 {v : Nat} (h : rfs v = 0) : v ≠ TT ∧ Lv v ≤ 12 := by
  unfold rfs at h
  by_cases q : v = TT
  · rw [if_pos q] at h; omega
  · rw [if_neg q] at h
    by_cases q2 : 12 < Lv v
    · rw [if_pos q2] at h; omega
    · exact ⟨q, by omega⟩
theorem rfs_cases (v : Nat) : rfs v = 0 ∨ rfs v = -5 ∨ rfs v = -3 := by
  unfold rfs
  split
  · exact Or.inr (Or.inl rfl)
  · split
    · exact Or.inr (Or.inr rfl)
    · exact Or.inl rfl
theorem refusalOf_v {v : Nat} (h : sm v) : f_X11_refusalOf (enc v) = some (rfs v) := by
  have he := enc_rng h
  unfold f_X11_refusalOf rfs
  by_cases q : v = TT
  · have eT : enc v = 9223372036854775807 := by rw [q, enc_TT]
    rw [eT, if_pos ((lCmp_eq (by omega) (by omega) (by omega) (by omega)).mpr rfl), if_pos q]
  · have he2 := he.2.2 q
    have hl : Lv v ≤ 500000 := by
      rcases h with z | z
      · exact absurd z q
      · exact z.2
    rw [if_neg (fun z => by
      have := (lCmp_eq (by omega) (by omega) (by omega) (by omega)).mp z
      omega), bV_ok (lengthOf_v h q), if_neg q]
    by_cases q2 : 12 < Lv v
    · rw [ifle_f (by omega) (by omega) (by omega), if_pos q2]
    · rw [ifle_t (by omega) (by omega) (by omega), if_neg q2]
theorem textFit_m {σ τ : Mem} {A : AS} {N : Nat} (hN : 300 ≤ N) (h : Inv σ τ A) :
    ∃ (σ2 : Mem) (X : Nat → Nat → Nat → Nat), f_X11_textFit N σ = some (enc (X (aS A) 0 (aL A)), σ2) ∧ Inv σ2 τ A ∧ WC σ2 13 (aL A) (aW A) ∧ CHX σ2 A X ∧ sm (X (aS A) 0 (aL A)) := by
  have hL := Inv_L h
  obtain ⟨σ2, X, t1, t2, t3, t4⟩ := chartOfWord_m hN h
  have hs := t2.2.1.2.2.2.2.2.1
  have hs2 := t2.2.1.2.2.2.2.2.2.1
  have hw := t3.2.2.1.2.1
  have hc := t4.2 (4 + aS A) 0 (aL A) (by omega) (Nat.zero_le _) (Nat.le_refl _)
  rw [onev_n] at hc
  have hfit : f_X0_fitOf (4 + (aS A : Int)) 0 (aL A : Int) σ2 = some (enc (X (aS A) 0 (aL A))) := by
    unfold f_X0_fitOf
    rw [bV_ok (fitAt_m ((4 + aS A) * 49 + 0 * 7 + aL A) (by omega) (by omega)), hc.1]
  refine ⟨σ2, X, ?_, t2, t3, t4, hc.2⟩
  unfold f_X11_textFit
  rw [bL1_ok t1, gd_pos rfl, hs2, hw, bV_ok hfit]
theorem layText_m {σ τ : Mem} {A : AS} {N : Nat} {X : Nat → Nat → Nat → Nat} (hN : 300 ≤ N) (hN2 : mu (fun _ _ _ => TT) 294 + 2 ≤ N) (h : Inv σ τ A) (hX : LX A (aL A) (aW A) (aRc A) (aRl A) (aRs A) X) (hsm : sm (X (aS A) 0 (aL A))) :
    ∃ τ2 : Mem, f_X12_layText N τ = some (rfs (X (aS A) 0 (aL A)), τ2) ∧ keepR τ τ2 ∧ RB τ2 (aL A) (aD A) (aU A) (aH A) (aW A) ∧ R3 (τ2 10 (49 * aS A + aL A)) (τ2 11 (49 * aS A + aL A)) (τ2 12 (49 * aS A + aL A)) (X (aS A) 0 (aL A)) := by
  have hL := Inv_L h
  obtain ⟨τ1, τ2, u1, u2, u3, u4, u5, u6⟩ := layWord_m hN hN2 h hX
  have hI := Inv_keep h (keepC_rfl σ) u3
  have hs := h.2.1.2.2.2.2.2.1
  have hs2 : τ2 0 5 = (aS A : Int) := hI.2.1.2.2.2.2.2.2.2.1
  have h6 : τ2 0 6 = (aL A : Int) := hI.2.2.1.2.1
  have hT := u5 (aS A) 0 (aL A) hs (Nat.zero_le _) (Nat.le_refl _)
  rw [show 49 * aS A + 7 * 0 + aL A = 49 * aS A + aL A by omega] at hT
  have hr := R3_rng hT
  have e49 : (49 * (aS A : Int)) + (aL A : Int) = ((49 * aS A + aL A : Nat) : Int) := by omega
  refine ⟨τ2, ?_, u3, u4, hT⟩
  unfold f_X12_layText rfs
  rw [bV_ok u1, bV_ok u2, nm_s, hs2, h6, e49, gd_pos ⟨by omega, by omega⟩, Int.toNat_natCast]
  by_cases q : X (aS A) 0 (aL A) = TT
  · rw [ifl_f ((R3_TT hT).mpr q) (by omega) (by omega), if_pos q]
  · have hT2 : ¬ _ := fun z => q ((R3_TT hT).mp z)
    have hlen : τ2 11 (49 * aS A + aL A) = (Lv (X (aS A) 0 (aL A)) : Int) := by
      rcases hT with ⟨z, _⟩ | ⟨_, _, _, z, _⟩
      · exact absurd z q
      · exact z
    have hl5 : Lv (X (aS A) 0 (aL A)) ≤ 500000 := by
      rcases hsm with z | z
      · exact absurd z q
      · exact z.2
    rw [ifl_t (by omega) (by omega) (by omega), hlen, if_neg q]
    by_cases q2 : 12 < Lv (X (aS A) 0 (aL A))
    · rw [ifle_f (by omega) (by omega) (by omega), if_pos q2]
    · rw [ifle_t (by omega) (by omega) (by omega), if_neg q2]
/-- MendTexts.text -/
theorem text_m {σ τ : Mem} {A : AS} {N : Nat} {a : Int} (hN : 400 ≤ N) (hN2 : mu (fun _ _ _ => TT) 294 + 2 ≤ N) (h : Inv σ τ A) (h1 : -2147483648 ≤ a) (h2 : a < 2147483648) : SameI (f_X11_text N a σ) (f_X12_text N a τ) := by
  have hL := Inv_L h
  obtain ⟨σ2, X, t1, t2, t3, t4, t5⟩ := textFit_m (N := N) (by omega) h
  obtain ⟨τ2, u1, u2, u3, u4⟩ := layText_m (N := N) (by omega) hN2 t2 t4.1 t5
  have hI := Inv_keep t2 (keepC_rfl σ2) u2
  have hs := h.2.1.2.2.2.2.2.1
  have hs2 : τ2 0 5 = (aS A : Int) := hI.2.1.2.2.2.2.2.2.2.1
  have h6 : τ2 0 6 = (aL A : Int) := hI.2.2.1.2.1
  have e49 : (49 * (aS A : Int)) + (aL A : Int) = ((49 * aS A + aL A : Nat) : Int) := by omega
  by_cases q : rfs (X (aS A) 0 (aL A)) = 0
  · obtain ⟨q1, q2⟩ := rfs_0 q
    refine ⟨lets (X (aS A) 0 (aL A)) a, σ2, τ2, A, ?_, ?_, hI⟩
    · unfold f_X11_text
      rw [bL1_ok t1, bV_ok (refusalOf_v t5), q, if_pos z00, bV_ok (lettersOf_v t5 h1 h2)]
    · have e := ref_lets (τ := τ2) u4 q1 q2 h1 h2
      unfold f_X12_text
      rw [bL1_ok u1, q, ifle_t (by decide) (by decide) (by decide), nm_s, hs2, h6, e49, gd_pos ⟨by omega, by omega⟩, gd_pos ⟨by omega, by omega⟩, Int.toNat_natCast]
      exact e
  · refine ⟨rfs (X (aS A) 0 (aL A)), σ2, τ2, A, ?_, ?_, hI⟩
    · unfold f_X11_text
      rw [bL1_ok t1, bV_ok (refusalOf_v t5)]
      rcases rfs_cases (X (aS A) 0 (aL A)) with z | z | z
      · exact absurd z q
      · rw [z, ife_f (by decide) (by decide) (by decide) (by decide) (by decide)]
      · rw [z, ife_f (by decide) (by decide) (by decide) (by decide) (by decide)]
    · unfold f_X12_text
      rw [bL1_ok u1]
      rcases rfs_cases (X (aS A) 0 (aL A)) with z | z | z
      · exact absurd z q
      · rw [z, ifle_f (by decide) (by decide) (by decide)]
      · rw [z, ifle_f (by decide) (by decide) (by decide)]
