/-! layer 2, ways and kept -/
/-- the j-th letter of a value's text -/
def tl (v j : Nat) : Nat := Tv v / 4 ^ (Lv v - 1 - j) % 4
theorem tl_lt (v j : Nat) : tl v j < 4 := Nat.mod_lt _ (by decide)
theorem X10_add_m {σ : Mem} {w k : Nat} {a : Int} (h1 : σ w 1 = (k : Int)) (hk : k < lenW w) : f_X10_add w a σ = some (st (st σ (w + 1) k a) w 1 ((k + 1 : Nat) : Int)) := by
  have := lenW_12 w
  unfold f_X10_add
  rw [h1, ifl_f (by omega) (by omega) (by omega), ifle_f (by omega) (by omega) (by omega), gd_pos ⟨by omega, by omega⟩, nm_s, nm_s, st_other _ _ (by omega : w ≠ w + 1), h1, Int.toNat_natCast]
  rfl
theorem readText9 {v N : Nat} {hs : sm v} (hn : v ≠ TT) (hl : Lv v ≤ 12) : ∀ (m k fuel : Nat) (σ : Mem), k + m = Lv v → m < fuel → σ 15 1 = (k : Int) → (∀ x, x < k → σ 16 x = (tl v x : Int)) →
    ∃ σ2, f_X11_readText_L9 N (enc v) fuel (k : Int) σ = some σ2 ∧ (∀ r, r ≠ 15 → r ≠ 16 → σ2 r = σ r) ∧ σ2 15 1 = (Lv v : Int) ∧ ∀ x, x < Lv v → σ2 16 x = (tl v x : Int) := by
  intro m
  induction m with
  | zero =>
    intro k fuel σ hk hf h1 h2
    obtain ⟨f, rfl⟩ : ∃ f, fuel = f + 1 := ⟨fuel - 1, by omega⟩
    have e : k = Lv v := by omega
    refine ⟨σ, ?_, fun _ _ _ => rfl, by rw [← e]; exact h1, fun x hx => h2 x (by omega)⟩
    rw [f_X11_readText_L9]
    by_cases q : k = 12
    · rw [ifle_t (by omega) (by omega) (by omega)]
    · rw [ifle_f (by omega) (by omega) (by omega), bV_ok (lengthOf_v hs hn), ifle_t (by omega) (by omega) (by omega)]
  | succ m ih =>
    intro k fuel σ hk hf h1 h2
    obtain ⟨f, rfl⟩ : ∃ f, fuel = f + 1 := ⟨fuel - 1, by omega⟩
    have hadd := X10_add_m (w := 15) (a := ((tl v k : Nat) : Int)) h1 (by show k < 12; omega)
    obtain ⟨σ2, t1, t2, t3, t4⟩ := ih (k + 1) f (st (st σ (15 + 1) k ((tl v k : Nat) : Int)) 15 1 ((k + 1 : Nat) : Int)) (by omega) (by omega) (st_eq _ _ _ _) (fun x hx => by
      rw [st_other _ _ (by decide : 16 ≠ 15)]
      by_cases e : x = k
      · rw [e]; exact st_eq _ _ _ _
      · rw [show (15 + 1) = 16 from rfl, st_ne _ _ e]; exact h2 x (by omega))
    refine ⟨σ2, ?_, fun r a b => by rw [t2 r a b, st_other _ _ a, st_other _ _ b], t3, t4⟩
    have hla : f_X3_letterAt (enc v) (k : Int) = some ((tl v k : Nat) : Int) := letterAt_v hs hn hl (by omega)
    rw [f_X11_readText_L9, ifle_f (by omega) (by omega) (by omega), bV_ok (lengthOf_v hs hn), ifle_f (by omega) (by omega) (by omega), bV_ok hla, bV_ok hadd, nm_s]
    exact t1
theorem readText_m {σ : Mem} {v N : Nat} (hN : 20 ≤ N) (hs : sm v) (hn : v ≠ TT) (hl : Lv v ≤ 12) :
    ∃ σ2, f_X11_readText N (enc v) σ = some σ2 ∧ (∀ r, r ≠ 15 → r ≠ 16 → σ2 r = σ r) ∧ WL σ2 15 (Lv v) (tl v) := by
  obtain ⟨σ2, t1, t2, t3, t4⟩ := readText9 (N := N) (hs := hs) hn hl (Lv v) 0 N (st σ 15 1 0) (by omega) (by omega) (st_eq _ _ _ _) (fun x hx => absurd hx (Nat.not_lt_zero x))
  have t1' : f_X11_readText_L9 N (enc v) N 0 (st σ 15 1 0) = some σ2 := t1
  refine ⟨σ2, ?_, fun r a b => by rw [t2 r a b, st_other _ _ a], ⟨Or.inr (Or.inl rfl), t3, hl, fun k hk => ⟨t4 k hk, tl_lt v k⟩⟩⟩
  unfold f_X11_readText f_X10_clear
  rw [nm_s, bV_s, bV_ok t1']
theorem textRows25 {v x N : Nat} (hl : Lv v ≤ 12) (hx : x < 294) : ∀ (m k fuel : Nat) (τ : Mem), k + m = Lv v → m < fuel → τ 0 25 = (Lv v : Int) → τ 12 x = (Tv v : Int) → (∀ y, y < k → τ 18 y = (tl v y : Int)) →
    ∃ τ2, f_X12_layTextRows_L25 N (x : Int) fuel (k : Int) τ = some τ2 ∧ (∀ r, r ≠ 18 → τ2 r = τ r) ∧ ∀ y, y < Lv v → τ2 18 y = (tl v y : Int) := by
  intro m
  induction m with
  | zero =>
    intro k fuel τ hk hf h1 h2 h3
    obtain ⟨f, rfl⟩ : ∃ f, fuel = f + 1 := ⟨fuel - 1, by omega⟩
    refine ⟨τ, ?_, fun _ _ => rfl, fun y hy => h3 y (by omega)⟩
    rw [f_X12_layTextRows_L25, h1, ifle_t (by omega) (by omega) (by omega)]
  | succ m ih =>
    intro k fuel τ hk hf h1 h2 h3
    obtain ⟨f, rfl⟩ : ∃ f, fuel = f + 1 := ⟨fuel - 1, by omega⟩
    obtain ⟨τ2, t1, t2, t3⟩ := ih (k + 1) f (st τ 18 k ((tl v k : Nat) : Int)) (by omega) (by omega) (by rw [st_other _ _ (by decide : 0 ≠ 18)]; exact h1) (by rw [st_other _ _ (by decide : 12 ≠ 18)]; exact h2) (fun y hy => by
      by_cases e : y = k
      · rw [e, st_eq]
      · rw [st_ne _ _ e]; exact h3 y (by omega))
    have hv : iAnd (iShr (Tv v : Int) (2 * (((Lv v : Int) - 1) - (k : Int)))) 3 = ((tl v k : Nat) : Int) := reftext (k := Lv v - 1 - k) (Tv_lt v) (by omega) (by omega)
    refine ⟨τ2, ?_, fun r a => by rw [t2 r a, st_other _ _ a], t3⟩
    rw [f_X12_layTextRows_L25, h1, ifle_f (by omega) (by omega) (by omega), gd_pos ⟨by omega, by omega⟩, gd_pos ⟨by omega, by omega⟩, Int.toNat_natCast, Int.toNat_natCast, h2, hv, nm_s, nm_s]
    exact t1
theorem layTextRows_m {σ τ : Mem} {A : AS} {N v : Nat} (hN : 100 ≤ N) (h : Inv σ τ A) (hR : RB τ (aL A) (aD A) (aU A) (aH A) (aW A)) (h3 : R3 (τ 10 (49 * aS A + aL A)) (τ 11 (49 * aS A + aL A)) (τ 12 (49 * aS A + aL A)) v) (hn : v ≠ TT) (hl : Lv v ≤ 12) :
    ∃ τ2, f_X12_layTextRows N τ = some τ2 ∧ keepR τ τ2 ∧ FR τ2 (aL A) (Lv v) (aD A) (aU A) (aH A) (aW A) (tl v) ∧
      ∀ a b, a ≤ aL A → b ≤ Lv v → Rq (9 * (a + b)) (Cf (pcc (aW A) (tl v) (aH A)) (aD A) (aU A) a b) (τ2 19 (13 * a + b)) (τ2 21 (13 * a + b)) ∧ Rq (9 * ((aL A - a) + (Lv v - b))) (Cf (pbk (pcc (aW A) (tl v) (aH A)) (aL A) (Lv v)) (aD A) (aU A) (aL A - a) (Lv v - b)) (τ2 20 (13 * a + b)) (τ2 22 (13 * a + b)) := by
  have hL := Inv_L h
  have hs := h.2.1.2.2.2.2.2.1
  have hs2 : τ 0 5 = (aS A : Int) := h.2.1.2.2.2.2.2.2.2.1
  have h6 : τ 0 6 = (aL A : Int) := h.2.2.1.2.1
  have e49 : (49 * (aS A : Int)) + (aL A : Int) = ((49 * aS A + aL A : Nat) : Int) := by omega
  rcases h3 with ⟨z, _⟩ | ⟨_, _, _, z1, z2⟩
  · exact absurd z hn
  · obtain ⟨τ1, t1, t2, t3⟩ := textRows25 (N := N) (x := 49 * aS A + aL A) hl (by omega) (Lv v) 0 N (st τ 0 25 (Lv v : Int)) (by omega) (by omega) (st_eq _ _ _ _) (by rw [st_other _ _ (by decide : 12 ≠ 0)]; exact z2) (fun y hy => absurd hy (Nat.not_lt_zero y))
    have hk1 : keepR τ τ1 := ⟨fun k a b => by rw [t2 k (by omega), st_other _ _ (by omega)], fun j _ _ _ _ a => by rw [t2 0 (by decide), st_ne _ _ a]⟩
    have hFR : FR τ1 (aL A) (Lv v) (aD A) (aU A) (aH A) (aW A) (tl v) := ⟨RB_eq hR (by rw [t2 0 (by decide), st_ne _ _ (by decide)]) (by rw [t2 9 (by decide), st_other _ _ (by decide)]) (by rw [t2 8 (by decide), st_other _ _ (by decide)]), hl, by rw [t2 0 (by decide), st_eq], fun k hk => ⟨t3 k hk, tl_lt v k⟩⟩
    obtain ⟨τ2, u1, u2, u3⟩ := layRows_m (N := N) hN hFR
    have t1' : f_X12_layTextRows_L25 N ((49 * aS A + aL A : Nat) : Int) N 0 (st τ 0 25 (Lv v : Int)) = some τ1 := t1
    refine ⟨τ2, ?_, keepR_trans hk1 ⟨fun k a b => u2 k (by omega), fun j _ _ _ _ _ => by rw [u2 0 (by decide)]⟩, FR_off hFR u2, u3⟩
    unfold f_X12_layTextRows
    rw [nm_s, hs2, h6, e49, gd_pos ⟨by omega, by omega⟩, Int.toNat_natCast, nm_s, z1, bV_ok t1', bV_ok u1]
theorem keepC_1516 {σ σ2 : Mem} (h : ∀ r, r ≠ 15 → r ≠ 16 → σ2 r = σ r) : keepC σ σ2 := fun k a b _ _ _ _ _ _ => h k a b
theorem keepC_R {r : Nat} {σ σ2 : Mem} (hr : isR r) (h : offR r σ σ2) : keepC σ σ2 := fun k _ _ _ _ c d e f => by
  rcases hr with rfl | rfl
  · exact h k c d
  · exact h k e f
theorem Rq_cnt {B L1 L2 : Nat} {pc : Nat → Nat → Nat} {dr pu : Nat} {m c : Int} (h : Rq B (Cf pc dr pu L1 L2) m c) : 0 ≤ m ∧ m ≤ B ∧ 0 < c ∧ c ≤ (dl L1 L2 : Int) := by
  obtain ⟨a, a1, a2, a3, a4, a5⟩ := h
  have := Cf_le pc dr pu L1 L2 a
  omega
/-- MendTexts.ways -/
theorem ways_m {σ τ : Mem} {A : AS} {N : Nat} (hN : 400 ≤ N) (hN2 : mu (fun _ _ _ => TT) 294 + 2 ≤ N) (h : Inv σ τ A) : SameI (f_X11_ways N σ) (f_X12_ways N τ) := by
  have hL := Inv_L h
  obtain ⟨σ2, X, t1, t2, t3, t4, t5⟩ := textFit_m (N := N) (by omega) h
  obtain ⟨τ2, u1, u2, u3, u4⟩ := layText_m (N := N) (by omega) hN2 t2 t4.1 t5
  have hI := Inv_keep t2 (keepC_rfl σ2) u2
  generalize X (aS A) 0 (aL A) = v at t1 t5 u1 u4
  by_cases q : rfs v = 0
  · obtain ⟨q1, q2⟩ := rfs_0 q
    obtain ⟨σ3, a1, a2, a3⟩ := readText_m (N := N) (σ := σ2) (by omega) t5 q1 q2
    obtain ⟨τ3, b1, b2, b3, b4⟩ := layTextRows_m (N := N) (by omega) hI u3 u4 q1 q2
    have hI3 := Inv_keep hI (keepC_1516 a2) b2
    have hFW : FW σ3 13 15 (aL A) (Lv v) (aD A) (aU A) (aH A) (aW A) (tl v) := ⟨WL_of hI3.2.2.1.1, a3, hL, hI3.2.2.2.1.1⟩
    obtain ⟨σ4, c1, c2, c3⟩ := X7_fill_m (N := N) (bk := 0) (by omega) (Or.inl rfl) (Or.inl rfl) hFW
    have hI4 := Inv_keep hI3 (keepC_R (Or.inl rfl) c2) (keepR_rfl τ3)
    have hw : σ4 13 1 = (aL A : Int) := hI4.2.2.1.1.2.1
    have hw15 : σ4 15 1 = (Lv v : Int) := (FW_off (Or.inl rfl) hFW c2).2.1.2.1
    have r1 := c3 (aL A) (Lv v) (Nat.le_refl _) (Nat.le_refl _)
    have r2 := (b4 0 0 (Nat.zero_le _) (Nat.zero_le _)).2
    have epc : pcd (aW A) (tl v) (aH A) (aL A) (Lv v) 0 = pcc (aW A) (tl v) (aH A) := by
      unfold pcd
      rw [if_pos rfl]
    rw [epc, Cf_both (pcc (aW A) (tl v) (aH A)) (aD A) (aU A) (aL A) (Lv v)] at r1
    rw [Nat.sub_zero, Nat.sub_zero] at r2
    have eq := Rq_uniq r1 r2
    have hc := Rq_cnt r1
    have hd := dl_big (aL A) (by omega) (Lv v) (by omega)
    have hcnt : f_X7_countAt 32 (aL A : Int) (Lv v : Int) σ4 = some (σ4 (32 + 2) (13 * aL A + Lv v)) := X7_countAt_m hL q2
    have e22 : τ3 22 (0 : Int).toNat = σ4 (32 + 2) (13 * aL A + Lv v) := eq.2.symm
    generalize hcv : σ4 (32 + 2) (13 * aL A + Lv v) = c at hcnt e22 hc
    obtain ⟨cn, rfl⟩ : ∃ cn : Nat, c = (cn : Int) := ⟨c.toNat, by omega⟩
    refine ⟨(cn : Int), σ4, τ3, A, ?_, ?_, hI4⟩
    · unfold f_X11_ways
      rw [bL1_ok t1, bV_ok (refusalOf_v t5), q, if_pos z00, bV_ok a1, bV_ok c1, hw, hw15, bV_ok hcnt, iMin_z (by omega) (by omega) (by omega) (by omega), show min (cn : Int) 1000000 = (cn : Int) by omega]
    · unfold f_X12_ways
      rw [bL1_ok u1, q, ifle_t (by decide) (by decide) (by decide), bV_ok b1, gd_pos ⟨by omega, by omega⟩, e22, nm_s, if_pos ((lCmp_le (by omega) (by omega) (by omega) (by omega)).mpr (by omega)), l2i_n cn (by omega)]
  · refine ⟨rfs v, σ2, τ2, A, ?_, ?_, hI⟩
    · unfold f_X11_ways
      rw [bL1_ok t1, bV_ok (refusalOf_v t5)]
      rcases rfs_cases v with z | z | z
      · exact absurd z q
      · rw [z, ife_f (by decide) (by decide) (by decide) (by decide) (by decide)]
      · rw [z, ife_f (by decide) (by decide) (by decide) (by decide) (by decide)]
    · unfold f_X12_ways
      rw [bL1_ok u1]
      rcases rfs_cases v with z | z | z
      · exact absurd z q
      · rw [z, ifle_f (by decide) (by decide) (by decide)]
      · rw [z, ifle_f (by decide) (by decide) (by decide)]
/-- the two loops over the text's letters -/
theorem kept_both {σ τ : Mem} {L M i dr pu ch N : Nat} {u v : Nat → Nat} {ce : Int} (hL : L ≤ 6) (hM : M ≤ 12) (hi : i < L) (hW : WL σ 13 L u) (hW2 : WL σ 15 M v) (hF : FR τ L M dr pu ch u v)
    (h1 : ∀ a b, a ≤ L → b ≤ M → Rq (9 * (a + b)) (Cf (pcc u v ch) dr pu a b) (σ 33 (13 * a + b)) (σ 34 (13 * a + b))) (h2 : ∀ a b, a ≤ L → b ≤ M → Rq (9 * (a + b)) (Cf (pbk (pcc u v ch) L M) dr pu a b) (σ 36 (13 * a + b)) (σ 37 (13 * a + b)))
    (h3 : ∀ a b, a ≤ L → b ≤ M → Rq (9 * (a + b)) (Cf (pcc u v ch) dr pu a b) (τ 19 (13 * a + b)) (τ 21 (13 * a + b)) ∧ Rq (9 * ((L - a) + (M - b))) (Cf (pbk (pcc u v ch) L M) dr pu (L - a) (M - b)) (τ 20 (13 * a + b)) (τ 22 (13 * a + b)))
    (hce : ce = σ 33 (13 * L + M)) :
    ∀ (m j fuel : Nat) (x : Int), j + m = M → m < fuel → 0 ≤ x → x ≤ 60000 * (j : Int) →
    ∃ y : Int, f_X11_waysThatKeep_L40 N (i : Int) ((L - 1 - i : Nat) : Int) ce σ fuel x (j : Int) = some y ∧ f_X12_kept_L37 N (i : Int) τ fuel x (j : Int) = some y ∧ 0 ≤ y ∧ y ≤ 720000 := by
  have hl15 := hW2.2.1
  have h25 := hF.2.2.1
  intro m
  induction m with
  | zero =>
    intro j fuel x hj hf hx1 hx2
    obtain ⟨f, rfl⟩ : ∃ f, fuel = f + 1 := ⟨fuel - 1, by omega⟩
    refine ⟨x, ?_, ?_, hx1, by omega⟩
    · rw [f_X11_waysThatKeep_L40, hl15, ifle_t (by omega) (by omega) (by omega)]
    · rw [f_X12_kept_L37, h25, ifle_t (by omega) (by omega) (by omega)]
  | succ m ih =>
    intro j fuel x hj hf hx1 hx2
    obtain ⟨f, rfl⟩ : ∃ f, fuel = f + 1 := ⟨fuel - 1, by omega⟩
    have en : (j : Int) + 1 = ((j + 1 : Nat) : Int) := by omega
    have eb : ((M : Int) - (j : Int)) - 1 = ((M - 1 - j : Nat) : Int) := by omega
    have e13 : (13 * (i : Int)) + (j : Int) = ((13 * i + j : Nat) : Int) := by omega
    have e14 : ((13 * i + j : Nat) : Int) + 14 = ((13 * (i + 1) + (j + 1) : Nat) : Int) := by omega
    have g1 := letterAt_L hW hi (e := (i : Int)) rfl
    have g2 := letterAt_L hW2 (by omega : j < M) (e := (j : Int)) rfl
    have g3 : σ 33 (13 * i + j) = τ 19 (13 * i + j) ∧ σ 34 (13 * i + j) = τ 21 (13 * i + j) := Rq_uniq (h1 i j (by omega) (by omega)) (h3 i j (by omega) (by omega)).1
    have r4 := (h3 (i + 1) (j + 1) (by omega) (by omega)).2
    rw [show L - (i + 1) = L - 1 - i by omega, show M - (j + 1) = M - 1 - j by omega] at r4
    have r5 := h2 (L - 1 - i) (M - 1 - j) (by omega) (by omega)
    have g4 : σ 36 (13 * (L - 1 - i) + (M - 1 - j)) = τ 20 (13 * (i + 1) + (j + 1)) ∧ σ 37 (13 * (L - 1 - i) + (M - 1 - j)) = τ 22 (13 * (i + 1) + (j + 1)) := Rq_uniq r5 r4
    have r6 := (h3 0 0 (Nat.zero_le _) (Nat.zero_le _)).2
    rw [Nat.sub_zero, Nat.sub_zero] at r6
    have r7 := h1 L M (Nat.le_refl _) (Nat.le_refl _)
    have g5 := (Rq_uniq (by rw [Cf_both] at r7; exact r7) r6).1
    have n1 := Rq_cnt (h1 i j (by omega) (by omega))
    have n2 := Rq_cnt r5
    have n3 := Rq_cnt r7
    have hu := hF.1.2.2.1 i hi
    have hv := hF.2.2.2 j (by omega)
    have f1 : f_X7_leastAt 32 (i : Int) (j : Int) σ = some (σ 33 (13 * i + j)) := X7_leastAt_m (by omega) (by omega)
    have f2 : f_X7_leastAt 35 ((L - 1 - i : Nat) : Int) ((M - 1 - j : Nat) : Int) σ = some (σ 36 (13 * (L - 1 - i) + (M - 1 - j))) := X7_leastAt_m (by omega) (by omega)
    have f3 : f_X7_countAt 32 (i : Int) (j : Int) σ = some (σ 34 (13 * i + j)) := X7_countAt_m (by omega) (by omega)
    have f4 : f_X7_countAt 35 ((L - 1 - i : Nat) : Int) ((M - 1 - j : Nat) : Int) σ = some (σ 37 (13 * (L - 1 - i) + (M - 1 - j))) := X7_countAt_m (by omega) (by omega)
    have hprod : 0 ≤ σ 34 (13 * i + j) * σ 37 (13 * (L - 1 - i) + (M - 1 - j)) ∧ σ 34 (13 * i + j) * σ 37 (13 * (L - 1 - i) + (M - 1 - j)) ≤ 60000 := by
      obtain ⟨p, hp⟩ : ∃ p : Nat, σ 34 (13 * i + j) = (p : Int) := ⟨(σ 34 (13 * i + j)).toNat, by omega⟩
      obtain ⟨q, hq⟩ : ∃ q : Nat, σ 37 (13 * (L - 1 - i) + (M - 1 - j)) = (q : Int) := ⟨(σ 37 (13 * (L - 1 - i) + (M - 1 - j))).toNat, by omega⟩
      rw [hp] at n1
      rw [hq] at n2
      have k1 : p ≤ dl i j := by omega
      have k2 : q ≤ dl (5 - i) (11 - j) := Nat.le_trans (by omega) (dl_mono (i := L - 1 - i) (j := M - 1 - j) (by omega) (by omega))
      have k3 := Nat.mul_le_mul k1 k2
      have k4 := dl_pair i (by omega) j (by omega)
      rw [hp, hq, ← Int.natCast_mul]
      omega
    rw [f_X11_waysThatKeep_L40, hl15, ifle_f (a := (M : Int)) (by omega) (by omega) (by omega), nm_s, eb, bV_ok g1, bV_ok g2, f_X12_kept_L37, h25, ifle_f (a := (M : Int)) (by omega) (by omega) (by omega), nm_s, e13, gd_pos ⟨by omega, by omega⟩, gd_pos ⟨by omega, by omega⟩, Int.toNat_natCast, Int.toNat_natCast, hu.1, hv.1]
    by_cases q : u i = v j
    · rw [ife_t (a := (u i : Int)) (b := (v j : Int)) (by omega), ife_t (a := (u i : Int)) (b := (v j : Int)) (by omega), bV_ok f1, bV_ok f2, gd_pos ⟨by omega, by omega⟩, e14, gd_pos ⟨by omega, by omega⟩, gd_pos ⟨by omega, by omega⟩, Int.toNat_natCast, Int.toNat_natCast, g3.1, g4.1]
      have ece : τ 20 (0 : Int).toNat = ce := by rw [hce]; exact g5.symm
      rw [ece]
      have hce2 : 0 ≤ ce ∧ ce ≤ 1000 := by omega
      have n4 := g3.1
      have n5 := g4.1
      by_cases q2 : τ 19 (13 * i + j) + τ 20 (13 * (i + 1) + (j + 1)) = ce
      · rw [ife_t q2, ife_t q2, bV_ok f3, bV_ok f4, nm_s, bV_s, nm_s, bV_s, if_neg (by decide), gd_pos ⟨by omega, by omega⟩, gd_pos ⟨by omega, by omega⟩]
        rw [if_neg (by decide), bV_s, nm_s, nm_s, ← g3.2, ← g4.2, en]
        exact ih (j + 1) f _ (by omega) (by omega) (by omega) (by omega)
      · rw [ife_f q2 (by omega) (by omega) (by omega) (by omega), ife_f q2 (by omega) (by omega) (by omega) (by omega), bV_s, nm_s, bV_s, if_pos rfl, if_pos rfl, bV_s, nm_s, nm_s, en, Int.add_zero]
        exact ih (j + 1) f x (by omega) (by omega) hx1 (by omega)
    · have hu2 := hu.2
      have hv2 := hv.2
      rw [ife_f (a := (u i : Int)) (b := (v j : Int)) (by omega) (by omega) (by omega) (by omega) (by omega), ife_f (a := (u i : Int)) (b := (v j : Int)) (by omega) (by omega) (by omega) (by omega) (by omega), bV_s, nm_s, bV_s, if_pos rfl, if_pos rfl, bV_s, nm_s, nm_s, en, Int.add_zero]
      exact ih (j + 1) f x (by omega) (by omega) hx1 (by omega)
/-- MendTexts.kept -/
theorem kept_m {σ τ : Mem} {A : AS} {N : Nat} {a : Int} (hN : 400 ≤ N) (hN2 : mu (fun _ _ _ => TT) 294 + 2 ≤ N) (h : Inv σ τ A) (h1 : -2147483648 ≤ a) (h2 : a < 2147483648) : SameI (f_X11_kept N a σ) (f_X12_kept N a τ) := by
  have hL := Inv_L h
  have hw0 : σ 13 1 = (aL A : Int) := h.2.2.1.1.2.1
  have hw02 : τ 0 6 = (aL A : Int) := h.2.2.1.2.1
  by_cases qa : 0 ≤ a ∧ a < (aL A : Int)
  · obtain ⟨i, rfl⟩ : ∃ i : Nat, a = (i : Int) := ⟨a.toNat, by omega⟩
    obtain ⟨σ2, X, t1, t2, t3, t4, t5⟩ := textFit_m (N := N) (by omega) h
    obtain ⟨τ2, u1, u2, u3, u4⟩ := layText_m (N := N) (by omega) hN2 t2 t4.1 t5
    have hI := Inv_keep t2 (keepC_rfl σ2) u2
    generalize X (aS A) 0 (aL A) = v at t1 t5 u1 u4
    by_cases q : rfs v = 0
    · obtain ⟨q1, q2⟩ := rfs_0 q
      obtain ⟨σ3, a1, a2, a3⟩ := readText_m (N := N) (σ := σ2) (by omega) t5 q1 q2
      obtain ⟨τ3, b1, b2, b3, b4⟩ := layTextRows_m (N := N) (by omega) hI u3 u4 q1 q2
      have hI3 := Inv_keep hI (keepC_1516 a2) b2
      have hFW : FW σ3 13 15 (aL A) (Lv v) (aD A) (aU A) (aH A) (aW A) (tl v) := ⟨WL_of hI3.2.2.1.1, a3, hL, hI3.2.2.2.1.1⟩
      obtain ⟨σ4, c1, c2, c3⟩ := X7_fill_m (N := N) (bk := 0) (by omega) (Or.inl rfl) (Or.inl rfl) hFW
      have hI4 := Inv_keep hI3 (keepC_R (Or.inl rfl) c2) (keepR_rfl τ3)
      have hFW4 := FW_off (Or.inl rfl) hFW c2
      obtain ⟨σ5, d1, d2, d3⟩ := X7_fill_m (N := N) (bk := 1) (by omega) (Or.inr rfl) (Or.inr rfl) hFW4
      have hI5 := Inv_keep hI4 (keepC_R (Or.inr rfl) d2) (keepR_rfl τ3)
      have hFW5 := FW_off (Or.inr rfl) hFW4 d2
      have hw : σ5 13 1 = (aL A : Int) := hI5.2.2.1.1.2.1
      have hw15 : σ5 15 1 = (Lv v : Int) := hFW5.2.1.2.1
      have epc : pcd (aW A) (tl v) (aH A) (aL A) (Lv v) 0 = pcc (aW A) (tl v) (aH A) := by
        unfold pcd
        rw [if_pos rfl]
      have epd : pcd (aW A) (tl v) (aH A) (aL A) (Lv v) 1 = pbk (pcc (aW A) (tl v) (aH A)) (aL A) (Lv v) := by
        unfold pcd
        rw [if_neg (by decide)]
      rw [epc] at c3
      rw [epd] at d3
      have c4 : ∀ a b, a ≤ aL A → b ≤ Lv v → Rq (9 * (a + b)) (Cf (pcc (aW A) (tl v) (aH A)) (aD A) (aU A) a b) (σ5 33 (13 * a + b)) (σ5 34 (13 * a + b)) := fun a b ha hb => by
        rw [d2 33 (by decide) (by decide), d2 34 (by decide) (by decide)]
        exact c3 a b ha hb
      obtain ⟨y, y1, y2, y3, y4⟩ := kept_both (N := N) (i := i) hL q2 (by omega) hFW5.1 hFW5.2.1 b3 c4 d3 b4 rfl (Lv v) 0 N 0 (by omega) (by omega) (by decide) (by decide)
      have r1 := c4 (aL A) (Lv v) (Nat.le_refl _) (Nat.le_refl _)
      have hc := Rq_cnt r1
      have hd := dl_big (aL A) (by omega) (Lv v) (by omega)
      rw [Cf_both] at r1
      have r2 := (b4 0 0 (Nat.zero_le _) (Nat.zero_le _)).2
      rw [Nat.sub_zero, Nat.sub_zero] at r2
      have eq := Rq_uniq r1 r2
      have hcnt : f_X7_countAt 32 (aL A : Int) (Lv v : Int) σ5 = some (σ5 34 (13 * aL A + Lv v)) := X7_countAt_m hL q2
      have hlst : f_X7_leastAt 32 (aL A : Int) (Lv v : Int) σ5 = some (σ5 33 (13 * aL A + Lv v)) := X7_leastAt_m hL q2
      have e22 : τ3 22 (0 : Int).toNat = σ5 34 (13 * aL A + Lv v) := eq.2.symm
      have e1 : ((aL A : Int) - (i : Int)) - 1 = ((aL A - 1 - i : Nat) : Int) := by omega
      have y1' : f_X11_waysThatKeep_L40 N (i : Int) ((aL A - 1 - i : Nat) : Int) (σ5 33 (13 * aL A + Lv v)) σ5 N 0 0 = some y := y1
      have y2' : f_X12_kept_L37 N (i : Int) τ3 N 0 0 = some y := y2
      have hwk : f_X11_waysThatKeep N (i : Int) σ5 = some y := by
        unfold f_X11_waysThatKeep
        rw [nm_s, hw, hw15, e1, bV_ok hlst, bV_ok y1']
      generalize σ5 34 (13 * aL A + Lv v) = cn at hcnt e22 hc
      have hcl : f_X11_kept N (i : Int) σ = some (if y = 0 then 0 else if y = cn then 2 else 1, σ5) := by
        unfold f_X11_kept
        rw [hw0, ifl_f (by omega) (by omega) (by omega), ifl_t (by omega) (by omega) (by omega), bL1_ok t1, bV_ok (refusalOf_v t5), q, if_pos z00, bV_ok a1, bV_ok c1, bV_ok d1, bV_ok hwk, hw, hw15, bV_ok hcnt]
        by_cases z1 : y = 0
        · rw [ife_t z1, if_pos z1]
        · rw [ife_f z1 (by omega) (by omega) (by omega) (by omega), if_neg z1]
          by_cases z2 : y = cn
          · rw [ife_t z2, if_pos z2]
          · rw [ife_f z2 (by omega) (by omega) (by omega) (by omega), if_neg z2]
      have hrf : f_X12_kept N (i : Int) τ = some (if y = 0 then 0 else if y = cn then 2 else 1, τ3) := by
        unfold f_X12_kept
        rw [hw02, in_v (by omega) (by omega) (by decide) (by decide) (by omega) (by omega), if_pos (by omega), bV_s, if_neg z10, bL1_ok u1, q, ifle_t (by decide) (by decide) (by decide), bV_ok b1, bV_ok y2', gd_pos ⟨by omega, by omega⟩, e22]
        by_cases z1 : y = 0
        · rw [if_pos ((lCmp_eq (by omega) (by omega) (by omega) (by omega)).mpr z1), if_pos z1]
        · rw [if_neg (fun z => z1 ((lCmp_eq (by omega) (by omega) (by omega) (by omega)).mp z)), if_neg z1]
          by_cases z2 : y = cn
          · rw [if_pos ((lCmp_eq (by omega) (by omega) (by omega) (by omega)).mpr z2), if_pos z2]
          · rw [if_neg (fun z => z2 ((lCmp_eq (by omega) (by omega) (by omega) (by omega)).mp z)), if_neg z2]
      exact ⟨_, σ5, τ3, A, hcl, hrf, hI5⟩
    · refine ⟨rfs v, σ2, τ2, A, ?_, ?_, hI⟩
      · unfold f_X11_kept
        rw [hw0, ifl_f (by omega) (by omega) (by omega), ifl_t (by omega) (by omega) (by omega), bL1_ok t1, bV_ok (refusalOf_v t5)]
        rcases rfs_cases v with z | z | z
        · exact absurd z q
        · rw [z, ife_f (by decide) (by decide) (by decide) (by decide) (by decide)]
        · rw [z, ife_f (by decide) (by decide) (by decide) (by decide) (by decide)]
      · unfold f_X12_kept
        rw [hw02, in_v (by omega) (by omega) (by decide) (by decide) (by omega) (by omega), if_pos (by omega), bV_s, if_neg z10, bL1_ok u1]
        rcases rfs_cases v with z | z | z
        · exact absurd z q
        · rw [z, ifle_f (by decide) (by decide) (by decide)]
        · rw [z, ifle_f (by decide) (by decide) (by decide)]
  · refine ⟨-2, σ, τ, A, ?_, ?_, h⟩
    · unfold f_X11_kept
      rw [hw0]
      by_cases q : a < 0
      · rw [ifl_t q (by omega) (by omega)]
      · rw [ifl_f (by omega) (by omega) (by omega), ifl_f (by omega) (by omega) (by omega)]
    · unfold f_X12_kept
      rw [hw02, in_v h1 h2 (by decide) (by decide) (by omega) (by omega), if_neg (by omega), bV_s, if_pos z00]
