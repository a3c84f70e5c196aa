/-! layer 2, Chart.fillLetters -/
def WD (σ : Mem) (w L : Nat) (wd : Nat → Nat) : Prop := isW w ∧ σ w 1 = (L : Int) ∧ L ≤ 6 ∧ L ≤ lenW w ∧ ∀ k, k < L → σ (w + 1) k = (wd k : Int) ∧ wd k < 4
theorem WD_eq {σ τ : Mem} {w L : Nat} {wd : Nat → Nat} (h : WD σ w L wd) (h1 : τ w = σ w) (h2 : τ (w + 1) = σ (w + 1)) : WD τ w L wd := by
  unfold WD
  rw [h1, h2]
  exact h
def occ (wd : Nat → Nat) (s a : Nat) : Nat → Bool
  | 0 => false
  | b + 1 => occ wd s a b || (decide (a ≤ b) && decide (wd b = s))
/-- the least cost of writing one letter over a part -/
def lcost (wd : Nat → Nat) (dr pu ch s a b : Nat) : Nat := if a = b then pu else (b - a - 1) * dr + (if occ wd s a b then 0 else min ch (dr + pu))
def ltV (wd : Nat → Nat) (dr pu ch s a b : Nat) : Nat := pk (lcost wd dr pu ch s a b) 1 s
theorem lcost_le {wd : Nat → Nat} {dr pu ch s a b : Nat} (hd : dr ≤ 9) (hp : pu ≤ 9) (hab : a ≤ b) (hb : b ≤ 6) : lcost wd dr pu ch s a b ≤ dr * (b - a) + pu ∧ lcost wd dr pu ch s a b ≤ 1000000 := by
  have h1 : dr * (b - a) ≤ 9 * 6 := Nat.mul_le_mul hd (by omega)
  have h2 : lcost wd dr pu ch s a b ≤ dr * (b - a) + pu := by
    unfold lcost
    by_cases e : a = b
    · rw [if_pos e]; omega
    · rw [if_neg e]
      have h3 : dr * (b - a) = (b - a - 1) * dr + dr := by
        rw [show b - a = b - a - 1 + 1 by omega, Nat.mul_add, Nat.mul_comm dr, Nat.mul_one]
        rw [Nat.add_sub_cancel]
      rw [h3]
      split <;> omega
  omega
theorem ltV_fld {wd : Nat → Nat} {dr pu ch s a b : Nat} (hs : s < 4) : Cv (ltV wd dr pu ch s a b) = lcost wd dr pu ch s a b ∧ Lv (ltV wd dr pu ch s a b) = 1 ∧ Tv (ltV wd dr pu ch s a b) = s :=
  ⟨pk_C (by decide) (by omega), pk_L (by decide) (by omega), pk_T (by omega)⟩
theorem ltV_ok {wd : Nat → Nat} {dr pu ch L : Nat} (hd : dr ≤ 9) (hp : pu ≤ 9) (hp1 : 1 ≤ pu) (hL : L ≤ 6) : okL L (ltV wd dr pu ch) := fun s a b hs hab hb => by
  obtain ⟨e1, e2, e3⟩ := ltV_fld (wd := wd) (dr := dr) (pu := pu) (ch := ch) (a := a) (b := b) hs
  obtain ⟨c1, c2⟩ := lcost_le (wd := wd) (ch := ch) (s := s) hd hp hab (by omega : b ≤ 6)
  refine Or.inr ⟨by omega, ?_, fun _ => by rw [e2, e3]; omega, fun z => by omega⟩
  rw [e1, e2]
  unfold lcost
  by_cases e : a = b
  · rw [if_pos e]; omega
  · omega
theorem ltV_G {wd : Nat → Nat} {dr pu ch L : Nat} (hd : dr ≤ 9) (hp : pu ≤ 9) (hp1 : 1 ≤ pu) (hL : L ≤ 6) : ∀ s a b, s < 4 → a ≤ b → b ≤ L → cB (dr * (b - a) + pu) (ltV wd dr pu ch s a b) ∧ len_ok pu (b - a) (ltV wd dr pu ch s a b) := fun s a b hs hab hb => by
  obtain ⟨e1, e2, e3⟩ := ltV_fld (wd := wd) (dr := dr) (pu := pu) (ch := ch) (a := a) (b := b) hs
  obtain ⟨c1, c2⟩ := lcost_le (wd := wd) (ch := ch) (s := s) hd hp hab (by omega : b ≤ 6)
  refine ⟨Or.inr (by omega), Or.inr ?_⟩
  rw [e1, e2]
  by_cases e : a = b
  · unfold lcost
    rw [if_pos e]; omega
  · have : pu * 1 ≤ pu * (b - a) := Nat.mul_le_mul_left _ (by omega)
    omega
theorem ltV_sm {wd : Nat → Nat} {dr pu ch s a b : Nat} (hd : dr ≤ 9) (hp : pu ≤ 9) (hs : s < 4) (hab : a ≤ b) (hb : b ≤ 6) : sm (ltV wd dr pu ch s a b) := by
  obtain ⟨e1, e2, e3⟩ := ltV_fld (wd := wd) (dr := dr) (pu := pu) (ch := ch) (a := a) (b := b) hs
  obtain ⟨c1, c2⟩ := lcost_le (wd := wd) (ch := ch) (s := s) hd hp hab hb
  exact Or.inr ⟨by omega, by omega⟩
/-- the word's costs in the memory -/
def CS (σ : Mem) (dr pu ch : Nat) : Prop := σ 12 0 = (dr : Int) ∧ σ 12 1 = (pu : Int) ∧ σ 12 2 = (ch : Int) ∧ 1 ≤ dr ∧ dr ≤ 9 ∧ 1 ≤ pu ∧ pu ≤ 9 ∧ 1 ≤ ch ∧ ch ≤ 9
theorem CS_eq {σ τ : Mem} {dr pu ch : Nat} (h : CS σ dr pu ch) (h1 : τ 12 = σ 12) : CS τ dr pu ch := by
  unfold CS
  rw [h1]
  exact h
theorem lo45 {wd : Nat → Nat} {dr pu ch a b N mask : Nat} (hab : a ≤ b) (hb : b ≤ 6) (hm : mask < 16) (hbit : ∀ s, s < 4 → mask.testBit s = occ wd s a b) : ∀ (m s fuel : Nat) (σ : Mem), s + m = 4 → m < fuel → CS σ dr pu ch →
    ∃ τ, f_X0_fillLettersOf_L45 N (a : Int) (b : Int) (mask : Int) (((b : Int) - a - 1) * dr) ((min ch (dr + pu) : Nat) : Int) fuel (s : Int) σ = some τ ∧ (∀ k, k ≠ 28 → τ k = σ k) ∧
      (∀ q, s ≤ q → q < 4 → τ 28 (q * 49 + a * 7 + b) = enc (ltV wd dr pu ch q a b)) ∧ ∀ x, (∀ q, s ≤ q → q < 4 → x ≠ q * 49 + a * 7 + b) → τ 28 x = σ 28 x := by
  intro m
  induction m with
  | zero =>
    intro s fuel σ hs hf hc
    obtain ⟨f, rfl⟩ : ∃ f, fuel = f + 1 := ⟨fuel - 1, by omega⟩
    refine ⟨σ, ?_, fun _ _ => rfl, fun q h1 h2 => by omega, fun x _ => rfl⟩
    rw [f_X0_fillLettersOf_L45, ifle_t (by omega) (by omega) (by omega)]
  | succ m ih =>
    intro s fuel σ hs hf hc
    obtain ⟨f, rfl⟩ : ∃ f, fuel = f + 1 := ⟨fuel - 1, by omega⟩
    obtain ⟨c1, c2, c3, c4, c5, c6, c7, c8, c9⟩ := id hc
    obtain ⟨q1, q2⟩ := lcost_le (wd := wd) (ch := ch) (s := s) c5 c7 hab hb
    obtain ⟨τ, t1, t2, t3, t4⟩ := ih (s + 1) f (st σ 28 (s * 49 + a * 7 + b) (enc (ltV wd dr pu ch s a b))) (by omega) (by omega) (CS_eq hc (st_other σ _ (by decide)))
    refine ⟨τ, ?_, fun k hk => (t2 k hk).trans (st_other σ _ hk), fun q h1 h2 => ?_, fun x hx => ?_⟩
    · have hx4 : ∃ v : Int, (bV (if zI (iAnd (iShr (mask : Int) (s : Int)) 1) = zI 0 then (some ((min ch (dr + pu) : Nat) : Int)) else (some 0)) (fun (v2 : Int) => nm ((((b : Int) - a - 1) * dr) + v2) (fun (x4 : Int) => bV (if zI (a : Int) = zI (b : Int) then (bV (f_X1_put σ) (fun (y8 : Int) => some y8)) else (some x4)) (fun (v5 : Int) => some v5)))) = some v ∧ v = ((lcost wd dr pu ch s a b : Nat) : Int) := by
        have hbt := bit_test mask s (by omega) (by omega)
        rw [hbit s (by omega)] at hbt
        refine ⟨_, ?_, rfl⟩
        unfold lcost
        by_cases e : a = b
        · have e2 : (a : Int) = (b : Int) := by omega
          rw [if_pos e]
          by_cases hz : zI (iAnd (iShr (mask : Int) (s : Int)) 1) = zI 0
          · rw [if_pos hz, bV_s]
            simp only [nm]
            rw [ife_t e2, put_m, c2, bV_s, bV_s]
          · rw [if_neg hz, bV_s]
            simp only [nm]
            rw [ife_t e2, put_m, c2, bV_s, bV_s]
        · have e2 : (a : Int) ≠ (b : Int) := by omega
          rw [if_neg e]
          by_cases o : occ wd s a b = true
          · rw [if_neg (fun z => by
              have := hbt.mp z
              rw [o] at this; cases this), if_pos o, bV_s]
            simp only [nm]
            rw [ife_f e2 (by omega) (by omega) (by omega) (by omega), bV_s]
            congr 1
            rw [show ((b : Int) - a - 1) = ((b - a - 1 : Nat) : Int) by omega, Int.add_zero, Nat.add_zero]
            exact (Int.natCast_mul _ _).symm
          · have o2 : occ wd s a b = false := by simpa using o
            rw [if_pos (hbt.mpr o2), if_neg o, bV_s]
            simp only [nm]
            rw [ife_f e2 (by omega) (by omega) (by omega) (by omega), bV_s]
            congr 1
            rw [show ((b : Int) - a - 1) = ((b - a - 1 : Nat) : Int) by omega]
            rw [Int.natCast_add, Int.natCast_mul]
      obtain ⟨v, v1, v2⟩ := hx4
      have hgo : ∀ g : Int → Option Mem, (bV (if zI (iAnd (iShr (mask : Int) (s : Int)) 1) = zI 0 then (some ((min ch (dr + pu) : Nat) : Int)) else (some 0)) (fun (v2 : Int) => nm ((((b : Int) - a - 1) * dr) + v2) (fun (x4 : Int) => bV (if zI (a : Int) = zI (b : Int) then (bV (f_X1_put σ) (fun (y8 : Int) => some y8)) else (some x4)) g))) = g v := by
        intro g
        generalize (if zI (iAnd (iShr (mask : Int) (s : Int)) 1) = zI 0 then (some ((min ch (dr + pu) : Nat) : Int)) else (some 0)) = o1 at v1 ⊢
        cases o1 with
        | none => cases v1
        | some w =>
          simp only [nm, bV_s] at v1 ⊢
          generalize (if zI (a : Int) = zI (b : Int) then (bV (f_X1_put σ) (fun (y8 : Int) => some y8)) else (some ((((b : Int) - a - 1) * dr) + w))) = o2 at v1 ⊢
          cases o2 with
          | none => cases v1
          | some w2 =>
            rw [bV_s] at v1 ⊢
            rw [Option.some.inj v1]
      rw [f_X0_fillLettersOf_L45, ifle_f (by omega) (by omega) (by omega), hgo, v2, bV_ok (ofOne_v _ s q2 (by omega)), bV_ok (setFit_m _ s a b rfl rfl rfl (by omega) (by omega) hb)]
      exact t1
    · by_cases e : q = s
      · rw [e, t4 _ (fun q2 h3 h4 => by omega), st_eq]
      · exact t3 q (by omega) h2
    · rw [t4 x (fun q h1 h2 => hx q (by omega) h2), st_ne σ _ (hx s (Nat.le_refl _) (by omega))]
theorem min_chp {dr pu ch : Nat} (h1 : dr ≤ 9) (h2 : pu ≤ 9) (h3 : ch ≤ 9) : iMin (ch : Int) ((dr : Int) + pu) = ((min ch (dr + pu) : Nat) : Int) := by
  rw [iMin_z (by omega) (by omega) (by omega) (by omega)]
  omega
theorem nm_s {α β : Type} (v : α) (g : α → Option β) : nm v g = g v := rfl
theorem flo_eq {N : Nat} {a b mask : Int} {σ τ : Mem} {d c p x y : Int} (h1 : f_X1_drop σ = some d) (h2 : f_X1_change σ = some c) (h3 : f_X1_put σ = some p) (hx : iMin c (d + p) = x) (hy : (b - a - 1) * d = y) (h : f_X0_fillLettersOf_L45 N a b mask y x N 0 σ = some τ) : f_X0_fillLettersOf N a b mask σ = some τ := by
  unfold f_X0_fillLettersOf
  rw [h1, bV_s, hy, nm_s, h2, bV_s, h3, bV_s, bV_s, hx, nm_s, h, bV_s]
theorem fillLettersOf_m {wd : Nat → Nat} {dr pu ch a b N mask : Nat} {σ : Mem} (hN : 10 ≤ N) (hab : a ≤ b) (hb : b ≤ 6) (hm : mask < 16) (hbit : ∀ s, s < 4 → mask.testBit s = occ wd s a b) (hc : CS σ dr pu ch) :
    ∃ τ, f_X0_fillLettersOf N (a : Int) (b : Int) (mask : Int) σ = some τ ∧ (∀ k, k ≠ 28 → τ k = σ k) ∧
      (∀ q, q < 4 → τ 28 (q * 49 + a * 7 + b) = enc (ltV wd dr pu ch q a b)) ∧ ∀ x, (∀ q, q < 4 → x ≠ q * 49 + a * 7 + b) → τ 28 x = σ 28 x := by
  obtain ⟨c1, c2, c3, c4, c5, c6, c7, c8, c9⟩ := id hc
  obtain ⟨τ, t1, t2, t3, t4⟩ := lo45 (N := N) hab hb hm hbit 4 0 N σ rfl (by omega) hc
  refine ⟨τ, ?_, t2, fun q h => t3 q (Nat.zero_le _) h, fun x hx => t4 x (fun q _ h => hx q h)⟩
  exact flo_eq (drop_m.trans (congrArg some c1)) (change_m.trans (congrArg some c3)) (put_m.trans (congrArg some c2)) (min_chp c5 c7 c9) rfl t1
theorem occ_emp {wd : Nat → Nat} {s a : Nat} : ∀ {b : Nat}, b ≤ a → occ wd s a b = false
  | 0, _ => rfl
  | b + 1, h => by
    unfold occ
    rw [occ_emp (by omega : b ≤ a), decide_eq_false (by omega : ¬ a ≤ b)]
    rfl
theorem letterAt_m {σ : Mem} {w L k : Nat} {wd : Nat → Nat} {e : Int} (h : WD σ w L wd) (hk : k < L) (he : e = (k : Int)) : f_X10_letterAt w e σ = some (wd k : Int) := by
  subst he
  obtain ⟨h1, h2, h3, h4, h5⟩ := h
  have hl := lenW_lt w
  unfold f_X10_letterAt
  rw [h2, ifl_f (by omega) (by omega) (by omega), ifle_f (by omega) (by omega) (by omega), ifle_f (by omega) (by omega) (by omega), gd_pos (by omega), Int.toNat_natCast, (h5 k hk).1]
theorem mask_add : ∀ m : Nat, m < 16 → ∀ y : Nat, y < 4 → iOr (m : Int) (iShl 1 (y : Int)) = ((m ||| 2 ^ y : Nat) : Int) ∧ m ||| 2 ^ y < 16 ∧ ∀ s : Nat, s < 4 → (m ||| 2 ^ y).testBit s = (m.testBit s || decide (y = s)) := by decide +kernel
/-- the chart's word -/
def WC (σ : Mem) (w L : Nat) (wd : Nat → Nat) : Prop := σ 27 2 = (w : Int) ∧ w < 39 ∧ WD σ w L wd ∧ w ≠ 28 ∧ w + 1 ≠ 28
theorem WC_eq {σ τ : Mem} {w L : Nat} {wd : Nat → Nat} (h : WC σ w L wd) (ht : ∀ k, k ≠ 28 → τ k = σ k) : WC τ w L wd := by
  obtain ⟨h1, h2, h3, h4, h5⟩ := h
  exact ⟨by rw [ht 27 (by decide)]; exact h1, h2, WD_eq h3 (ht _ h4) (ht _ h5), h4, h5⟩
theorem lo17 {w L : Nat} {wd : Nat → Nat} {dr pu ch a N : Nat} (hN : 10 ≤ N) (ha : a ≤ L) : ∀ (m b fuel mask : Nat) (σ : Mem), b + m = L + 1 → a ≤ b → m < fuel → mask < 16 → (∀ s, s < 4 → mask.testBit s = occ wd s a (b - 1)) → WC σ w L wd → CS σ dr pu ch →
    ∃ τ, f_X0_fillLetters_L17 N (a : Int) fuel (mask : Int) (b : Int) σ = some τ ∧ (∀ k, k ≠ 28 → τ k = σ k) ∧
      (∀ q c, q < 4 → b ≤ c → c ≤ L → τ 28 (q * 49 + a * 7 + c) = enc (ltV wd dr pu ch q a c)) ∧ ∀ x, (∀ q c, q < 4 → b ≤ c → c ≤ L → x ≠ q * 49 + a * 7 + c) → τ 28 x = σ 28 x := by
  intro m
  induction m with
  | zero =>
    intro b fuel mask σ hb hab hf hm hbit hw hc
    obtain ⟨f, rfl⟩ : ∃ f, fuel = f + 1 := ⟨fuel - 1, by omega⟩
    obtain ⟨w1, w2, ⟨w3, w4, w5, w6, w7⟩, w8⟩ := hw
    refine ⟨σ, ?_, fun _ _ => rfl, fun q c _ h1 h2 => by omega, fun x _ => rfl⟩
    rw [f_X0_fillLetters_L17, w1, Int.toNat_natCast, gd_pos w3, w4, ifl_t (by omega) (by omega) (by omega)]
  | succ m ih =>
    intro b fuel mask σ hb hab hf hm hbit hw hc
    obtain ⟨f, rfl⟩ : ∃ f, fuel = f + 1 := ⟨fuel - 1, by omega⟩
    obtain ⟨w1, w2, ⟨w3, w4, w5, w6, w7⟩, w8⟩ := id hw
    have hmk : ∃ mk : Nat, (if zI (b : Int) ≤ zI (a : Int) then (some (mask : Int)) else (bV (f_X10_letterAt w ((b : Int) - 1) σ) (fun (y6 : Int) => nm (iOr (mask : Int) (iShl 1 y6)) (fun (x7 : Int) => some x7)))) = some (mk : Int) ∧ mk < 16 ∧ ∀ s, s < 4 → mk.testBit s = occ wd s a b := by
      by_cases q : b ≤ a
      · refine ⟨mask, ?_, hm, fun s hs => ?_⟩
        · rw [ifle_t (by omega) (by omega) (by omega)]
        · rw [hbit s hs, occ_emp (by omega), occ_emp q]
      · have hk := w7 (b - 1) (by omega)
        obtain ⟨m1, m2, m3⟩ := mask_add mask hm (wd (b - 1)) hk.2
        refine ⟨mask ||| 2 ^ wd (b - 1), ?_, m2, fun s hs => ?_⟩
        · rw [ifle_f (by omega) (by omega) (by omega), bV_ok (letterAt_m hw.2.2.1 (k := b - 1) (by omega) (by omega))]
          simp only [nm]
          rw [m1]
        · rw [m3 s hs, hbit s hs]
          obtain ⟨c, rfl⟩ : ∃ c, b = c + 1 := ⟨b - 1, by omega⟩
          rw [Nat.add_sub_cancel, occ, decide_eq_true (by omega : a ≤ c), Bool.true_and]
    obtain ⟨mk, k1, k2, k3⟩ := hmk
    obtain ⟨ρ, r1, r2, r3, r4⟩ := fillLettersOf_m (N := N) hN hab (by omega) k2 k3 hc
    obtain ⟨τ, t1, t2, t3, t4⟩ := ih (b + 1) f mk ρ (by omega) (by omega) (by omega) k2 (fun s hs => by rw [Nat.add_sub_cancel]; exact k3 s hs) (WC_eq hw r2) (CS_eq hc (r2 12 (by decide)))
    refine ⟨τ, ?_, fun k hk => (t2 k hk).trans (r2 k hk), fun q c hq h1 h2 => ?_, fun x hx => ?_⟩
    · rw [f_X0_fillLetters_L17, w1, Int.toNat_natCast, gd_pos w3, w4, ifl_f (by omega) (by omega) (by omega), k1, bV_s, bV_ok r1]
      exact t1
    · by_cases e : c = b
      · rw [e, t4 _ (fun q2 c2 h3 h4 h5 => by omega), r3 q hq]
      · exact t3 q c hq (by omega) h2
    · rw [t4 x (fun q c hq h1 h2 => hx q c hq (by omega) h2), r4 x (fun q hq => hx q b hq (Nat.le_refl _) (by omega))]
theorem lo2 {w L : Nat} {wd : Nat → Nat} {dr pu ch N : Nat} (hN : 10 ≤ N) : ∀ (m a fuel : Nat) (σ : Mem), a + m = L + 1 → m < fuel → WC σ w L wd → CS σ dr pu ch →
    ∃ τ, f_X0_fillLetters_L2 N fuel (a : Int) σ = some τ ∧ (∀ k, k ≠ 28 → τ k = σ k) ∧
      (∀ q e c, q < 4 → a ≤ e → e ≤ c → c ≤ L → τ 28 (q * 49 + e * 7 + c) = enc (ltV wd dr pu ch q e c)) ∧ ∀ x, (∀ q e c, q < 4 → a ≤ e → e ≤ c → c ≤ L → x ≠ q * 49 + e * 7 + c) → τ 28 x = σ 28 x := by
  intro m
  induction m with
  | zero =>
    intro a fuel σ ha hf hw hc
    obtain ⟨f, rfl⟩ : ∃ f, fuel = f + 1 := ⟨fuel - 1, by omega⟩
    obtain ⟨w1, w2, ⟨w3, w4, w5, w6, w7⟩, w8⟩ := hw
    refine ⟨σ, ?_, fun _ _ => rfl, fun q e c _ h1 h2 h3 => by omega, fun x _ => rfl⟩
    rw [f_X0_fillLetters_L2, w1, Int.toNat_natCast, gd_pos w3, w4, ifl_t (by omega) (by omega) (by omega)]
  | succ m ih =>
    intro a fuel σ ha hf hw hc
    obtain ⟨f, rfl⟩ : ∃ f, fuel = f + 1 := ⟨fuel - 1, by omega⟩
    obtain ⟨w1, w2, ⟨w3, w4, w5, w6, w7⟩, w8⟩ := id hw
    obtain ⟨ρ, r1, r2, r3, r4⟩ := lo17 (N := N) hN (by omega : a ≤ L) (L + 1 - a) a N 0 σ (by omega) (Nat.le_refl _) (by omega) (by decide) (fun s hs => by rw [Nat.zero_testBit, occ_emp (by omega)]) hw hc
    obtain ⟨τ, t1, t2, t3, t4⟩ := ih (a + 1) f ρ (by omega) (by omega) (WC_eq hw r2) (CS_eq hc (r2 12 (by decide)))
    refine ⟨τ, ?_, fun k hk => (t2 k hk).trans (r2 k hk), fun q e c hq h1 h2 h3 => ?_, fun x hx => ?_⟩
    · have r1' : f_X0_fillLetters_L17 N (a : Int) N 0 (a : Int) σ = some ρ := r1
      rw [f_X0_fillLetters_L2, w1, Int.toNat_natCast, gd_pos w3, w4, ifl_f (by omega) (by omega) (by omega), bV_ok r1']
      exact t1
    · by_cases z : e = a
      · subst z
        rw [t4 _ (fun q2 e2 c2 h4 h5 h6 h7 => by omega), r3 q c hq h2 h3]
      · exact t3 q e c hq (by omega) h2 h3
    · rw [t4 x (fun q e c hq h1 h2 h3 => hx q e c hq (by omega) h2 h3), r4 x (fun q c hq h1 h2 => hx q a c hq (Nat.le_refl _) h1 h2)]
theorem fillLetters_m {w L : Nat} {wd : Nat → Nat} {dr pu ch N : Nat} {σ : Mem} (hN : 10 ≤ N) (hw : WC σ w L wd) (hc : CS σ dr pu ch) :
    ∃ τ, f_X0_fillLetters N σ = some τ ∧ (∀ k, k ≠ 28 → τ k = σ k) ∧
      (∀ q e c, q < 4 → e ≤ c → c ≤ L → τ 28 (q * 49 + e * 7 + c) = enc (ltV wd dr pu ch q e c)) := by
  have hL := hw.2.2.1.2.2.1
  obtain ⟨τ, t1, t2, t3, t4⟩ := lo2 (N := N) hN (L + 1) 0 N σ (by omega) (by omega) hw hc
  refine ⟨τ, ?_, t2, fun q e c hq h => t3 q e c hq (Nat.zero_le _) h⟩
  unfold f_X0_fillLetters
  have t1' : f_X0_fillLetters_L2 N N 0 σ = some τ := t1
  rw [bV_ok t1']
