/-! layer 2, Reach.farOfRule -/
theorem mxc_P {P Q : Nat → Prop} {f : Nat → Nat} {n : Nat} (h : ∀ k, k < n → (P k ↔ Q k)) : mxc P f n = mxc Q f n :=
  Nat.le_antisymm (mxc_lub (fun k hk hP => mxc_le ((h k hk).mp hP) hk)) (mxc_lub (fun k hk hP => mxc_le ((h k hk).mpr hP) hk))
/-- the class's numbers in the memory -/
def FA (σ : Mem) (L : Nat) (g : Nat → Nat → Nat) : Prop := ∀ n p, n < 6 → p ≤ L → σ 31 (n * 7 + p) = (g n p : Int) - 1
theorem farOfSign_m {σ : Mem} {w L s c : Nat} {wd : Nat → Nat} {g : Nat → Nat → Nat} (hW : WC σ w L wd) (hF : FA σ L g) (hs : s < 10) (hc : c ≤ L) : f_X6_farOfSign (s : Int) (c : Int) σ = some ((fo wd L g s c : Int) - 1) := by
  have hL := hW.2.2.1.2.2.1
  unfold f_X6_farOfSign fo
  by_cases h4 : s < 4
  · rw [ifle_f (by omega) (by omega) (by omega), bV_ok (letterStandsAt_m hW h4 (by omega)), if_pos h4]
    by_cases q : c < L ∧ wd c = s
    · rw [if_pos q, if_pos q, if_neg (by decide)]
      congr 1
      omega
    · rw [if_neg q, if_neg q, if_pos rfl]
      congr 1
      omega
  · have e : ((s : Int) - 4) * 7 + c = (((s - 4) * 7 + c : Nat) : Int) := by omega
    rw [ifle_t (by omega) (by omega) (by omega), nm_s, e, ifl_f (by omega) (by omega) (by omega), ifle_f (by omega) (by omega) (by omega), gd_pos ⟨by omega, by omega⟩, Int.toNat_natCast, hF (s - 4) c (by omega) hc, if_neg h4]
theorem iMax_1 {a b : Nat} (ha : a ≤ 1000) (hb : b ≤ 1000) : iMax ((a : Int) - 1) ((b : Int) - 1) = ((max a b : Nat) : Int) - 1 := by
  rw [iMax_z (by omega) (by omega) (by omega) (by omega)]
  omega
theorem fo_rng {wd : Nat → Nat} {L s c : Nat} {g : Nat → Nat → Nat} (hg : ∀ m c, g m c ≤ L + 1) (hc : c ≤ L) : fo wd L g s c ≤ L + 1 := by
  unfold fo
  split
  · split <;> omega
  · exact hg _ _
theorem farFrom5 {σ : Mem} {w L s st0 N : Nat} {wd : Nat → Nat} {g : Nat → Nat → Nat} (hW : WC σ w L wd) (hF : FA σ L g) (hg : ∀ m c, g m c ≤ L + 1) (hs : s < 10) (hst : st0 < 128) : ∀ (m c fuel : Nat), c + m = L + 1 → m < fuel →
    f_X6_farFrom_L5 N (st0 : Int) (s : Int) σ fuel ((mxc (fun c => st0.testBit c = true) (fun c => fo wd L g s c) c : Int) - 1) (c : Int) = some ((mxc (fun c => st0.testBit c = true) (fun c => fo wd L g s c) (L + 1) : Int) - 1) := by
  have hL := hW.2.2.1.2.2.1
  intro m
  induction m with
  | zero =>
    intro c fuel hb hf
    obtain ⟨f, rfl⟩ : ∃ f, fuel = f + 1 := ⟨fuel - 1, by omega⟩
    rw [f_X6_farFrom_L5, bV_ok (X0_length_m hW), ifl_t (by omega) (by omega) (by omega), show c = L + 1 by omega]
  | succ m ih =>
    intro c fuel hb hf
    obtain ⟨f, rfl⟩ : ∃ f, fuel = f + 1 := ⟨fuel - 1, by omega⟩
    have hm : mxc (fun c => st0.testBit c = true) (fun c => fo wd L g s c) c ≤ L + 1 := mxc_lub (fun k hk _ => fo_rng hg (by omega))
    have hf1 := fo_rng (wd := wd) (s := s) hg (by omega : c ≤ L)
    have hbit := bit_test st0 c (by omega) (by omega)
    have hn := ih (c + 1) f (by omega) (by omega)
    rw [f_X6_farFrom_L5, bV_ok (X0_length_m hW), ifl_f (by omega) (by omega) (by omega)]
    by_cases q : st0.testBit c = true
    · rw [if_neg (fun z => by rw [hbit.mp z] at q; cases q), bV_ok (farOfSign_m hW hF hs (by omega)), nm_s, bV_s, nm_s, iMax_1 (by omega) (by omega)]
      rw [mxc_s (P := fun c => st0.testBit c = true) q] at hn
      exact hn
    · rw [if_pos (hbit.mpr (by cases z : st0.testBit c with | true => exact absurd z q | false => rfl)), bV_s, nm_s]
      rw [mxc_n (P := fun c => st0.testBit c = true) q] at hn
      exact hn
theorem farFrom_m {σ : Mem} {w L s st0 N : Nat} {wd : Nat → Nat} {g : Nat → Nat → Nat} (hN : 20 ≤ N) (hW : WC σ w L wd) (hF : FA σ L g) (hg : ∀ m c, g m c ≤ L + 1) (hs : s < 10) (hst : st0 < 128) : f_X6_farFrom N (st0 : Int) (s : Int) σ = some ((mxc (fun c => st0.testBit c = true) (fun c => fo wd L g s c) (L + 1) : Int) - 1) := by
  have hL := hW.2.2.1.2.2.1
  have h := farFrom5 (N := N) hW hF hg hs hst (L + 1) 0 N (by omega) (by omega)
  have h2 : f_X6_farFrom_L5 N (st0 : Int) (s : Int) σ N (-1) 0 = some ((mxc (fun c => st0.testBit c = true) (fun c => fo wd L g s c) (L + 1) : Int) - 1) := h
  unfold f_X6_farFrom
  rw [nm_s, bV_ok h2]
/-- a rule in a slot of the memory -/
def RM (σ : Mem) (sl len : Nat) (sg : Nat → Nat) : Prop := sl < 25 ∧ len ≤ 4 ∧ σ 5 sl = (len : Int) ∧ ∀ p, p < len → σ 6 (sl * 4 + p) = (sg p : Int) ∧ sg p < 10
theorem RM_of {σ : Mem} (h : wfM σ) {n r : Nat} (hn : n < 6) : RM σ (slC σ n r) (rlC σ n r) (rsC σ n r) := by
  have h1 := slC_lt h (n := n) (r := r) hn
  obtain ⟨h2, h3⟩ := ln_v h h1
  exact ⟨h1, h3, h2, fun p hp => sg_v h h1 (by unfold rlC at hp; omega)⟩
theorem comes2 {σ : Mem} {L sl len N : Nat} {sg : Nat → Nat} {F : Nat → Nat → Nat → Nat} (hR : RM σ sl len sg) (hF : HC σ L F) : ∀ (m q fuel : Nat), q + m = len → m < fuel → (∀ x, x < q → F (sg x) 0 0 ≠ TT) →
    ∃ t : Nat, f_X0_comesToWords_L2 N (sl : Int) σ fuel (q : Int) = some t ∧ ((t = 1 ∧ ∀ x, x < len → F (sg x) 0 0 ≠ TT) ∨ (t = 0 ∧ ¬ ∀ x, x < len → F (sg x) 0 0 ≠ TT)) := by
  obtain ⟨r1, r2, r3, r4⟩ := hR
  intro m
  induction m with
  | zero =>
    intro q fuel hq hf hx
    obtain ⟨f, rfl⟩ : ∃ f, fuel = f + 1 := ⟨fuel - 1, by omega⟩
    refine ⟨1, ?_, Or.inl ⟨rfl, fun x hx2 => hx x (by omega)⟩⟩
    rw [f_X0_comesToWords_L2, bV_ok (lengthOf_m 3 sl r1), r3, ifle_t (by omega) (by omega) (by omega)]
  | succ m ih =>
    intro q fuel hq hf hx
    obtain ⟨f, rfl⟩ : ∃ f, fuel = f + 1 := ⟨fuel - 1, by omega⟩
    obtain ⟨s1, s2⟩ := r4 q (by omega)
    obtain ⟨v1, v2⟩ := hF (sg q) 0 0 s2 (Nat.le_refl _) (Nat.zero_le _)
    have r := enc_rng v2
    have hfit : f_X0_fitOf ((sg q : Nat) : Int) 0 0 σ = some (enc (F (sg q) 0 0)) := by
      unfold f_X0_fitOf
      rw [bV_ok (fitAt_m (sg q * 49 + 0 * 7 + 0) (by omega) (by omega)), v1]
    rw [f_X0_comesToWords_L2, bV_ok (lengthOf_m 3 sl r1), r3, ifle_f (by omega) (by omega) (by omega), bV_ok (signAt_m sl q r1 (by omega)), s1, bV_ok hfit]
    by_cases e : F (sg q) 0 0 = TT
    · refine ⟨0, ?_, Or.inr ⟨rfl, fun z => z q (by omega) e⟩⟩
      have eT : enc (F (sg q) 0 0) = 9223372036854775807 := by rw [e, enc_TT]
      rw [eT, if_pos ((lCmp_eq (by omega) (by omega) (by omega) (by omega)).mpr rfl)]
    · have r5 := r.2.2 e
      obtain ⟨t, t1, t2⟩ := ih (q + 1) f (by omega) (by omega) (fun x hx2 => by
        by_cases e2 : x = q
        · rw [e2]; exact e
        · exact hx x (by omega))
      refine ⟨t, ?_, t2⟩
      rw [if_neg (fun z => by
        have := (lCmp_eq (by omega) (by omega) (by omega) (by omega)).mp z
        omega), nm_s]
      exact t1
theorem comesToWords_m {σ : Mem} {L sl len N : Nat} {sg : Nat → Nat} {F : Nat → Nat → Nat → Nat} (hN : 20 ≤ N) (hR : RM σ sl len sg) (hF : HC σ L F) : ∃ v : Int, f_X0_comesToWords N (sl : Int) σ = some v ∧ ((v = 1 ∧ ∀ x, x < len → F (sg x) 0 0 ≠ TT) ∨ (v = 0 ∧ ¬ ∀ x, x < len → F (sg x) 0 0 ≠ TT)) := by
  obtain ⟨t, t1, t2⟩ := comes2 (N := N) hR hF len 0 N (by omega) (by have := hR.2.1; omega) (fun x hx => absurd hx (Nat.not_lt_zero x))
  have t1' : f_X0_comesToWords_L2 N (sl : Int) σ N 0 = some t := t1
  unfold f_X0_comesToWords
  rw [bV_ok t1']
  rcases t2 with ⟨e, h⟩ | ⟨e, h⟩
  · subst e
    exact ⟨1, rfl, Or.inl ⟨rfl, h⟩⟩
  · subst e
    exact ⟨0, rfl, Or.inr ⟨rfl, h⟩⟩
theorem bit7 : ∀ k : Nat, k < 7 → ∀ m : Nat, m < 7 → ((2 ^ k : Nat).testBit m = true ↔ m = k) := by decide +kernel
theorem pow_lt128 : ∀ k : Nat, k < 7 → (2 ^ k : Nat) < 128 ∧ iShl 1 (k : Int) = ((2 ^ k : Nat) : Int) := by decide +kernel
theorem rvA_s {wd : Nat → Nat} {L : Nat} {R : Nat → Nat → Nat → Prop} {g : Nat → Nat → Nat} {sg : Nat → Nat} {p k : Nat} : rvA wd L R g sg p (k + 1) = max (rvA wd L R g sg p k) (mxc (fun c => eb L R sg p k c) (fun c => fo wd L g (sg k) c) (L + 1)) := by
  unfold rvA
  rw [mxc_s (P := fun _ => True) trivial]
  omega
theorem rvA_rng {wd : Nat → Nat} {L : Nat} {R : Nat → Nat → Nat → Prop} {g : Nat → Nat → Nat} {sg : Nat → Nat} {p k : Nat} (hp : p ≤ L) (hg : ∀ m c, g m c ≤ L + 1) : rvA wd L R g sg p k ≤ L + 1 := rvA_lub (by omega) (fun _ _ _ hc _ => fo_rng hg hc)
theorem farOfRule23 {σ : Mem} {w L sl len p N : Nat} {wd sg : Nat → Nat} {g : Nat → Nat → Nat} {F : Nat → Nat → Nat → Nat} (hN : 20 ≤ N) (hW : WC σ w L wd) (hC : HC σ L F) (hR : RM σ sl len sg) (hF : FA σ L g) (hg : ∀ m c, g m c ≤ L + 1) (hp : p ≤ L) : ∀ (m q fuel st0 : Nat), q + m = len → m < fuel → st0 < 128 → (∀ k, k ≤ L → (st0.testBit k = true ↔ eb L (fun s a b => asis (F s a b)) sg p q k)) → (∀ k, L < k → k < 7 → ¬ st0.testBit k = true) →
    f_X6_farOfRule_L23 N (sl : Int) σ fuel ((rvA wd L (fun s a b => asis (F s a b)) g sg p q : Int) - 1) (st0 : Int) (q : Int) = some ((rvA wd L (fun s a b => asis (F s a b)) g sg p len : Int) - 1) := by
  have hL := hW.2.2.1.2.2.1
  have hR2 := hR
  obtain ⟨r1, r2, r3, r4⟩ := hR
  intro m
  induction m with
  | zero =>
    intro q fuel st0 hq hf hst hb1 hb2
    obtain ⟨f, rfl⟩ : ∃ f, fuel = f + 1 := ⟨fuel - 1, by omega⟩
    rw [f_X6_farOfRule_L23, bV_ok (lengthOf_m 3 sl r1), r3, ifle_t (by omega) (by omega) (by omega), show q = len by omega]
  | succ m ih =>
    intro q fuel st0 hq hf hst hb1 hb2
    obtain ⟨f, rfl⟩ : ∃ f, fuel = f + 1 := ⟨fuel - 1, by omega⟩
    obtain ⟨s1, s2⟩ := r4 q (by omega)
    obtain ⟨u2, v1, v2, v3⟩ := endsBehind_m (N := N) hN hW hC s2 hst
    have hrng := rvA_rng (wd := wd) (R := fun s a b => asis (F s a b)) (sg := sg) (k := q) hp hg
    have hmx : mxc (fun c => st0.testBit c = true) (fun c => fo wd L g (sg q) c) (L + 1) = mxc (fun c => eb L (fun s a b => asis (F s a b)) sg p q c) (fun c => fo wd L g (sg q) c) (L + 1) := mxc_P (fun k hk => hb1 k (by omega))
    have hmr : mxc (fun c => st0.testBit c = true) (fun c => fo wd L g (sg q) c) (L + 1) ≤ L + 1 := mxc_lub (fun k hk _ => fo_rng hg (by omega))
    have hn := ih (q + 1) f u2 (by omega) (by omega) v2 (fun k hk => by
      rw [v3 k (by omega)]
      constructor
      · rintro ⟨b, b1, b2, b3, b4⟩
        exact ⟨b, (hb1 b (by omega)).mp b1, b2, b3, b4⟩
      · rintro ⟨b, b1, b2, b3, b4⟩
        exact ⟨b, (hb1 b (by omega)).mpr b1, b2, b3, b4⟩) (fun k h1 h2 z => by
      obtain ⟨b, b1, b2, b3, b4⟩ := (v3 k h2).mp z
      omega)
    rw [f_X6_farOfRule_L23, bV_ok (lengthOf_m 3 sl r1), r3, ifle_f (by omega) (by omega) (by omega), bV_ok (signAt_m sl q r1 (by omega)), s1, bV_ok (farFrom_m hN hW hF hg s2 hst), nm_s, iMax_1 (by omega) (by omega), bV_ok v1, nm_s, hmx, ← rvA_s]
    exact hn
theorem farOfRule_m {σ : Mem} {w L sl len p N : Nat} {wd sg : Nat → Nat} {g : Nat → Nat → Nat} {F : Nat → Nat → Nat → Nat} (hN : 20 ≤ N) (hW : WC σ w L wd) (hC : HC σ L F) (hR : RM σ sl len sg) (hF : FA σ L g) (hg : ∀ m c, g m c ≤ L + 1) (hp : p ≤ L) :
    f_X6_farOfRule N (sl : Int) (p : Int) σ = some ((rvR wd L (fun s a b => asis (F s a b)) (fun s => F s 0 0 ≠ TT) g sg len p : Int) - 1) := by
  have hL := hW.2.2.1.2.2.1
  obtain ⟨v, v1, v2⟩ := comesToWords_m (N := N) hN hR hC
  unfold f_X6_farOfRule rvR
  rw [bV_ok v1]
  rcases v2 with ⟨e, h⟩ | ⟨e, h⟩
  · subst e
    have h2 := farOfRule23 (N := N) hN hW hC hR hF hg hp len 0 N (2 ^ p) (by omega) (by have := hR.2.1; omega) (pow_lt128 p (by omega)).1 (fun k hk => bit7 p (by omega) k (by omega)) (fun k h1 h2 z => by
      have := (bit7 p (by omega) k h2).mp z
      omega)
    have e0 : rvA wd L (fun s a b => asis (F s a b)) g sg p 0 = p + 1 := by unfold rvA mxc; omega
    rw [e0] at h2
    have e1 : ((p + 1 : Nat) : Int) - 1 = (p : Int) := by omega
    rw [e1] at h2
    have h3 : f_X6_farOfRule_L23 N (sl : Int) σ N (p : Int) ((2 ^ p : Nat) : Int) 0 = _ := h2
    rw [if_neg (by decide), nm_s, (pow_lt128 p (by omega)).2, bV_ok h3, if_pos h]
  · subst e
    rw [if_pos rfl, if_neg h]
    rfl
