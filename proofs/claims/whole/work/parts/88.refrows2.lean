/-! layer 2, the reference's layRows: whole -/
theorem RA_row {σ : Mem} {i dr pu L2 : Nat} {pc : Nat → Nat → Nat} (hL2 : L2 ≤ 12) (h : RA σ pc dr pu L2 i (L2 + 1)) : RA σ pc dr pu L2 (i + 1) 0 := ⟨fun a b hb hab => h.1 a b hb (by omega), fun x h1 h2 => h.2 x (by omega) h2⟩
theorem rr46 {L1 L2 dr pu ch N : Nat} {u v : Nat → Nat} (hN : 20 ≤ N) : ∀ (m i fuel : Nat) (σ : Mem), i + m = L1 + 1 → m < fuel → FR σ L1 L2 dr pu ch u v → RA σ (pcc u v ch) dr pu L2 i 0 →
    ∃ τ, f_X12_layRows_L46 N fuel (i : Int) σ = some τ ∧ (∀ k, k ≠ 19 → k ≠ 21 → τ k = σ k) ∧ RA τ (pcc u v ch) dr pu L2 (L1 + 1) 0 := by
  intro m
  induction m with
  | zero =>
    intro i fuel σ hi hf hW hG
    obtain ⟨k, rfl⟩ : ∃ k, fuel = k + 1 := ⟨fuel - 1, by omega⟩
    have hL1 := hW.1.1
    refine ⟨σ, ?_, fun _ _ _ => rfl, by rw [show L1 + 1 = i by omega]; exact hG⟩
    rw [f_X12_layRows_L46, hW.1.2.1, ifl_t (by omega) (by omega) (by omega)]
  | succ m ih =>
    intro i fuel σ hi hf hW hG
    obtain ⟨k, rfl⟩ : ∃ k, fuel = k + 1 := ⟨fuel - 1, by omega⟩
    have hL1 := hW.1.1
    have hL2 := hW.2.1
    obtain ⟨τ, t1, t2, t3⟩ := rr56 (N := N) (i := i) (by omega) (L2 + 1) 0 N σ (by omega) (by omega) hW hG
    obtain ⟨ω, s1, s2, s3⟩ := ih (i + 1) k τ (by omega) (by omega) (FR_off hW (fun k hk => t2 k (by omega) (by omega))) (RA_row hL2 t3)
    have t1' : f_X12_layRows_L56 N (i : Int) N 0 σ = some τ := t1
    refine ⟨ω, ?_, fun k a b => by rw [s2 k a b, t2 k a b], s3⟩
    rw [f_X12_layRows_L46, hW.1.2.1, ifl_f (by omega) (by omega) (by omega), bV_ok t1', nm_s]
    exact s1
/-- the cells behind (i, j) are right, the others are empty -/
def RK (σ : Mem) (pc : Nat → Nat → Nat) (dr pu L1 L2 i j : Nat) : Prop := (∀ a b, a ≤ L1 → b ≤ L2 → (i < a ∨ (a = i ∧ j ≤ b)) → Rq (9 * ((L1 - a) + (L2 - b))) (Cf pc dr pu (L1 - a) (L2 - b)) (σ 20 (13 * a + b)) (σ 22 (13 * a + b))) ∧ ∀ x, x < 13 * i + j → σ 20 x = 100000000 ∧ σ 22 x = 0
theorem RK_chr {σ τ : Mem} {i j dr pu L1 L2 a b : Nat} {pc : Nat → Nat → Nat} (hL2 : L2 ≤ 12) (hj : j + 1 ≤ 13) (h : RK σ pc dr pu L1 L2 i (j + 1)) (hc : chr2 20 22 (13 * i + j) σ τ) (ha : a ≤ L1) (hb : b ≤ L2) (hab : i < a ∨ (a = i ∧ j + 1 ≤ b)) : Rq (9 * ((L1 - a) + (L2 - b))) (Cf pc dr pu (L1 - a) (L2 - b)) (τ 20 (13 * a + b)) (τ 22 (13 * a + b)) := by
  have := hc.2 (13 * a + b) (by omega)
  rw [this.1, this.2]
  exact h.1 a b ha hb hab
theorem RK_next {σ τ : Mem} {i j dr pu L1 L2 : Nat} {pc : Nat → Nat → Nat} (hL2 : L2 ≤ 12) (hj : j + 1 ≤ 13) (h : RK σ pc dr pu L1 L2 i (j + 1)) (hch : chr2 20 22 (13 * i + j) σ τ) (hc : Rq (9 * ((L1 - i) + (L2 - j))) (Cf pc dr pu (L1 - i) (L2 - j)) (τ 20 (13 * i + j)) (τ 22 (13 * i + j))) : RK τ pc dr pu L1 L2 i j := by
  refine ⟨fun a b ha hb hab => ?_, fun x h1 => ?_⟩
  · by_cases q : a = i ∧ b = j
    · rw [q.1, q.2]; exact hc
    · exact RK_chr hL2 hj h hch ha hb (by omega)
  · have := hch.2 x (by omega)
    rw [this.1, this.2]
    exact h.2 x (by omega)
theorem rr179 {L1 L2 dr pu ch i N : Nat} {u v : Nat → Nat} (hi : i ≤ L1) : ∀ (m fuel : Nat) (σ : Mem), m ≤ L2 + 1 → m < fuel → FR σ L1 L2 dr pu ch u v → RK σ (pbk (pcc u v ch) L1 L2) dr pu L1 L2 i m →
    ∃ τ, f_X12_layRows_L179 N (i : Int) fuel ((m : Int) - 1) σ = some τ ∧ (∀ k, k ≠ 20 → k ≠ 22 → τ k = σ k) ∧ RK τ (pbk (pcc u v ch) L1 L2) dr pu L1 L2 i 0 := by
  intro m
  induction m with
  | zero =>
    intro fuel σ hj hf hW hG
    obtain ⟨k, rfl⟩ : ∃ k, fuel = k + 1 := ⟨fuel - 1, by omega⟩
    refine ⟨σ, ?_, fun _ _ _ => rfl, hG⟩
    rw [f_X12_layRows_L179, ifl_t (by omega) (by omega) (by omega)]
  | succ j ih =>
    intro fuel σ hj hf hW hG
    obtain ⟨k, rfl⟩ : ∃ k, fuel = k + 1 := ⟨fuel - 1, by omega⟩
    have hl2 := hW.2.1
    obtain ⟨hL1, b12, b9, bd, bp, bc, d1, hd9, p1, hp9, c1, hc9⟩ := id hW.1
    have e1 : ((j + 1 : Nat) : Int) - 1 = (j : Int) := by omega
    have e0 : (13 * (i : Int)) + (j : Int) = ((13 * i + j : Nat) : Int) := by omega
    have hx : 13 * i + j < 91 := by omega
    have en : (j : Int) + (-1) = (j : Int) - 1 := by omega
    have emp := hG.2 (13 * i + j) (by omega)
    have h25 := hW.2.2.1
    have cell : ∃ τ, chr2 20 22 (13 * i + j) σ τ ∧ Rq (9 * ((L1 - i) + (L2 - j))) (Cf (pbk (pcc u v ch) L1 L2) dr pu (L1 - i) (L2 - j)) (τ 20 (13 * i + j)) (τ 22 (13 * i + j)) ∧ f_X12_layRows_L179 N (i : Int) (k + 1) (j : Int) σ = f_X12_layRows_L179 N (i : Int) k ((j : Int) - 1) τ := by
      by_cases qi : i = L1
      · by_cases qj : j = L2
        · have ho : off1922 σ (g2 σ 20 22 (13 * i + j) 0 1) := off_chrB (chr2_g (by decide))
          have hW2 := FR_off hW ho
          refine ⟨g2 σ 20 22 (13 * i + j) 0 1, chr2_g (by decide), ?_, ?_⟩
          · rw [g2_p (by decide), g2_q (by decide), if_pos rfl, if_pos rfl, qi, qj, Nat.sub_self, Nat.sub_self]
            exact ⟨0, Nat.le_refl _, rfl, rfl, Nat.one_pos, fun k hk => absurd hk (Nat.not_lt_zero k)⟩
          · rw [f_X12_layRows_L179, ifl_f (by omega) (by omega) (by omega), nm_s, e0, b12, h25, ife_t (by omega), ife_t (by omega), gd_pos ⟨by omega, by omega⟩, Int.toNat_natCast, nm_s, nm_s, bV_s]
            have x12 : (st (st σ 20 (13 * i + j) 0) 22 (13 * i + j) 1) 0 12 = (L1 : Int) := hW2.1.2.1
            have x25 : (st (st σ 20 (13 * i + j) 0) 22 (13 * i + j) 1) 0 25 = (L2 : Int) := hW2.2.2.1
            rw [x12, ifle_t (by omega) (by omega) (by omega), bV_s, x25, ifle_t (by omega) (by omega) (by omega), bV_s, x12, ifle_t (by omega) (by omega) (by omega), bV_s, nm_s, en]
            rfl
        · obtain ⟨j2, hj2⟩ : ∃ j2, L2 - j = j2 + 1 := ⟨L2 - j - 1, by omega⟩
          have hb := hG.1 i (j + 1) (by omega) (by omega) (by omega)
          rw [show L2 - (j + 1) = j2 by omega] at hb
          obtain ⟨σ2, o1, o2, o3⟩ := addB_R (σ := σ) (B := 9 * ((L1 - i) + (L2 - j))) (B1 := 0) (w := pu) (f := fun _ => 0) (x := 13 * i + j) (b := 13 * i + (j + 1)) (e := ((13 * i + j : Nat) : Int) + 1) hx (by omega) (by omega) (by omega) rfl hp9 (by omega) (by omega) (by omega) (by omega) (Or.inl ⟨fun _ => rfl, emp⟩) hb
          have hW2 := FR_off hW (off_chrB o2)
          refine ⟨σ2, o2, ?_, ?_⟩
          · have ef : (fun k => (fun _ => 0) k + sh pu (Cf (pbk (pcc u v ch) L1 L2) dr pu (L1 - i) j2) k) = Cf (pbk (pcc u v ch) L1 L2) dr pu (L1 - i) (L2 - j) := by
              rw [show L1 - i = 0 by omega, hj2, Cf_0s]
              funext k
              exact Nat.zero_add _
            rw [ef] at o3
            exact o3
          · have bp' : σ 8 (1 : Int).toNat = (pu : Int) := bp
            rw [f_X12_layRows_L179, ifl_f (by omega) (by omega) (by omega), nm_s, e0, b12, h25, ife_t (by omega), ife_f (by omega) (by omega) (by omega) (by omega) (by omega), bV_s, b12, ifle_t (by omega) (by omega) (by omega), bV_s, h25, ifle_f (by omega) (by omega) (by omega), gd_pos ⟨by omega, by omega⟩, bp', bV_k, bV_ok o1, bV_s, hW2.1.2.1, ifle_t (by omega) (by omega) (by omega), bV_s, nm_s, en]
      · obtain ⟨i2, hi2⟩ : ∃ i2, L1 - i = i2 + 1 := ⟨L1 - i - 1, by omega⟩
        have hb := hG.1 (i + 1) j (by omega) (by omega) (by omega)
        rw [show L1 - (i + 1) = i2 by omega] at hb
        obtain ⟨σ2, o1, o2, o3⟩ := addB_R (σ := σ) (B := 9 * ((L1 - i) + (L2 - j))) (B1 := 0) (w := dr) (f := fun _ => 0) (x := 13 * i + j) (b := 13 * (i + 1) + j) (e := ((13 * i + j : Nat) : Int) + 13) hx (by omega) (by omega) (by omega) rfl hd9 (by omega) (by omega) (by omega) (by omega) (Or.inl ⟨fun _ => rfl, emp⟩) hb
        have hW2 := FR_off hW (off_chrB o2)
        have bd' : σ 8 (0 : Int).toNat = (dr : Int) := bd
        by_cases qj : j = L2
        · refine ⟨σ2, o2, ?_, ?_⟩
          · have ef : (fun k => (fun _ => 0) k + sh dr (Cf (pbk (pcc u v ch) L1 L2) dr pu i2 (L2 - j)) k) = Cf (pbk (pcc u v ch) L1 L2) dr pu (L1 - i) (L2 - j) := by
              rw [show L2 - j = 0 by omega, hi2, Cf_s0]
              funext k
              exact Nat.zero_add _
            rw [ef] at o3
            exact o3
          · rw [f_X12_layRows_L179, ifl_f (by omega) (by omega) (by omega), nm_s, e0, b12, ife_f (by omega) (by omega) (by omega) (by omega) (by omega), bV_s, b12, ifle_f (by omega) (by omega) (by omega), gd_pos ⟨by omega, by omega⟩, bd', bV_k, bV_ok o1, bV_s, hW2.2.2.1, ifle_t (by omega) (by omega) (by omega), bV_s, hW2.1.2.1, ifle_f (by omega) (by omega) (by omega), hW2.2.2.1, ifle_t (by omega) (by omega) (by omega), bV_s, nm_s, en]
        · obtain ⟨j2, hj2⟩ : ∃ j2, L2 - j = j2 + 1 := ⟨L2 - j - 1, by omega⟩
          have hb2 := RK_chr hl2 (by omega) hG o2 (a := i) (b := j + 1) (by omega) (by omega) (by omega)
          rw [show L2 - (j + 1) = j2 by omega] at hb2
          obtain ⟨σ3, q1, q2, q3⟩ := addB_R (B := 9 * ((L1 - i) + (L2 - j))) (w := pu) (x := 13 * i + j) (b := 13 * i + (j + 1)) (e := ((13 * i + j : Nat) : Int) + 1) hx (by omega) (by omega) (by omega) rfl hp9 (by omega) (Nat.le_refl _) (by omega) (by omega) (Rq_p o3) hb2
          have c3 := chr2_trans o2 q2
          have hW3 := FR_off hW (off_chrB c3)
          have hpc : pcc u v ch i j ≤ 9 := by
            unfold pcc
            split <;> omega
          have hb3 := RK_chr hl2 (by omega) hG c3 (a := i + 1) (b := j + 1) (by omega) (by omega) (by omega)
          rw [show L2 - (j + 1) = j2 by omega, show L1 - (i + 1) = i2 by omega] at hb3
          obtain ⟨σ4, t1, t2, t3⟩ := addB_R (B := 9 * ((L1 - i) + (L2 - j))) (w := pcc u v ch i j) (x := 13 * i + j) (b := 13 * (i + 1) + (j + 1)) (e := ((13 * i + j : Nat) : Int) + 14) hx (by omega) (by omega) (by omega) rfl hpc (by omega) (Nat.le_refl _) (by omega) (by omega) (Rq_p q3) hb3
          have hp := pairCost_m hW3 (i := i) (j := j) (e := (i : Int)) (e2 := (j : Int)) (by omega) (by omega) rfl rfl
          have bp' : σ2 8 (1 : Int).toNat = (pu : Int) := hW2.1.2.2.2.2.1
          refine ⟨σ4, chr2_trans c3 t2, ?_, ?_⟩
          · have ep : pbk (pcc u v ch) L1 L2 i2 j2 = pcc u v ch i j := by
              unfold pbk
              rw [show L1 - 1 - i2 = i by omega, show L2 - 1 - j2 = j by omega]
            have ef : (fun k => (fun k => (fun k => (fun _ => 0) k + sh dr (Cf (pbk (pcc u v ch) L1 L2) dr pu i2 (L2 - j)) k) k + sh pu (Cf (pbk (pcc u v ch) L1 L2) dr pu (L1 - i) j2) k) k + sh (pcc u v ch i j) (Cf (pbk (pcc u v ch) L1 L2) dr pu i2 j2) k) = Cf (pbk (pcc u v ch) L1 L2) dr pu (L1 - i) (L2 - j) := by
              rw [hi2, hj2, Cf_ss, ep]
              funext k
              show 0 + sh dr _ k + sh pu _ k + _ = _
              rw [Nat.zero_add]
            rw [ef] at t3
            exact t3
          · rw [f_X12_layRows_L179, ifl_f (by omega) (by omega) (by omega), nm_s, e0, b12, ife_f (by omega) (by omega) (by omega) (by omega) (by omega), bV_s, b12, ifle_f (by omega) (by omega) (by omega), gd_pos ⟨by omega, by omega⟩, bd', bV_k, bV_ok o1, bV_s, hW2.2.2.1, ifle_f (by omega) (by omega) (by omega), gd_pos ⟨by omega, by omega⟩, bp', bV_k, bV_ok q1, bV_s, hW3.1.2.1, ifle_f (by omega) (by omega) (by omega), hW3.2.2.1, ifle_f (by omega) (by omega) (by omega), bV_k, bV_ok hp, bV_k, bV_ok t1, bV_s, nm_s, en]
    obtain ⟨τ, t1, t2, t3⟩ := cell
    obtain ⟨ω, s1, s2, s3⟩ := ih k τ (by omega) (by omega) (FR_off hW (off_chrB t1)) (RK_next hl2 (by omega) hG t1 t2)
    exact ⟨ω, by rw [e1, t3]; exact s1, fun k a b => by rw [s2 k a b, t1.1 k a b], s3⟩
theorem rr170 {L1 L2 dr pu ch N : Nat} {u v : Nat → Nat} (hN : 20 ≤ N) : ∀ (m fuel : Nat) (σ : Mem), m ≤ L1 + 1 → m < fuel → FR σ L1 L2 dr pu ch u v → (∀ a b, a ≤ L1 → b ≤ L2 → m ≤ a → Rq (9 * ((L1 - a) + (L2 - b))) (Cf (pbk (pcc u v ch) L1 L2) dr pu (L1 - a) (L2 - b)) (σ 20 (13 * a + b)) (σ 22 (13 * a + b))) → (∀ x, x < 13 * m → σ 20 x = 100000000 ∧ σ 22 x = 0) →
    ∃ τ, f_X12_layRows_L170 N fuel ((m : Int) - 1) σ = some τ ∧ (∀ k, k ≠ 20 → k ≠ 22 → τ k = σ k) ∧ ∀ a b, a ≤ L1 → b ≤ L2 → Rq (9 * ((L1 - a) + (L2 - b))) (Cf (pbk (pcc u v ch) L1 L2) dr pu (L1 - a) (L2 - b)) (τ 20 (13 * a + b)) (τ 22 (13 * a + b)) := by
  intro m
  induction m with
  | zero =>
    intro fuel σ hj hf hW hG hE
    obtain ⟨k, rfl⟩ : ∃ k, fuel = k + 1 := ⟨fuel - 1, by omega⟩
    refine ⟨σ, ?_, fun _ _ _ => rfl, fun a b ha hb => hG a b ha hb (Nat.zero_le _)⟩
    rw [f_X12_layRows_L170, ifl_t (by omega) (by omega) (by omega)]
  | succ i ih =>
    intro fuel σ hj hf hW hG hE
    obtain ⟨k, rfl⟩ : ∃ k, fuel = k + 1 := ⟨fuel - 1, by omega⟩
    have hl2 := hW.2.1
    have hL1 := hW.1.1
    obtain ⟨τ, t1, t2, t3⟩ := rr179 (N := N) (i := i) (by omega) (L2 + 1) N σ (Nat.le_refl _) (by omega) hW ⟨fun a b ha hb hab => hG a b ha hb (by omega), fun x hx => hE x (by omega)⟩
    obtain ⟨ω, s1, s2, s3⟩ := ih k τ (by omega) (by omega) (FR_off hW (fun k hk => t2 k (by omega) (by omega))) (fun a b ha hb hab => t3.1 a b ha hb (by omega)) (fun x hx => t3.2 x (by omega))
    have e1 : ((i + 1 : Nat) : Int) - 1 = (i : Int) := by omega
    have e2 : ((L2 + 1 : Nat) : Int) - 1 = (L2 : Int) := by omega
    have en : (i : Int) + (-1) = (i : Int) - 1 := by omega
    rw [e2] at t1
    refine ⟨ω, ?_, fun k a b => by rw [s2 k a b, t2 k a b], s3⟩
    rw [e1, f_X12_layRows_L170, ifl_f (by omega) (by omega) (by omega), nm_s, hW.2.2.1, bV_ok t1, nm_s, en]
    exact s1
theorem rr2 {N : Nat} : ∀ (m y fuel : Nat) (σ : Mem), y + m = 91 → m < fuel → (∀ z, z < y → σ 19 z = 100000000 ∧ σ 20 z = 100000000 ∧ σ 21 z = 0 ∧ σ 22 z = 0) →
    ∃ τ, f_X12_layRows_L2 N fuel (y : Int) σ = some τ ∧ off1922 σ τ ∧ ∀ z, z < 91 → τ 19 z = 100000000 ∧ τ 20 z = 100000000 ∧ τ 21 z = 0 ∧ τ 22 z = 0 := by
  intro m
  induction m with
  | zero =>
    intro y fuel σ hb hf h
    obtain ⟨k, rfl⟩ : ∃ k, fuel = k + 1 := ⟨fuel - 1, by omega⟩
    refine ⟨σ, ?_, fun _ _ => rfl, fun z hz => h z (by omega)⟩
    rw [f_X12_layRows_L2, ifle_t (by omega) (by omega) (by omega)]
  | succ m ih =>
    intro y fuel σ hb hf h
    obtain ⟨k, rfl⟩ : ∃ k, fuel = k + 1 := ⟨fuel - 1, by omega⟩
    have o : ∀ k z, k = 19 ∨ k = 20 ∨ k = 21 ∨ k = 22 → (st (st (st (st σ 19 y 100000000) 20 y 100000000) 21 y 0) 22 y 0) k z = if z = y then (if k < 21 then 100000000 else 0) else σ k z := fun k z hk => by
      unfold st
      rcases hk with rfl | rfl | rfl | rfl <;> by_cases e : z = y <;> simp [e]
    obtain ⟨τ, t1, t2, t3⟩ := ih (y + 1) k (st (st (st (st σ 19 y 100000000) 20 y 100000000) 21 y 0) 22 y 0) (by omega) (by omega) (fun z hz => by
      rw [o 19 z (by omega), o 20 z (by omega), o 21 z (by omega), o 22 z (by omega)]
      by_cases e : z = y
      · rw [if_pos e, if_pos e, if_pos e, if_pos e]
        exact ⟨rfl, rfl, rfl, rfl⟩
      · rw [if_neg e, if_neg e, if_neg e, if_neg e]
        exact h z (by omega))
    refine ⟨τ, ?_, fun q hq => by rw [t2 q hq, st_other _ _ (by omega), st_other _ _ (by omega), st_other _ _ (by omega), st_other _ _ (by omega)], t3⟩
    rw [f_X12_layRows_L2, ifle_f (by omega) (by omega) (by omega), gd_pos (by omega), Int.toNat_natCast, nm_s, nm_s, nm_s, nm_s, nm_s]
    exact t1
/-- layRows -/
theorem layRows_m {σ : Mem} {L1 L2 dr pu ch N : Nat} {u v : Nat → Nat} (hN : 100 ≤ N) (hW : FR σ L1 L2 dr pu ch u v) :
    ∃ τ, f_X12_layRows N σ = some τ ∧ off1922 σ τ ∧ ∀ a b, a ≤ L1 → b ≤ L2 → Rq (9 * (a + b)) (Cf (pcc u v ch) dr pu a b) (τ 19 (13 * a + b)) (τ 21 (13 * a + b)) ∧ Rq (9 * ((L1 - a) + (L2 - b))) (Cf (pbk (pcc u v ch) L1 L2) dr pu (L1 - a) (L2 - b)) (τ 20 (13 * a + b)) (τ 22 (13 * a + b)) := by
  have hL1 := hW.1.1
  have hL2 := hW.2.1
  obtain ⟨σ1, a1, a2, a3⟩ := rr2 (N := N) 91 0 N σ rfl (by omega) (fun z hz => absurd hz (Nat.not_lt_zero _))
  have hW1 := FR_off hW a2
  obtain ⟨σ2, b1, b2, b3⟩ := rr46 (N := N) (by omega) (L1 + 1) 0 N σ1 (by omega) (by omega) hW1 ⟨fun a b _ h => by omega, fun x _ hx => ⟨(a3 x hx).1, (a3 x hx).2.2.1⟩⟩
  have hW2 := FR_off hW1 (fun k hk => b2 k (by omega) (by omega))
  obtain ⟨σ3, c1, c2, c3⟩ := rr170 (N := N) (by omega) (L1 + 1) N σ2 (Nat.le_refl _) (by omega) hW2 (fun a b h1 h2 h3 => by omega) (fun x hx => by
    rw [b2 20 (by decide) (by decide), b2 22 (by decide) (by decide)]
    exact ⟨(a3 x (by omega)).2.1, (a3 x (by omega)).2.2.2⟩)
  have e1 : ((L1 + 1 : Nat) : Int) - 1 = (L1 : Int) := by omega
  rw [e1] at c1
  have a1' : f_X12_layRows_L2 N N 0 σ = some σ1 := a1
  have b1' : f_X12_layRows_L46 N N 0 σ1 = some σ2 := b1
  refine ⟨σ3, ?_, fun k hk => by rw [c2 k (by omega) (by omega), b2 k (by omega) (by omega), a2 k hk], fun a b ha hb => ⟨?_, c3 a b ha hb⟩⟩
  · unfold f_X12_layRows
    rw [bV_ok a1', bV_ok b1', nm_s, hW2.1.2.1, bV_ok c1]
  · rw [c2 19 (by decide) (by decide), c2 21 (by decide) (by decide)]
    exact b3.1 a b hb (by omega)
