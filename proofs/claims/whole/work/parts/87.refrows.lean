/-! layer 2, the reference's layRows: one cell -/
def g2 (σ : Mem) (p q x : Nat) (m c : Int) : Mem := st (st σ p x m) q x c
theorem g2_p {σ : Mem} {p q x y : Nat} {m c : Int} (h : p ≠ q) : g2 σ p q x m c p y = if y = x then m else σ p y := by
  unfold g2
  rw [st_other _ _ h, st_row]
theorem g2_q {σ : Mem} {p q x y : Nat} {m c : Int} (h : p ≠ q) : g2 σ p q x m c q y = if y = x then c else σ q y := by
  unfold g2
  rw [st_row, st_other _ _ (Ne.symm h)]
theorem g2_o {σ : Mem} {p q x k : Nat} {m c : Int} (h1 : k ≠ p) (h2 : k ≠ q) : g2 σ p q x m c k = σ k := by
  unfold g2
  rw [st_other _ _ h2, st_other _ _ h1]
theorem g2_id {σ : Mem} {p q x : Nat} {m c : Int} (h1 : m = σ p x) (h2 : c = σ q x) : g2 σ p q x m c = σ := by
  funext k y
  unfold g2 st
  by_cases q1 : k = q ∧ y = x
  · rw [if_pos q1, q1.1, q1.2, h2]
  · rw [if_neg q1]
    by_cases q2 : k = p ∧ y = x
    · rw [if_pos q2, q2.1, q2.2, h1]
    · rw [if_neg q2]
theorem g2_st {σ : Mem} {p q x : Nat} {c : Int} : st σ q x c = g2 σ p q x (σ p x) c := by
  funext k y
  unfold g2 st
  by_cases q1 : k = q ∧ y = x
  · rw [if_pos q1, if_pos q1]
  · rw [if_neg q1, if_neg q1]
    by_cases q2 : k = p ∧ y = x
    · rw [if_pos q2, q2.1, q2.2]
    · rw [if_neg q2]
theorem addAhead_m {σ : Mem} {x b w : Nat} {e e2 : Int} (hx : x < 91) (hb : b < 91) (hne : b ≠ x) (he : e = (b : Int)) (he2 : e2 = (x : Int)) (h1 : 0 ≤ σ 19 x ∧ σ 19 x ≤ 100000000) (h2 : 0 ≤ σ 19 b ∧ σ 19 b ≤ 1000) (hw : w ≤ 9) :
    f_X12_addAhead e2 e (w : Int) σ = some (g2 σ 19 21 x (if σ 19 b + w < σ 19 x then σ 19 b + w else σ 19 x) (if σ 19 b + w < σ 19 x then σ 21 b else if σ 19 b + w = σ 19 x then σ 21 x + σ 21 b else σ 21 x)) := by
  subst he he2
  unfold f_X12_addAhead
  rw [gd_pos ⟨by omega, by omega⟩, nm_s, gd_pos ⟨by omega, by omega⟩, Int.toNat_natCast, Int.toNat_natCast]
  by_cases q : σ 19 b + (w : Int) < σ 19 x
  · rw [ifle_f q (by omega) (by omega), nm_s, nm_s, if_pos q, if_pos q, st_other _ _ (by decide : 21 ≠ 19)]
    rfl
  · rw [ifle_t (by omega) (by omega) (by omega), if_neg q, if_neg q]
    by_cases q2 : σ 19 b + (w : Int) = σ 19 x
    · rw [ife_t q2, nm_s, if_pos q2, g2_st (p := 19)]
    · rw [ife_f q2 (by omega) (by omega) (by omega) (by omega), if_neg q2, g2_id rfl rfl]
theorem addBehind_m {σ : Mem} {x b w : Nat} {e e2 : Int} (hx : x < 91) (hb : b < 91) (hne : b ≠ x) (he : e = (b : Int)) (he2 : e2 = (x : Int)) (h1 : 0 ≤ σ 20 x ∧ σ 20 x ≤ 100000000) (h2 : 0 ≤ σ 20 b ∧ σ 20 b ≤ 1000) (hw : w ≤ 9) :
    f_X12_addBehind e2 e (w : Int) σ = some (g2 σ 20 22 x (if σ 20 b + w < σ 20 x then σ 20 b + w else σ 20 x) (if σ 20 b + w < σ 20 x then σ 22 b else if σ 20 b + w = σ 20 x then σ 22 x + σ 22 b else σ 22 x)) := by
  subst he he2
  unfold f_X12_addBehind
  rw [gd_pos ⟨by omega, by omega⟩, nm_s, gd_pos ⟨by omega, by omega⟩, Int.toNat_natCast, Int.toNat_natCast]
  by_cases q : σ 20 b + (w : Int) < σ 20 x
  · rw [ifle_f q (by omega) (by omega), nm_s, nm_s, if_pos q, if_pos q, st_other _ _ (by decide : 22 ≠ 20)]
    rfl
  · rw [ifle_t (by omega) (by omega) (by omega), if_neg q, if_neg q]
    by_cases q2 : σ 20 b + (w : Int) = σ 20 x
    · rw [ife_t q2, nm_s, if_pos q2, g2_st (p := 20)]
    · rw [ife_f q2 (by omega) (by omega) (by omega) (by omega), if_neg q2, g2_id rfl rfl]
/-- one cell of two rows changed -/
def chr2 (p q x : Nat) (σ τ : Mem) : Prop := (∀ k, k ≠ p → k ≠ q → τ k = σ k) ∧ ∀ y, y ≠ x → τ p y = σ p y ∧ τ q y = σ q y
theorem chr2_rfl {p q x : Nat} {σ : Mem} : chr2 p q x σ σ := ⟨fun _ _ _ => rfl, fun _ _ => ⟨rfl, rfl⟩⟩
theorem chr2_trans {p q x : Nat} {σ τ ω : Mem} (h : chr2 p q x σ τ) (h2 : chr2 p q x τ ω) : chr2 p q x σ ω :=
  ⟨fun k a b => (h2.1 k a b).trans (h.1 k a b), fun y hy => ⟨(h2.2 y hy).1.trans (h.2 y hy).1, (h2.2 y hy).2.trans (h.2 y hy).2⟩⟩
theorem chr2_g {p q x : Nat} {σ : Mem} {m c : Int} (h : p ≠ q) : chr2 p q x σ (g2 σ p q x m c) := ⟨fun k a b => g2_o a b, fun y hy => ⟨by rw [g2_p h, if_neg hy], by rw [g2_q h, if_neg hy]⟩⟩
theorem addA_R {σ : Mem} {x b w B B1 B2 : Nat} {f g : Nat → Nat} {e e2 : Int} (hx : x < 91) (hb : b < 91) (hne : b ≠ x) (he : e = (b : Int)) (he2 : e2 = (x : Int)) (hw : w ≤ 9) (hB2 : B2 ≤ 900) (hB1 : B1 ≤ B) (hBw : B2 + w ≤ B) (hB : B ≤ 1000) (h1 : Rp B1 f 100000000 (σ 19 x) (σ 21 x)) (h2 : Rq B2 g (σ 19 b) (σ 21 b)) :
    ∃ τ, f_X12_addAhead e2 e (w : Int) σ = some τ ∧ chr2 19 21 x σ τ ∧ Rq B (fun k => f k + sh w g k) (τ 19 x) (τ 21 x) := by
  have r1 : 0 ≤ σ 19 x ∧ σ 19 x ≤ 100000000 := by
    rcases h1 with ⟨_, z, _⟩ | ⟨a, a1, a2, _⟩ <;> omega
  have r2 : 0 ≤ σ 19 b ∧ σ 19 b ≤ 1000 := by
    obtain ⟨a, a1, a2, _⟩ := h2
    omega
  refine ⟨_, addAhead_m hx hb hne he he2 r1 r2 hw, chr2_g (by decide), ?_⟩
  rw [g2_p (by decide), g2_q (by decide), if_pos rfl, if_pos rfl]
  exact Rp_add (by decide) (by omega) hw h1 h2 hB1 hBw
theorem addB_R {σ : Mem} {x b w B B1 B2 : Nat} {f g : Nat → Nat} {e e2 : Int} (hx : x < 91) (hb : b < 91) (hne : b ≠ x) (he : e = (b : Int)) (he2 : e2 = (x : Int)) (hw : w ≤ 9) (hB2 : B2 ≤ 900) (hB1 : B1 ≤ B) (hBw : B2 + w ≤ B) (hB : B ≤ 1000) (h1 : Rp B1 f 100000000 (σ 20 x) (σ 22 x)) (h2 : Rq B2 g (σ 20 b) (σ 22 b)) :
    ∃ τ, f_X12_addBehind e2 e (w : Int) σ = some τ ∧ chr2 20 22 x σ τ ∧ Rq B (fun k => f k + sh w g k) (τ 20 x) (τ 22 x) := by
  have r1 : 0 ≤ σ 20 x ∧ σ 20 x ≤ 100000000 := by
    rcases h1 with ⟨_, z, _⟩ | ⟨a, a1, a2, _⟩ <;> omega
  have r2 : 0 ≤ σ 20 b ∧ σ 20 b ≤ 1000 := by
    obtain ⟨a, a1, a2, _⟩ := h2
    omega
  refine ⟨_, addBehind_m hx hb hne he he2 r1 r2 hw, chr2_g (by decide), ?_⟩
  rw [g2_p (by decide), g2_q (by decide), if_pos rfl, if_pos rfl]
  exact Rp_add (by decide) (by omega) hw h1 h2 hB1 hBw
/-- what the reference's rows are laid over -/
def FR (σ : Mem) (L1 L2 dr pu ch : Nat) (u v : Nat → Nat) : Prop := RB σ L1 dr pu ch u ∧ L2 ≤ 12 ∧ σ 0 25 = (L2 : Int) ∧ ∀ k, k < L2 → σ 18 k = (v k : Int) ∧ v k < 4
def off1922 (σ τ : Mem) : Prop := ∀ k, k < 19 ∨ 22 < k → τ k = σ k
theorem FR_off {σ τ : Mem} {L1 L2 dr pu ch : Nat} {u v : Nat → Nat} (h : FR σ L1 L2 dr pu ch u v) (ho : off1922 σ τ) : FR τ L1 L2 dr pu ch u v := by
  obtain ⟨h1, h2, h3, h4⟩ := h
  exact ⟨RB_eq h1 (by rw [ho 0 (by decide)]) (ho 9 (by decide)) (ho 8 (by decide)), h2, by rw [ho 0 (by decide)]; exact h3, by rw [ho 18 (by decide)]; exact h4⟩
theorem pairCost_m {σ : Mem} {L1 L2 dr pu ch i j : Nat} {u v : Nat → Nat} {e e2 : Int} (h : FR σ L1 L2 dr pu ch u v) (hi : i < L1) (hj : j < L2) (he : e = (i : Int)) (he2 : e2 = (j : Int)) : f_X12_pairCost e e2 σ = some ((pcc u v ch i j : Nat) : Int) := by
  obtain ⟨⟨r1, r2, r3, r4, r5, r6, -⟩, h2, h3, h4⟩ := h
  subst he he2
  have a := r3 i hi
  have b := h4 j hj
  unfold f_X12_pairCost pcc
  rw [gd_pos ⟨by omega, by omega⟩, gd_pos ⟨by omega, by omega⟩, Int.toNat_natCast, Int.toNat_natCast, a.1, b.1]
  by_cases q : u i = v j
  · rw [ife_t (by omega), if_pos q]; rfl
  · rw [ife_f (by omega) (by omega) (by omega) (by omega) (by omega), gd_pos ⟨by omega, by omega⟩, if_neg q]
    exact congrArg some r6
/-- the cells ahead of (i, j) are right, the others are empty -/
def RA (σ : Mem) (pc : Nat → Nat → Nat) (dr pu L2 i j : Nat) : Prop := (∀ a b, b ≤ L2 → (a < i ∨ (a = i ∧ b < j)) → Rq (9 * (a + b)) (Cf pc dr pu a b) (σ 19 (13 * a + b)) (σ 21 (13 * a + b))) ∧ ∀ x, 13 * i + j ≤ x → x < 91 → σ 19 x = 100000000 ∧ σ 21 x = 0
theorem RA_chr {σ τ : Mem} {i j dr pu L2 a b : Nat} {pc : Nat → Nat → Nat} (hL2 : L2 ≤ 12) (hj : j ≤ 12) (h : RA σ pc dr pu L2 i j) (hc : chr2 19 21 (13 * i + j) σ τ) (hb : b ≤ L2) (hab : a < i ∨ (a = i ∧ b < j)) : Rq (9 * (a + b)) (Cf pc dr pu a b) (τ 19 (13 * a + b)) (τ 21 (13 * a + b)) := by
  have := hc.2 (13 * a + b) (by omega)
  rw [this.1, this.2]
  exact h.1 a b hb hab
theorem RA_next {σ τ : Mem} {i j dr pu L2 : Nat} {pc : Nat → Nat → Nat} (hL2 : L2 ≤ 12) (hj : j ≤ 12) (h : RA σ pc dr pu L2 i j) (hch : chr2 19 21 (13 * i + j) σ τ) (hc : Rq (9 * (i + j)) (Cf pc dr pu i j) (τ 19 (13 * i + j)) (τ 21 (13 * i + j))) : RA τ pc dr pu L2 i (j + 1) := by
  refine ⟨fun a b hb hab => ?_, fun x h1 h2 => ?_⟩
  · by_cases q : a = i ∧ b = j
    · rw [q.1, q.2]; exact hc
    · exact RA_chr hL2 hj h hch hb (by omega)
  · have := hch.2 x (by omega)
    rw [this.1, this.2]
    exact h.2 x (by omega) h2
theorem off_chrA {x : Nat} {σ τ : Mem} (h : chr2 19 21 x σ τ) : off1922 σ τ := fun k hk => h.1 k (by omega) (by omega)
theorem off_chrB {x : Nat} {σ τ : Mem} (h : chr2 20 22 x σ τ) : off1922 σ τ := fun k hk => h.1 k (by omega) (by omega)
theorem rr56 {L1 L2 dr pu ch i N : Nat} {u v : Nat → Nat} (hi : i ≤ L1) : ∀ (m j fuel : Nat) (σ : Mem), j + m = L2 + 1 → m < fuel → FR σ L1 L2 dr pu ch u v → RA σ (pcc u v ch) dr pu L2 i j →
    ∃ τ, f_X12_layRows_L56 N (i : Int) fuel (j : Int) σ = some τ ∧ (∀ k, k ≠ 19 → k ≠ 21 → τ k = σ k) ∧ RA τ (pcc u v ch) dr pu L2 i (L2 + 1) := by
  intro m
  induction m with
  | zero =>
    intro j fuel σ hj hf hW hG
    obtain ⟨k, rfl⟩ : ∃ k, fuel = k + 1 := ⟨fuel - 1, by omega⟩
    have hl2 := hW.2.1
    refine ⟨σ, ?_, fun _ _ _ => rfl, by rw [show L2 + 1 = j by omega]; exact hG⟩
    rw [f_X12_layRows_L56, hW.2.2.1, ifl_t (by omega) (by omega) (by omega)]
  | succ m ih =>
    intro j fuel σ hj hf hW hG
    obtain ⟨k, rfl⟩ : ∃ k, fuel = k + 1 := ⟨fuel - 1, by omega⟩
    have hl2 := hW.2.1
    obtain ⟨hL1, b12, b9, bd, bp, bc, d1, hd9, p1, hp9, c1, hc9⟩ := id hW.1
    have e0 : (13 * (i : Int)) + (j : Int) = ((13 * i + j : Nat) : Int) := by omega
    have hx : 13 * i + j < 91 := by omega
    have en : (j : Int) + 1 = ((j + 1 : Nat) : Int) := by omega
    have emp := hG.2 (13 * i + j) (Nat.le_refl _) hx
    have cell : ∃ τ, chr2 19 21 (13 * i + j) σ τ ∧ Rq (9 * (i + j)) (Cf (pcc u v ch) dr pu i j) (τ 19 (13 * i + j)) (τ 21 (13 * i + j)) ∧ f_X12_layRows_L56 N (i : Int) (k + 1) (j : Int) σ = f_X12_layRows_L56 N (i : Int) k ((j + 1 : Nat) : Int) τ := by
      by_cases qi : i = 0
      · by_cases qj : j = 0
        · refine ⟨g2 σ 19 21 (13 * i + j) 0 1, chr2_g (by decide), ?_, ?_⟩
          · rw [g2_p (by decide), g2_q (by decide), if_pos rfl, if_pos rfl, qi, qj]
            exact ⟨0, Nat.le_refl _, rfl, rfl, Nat.one_pos, fun k hk => absurd hk (Nat.not_lt_zero k)⟩
          · rw [f_X12_layRows_L56, hW.2.2.1, ifl_f (by omega) (by omega) (by omega), nm_s, e0, ife_t (by omega), gd_pos ⟨by omega, by omega⟩, Int.toNat_natCast, nm_s, nm_s, bV_s, ifle_t (by omega) (by omega) (by omega), bV_s, ifle_t (by omega) (by omega) (by omega), bV_s, ifle_t (by omega) (by omega) (by omega), bV_s, nm_s, en]
            rfl
        · obtain ⟨j2, hj2⟩ : ∃ j2, j = j2 + 1 := ⟨j - 1, by omega⟩
          obtain ⟨σ2, o1, o2, o3⟩ := addA_R (σ := σ) (B := 9 * (i + j)) (B1 := 0) (w := pu) (f := fun _ => 0) (g := Cf (pcc u v ch) dr pu i j2) (x := 13 * i + j) (b := 13 * i + j2) (e := ((13 * i + j : Nat) : Int) - 1) hx (by omega) (by omega) (by omega) rfl hp9 (B2 := 9 * (i + j2)) (by omega) (by omega) (by omega) (by omega) (Or.inl ⟨fun _ => rfl, emp⟩) (hG.1 i j2 (by omega) (by omega))
          refine ⟨σ2, o2, ?_, ?_⟩
          · have ef : (fun k => (fun _ => 0) k + sh pu (Cf (pcc u v ch) dr pu i j2) k) = Cf (pcc u v ch) dr pu i j := by
              rw [qi, hj2, Cf_0s]
              funext k
              exact Nat.zero_add _
            rw [ef] at o3
            exact o3
          · rw [f_X12_layRows_L56, hW.2.2.1, ifl_f (by omega) (by omega) (by omega), nm_s, e0, ife_f (by omega) (by omega) (by omega) (by omega) (by omega), bV_s, ifle_t (by omega) (by omega) (by omega), bV_s, ifle_f (by omega) (by omega) (by omega), gd_pos ⟨by omega, by omega⟩]
            have bp' : σ 8 (1 : Int).toNat = (pu : Int) := bp
            rw [bp', bV_k, bV_ok o1, bV_s, ifle_t (by omega) (by omega) (by omega), bV_s, nm_s, en]
      · obtain ⟨i2, hi2⟩ : ∃ i2, i = i2 + 1 := ⟨i - 1, by omega⟩
        obtain ⟨σ2, o1, o2, o3⟩ := addA_R (σ := σ) (B := 9 * (i + j)) (B1 := 0) (w := dr) (f := fun _ => 0) (g := Cf (pcc u v ch) dr pu i2 j) (x := 13 * i + j) (b := 13 * i2 + j) (e := ((13 * i + j : Nat) : Int) - 13) hx (by omega) (by omega) (by omega) rfl hd9 (B2 := 9 * (i2 + j)) (by omega) (by omega) (by omega) (by omega) (Or.inl ⟨fun _ => rfl, emp⟩) (hG.1 i2 j (by omega) (by omega))
        have hW2 := FR_off hW (off_chrA o2)
        have bd' : σ 8 (0 : Int).toNat = (dr : Int) := bd
        by_cases qj : j = 0
        · refine ⟨σ2, o2, ?_, ?_⟩
          · have ef : (fun k => (fun _ => 0) k + sh dr (Cf (pcc u v ch) dr pu i2 j) k) = Cf (pcc u v ch) dr pu i j := by
              rw [qj, hi2, Cf_s0]
              funext k
              exact Nat.zero_add _
            rw [ef] at o3
            exact o3
          · rw [f_X12_layRows_L56, hW.2.2.1, ifl_f (by omega) (by omega) (by omega), nm_s, e0, ife_f (by omega) (by omega) (by omega) (by omega) (by omega), bV_s, ifle_f (by omega) (by omega) (by omega), gd_pos ⟨by omega, by omega⟩, bd', bV_k, bV_ok o1, bV_s, ifle_t (by omega) (by omega) (by omega), bV_s, ifle_f (by omega) (by omega) (by omega), ifle_t (by omega) (by omega) (by omega), bV_s, nm_s, en]
        · obtain ⟨j2, hj2⟩ : ∃ j2, j = j2 + 1 := ⟨j - 1, by omega⟩
          obtain ⟨σ3, q1, q2, q3⟩ := addA_R (B := 9 * (i + j)) (w := pu) (g := Cf (pcc u v ch) dr pu i j2) (x := 13 * i + j) (b := 13 * i + j2) (e := ((13 * i + j : Nat) : Int) - 1) hx (by omega) (by omega) (by omega) rfl hp9 (B2 := 9 * (i + j2)) (by omega) (Nat.le_refl _) (by omega) (by omega) (Rq_p o3) (RA_chr hl2 (by omega) hG o2 (a := i) (b := j2) (by omega) (by omega))
          have c3 := chr2_trans o2 q2
          have hW3 := FR_off hW (off_chrA c3)
          have hpc : pcc u v ch i2 j2 ≤ 9 := by
            unfold pcc
            split <;> omega
          obtain ⟨σ4, t1, t2, t3⟩ := addA_R (B := 9 * (i + j)) (w := pcc u v ch i2 j2) (g := Cf (pcc u v ch) dr pu i2 j2) (x := 13 * i + j) (b := 13 * i2 + j2) (e := ((13 * i + j : Nat) : Int) - 14) hx (by omega) (by omega) (by omega) rfl hpc (B2 := 9 * (i2 + j2)) (by omega) (Nat.le_refl _) (by omega) (by omega) (Rq_p q3) (RA_chr hl2 (by omega) hG c3 (a := i2) (b := j2) (by omega) (by omega))
          have hp := pairCost_m hW3 (i := i2) (j := j2) (e := (i : Int) - 1) (e2 := (j : Int) - 1) (by omega) (by omega) (by omega) (by omega)
          have bp' : σ2 8 (1 : Int).toNat = (pu : Int) := hW2.1.2.2.2.2.1
          refine ⟨σ4, chr2_trans c3 t2, ?_, ?_⟩
          · have ef : (fun k => (fun k => (fun k => (fun _ => 0) k + sh dr (Cf (pcc u v ch) dr pu i2 j) k) k + sh pu (Cf (pcc u v ch) dr pu i j2) k) k + sh (pcc u v ch i2 j2) (Cf (pcc u v ch) dr pu i2 j2) k) = Cf (pcc u v ch) dr pu i j := by
              rw [hi2, hj2, Cf_ss]
              funext k
              show 0 + sh dr _ k + sh pu _ k + _ = _
              rw [Nat.zero_add]
            rw [ef] at t3
            exact t3
          · rw [f_X12_layRows_L56, hW.2.2.1, ifl_f (by omega) (by omega) (by omega), nm_s, e0, ife_f (by omega) (by omega) (by omega) (by omega) (by omega), bV_s, ifle_f (by omega) (by omega) (by omega), gd_pos ⟨by omega, by omega⟩, bd', bV_k, bV_ok o1, bV_s, ifle_f (by omega) (by omega) (by omega), gd_pos ⟨by omega, by omega⟩, bp', bV_k, bV_ok q1, bV_s, ifle_f (by omega) (by omega) (by omega), ifle_f (by omega) (by omega) (by omega), bV_k, bV_ok hp, bV_k, bV_ok t1, bV_s, nm_s, en]
    obtain ⟨τ, t1, t2, t3⟩ := cell
    obtain ⟨ω, s1, s2, s3⟩ := ih (j + 1) k τ (by omega) (by omega) (FR_off hW (off_chrA t1)) (RA_next hl2 (by omega) hG t1 t2)
    exact ⟨ω, by rw [t3]; exact s1, fun k a b => by rw [s2 k a b, t1.1 k a b], s3⟩
