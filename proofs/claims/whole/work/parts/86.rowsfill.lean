/-! layer 2, the class's Rows.fill: its loops -/
def offR (r : Nat) (σ τ : Mem) : Prop := ∀ k, k ≠ r + 1 → k ≠ r + 2 → τ k = σ k
/-- one cell of the rows changed -/
def chg (r x : Nat) (σ τ : Mem) : Prop := offR r σ τ ∧ ∀ y, y ≠ x → τ (r + 1) y = σ (r + 1) y ∧ τ (r + 2) y = σ (r + 2) y
theorem chg_trans {r x : Nat} {σ τ ω : Mem} (h : chg r x σ τ) (h2 : chg r x τ ω) : chg r x σ ω :=
  ⟨fun k a b => (h2.1 k a b).trans (h.1 k a b), fun y hy => ⟨(h2.2 y hy).1.trans (h.2 y hy).1, (h2.2 y hy).2.trans (h.2 y hy).2⟩⟩
theorem chg_w2 {r x : Nat} {σ : Mem} {m c : Int} : chg r x σ (w2 σ r x m c) := ⟨fun k a b => w2_o a b, fun y hy => ⟨by rw [w2_1, if_neg hy], by rw [w2_2, if_neg hy]⟩⟩
theorem offer_R {σ : Mem} {r x b w B B1 B2 : Nat} {f g : Nat → Nat} {e : Int} (hx : x < 91) (he : e = (b : Int)) (hb : b < x) (hw : w ≤ 9) (hB2 : B2 ≤ 900) (hB1 : B1 ≤ B) (hBw : B2 + w ≤ B) (hB : B ≤ 1000) (h1 : Rp B1 f 1073741824 (σ (r + 1) x) (σ (r + 2) x)) (h2 : Rq B2 g (σ (r + 1) b) (σ (r + 2) b)) :
    ∃ τ, f_X7_offer r (x : Int) e (w : Int) σ = some τ ∧ chg r x σ τ ∧ Rq B (fun k => f k + sh w g k) (τ (r + 1) x) (τ (r + 2) x) := by
  have r1 : 0 ≤ σ (r + 1) x ∧ σ (r + 1) x ≤ 1073741824 := by
    rcases h1 with ⟨_, z, _⟩ | ⟨a, a1, a2, _⟩ <;> omega
  have r2 : 0 ≤ σ (r + 1) b ∧ σ (r + 1) b ≤ 1000 := by
    obtain ⟨a, a1, a2, _⟩ := h2
    omega
  refine ⟨_, offer_m hx he hb r1 r2 hw, chg_w2, ?_⟩
  rw [w2_1, w2_2, if_pos rfl, if_pos rfl]
  exact Rp_add (by decide) (by omega) hw h1 h2 hB1 hBw
/-- the cells ahead of (i, j), row by row -/
def RGd (σ : Mem) (r : Nat) (pc : Nat → Nat → Nat) (dr pu L2 i j : Nat) : Prop := ∀ a b, b ≤ L2 → (a < i ∨ (a = i ∧ b < j)) → Rq (9 * (a + b)) (Cf pc dr pu a b) (σ (r + 1) (13 * a + b)) (σ (r + 2) (13 * a + b))
theorem RGd_chg {σ τ : Mem} {r i j dr pu L2 : Nat} {pc : Nat → Nat → Nat} (hL2 : L2 ≤ 12) (hj : j ≤ 12) (h : RGd σ r pc dr pu L2 i j) (hc : chg r (13 * i + j) σ τ) : RGd τ r pc dr pu L2 i j := fun a b hb hab => by
  have := hc.2 (13 * a + b) (by omega)
  rw [this.1, this.2]
  exact h a b hb hab
theorem RGd_next {σ : Mem} {r i j dr pu L2 : Nat} {pc : Nat → Nat → Nat} (h : RGd σ r pc dr pu L2 i j) (hc : Rq (9 * (i + j)) (Cf pc dr pu i j) (σ (r + 1) (13 * i + j)) (σ (r + 2) (13 * i + j))) : RGd σ r pc dr pu L2 i (j + 1) := fun a b hb hab => by
  by_cases q : a = i ∧ b = j
  · rw [q.1, q.2]; exact hc
  · exact h a b hb (by omega)
/-- what the rows are laid over -/
def FW (σ : Mem) (w0 w1 L1 L2 dr pu ch : Nat) (u v : Nat → Nat) : Prop := WL σ w0 L1 u ∧ WL σ w1 L2 v ∧ L1 ≤ 6 ∧ CS σ dr pu ch
theorem FW_off {σ τ : Mem} {r w0 w1 L1 L2 dr pu ch : Nat} {u v : Nat → Nat} (hr : isR r) (h : FW σ w0 w1 L1 L2 dr pu ch u v) (ho : offR r σ τ) : FW τ w0 w1 L1 L2 dr pu ch u v := by
  obtain ⟨h1, h2, h3, h4⟩ := h
  have hw : ∀ w, isW w → τ w = σ w ∧ τ (w + 1) = σ (w + 1) := fun w hw => by
    constructor
    · refine ho w ?_ ?_ <;> rcases hr with rfl | rfl <;> rcases hw with rfl | rfl | rfl | rfl | rfl | rfl <;> decide
    · refine ho (w + 1) ?_ ?_ <;> rcases hr with rfl | rfl <;> rcases hw with rfl | rfl | rfl | rfl | rfl | rfl <;> decide
  refine ⟨WL_eq h1 (hw w0 h1.1).1 (hw w0 h1.1).2, WL_eq h2 (hw w1 h2.1).1 (hw w1 h2.1).2, h3, CS_eq h4 (ho 12 ?_ ?_)⟩ <;> rcases hr with rfl | rfl <;> decide
theorem pcd_at {u v : Nat → Nat} {ch L1 L2 i j : Nat} {bk : Int} (hb : bk = 0 ∨ bk = 1) (hi : i < L1) (hj : j < L2) : pcd u v ch L1 L2 bk i j = if u (if bk = 0 then i + 1 - 1 else L1 - (i + 1)) = v (if bk = 0 then j + 1 - 1 else L2 - (j + 1)) then 0 else ch := by
  unfold pcd
  rcases hb with rfl | rfl
  · rw [if_pos rfl, if_pos rfl, if_pos rfl]
    rfl
  · have z : ¬ ((1 : Int) = 0) := by decide
    rw [if_neg z, if_neg z, if_neg z]
    show (if u (L1 - 1 - i) = v (L2 - 1 - j) then 0 else ch) = _
    rw [show L1 - 1 - i = L1 - (i + 1) by omega, show L2 - 1 - j = L2 - (j + 1) by omega]
theorem fill15 {r w0 w1 L1 L2 dr pu ch i N : Nat} {u v : Nat → Nat} {bk : Int} (hr : isR r) (hb : bk = 0 ∨ bk = 1) (hi : i ≤ L1) : ∀ (m j fuel : Nat) (σ : Mem), j + m = L2 + 1 → m < fuel → FW σ w0 w1 L1 L2 dr pu ch u v → RGd σ r (pcd u v ch L1 L2 bk) dr pu L2 i j →
    ∃ τ, f_X7_fill_L15 N r w0 w1 bk (i : Int) fuel (j : Int) σ = some τ ∧ offR r σ τ ∧ RGd τ r (pcd u v ch L1 L2 bk) dr pu L2 i (L2 + 1) := by
  intro m
  induction m with
  | zero =>
    intro j fuel σ hj hf hW hG
    obtain ⟨k, rfl⟩ : ∃ k, fuel = k + 1 := ⟨fuel - 1, by omega⟩
    have h12 := lenW_12 w1
    have hl2 := hW.2.1.2.2.1
    refine ⟨σ, ?_, fun _ _ _ => rfl, by rw [show L2 + 1 = j by omega]; exact hG⟩
    rw [f_X7_fill_L15, hW.2.1.2.1, ifl_t (by omega) (by omega) (by omega)]
  | succ m ih =>
    intro j fuel σ hj hf hW hG
    obtain ⟨k, rfl⟩ : ∃ k, fuel = k + 1 := ⟨fuel - 1, by omega⟩
    have h12 := lenW_12 w1
    have hl2 := hW.2.1.2.2.1
    have hL1 := hW.2.2.1
    have e0 : ((i : Int) * 13) + (j : Int) = ((13 * i + j : Nat) : Int) := by omega
    have hx : 13 * i + j < 91 := by omega
    obtain ⟨-, -, -, -, hd9, -, hp9, -, hc9⟩ := id hW.2.2.2
    have cell : ∃ τ, chg r (13 * i + j) σ τ ∧ Rq (9 * (i + j)) (Cf (pcd u v ch L1 L2 bk) dr pu i j) (τ (r + 1) (13 * i + j)) (τ (r + 2) (13 * i + j)) ∧ f_X7_fill_L15 N r w0 w1 bk (i : Int) (k + 1) (j : Int) σ = f_X7_fill_L15 N r w0 w1 bk (i : Int) k ((j + 1 : Nat) : Int) τ := by
      have hclr := X7_clear_m (σ := σ) (r := r) hx
      generalize hσ1 : w2 σ r (13 * i + j) (if 13 * i + j = 0 then 0 else 1073741824) (if 13 * i + j = 0 then 1 else 0) = σ1 at hclr
      have c1 : chg r (13 * i + j) σ σ1 := by rw [← hσ1]; exact chg_w2
      have v1 : σ1 (r + 1) (13 * i + j) = (if 13 * i + j = 0 then 0 else 1073741824) ∧ σ1 (r + 2) (13 * i + j) = (if 13 * i + j = 0 then 1 else 0) := by
        rw [← hσ1, w2_1, w2_2, if_pos rfl, if_pos rfl]
        exact ⟨rfl, rfl⟩
      have hW1 := FW_off hr hW c1.1
      have hG1 := RGd_chg (by omega) (by omega) hG c1
      have en : (j : Int) + 1 = ((j + 1 : Nat) : Int) := by omega
      by_cases qi : i = 0
      · by_cases qj : j = 0
        · refine ⟨σ1, c1, ?_, ?_⟩
          · rw [v1.1, v1.2, if_pos (by omega), if_pos (by omega), qi, qj]
            exact ⟨0, Nat.le_refl _, rfl, rfl, Nat.one_pos, fun k hk => absurd hk (Nat.not_lt_zero k)⟩
          · rw [f_X7_fill_L15, hW.2.1.2.1, ifl_f (by omega) (by omega) (by omega), nm_s, e0, bV_ok hclr, ifle_t (by omega) (by omega) (by omega), bV_s, ifle_t (by omega) (by omega) (by omega), bV_s, ifle_t (by omega) (by omega) (by omega), bV_s, nm_s, en]
        · obtain ⟨j2, hj2⟩ : ∃ j2, j = j2 + 1 := ⟨j - 1, by omega⟩
          obtain ⟨σ2, o1, o2, o3⟩ := offer_R (B := 9 * (i + j)) (B1 := 0) (w := pu) (f := fun _ => 0) (g := Cf (pcd u v ch L1 L2 bk) dr pu i j2) (b := 13 * i + j2) (e := ((13 * i + j : Nat) : Int) - 1) hx (by omega) (by omega) hp9 (B2 := 9 * (i + j2)) (by omega) (by omega) (by omega) (by omega) (Or.inl ⟨fun _ => rfl, by rw [v1.1, if_neg (by omega)], by rw [v1.2, if_neg (by omega)]⟩) (hG1 i j2 (by omega) (by omega))
          refine ⟨σ2, chg_trans c1 o2, ?_, ?_⟩
          · have ef : (fun k => (fun _ => 0) k + sh pu (Cf (pcd u v ch L1 L2 bk) dr pu i j2) k) = Cf (pcd u v ch L1 L2 bk) dr pu i j := by
              rw [qi, hj2, Cf_0s]
              funext k
              exact Nat.zero_add _
            rw [ef] at o3
            exact o3
          · rw [f_X7_fill_L15, hW.2.1.2.1, ifl_f (by omega) (by omega) (by omega), nm_s, e0, bV_ok hclr, ifle_t (by omega) (by omega) (by omega), bV_s, ifle_f (by omega) (by omega) (by omega), put_m, bV_s, hW1.2.2.2.2.1, bV_k, bV_ok o1, bV_s, ifle_t (by omega) (by omega) (by omega), bV_s, nm_s, en]
      · obtain ⟨i2, hi2⟩ : ∃ i2, i = i2 + 1 := ⟨i - 1, by omega⟩
        obtain ⟨σ2, o1, o2, o3⟩ := offer_R (B := 9 * (i + j)) (B1 := 0) (w := dr) (f := fun _ => 0) (g := Cf (pcd u v ch L1 L2 bk) dr pu i2 j) (b := 13 * i2 + j) (e := ((13 * i + j : Nat) : Int) - 13) hx (by omega) (by omega) hd9 (B2 := 9 * (i2 + j)) (by omega) (by omega) (by omega) (by omega) (Or.inl ⟨fun _ => rfl, by rw [v1.1, if_neg (by omega)], by rw [v1.2, if_neg (by omega)]⟩) (hG1 i2 j (by omega) (by omega))
        have c2 := chg_trans c1 o2
        have hW2 := FW_off hr hW c2.1
        have hG2 := RGd_chg (by omega) (by omega) hG c2
        by_cases qj : j = 0
        · refine ⟨σ2, c2, ?_, ?_⟩
          · have ef : (fun k => (fun _ => 0) k + sh dr (Cf (pcd u v ch L1 L2 bk) dr pu i2 j) k) = Cf (pcd u v ch L1 L2 bk) dr pu i j := by
              rw [qj, hi2, Cf_s0]
              funext k
              exact Nat.zero_add _
            rw [ef] at o3
            exact o3
          · rw [f_X7_fill_L15, hW.2.1.2.1, ifl_f (by omega) (by omega) (by omega), nm_s, e0, bV_ok hclr, ifle_f (by omega) (by omega) (by omega), drop_m, bV_s, hW1.2.2.2.1, bV_k, bV_ok o1, bV_s, ifle_t (by omega) (by omega) (by omega), bV_s, ifle_f (by omega) (by omega) (by omega), ifle_t (by omega) (by omega) (by omega), bV_s, nm_s, en]
        · obtain ⟨j2, hj2⟩ : ∃ j2, j = j2 + 1 := ⟨j - 1, by omega⟩
          obtain ⟨σ3, p1, p2, p3⟩ := offer_R (B := 9 * (i + j)) (w := pu) (g := Cf (pcd u v ch L1 L2 bk) dr pu i j2) (b := 13 * i + j2) (e := ((13 * i + j : Nat) : Int) - 1) hx (by omega) (by omega) hp9 (B2 := 9 * (i + j2)) (by omega) (Nat.le_refl _) (by omega) (by omega) (Rq_p o3) (hG2 i j2 (by omega) (by omega))
          have c3 := chg_trans c2 p2
          have hW3 := FW_off hr hW c3.1
          have hG3 := RGd_chg (by omega) (by omega) hG c3
          have hpc := pcd_at (u := u) (v := v) (ch := ch) (L1 := L1) (L2 := L2) (i := i2) (j := j2) hb (by omega) (by omega)
          have hch : pcd u v ch L1 L2 bk i2 j2 ≤ 9 := by
            rw [hpc]
            generalize u (if bk = 0 then i2 + 1 - 1 else L1 - (i2 + 1)) = x
            generalize v (if bk = 0 then j2 + 1 - 1 else L2 - (j2 + 1)) = y
            split <;> omega
          obtain ⟨σ4, q1, q2, q3⟩ := offer_R (B := 9 * (i + j)) (w := pcd u v ch L1 L2 bk i2 j2) (g := Cf (pcd u v ch L1 L2 bk) dr pu i2 j2) (b := 13 * i2 + j2) (e := ((13 * i + j : Nat) : Int) - 13 - 1) hx (by omega) (by omega) hch (B2 := 9 * (i2 + j2)) (by omega) (Nat.le_refl _) (by omega) (by omega) (Rq_p p3) (hG3 i2 j2 (by omega) (by omega))
          refine ⟨σ4, chg_trans c3 q2, ?_, ?_⟩
          · have ef : (fun k => (fun k => (fun k => (fun _ => 0) k + sh dr (Cf (pcd u v ch L1 L2 bk) dr pu i2 j) k) k + sh pu (Cf (pcd u v ch L1 L2 bk) dr pu i j2) k) k + sh (pcd u v ch L1 L2 bk i2 j2) (Cf (pcd u v ch L1 L2 bk) dr pu i2 j2) k) = Cf (pcd u v ch L1 L2 bk) dr pu i j := by
              rw [hi2, hj2, Cf_ss]
              funext k
              show 0 + sh dr _ k + sh pu _ k + _ = _
              rw [Nat.zero_add]
            rw [ef] at q3
            exact q3
          · have g1 := X7_letter_m (i := i) hb hW3.1 (by omega) hi
            have g2 := X7_letter_m (i := j) hb hW3.2.1 (by omega) (by omega : j ≤ L2)
            rw [f_X7_fill_L15, hW.2.1.2.1, ifl_f (by omega) (by omega) (by omega), nm_s, e0, bV_ok hclr, ifle_f (by omega) (by omega) (by omega), drop_m, bV_s, hW1.2.2.2.1, bV_k, bV_ok o1, bV_s, ifle_f (by omega) (by omega) (by omega), put_m, bV_s, hW2.2.2.2.2.1, bV_k, bV_ok p1, bV_s, ifle_f (by omega) (by omega) (by omega), ifle_f (by omega) (by omega) (by omega), bV_k, bV_ok g1, bV_k, bV_ok g2]
            have r1 := (hW3.1.2.2.2 (if bk = 0 then i2 + 1 - 1 else L1 - (i2 + 1)) (by split <;> omega)).2
            have r2 := (hW3.2.1.2.2.2 (if bk = 0 then j2 + 1 - 1 else L2 - (j2 + 1)) (by split <;> omega)).2
            rw [hi2, hj2] at q1 ⊢
            by_cases es : u (if bk = 0 then i2 + 1 - 1 else L1 - (i2 + 1)) = v (if bk = 0 then j2 + 1 - 1 else L2 - (j2 + 1))
            · rw [if_pos es] at hpc
              rw [hpc] at q1
              have q1' : f_X7_offer r ((13 * (i2 + 1) + (j2 + 1) : Nat) : Int) (((13 * (i2 + 1) + (j2 + 1) : Nat) : Int) - 13 - 1) 0 σ3 = some σ4 := q1
              rw [ife_t (by rw [es]), bV_s, if_neg (by decide), bV_s, bV_ok q1', bV_s, nm_s]
              rfl
            · rw [if_neg es] at hpc
              rw [hpc] at q1
              rw [ife_f (by omega) (by omega) (by omega) (by omega) (by omega), bV_s, if_pos rfl, change_m, bV_s, bV_s, hW3.2.2.2.2.2.1, bV_ok q1, bV_s, nm_s]
              rfl
    obtain ⟨τ, t1, t2, t3⟩ := cell
    obtain ⟨ω, s1, s2, s3⟩ := ih (j + 1) k τ (by omega) (by omega) (FW_off hr hW t1.1) (RGd_next (RGd_chg (by omega) (by omega) hG t1) t2)
    exact ⟨ω, by rw [t3]; exact s1, fun k a b => by rw [s2 k a b, t1.1 k a b], s3⟩
theorem RGd_row {σ : Mem} {r i dr pu L2 : Nat} {pc : Nat → Nat → Nat} (h : RGd σ r pc dr pu L2 i (L2 + 1)) : RGd σ r pc dr pu L2 (i + 1) 0 := fun a b hb hab => h a b hb (by omega)
theorem fill3 {r w0 w1 L1 L2 dr pu ch N : Nat} {u v : Nat → Nat} {bk : Int} (hN : 20 ≤ N) (hr : isR r) (hb : bk = 0 ∨ bk = 1) : ∀ (m i fuel : Nat) (σ : Mem), i + m = L1 + 1 → m < fuel → FW σ w0 w1 L1 L2 dr pu ch u v → RGd σ r (pcd u v ch L1 L2 bk) dr pu L2 i 0 →
    ∃ τ, f_X7_fill_L3 N r w0 w1 bk fuel (i : Int) σ = some τ ∧ offR r σ τ ∧ RGd τ r (pcd u v ch L1 L2 bk) dr pu L2 (L1 + 1) 0 := by
  intro m
  induction m with
  | zero =>
    intro i fuel σ hi hf hW hG
    obtain ⟨k, rfl⟩ : ∃ k, fuel = k + 1 := ⟨fuel - 1, by omega⟩
    have hL1 := hW.2.2.1
    refine ⟨σ, ?_, fun _ _ _ => rfl, by rw [show L1 + 1 = i by omega]; exact hG⟩
    rw [f_X7_fill_L3, hW.1.2.1, ifl_t (by omega) (by omega) (by omega)]
  | succ m ih =>
    intro i fuel σ hi hf hW hG
    obtain ⟨k, rfl⟩ : ∃ k, fuel = k + 1 := ⟨fuel - 1, by omega⟩
    have hL1 := hW.2.2.1
    have h12 := lenW_12 w1
    have hl2 := hW.2.1.2.2.1
    obtain ⟨τ, t1, t2, t3⟩ := fill15 (N := N) (i := i) hr hb (by omega) (L2 + 1) 0 N σ (by omega) (by omega) hW hG
    obtain ⟨ω, s1, s2, s3⟩ := ih (i + 1) k τ (by omega) (by omega) (FW_off hr hW t2) (RGd_row t3)
    have t1' : f_X7_fill_L15 N r w0 w1 bk (i : Int) N 0 σ = some τ := t1
    refine ⟨ω, ?_, fun k a b => by rw [s2 k a b, t2 k a b], s3⟩
    rw [f_X7_fill_L3, hW.1.2.1, ifl_f (by omega) (by omega) (by omega), bV_ok t1', nm_s]
    exact s1
/-- Rows.fill: each cell has the least cost of its rows of pairs, and how many cost it -/
theorem X7_fill_m {σ : Mem} {r w0 w1 L1 L2 dr pu ch N : Nat} {u v : Nat → Nat} {bk : Int} (hN : 20 ≤ N) (hr : isR r) (hb : bk = 0 ∨ bk = 1) (hW : FW σ w0 w1 L1 L2 dr pu ch u v) :
    ∃ τ, f_X7_fill N r w0 w1 bk σ = some τ ∧ offR r σ τ ∧ ∀ a b, a ≤ L1 → b ≤ L2 → Rq (9 * (a + b)) (Cf (pcd u v ch L1 L2 bk) dr pu a b) (τ (r + 1) (13 * a + b)) (τ (r + 2) (13 * a + b)) := by
  have hL1 := hW.2.2.1
  obtain ⟨τ, t1, t2, t3⟩ := fill3 (N := N) hN hr hb (L1 + 1) 0 N σ (by omega) (by omega) hW (fun a b _ h => by omega)
  have t1' : f_X7_fill_L3 N r w0 w1 bk N 0 σ = some τ := t1
  refine ⟨τ, ?_, t2, fun a b ha hb2 => t3 a b hb2 (by omega)⟩
  unfold f_X7_fill
  rw [bV_ok t1']
theorem X7_leastAt_m {σ : Mem} {r a b : Nat} (ha : a ≤ 6) (hb : b ≤ 12) : f_X7_leastAt r (a : Int) (b : Int) σ = some (σ (r + 1) (13 * a + b)) := by
  have e0 : ((a : Int) * 13) + (b : Int) = ((13 * a + b : Nat) : Int) := by omega
  unfold f_X7_leastAt
  rw [nm_s, e0, ifl_f (by omega) (by omega) (by omega), ifle_f (by omega) (by omega) (by omega), gd_pos ⟨by omega, by omega⟩, Int.toNat_natCast]
theorem X7_countAt_m {σ : Mem} {r a b : Nat} (ha : a ≤ 6) (hb : b ≤ 12) : f_X7_countAt r (a : Int) (b : Int) σ = some (σ (r + 2) (13 * a + b)) := by
  have e0 : ((a : Int) * 13) + (b : Int) = ((13 * a + b : Nat) : Int) := by omega
  unfold f_X7_countAt
  rw [nm_s, e0, ifl_f (by omega) (by omega) (by omega), ifle_f (by omega) (by omega) (by omega), gd_pos ⟨by omega, by omega⟩, Int.toNat_natCast]
