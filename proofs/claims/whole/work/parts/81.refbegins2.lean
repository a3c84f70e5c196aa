/-! layer 2, the reference's beginsRule: whole -/
/-- cells that the walk of a rule's signs leaves -/
theorem RX_off {σ0 σ : Mem} {xs len : Nat} {sg : Nat → Nat} (h : off17 σ0 σ) (hX : RX σ0 xs len sg) : RX σ xs len sg := ⟨hX.1, hX.2.1, by rw [h 4 (by decide)]; exact hX.2.2⟩
theorem RB_off {σ0 σ : Mem} {L dr pu ch : Nat} {wd : Nat → Nat} (h : off17 σ0 σ) (hR : RB σ0 L dr pu ch wd) : RB σ L dr pu ch wd := RB_eq hR (by rw [h 0 (by decide)]) (h 9 (by decide)) (h 8 (by decide))
theorem TB_off {σ0 σ : Mem} {L : Nat} {X : Nat → Nat → Nat → Nat} (h : off17 σ0 σ) (hT : TB σ0 L X) : TB σ L X := fun n c d hn hcd hd => by
  rw [h 10 (by decide), h 11 (by decide), h 12 (by decide)]; exact hT n c d hn hcd hd
theorem BB_off {σ0 σ : Mem} (h : off17 σ0 σ) (hB : BB σ0) : BB σ := fun z hz => by rw [h 16 (by decide)]; exact hB z hz
theorem Pm_off {σ0 σ : Mem} (h : off17 σ0 σ) : Pm σ = Pm σ0 := by
  funext n a b
  unfold Pm
  rw [h 16 (by decide)]
theorem br100 {L dr pu ch xs len p i j N : Nat} {wd sg : Nat → Nat} {X : Nat → Nat → Nat → Nat} {x6 : Int} (hN : 20 ≤ N) (hp : p < len) (hlen : len ≤ 4) (hij : i ≤ j) (hj : j ≤ L) : ∀ (m a fuel : Nat) (σ : Mem), a + m = j + 1 → i ≤ a → m < fuel → RB σ L dr pu ch wd → TB σ L X → RX σ xs len sg → BB σ →
    rowE2 σ p i j (fun y => eb L (rA (ltV wd dr pu ch) X) sg i p y) → rowE2 σ (p + 1) i j (fun y => ∃ c, c < a ∧ eb L (rA (ltV wd dr pu ch) X) sg i p c ∧ c ≤ y ∧ y ≤ L ∧ rA (ltV wd dr pu ch) X (sg p) c y) → (∀ c, c < a → eb L (rA (ltV wd dr pu ch) X) sg i p c → ¬ bOne wd L (Pm σ) (sg p) c j) → (∀ z, 7 * (p + 2) ≤ z → z < 35 → σ 17 z = 0) →
    ∃ (t : Nat) (τ : Mem), f_X12_beginsRule_L100 N (i : Int) (j : Int) (xs : Int) x6 (p : Int) fuel (a : Int) σ = some (t, τ) ∧ off17 σ τ ∧
      ((t = 0 ∧ ∃ c, c ≤ j ∧ eb L (rA (ltV wd dr pu ch) X) sg i p c ∧ bOne wd L (Pm σ) (sg p) c j) ∨
       (t = 1 ∧ (∀ c, c ≤ j → eb L (rA (ltV wd dr pu ch) X) sg i p c → ¬ bOne wd L (Pm σ) (sg p) c j) ∧ rowE2 τ (p + 1) i j (fun y => eb L (rA (ltV wd dr pu ch) X) sg i (p + 1) y) ∧ ∀ z, 7 * (p + 2) ≤ z → z < 35 → τ 17 z = 0)) := by
  intro m
  induction m with
  | zero =>
    intro a fuel σ ha hia hf hR hT hX hB h1 h2 h3 h4
    have hL := hR.1
    obtain ⟨f, rfl⟩ : ∃ f, fuel = f + 1 := ⟨fuel - 1, by omega⟩
    refine ⟨1, σ, ?_, fun _ _ => rfl, Or.inr ⟨rfl, fun c hc => h3 c (by omega), fun y y1 y2 => ?_, h4⟩⟩
    · rw [f_X12_beginsRule_L100, ifl_t (by omega) (by omega) (by omega)]
    · rcases h2 y y1 y2 with ⟨z1, c, z2, z3, z4, z5, z6⟩ | ⟨z1, z2⟩
      · exact Or.inl ⟨z1, c, z3, z4, z5, z6⟩
      · refine Or.inr ⟨z1, fun ⟨c, q1, q2, q3, q4⟩ => z2 ⟨c, by omega, q1, q2, q3, q4⟩⟩
  | succ m ih =>
    intro a fuel σ ha hia hf hR hT hX hB h1 h2 h3 h4
    have hL := hR.1
    obtain ⟨f, rfl⟩ : ∃ f, fuel = f + 1 := ⟨fuel - 1, by omega⟩
    have x1 := hX.1
    obtain ⟨y1, y2⟩ := hX.2.2 p hp
    have e1 : (7 * (p : Int)) + (a : Int) = ((7 * p + a : Nat) : Int) := by omega
    have e3 : (4 * (xs : Int)) + (p : Int) = ((4 * xs + p : Nat) : Int) := by omega
    have ea : (a : Int) + 1 = ((a + 1 : Nat) : Int) := by omega
    rw [f_X12_beginsRule_L100, ifl_f (by omega) (by omega) (by omega), e1, gd_pos ⟨by omega, by omega⟩, Int.toNat_natCast]
    rcases h1 a hia (by omega) with ⟨z1, z2⟩ | ⟨z1, z2⟩
    · have c1 : zI (σ 17 (7 * p + a)) ≠ zI 0 := by rw [z1]; decide
      obtain ⟨v, v1, v2⟩ := beginsOne_m (b := j) hR hB y2 (by omega : a ≤ j) hj
      rw [if_neg c1, e3, gd_pos ⟨by omega, by omega⟩, Int.toNat_natCast, y1, bV_k, bV_ok v1]
      rcases v2 with ⟨rfl, r⟩ | ⟨rfl, r⟩
      · refine ⟨0, σ, ?_, fun _ _ => rfl, Or.inl ⟨rfl, a, by omega, z2, r⟩⟩
        rw [if_neg (by decide), bV_s, if_neg (by decide)]
      · have h01 : ∀ y, a ≤ y → y ≤ j → σ 17 (7 * (p + 1) + y) = 0 ∨ σ 17 (7 * (p + 1) + y) = 1 := fun y q1 q2 => by
          rcases h2 y (by omega) q2 with q | q
          · exact Or.inr q.1
          · exact Or.inl q.1
        obtain ⟨τ, t1, t2, t3, t4⟩ := br152 (N := N) (x3 := (i : Int)) (x6 := x6) (len := len) (a := a) hp hlen hj (j + 1 - a) a N σ (by omega) (Nat.le_refl _) (by omega) hR hT hX z1 h01
        have hrow : rowE2 τ p i j (fun y => eb L (rA (ltV wd dr pu ch) X) sg i p y) := fun y q1 q2 => by
          rw [t3 _ (fun w q3 q4 => by omega)]
          exact h1 y q1 q2
        have hrow2 : rowE2 τ (p + 1) i j (fun y => ∃ c, c < a + 1 ∧ eb L (rA (ltV wd dr pu ch) X) sg i p c ∧ c ≤ y ∧ y ≤ L ∧ rA (ltV wd dr pu ch) X (sg p) c y) := fun y q1 q2 => by
          by_cases q : a ≤ y
          · rcases t4 y q q2 with ⟨w1, w2⟩ | ⟨w1, w2⟩
            · refine Or.inl ⟨w1, ?_⟩
              rcases w2 with w2 | w2
              · rcases h2 y q1 q2 with ⟨_, c, u1, u2⟩ | ⟨u1, _⟩
                · exact ⟨c, by omega, u2⟩
                · omega
              · exact ⟨a, by omega, z2, q, by omega, w2⟩
            · refine Or.inr ⟨w1, fun ⟨c, u1, u2, u3, u4, u5⟩ => w2 ?_⟩
              by_cases e : c = a
              · rw [e] at u5; exact Or.inr u5
              · rcases h2 y q1 q2 with ⟨u6, _⟩ | ⟨_, u7⟩
                · exact Or.inl u6
                · exact absurd ⟨c, by omega, u2, u3, u4, u5⟩ u7
          · rw [t3 _ (fun w q3 q4 => by omega)]
            rcases h2 y q1 q2 with ⟨w1, c, u1, u2⟩ | ⟨w1, w2⟩
            · exact Or.inl ⟨w1, c, by omega, u2⟩
            · refine Or.inr ⟨w1, fun ⟨c, u1, u2, u3, u4, u5⟩ => w2 ⟨c, by omega, u2, u3, u4, u5⟩⟩
        obtain ⟨t, τ2, s1, s2, s3⟩ := ih (a + 1) f τ (by omega) (by omega) (by omega) (RB_off t2 hR) (TB_off t2 hT) (RX_off t2 hX) (BB_off t2 hB) hrow hrow2 (fun c hc he => by
          rw [Pm_off t2]
          by_cases e : c = a
          · rw [e]; exact r
          · exact h3 c (by omega) he) (fun z q1 q2 => by rw [t3 z (fun w q3 q4 => by omega)]; exact h4 z q1 q2)
        rw [Pm_off t2] at s3
        refine ⟨t, τ2, ?_, fun k hk => by rw [s2 k hk, t2 k hk], s3⟩
        rw [if_pos rfl, bV_s, if_pos rfl, bV_ok t1, nm_s, ea]
        exact s1
    · have hstep : f_X12_beginsRule_L152 N (i : Int) (j : Int) (xs : Int) x6 (p : Int) (a : Int) N (a : Int) σ = some σ := by
        obtain ⟨f2, hf2⟩ : ∃ f2, N = f2 + 1 := ⟨N - 1, by omega⟩
        have : ∀ M, f_X12_beginsRule_L152 M (i : Int) (j : Int) (xs : Int) x6 (p : Int) (a : Int) (f2 + 1) (a : Int) σ = some σ := fun M => by
          rw [f_X12_beginsRule_L152, ifl_f (by omega) (by omega) (by omega), e1, gd_pos ⟨by omega, by omega⟩, Int.toNat_natCast, ife_t z1]
        rw [← hf2] at this
        exact this N
      obtain ⟨t, τ2, s1, s2, s3⟩ := ih (a + 1) f σ (by omega) (by omega) (by omega) hR hT hX hB h1 (fun y q1 q2 => by
        rcases h2 y q1 q2 with ⟨w1, c, u1, u2⟩ | ⟨w1, w2⟩
        · exact Or.inl ⟨w1, c, by omega, u2⟩
        · refine Or.inr ⟨w1, fun ⟨c, u1, u2, u3⟩ => w2 ⟨c, ?_, u2, u3⟩⟩
          by_cases e : c = a
          · rw [e] at u2; exact absurd u2 z2
          · omega) (fun c hc he => by
        by_cases e : c = a
        · rw [e] at he; exact absurd he z2
        · exact h3 c (by omega) he) h4
      refine ⟨t, τ2, ?_, s2, s3⟩
      rw [ife_t z1, bV_s, if_pos rfl, bV_ok hstep, nm_s, ea]
      exact s1
theorem br90 {L dr pu ch xs len i j N : Nat} {wd sg : Nat → Nat} {X : Nat → Nat → Nat → Nat} (hN : 20 ≤ N) (hlen : len ≤ 4) (hij : i ≤ j) (hj : j ≤ L) : ∀ (m p fuel : Nat) (σ : Mem), p + m = len → m < fuel → RB σ L dr pu ch wd → TB σ L X → RX σ xs len sg → BB σ →
    rowE2 σ p i j (fun y => eb L (rA (ltV wd dr pu ch) X) sg i p y) → (∀ q c, q < p → c ≤ j → eb L (rA (ltV wd dr pu ch) X) sg i q c → ¬ bOne wd L (Pm σ) (sg q) c j) → (∀ z, 7 * (p + 1) ≤ z → z < 35 → σ 17 z = 0) →
    ∃ (t : Nat) (τ : Mem), f_X12_beginsRule_L90 N (i : Int) (j : Int) (xs : Int) (len : Int) fuel (p : Int) σ = some (t, τ) ∧ off17 σ τ ∧
      ((t = 0 ∧ ∃ q c, q < len ∧ c ≤ j ∧ eb L (rA (ltV wd dr pu ch) X) sg i q c ∧ bOne wd L (Pm σ) (sg q) c j) ∨
       (t = 1 ∧ (∀ q c, q < len → c ≤ j → eb L (rA (ltV wd dr pu ch) X) sg i q c → ¬ bOne wd L (Pm σ) (sg q) c j) ∧ rowE2 τ len i j (fun y => eb L (rA (ltV wd dr pu ch) X) sg i len y))) := by
  intro m
  induction m with
  | zero =>
    intro p fuel σ hp hf hR hT hX hB h1 h2 h3
    obtain ⟨f, rfl⟩ : ∃ f, fuel = f + 1 := ⟨fuel - 1, by omega⟩
    have e : p = len := by omega
    subst e
    refine ⟨1, σ, ?_, fun _ _ => rfl, Or.inr ⟨rfl, h2, h1⟩⟩
    rw [f_X12_beginsRule_L90, ifle_t (by omega) (by omega) (by omega)]
  | succ m ih =>
    intro p fuel σ hp hf hR hT hX hB h1 h2 h3
    have hL := hR.1
    obtain ⟨f, rfl⟩ : ∃ f, fuel = f + 1 := ⟨fuel - 1, by omega⟩
    obtain ⟨t, τ, t1, t2, t3⟩ := br100 (N := N) (x6 := (len : Int)) (p := p) hN (by omega) hlen hij hj (j + 1 - i) i N σ (by omega) (Nat.le_refl _) (by omega) hR hT hX hB h1 (fun y q1 q2 => Or.inr ⟨h3 _ (by omega) (by omega), fun ⟨c, u1, u2, u3⟩ => by
      have := (eb_rng (by omega) u2).1
      omega⟩) (fun c hc he => by
      have := (eb_rng (by omega) he).1
      omega) (fun z q1 q2 => h3 z (by omega) q2)
    rcases t3 with ⟨rfl, c, c1, c2, c3⟩ | ⟨rfl, c1, c2, c3⟩
    · refine ⟨0, τ, ?_, t2, Or.inl ⟨rfl, p, c, by omega, c1, c2, c3⟩⟩
      rw [f_X12_beginsRule_L90, ifle_f (by omega) (by omega) (by omega), bL1_ok t1, if_pos rfl]
    · obtain ⟨t, τ2, s1, s2, s3⟩ := ih (p + 1) f τ (by omega) (by omega) (RB_off t2 hR) (TB_off t2 hT) (RX_off t2 hX) (BB_off t2 hB) c2 (fun q c q1 q2 q3 => by
        rw [Pm_off t2]
        by_cases e : q = p
        · rw [e] at q3 ⊢; exact c1 c q2 q3
        · exact h2 q c (by omega) q2 q3) c3
      rw [Pm_off t2] at s3
      refine ⟨t, τ2, ?_, fun k hk => by rw [s2 k hk, t2 k hk], s3⟩
      have ep : (p : Int) + 1 = ((p + 1 : Nat) : Int) := by omega
      rw [f_X12_beginsRule_L90, ifle_f (by omega) (by omega) (by omega), bL1_ok t1, if_neg (by decide), nm_s, ep]
      exact s1
/-- the reference's beginsRule -/
theorem beginsRule_m {σ : Mem} {L dr pu ch n r i j N : Nat} {wd : Nat → Nat} {X : Nat → Nat → Nat → Nat} {rc : Nat → Nat} {rl : Nat → Nat → Nat} {rs : Nat → Nat → Nat → Nat} (hN : 40 ≤ N) (hR : RF2 σ L dr pu ch wd X rc rl rs) (hB : BB σ) (hn : n < 6) (hr : r < rc n) (hij : i ≤ j) (hj : j ≤ L) :
    ∃ (v : Int) (τ : Mem), f_X12_beginsRule N (n : Int) (r : Int) (i : Int) (j : Int) σ = some (v, τ) ∧ off17 σ τ ∧
      ((v = 1 ∧ BR wd L (rA (ltV wd dr pu ch) X) (fun s => onev (ltV wd dr pu ch) X s 0 0 ≠ TT) (Pm σ) (rs n r) (rl n r) i j) ∨ (v = 0 ∧ ¬ BR wd L (rA (ltV wd dr pu ch) X) (fun s => onev (ltV wd dr pu ch) X s 0 0 ≠ TT) (Pm σ) (rs n r) (rl n r) i j)) := by
  obtain ⟨g1, g2, g3, g4⟩ := hR
  have hL := g1.1
  obtain ⟨G1, G2, G3⟩ := g2
  have rc5 := (G1 n hn).2
  obtain ⟨l1, l2⟩ := G2 n r hn hr
  have hX : RX σ (5 * n + r) (rl n r) (rs n r) := ⟨by omega, l2, fun q hq => G3 n r q hn hr hq⟩
  have e1 : (5 * (n : Int)) + (r : Int) = ((5 * n + r : Nat) : Int) := by omega
  obtain ⟨σ1, s1, s2, s3⟩ := br19 (N := N) (i := i) (x4 := (j : Int)) (x5 := ((5 * n + r : Nat) : Int)) (x6 := (rl n r : Int)) (by omega) 35 0 N σ (by decide) (by omega) (fun z hz => absurd hz (Nat.not_lt_zero z))
  obtain ⟨t, t1, t2⟩ := br53 (N := N) (x3 := (i : Int)) (x4 := (j : Int)) (RB_off s2 g1) (TB_off s2 g3) (RX_off s2 hX) (rl n r) 0 N (by omega) (by omega) (fun x hx => absurd hx (Nat.not_lt_zero x))
  have s1' : f_X12_beginsRule_L19 N (i : Int) (j : Int) ((5 * n + r : Nat) : Int) (rl n r : Int) N 0 σ = some σ1 := s1
  have t1' : f_X12_beginsRule_L53 N (i : Int) (j : Int) ((5 * n + r : Nat) : Int) (rl n r : Int) σ1 N 0 = some t := t1
  unfold f_X12_beginsRule
  rw [nm_s, e1, gd_pos ⟨by omega, by omega⟩, Int.toNat_natCast, nm_s, l1, bV_ok s1', bV_ok t1']
  rcases t2 with ⟨rfl, c1⟩ | ⟨rfl, c1⟩
  · obtain ⟨t, τ, u1, u2, u3⟩ := br90 (N := N) (i := i) (j := j) (by omega) l2 hij hj (rl n r) 0 N σ1 (by omega) (by omega) (RB_off s2 g1) (TB_off s2 g3) (RX_off s2 hX) (BB_off s2 hB) (fun y q1 q2 => by
      rw [s3 _ (by omega)]
      by_cases e : y = i
      · rw [if_pos (by omega)]; exact Or.inl ⟨rfl, e⟩
      · rw [if_neg (by omega)]; exact Or.inr ⟨rfl, e⟩) (fun q c hq => absurd hq (Nat.not_lt_zero q)) (fun z q1 q2 => by rw [s3 z q2, if_neg (by omega)])
    rw [Pm_off s2] at u3
    have u1' : f_X12_beginsRule_L90 N (i : Int) (j : Int) ((5 * n + r : Nat) : Int) (rl n r : Int) N 0 σ1 = some (t, τ) := u1
    have ho : off17 σ τ := fun k hk => by rw [u2 k hk, s2 k hk]
    rw [if_neg (by decide), bL1_ok u1']
    rcases u3 with ⟨rfl, q, c, w1, w2, w3, w4⟩ | ⟨rfl, w1, w2⟩
    · exact ⟨1, τ, by rw [if_pos rfl], ho, Or.inl ⟨rfl, c1, Or.inl ⟨q, c, w1, w3, w2, w4⟩⟩⟩
    · have e2 : (7 * (rl n r : Int)) + (j : Int) = ((7 * rl n r + j : Nat) : Int) := by omega
      have hv := w2 j hij (Nat.le_refl _)
      refine ⟨τ 17 (7 * rl n r + j), τ, ?_, ho, ?_⟩
      · rw [if_neg (by decide), e2, gd_pos ⟨by omega, by omega⟩, Int.toNat_natCast, gd_pos]
        rcases hv with z | z
        · exact Or.inr z.1
        · exact Or.inl z.1
      · rcases hv with z | z
        · exact Or.inl ⟨z.1, c1, Or.inr z.2⟩
        · refine Or.inr ⟨z.1, fun y => ?_⟩
          rcases y.2 with ⟨q, c, y1, y2, y3, y4⟩ | y
          · exact w1 q c y1 y3 y2 y4
          · exact z.2 y
  · refine ⟨0, σ1, by rw [if_pos rfl], s2, Or.inr ⟨rfl, fun y => c1 y.1⟩⟩
