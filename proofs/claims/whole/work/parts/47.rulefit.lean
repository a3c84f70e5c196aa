/-! layer 2, Chart.ruleFit -/
/-- what a rule's walk over the part (i, j) finds in the memory, and that its values stay small -/
def RF (σ : Mem) (one : Nat → Nat → Nat → Nat) (sg : Nat → Nat) (len sl i j : Nat) : Prop :=
  i ≤ j ∧ j ≤ 6 ∧ sl < 25 ∧ len ≤ 4 ∧ σ 5 sl = (len : Int) ∧ (∀ p, p < len → σ 6 (sl * 4 + p) = ((sg p : Nat) : Int)) ∧ (∀ p, p < len → sg p < 10) ∧ okO j one ∧
  (∀ s a b, s < 10 → i ≤ a → a ≤ b → b ≤ j → σ 28 (s * 49 + a * 7 + b) = enc (one s a b) ∧ sm (one s a b)) ∧
  (∀ q b, 1 ≤ q → q + 1 < len → i ≤ b → b < j → σ 28 ((10 + sl * 2 + q - 1) * 49 + i * 7 + b) = enc (rowv one sg i (q + 1) b)) ∧
  (∀ p b, p ≤ len → i ≤ b → b ≤ j → sm (rowv one sg i p b)) ∧
  (∀ p a b, p < len → i ≤ a → a ≤ b → b ≤ j → rowv one sg i p a ≠ TT → one (sg p) a b ≠ TT → Cv (rowv one sg i p a) + Cv (one (sg p) a b) ≤ 1000000 ∧ Lv (rowv one sg i p a) + Lv (one (sg p) a b) ≤ 500000)
theorem rowv_1 {one : Nat → Nat → Nat → Nat} {sg : Nat → Nat} {i j b : Nat} (ho : okO j one) (hs : sg 0 < 10) (hj : j ≤ 100) (h1 : i ≤ b) (h2 : b ≤ j) : rowv one sg i 1 b = one (sg 0) i b := by
  rw [rowv]
  apply Nat.le_antisymm
  · refine Nat.le_trans (mnr_le (f := fun a => cat (rowv one sg i 0 a) (one (sg 0) a b)) (Nat.le_refl i) h1) ?_
    show cat (rowv one sg i 0 i) _ ≤ _
    unfold rowv
    rw [if_pos rfl, cat_0 (ho (sg 0) i b hs h1 h2) (by omega)]
    exact Nat.le_refl _
  · refine le_mnr (ok_le (ho (sg 0) i b hs h1 h2)) (fun a h3 h4 => ?_)
    unfold rowv
    by_cases e : a = i
    · rw [if_pos e, e, cat_0 (ho (sg 0) i b hs h1 h2) (by omega)]
      exact Nat.le_refl _
    · rw [if_neg e, cat_TTl]
      exact ok_le (ho (sg 0) i b hs h1 h2)
theorem rowv_mnx {one : Nat → Nat → Nat → Nat} {sg : Nat → Nat} {i j p : Nat} (h : i ≤ j) : mnx (fun a => cat (rowv one sg i p a) (one (sg p) a j)) i (j + 1 - i) = rowv one sg i (p + 1) j := by
  rw [rowv, show j + 1 - i = j - i + 1 by omega, mnx_mnr, show i + (j - i) = j by omega]
theorem L62_m {one : Nat → Nat → Nat → Nat} {sg : Nat → Nat} {n len sl i j : Nat} (hn : 8 ≤ n) :
    ∀ (m q row fuel : Nat) (σ : Mem), q + m = len → 1 ≤ q → m < fuel → row < 60 → RF σ one sg len sl i j → (∀ b, i ≤ b → b ≤ j → σ 28 (row * 49 + i * 7 + b) = enc (rowv one sg i q b)) →
    ∃ τ, f_X0_ruleFit_L62 n (sl : Int) (i : Int) (j : Int) (len : Int) fuel (row : Int) (enc (rowv one sg i q j)) (q : Int) σ = some (enc (rowv one sg i len j), τ) ∧
      (∀ k, k ≠ 28 → τ k = σ k) ∧ (∀ x, (∀ c, c < 2 → x ≠ (10 + sl * 2 + c) * 49 + i * 7 + j) → τ 28 x = σ 28 x) ∧
      (∀ q2, 1 ≤ q2 → q2 + 1 < len → τ 28 ((10 + sl * 2 + q2 - 1) * 49 + i * 7 + j) = if q2 < q then σ 28 ((10 + sl * 2 + q2 - 1) * 49 + i * 7 + j) else enc (rowv one sg i (q2 + 1) j)) := by
  intro m
  induction m with
  | zero =>
    intro q row fuel σ hq h1 hf hrow R hR
    obtain ⟨k, rfl⟩ : ∃ k, fuel = k + 1 := ⟨fuel - 1, by omega⟩
    have e : q = len := by omega
    obtain ⟨g1, g2, g3, g4, -⟩ := R
    subst e
    refine ⟨σ, ?_, fun _ _ => rfl, fun _ _ => rfl, fun q2 _ h => ?_⟩
    · rw [f_X0_ruleFit_L62, ifle_t (by omega) (by omega) (by omega)]
    · rw [if_pos (by omega)]
  | succ m ih =>
    intro q row fuel σ hq h1 hf hrow R hR
    obtain ⟨k, rfl⟩ : ∃ k, fuel = k + 1 := ⟨fuel - 1, by omega⟩
    obtain ⟨g1, g2, g3, g4, g5, g6, g7, g8, g9, g10, g11, g12⟩ := id R
    rw [f_X0_ruleFit_L62, ifle_f (by omega) (by omega) (by omega)]
    simp only [nm]
    rw [bV_ok (signAt_m sl q g3 (by omega)), g6 q (by omega),
      show ((row : Int) * 49 + (i : Int) * 7 + (i : Int)) = ((row * 49 + i * 7 + i : Nat) : Int) by omega,
      show (((sg q : Nat) : Int) * 49 + (i : Int) * 7 + (j : Int)) = ((sg q * 49 + i * 7 + j : Nat) : Int) by omega]
    have hin := L113_m (σ := σ) (n := n) (i := i) (j := j) (row := row) (s := sg q) (x1 := (sl : Int)) (x4 := (len : Int)) (x8 := (q : Int)) (f := fun a => rowv one sg i q a) (g := fun a => one (sg q) a j) g2 hrow (g7 q (by omega))
      (fun a ha hb => ⟨hR a ha hb, (g9 (sg q) a j (g7 q (by omega)) ha hb (Nat.le_refl _)).1⟩)
      (fun a ha hb => ⟨rowv_ok g8 (by omega) (fun p hp => g7 p (by omega)) ha hb, g8 (sg q) a j (g7 q (by omega)) hb (Nat.le_refl _), g11 q a (by omega) ha hb, (g9 (sg q) a j (g7 q (by omega)) ha hb (Nat.le_refl _)).2, g12 q a j (by omega) ha hb (Nat.le_refl _)⟩)
      (j + 1 - i) i n (by omega) (Nat.le_refl _) (by omega)
    rw [rowv_mnx g1, show i - i = 0 by omega] at hin
    have hT : enc (mnx (fun a => cat (rowv one sg i q a) (one (sg q) a j)) i 0) = 9223372036854775807 := enc_TT
    rw [hT] at hin
    rw [bV_ok hin]
    have er : (10 : Int) + (sl : Int) * 2 + (q : Int) - 1 = ((10 + sl * 2 + q - 1 : Nat) : Int) := by omega
    rw [er]
    by_cases hlast : q + 1 < len
    · rw [ifle_f (by omega) (by omega) (by omega), bV_ok (setFit_m _ (10 + sl * 2 + q - 1) i j rfl rfl rfl (by omega) (by omega) g2), bV_s, show (q : Int) + 1 = ((q + 1 : Nat) : Int) by omega]
      have keep : ∀ x, x ≠ (10 + sl * 2 + q - 1) * 49 + i * 7 + j → st σ 28 ((10 + sl * 2 + q - 1) * 49 + i * 7 + j) (enc (rowv one sg i (q + 1) j)) 28 x = σ 28 x := fun x hx => st_ne σ _ hx
      have keep2 : ∀ k2, k2 ≠ 28 → st σ 28 ((10 + sl * 2 + q - 1) * 49 + i * 7 + j) (enc (rowv one sg i (q + 1) j)) k2 = σ k2 := fun k2 h => st_other σ _ h
      have R2 : RF (st σ 28 ((10 + sl * 2 + q - 1) * 49 + i * 7 + j) (enc (rowv one sg i (q + 1) j))) one sg len sl i j := by
        refine ⟨g1, g2, g3, g4, by rw [keep2 5 (by decide)]; exact g5, fun p hp => by rw [keep2 6 (by decide)]; exact g6 p hp, g7, g8, fun s a b hs ha hab hb => ⟨?_, (g9 s a b hs ha hab hb).2⟩, fun q2 b hq2 hq3 hb1 hb2 => ?_, g11, g12⟩
        · rw [keep _ (by omega)]; exact (g9 s a b hs ha hab hb).1
        · rw [keep _ (by omega)]; exact g10 q2 b hq2 hq3 hb1 hb2
      obtain ⟨τ, t1, t2, t3, t4⟩ := ih (q + 1) (10 + sl * 2 + q - 1) k _ (by omega) (by omega) (by omega) (by omega) R2 (fun b hb1 hb2 => by
        by_cases e : b = j
        · rw [e, st_eq]
        · rw [keep _ (by omega)]; exact g10 q b h1 hlast hb1 (by omega))
      refine ⟨τ, t1, fun k2 h => (t2 k2 h).trans (keep2 k2 h), fun x hx => (t3 x hx).trans (keep x ?_), fun q2 h2 h3 => ?_⟩
      · have h1' : q - 1 < 2 := by omega
        have := hx (q - 1) h1'
        rw [show 10 + sl * 2 + (q - 1) = 10 + sl * 2 + q - 1 by omega] at this
        exact this
      · rw [t4 q2 h2 h3]
        by_cases e1 : q2 < q
        · rw [if_pos e1, if_pos (by omega), keep _ (by omega)]
        · rw [if_neg e1]
          by_cases e2 : q2 = q
          · rw [if_pos (by omega), e2, st_eq]
          · rw [if_neg (by omega)]
    · have el : len = q + 1 := by omega
      rw [ifle_t (by omega) (by omega) (by omega), bV_s, show (q : Int) + 1 = ((q + 1 : Nat) : Int) by omega]
      obtain ⟨k2, rfl⟩ : ∃ k2, k = k2 + 1 := ⟨k - 1, by omega⟩
      refine ⟨σ, ?_, fun _ _ => rfl, fun _ _ => rfl, fun q2 _ h => ?_⟩
      · rw [f_X0_ruleFit_L62, ifle_t (by omega) (by omega) (by omega), el]
      · rw [if_pos (by omega)]
/-- Chart.ruleFit: the rule's value; behind it the heads of the rule stand for the part -/
theorem ruleFit_m {σ : Mem} {one : Nat → Nat → Nat → Nat} {sg : Nat → Nat} {n len sl i j dr : Nat} (hn : 8 ≤ n) (hd : σ 12 0 = (dr : Int)) (hdr : dr ≤ 9) (R : RF σ one sg len sl i j) :
    ∃ τ, f_X0_ruleFit n (sl : Int) (i : Int) (j : Int) σ = some (enc (rulev dr one len sg i j), τ) ∧ (∀ k, k ≠ 28 → τ k = σ k) ∧ (∀ x, (∀ c, c < 2 → x ≠ (10 + sl * 2 + c) * 49 + i * 7 + j) → τ 28 x = σ 28 x) ∧
      (∀ q, 1 ≤ q → q + 1 < len → τ 28 ((10 + sl * 2 + q - 1) * 49 + i * 7 + j) = enc (rowv one sg i (q + 1) j)) := by
  obtain ⟨g1, g2, g3, g4, g5, g6, g7, g8, g9, g10, g11, g12⟩ := id R
  unfold f_X0_ruleFit rulev
  rw [bV_ok (lengthOf_m 3 sl g3), g5]
  by_cases h0 : len = 0
  · refine ⟨σ, ?_, fun _ _ => rfl, fun _ _ => rfl, fun q _ h => by omega⟩
    have h1 : dr * (j - i) ≤ 9 * 6 := Nat.mul_le_mul hdr (by omega)
    rw [ife_t (by omega), bV_ok drop_m, hd, if_pos h0, show ((j : Int) - (i : Int)) * (dr : Int) = ((dr * (j - i) : Nat) : Int) by rw [Int.natCast_mul, Int.mul_comm, Int.natCast_sub g1], bV_ok (ofNone_v _ (by omega))]
  · rw [ife_f (by omega) (by omega) (by omega) (by omega) (by omega), if_neg h0]
    have hs0 := g7 0 (by omega)
    have e1 : rowv one sg i 1 j = one (sg 0) i j := rowv_1 g8 hs0 (by omega) g1 (Nat.le_refl _)
    have hsg := signAt_m (σ := σ) sl 0 g3 (by decide)
    rw [Nat.add_zero] at hsg
    have g60 := g6 0 (by omega)
    rw [Nat.add_zero] at g60
    rw [show (0 : Int) = ((0 : Nat) : Int) from rfl, bV_ok hsg, g60, bV_ok (fitAt_m (sg 0 * 49 + i * 7 + j) (by omega) (by omega)), (g9 (sg 0) i j hs0 (Nat.le_refl _) g1 (Nat.le_refl _)).1, ← e1]
    obtain ⟨τ, t1, t2, t3, t4⟩ := L62_m (one := one) (sg := sg) (n := n) (len := len) (sl := sl) (i := i) (j := j) hn (len - 1) 1 (sg 0) n σ (by omega) (Nat.le_refl _) (by omega) (by omega) R (fun b hb1 hb2 => by
      rw [rowv_1 g8 hs0 (by omega) hb1 hb2]; exact (g9 (sg 0) i b hs0 (Nat.le_refl _) hb1 hb2).1)
    refine ⟨τ, ?_, t2, t3, fun q h1 h2 => ?_⟩
    · rw [show (1 : Int) = ((1 : Nat) : Int) from rfl, bL1_ok t1]
    · rw [t4 q h1 h2, if_neg (by omega)]
