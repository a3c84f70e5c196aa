/-! layer 2, Chart.lessen -/
def EqG (σ0 σ : Mem) : Prop := σ 3 = σ0 3 ∧ σ 4 = σ0 4 ∧ σ 5 = σ0 5 ∧ σ 6 = σ0 6 ∧ σ 12 = σ0 12
theorem EqG_28 {σ0 σ τ : Mem} (h : EqG σ0 σ) (ht : ∀ k, k ≠ 28 → τ k = σ k) : EqG σ0 τ := by
  obtain ⟨h3, h4, h5, h6, h12⟩ := h
  exact ⟨(ht 3 (by decide)).trans h3, (ht 4 (by decide)).trans h4, (ht 5 (by decide)).trans h5, (ht 6 (by decide)).trans h6, (ht 12 (by decide)).trans h12⟩
theorem EqG_wf {σ0 σ : Mem} (h : EqG σ0 σ) (hw : wfM σ0) : wfM σ := wfM_eq hw h.1 h.2.1 h.2.2.1 h.2.2.2.1 h.2.2.2.2
theorem EqG_rc {σ0 σ : Mem} (h : EqG σ0 σ) (n : Nat) : rcC σ n = rcC σ0 n := by unfold rcC; rw [h.1, h.2.1]
theorem EqG_sl {σ0 σ : Mem} (h : EqG σ0 σ) (n r : Nat) : slC σ n r = slC σ0 n r := by unfold slC; rw [h.2.1]
theorem rcC_le {σ : Mem} (h : wfM σ) {n : Nat} (hn : n < 6) : rcC σ n ≤ 5 := by
  have := h.1 n hn
  unfold rcC
  split <;> omega
theorem slC_inj {σ : Mem} (h : wfM σ) {n n2 r r2 : Nat} (hn : n < 6) (hn2 : n2 < 6) (hr : r < rcC σ n) (hr2 : r2 < rcC σ n2) (e : slC σ n r = slC σ n2 r2) : n = n2 ∧ r = r2 := by
  have a := h.1 n hn
  have b := h.1 n2 hn2
  unfold rcC at hr hr2
  unfold slC at e
  split at e
  · split at e
    · omega
    · omega
  · split at e
    · omega
    · split at hr
      · split at hr2
        · have en : n = n2 := by omega
          subst en
          exact ⟨rfl, by omega⟩
        · omega
      · omega
theorem wfC_G {σ : Mem} (h : wfM σ) : wfG (rcC σ) (rlC σ) (rsC σ) := by
  intro n r p hn hr hp
  have h1 := slC_lt (r := r) h hn
  have h2 := h.2.1 (slC σ n r) h1
  have h3 := h.2.2.1 (slC σ n r * 4 + p) (by unfold rlC at hp; omega)
  unfold rsC sgC
  omega
theorem rlC_le {σ : Mem} (h : wfM σ) {n r : Nat} (hn : n < 6) : rlC σ n r ≤ 4 := by
  have h1 := slC_lt (r := r) h hn
  have h2 := h.2.1 (slC σ n r) h1
  unfold rlC
  omega
/-- the chart's rows for the part (i, j) and its smaller parts: the values; the heads of the parts (i, b), b < j -/
def CM (σ0 σ : Mem) (lt X : Nat → Nat → Nat → Nat) (i j : Nat) (vec : Nat → Nat) : Prop :=
  EqG σ0 σ ∧ (∀ s a b, s < 10 → i ≤ a → a ≤ b → b ≤ j → σ 28 (s * 49 + a * 7 + b) = enc (onev lt (Xw X i j vec) s a b)) ∧
  (∀ n r q b, n < 6 → r < rcC σ0 n → 1 ≤ q → q + 1 < rlC σ0 n r → i ≤ b → b < j → σ 28 ((10 + slC σ0 n r * 2 + q - 1) * 49 + i * 7 + b) = enc (rowv (onev lt (Xw X i j vec)) (rsC σ0 n r) i (q + 1) b))
/-- the heads of a name's rules at the part itself -/
def HD (σ0 σ : Mem) (lt X : Nat → Nat → Nat → Nat) (i j : Nat) (vec : Nat → Nat) (n R : Nat) : Prop :=
  ∀ r q, r < R → 1 ≤ q → q + 1 < rlC σ0 n r → σ 28 ((10 + slC σ0 n r * 2 + q - 1) * 49 + i * 7 + j) = enc (rowv (onev lt (Xw X i j vec)) (rsC σ0 n r) i (q + 1) j)
theorem bound_sm {pu c l s v : Nat} (hp : 1 ≤ pu) (hp9 : pu ≤ 9) (hs : s ≤ 6) (hc : cB c v) (hcm : c ≤ 54 + pu * 90112) (hl : len_ok pu s v) : sm v := by
  rcases hc with e | e
  · exact Or.inl e
  · rcases hl with q | q
    · exact Or.inl q
    · have := len_small (pu := pu) (l := Lv v) (c := Cv v) (s := s) hp (by omega) hs q
      exact Or.inr ⟨by omega, by omega⟩
theorem one_sm {dr pu L i j : Nat} {lt X : Nat → Nat → Nat → Nat} {rc : Nat → Nat} {rl : Nat → Nat → Nat} {rs : Nat → Nat → Nat → Nat} {vec : Nat → Nat} (G : Given dr pu L lt rc rl rs X i j) (hv : PI dr pu lt rc rl rs X i j vec) {s a b : Nat} (hs : s < 10) (h1 : i ≤ a) (h2 : a ≤ b) (h3 : b ≤ j) : sm (onev lt (Xw X i j vec) s a b) := by
  obtain ⟨g1, g2, g3, g4, g5, g6, g7, g8, g9, g10, g11, g12⟩ := id G
  have hl := one_len G hv.2.1 hs h1 h2 h3
  have hsb : bnd dr pu i j (fin vec) ≤ sbd dr pu i j (fin vec) := by unfold sbd; split <;> omega
  have hmax := sbd_max (dr := dr) (pu := pu) (i := i) (j := j) (f := fin vec) g1 (by omega) (fin_le vec)
  have hM : dr * (j - i) + pu ≤ bnd dr pu i j (fin vec) := by
    unfold bnd
    split
    · next q =>
      have := Nat.mul_le_mul_left pu (four_1 (fin vec))
      rw [q, Nat.sub_self, Nat.mul_zero]; omega
    · have : pu * 4096 * 1 ≤ pu * 4096 * (1 + 3 * fin vec) := Nat.mul_le_mul_left _ (by omega)
      omega
  obtain ⟨c1, c2⟩ := one_cost (s := s) G hv.2.2.1 hM hs
  by_cases q : a = i ∧ b = j
  · rw [q.1, q.2] at hl ⊢
    exact bound_sm (c := bnd dr pu i j (fin vec)) (l := 0) g2 g3 (by omega) c1 (by omega) hl
  · have h5 : dr * (b - a) ≤ 9 * 6 := Nat.mul_le_mul g1 (by omega)
    exact bound_sm (c := dr * (b - a) + pu * 4096) (l := 0) g2 g3 (by omega) (c2 a b h1 h2 h3 q) (by omega) hl
theorem row_sm {dr pu L i j : Nat} {lt X : Nat → Nat → Nat → Nat} {rc : Nat → Nat} {rl : Nat → Nat → Nat} {rs : Nat → Nat → Nat → Nat} {vec : Nat → Nat} (G : Given dr pu L lt rc rl rs X i j) (hv : PI dr pu lt rc rl rs X i j vec) {sg : Nat → Nat} {p b : Nat} (hp : p ≤ 4) (hs : ∀ q, q < p → sg q < 10) (h1 : i ≤ b) (h2 : b ≤ j) : sm (rowv (onev lt (Xw X i j vec)) sg i p b) := by
  obtain ⟨g1, g2, g3, g4, g5, g6, g7, g8, g9, g10, g11, g12⟩ := id G
  obtain ⟨c1, c2⟩ := row_bound G hv (sg := sg) hp hs h1 h2
  exact bound_sm (c := sbd dr pu i j (fin vec)) (l := 0) g2 g3 (by omega) c1 (sbd_max g1 (by omega) (fin_le vec)) c2
theorem rule_sm {dr pu L i j : Nat} {lt X : Nat → Nat → Nat → Nat} {rc : Nat → Nat} {rl : Nat → Nat → Nat} {rs : Nat → Nat → Nat → Nat} {vec : Nat → Nat} (G : Given dr pu L lt rc rl rs X i j) (hv : PI dr pu lt rc rl rs X i j vec) {sg : Nat → Nat} {len : Nat} (hp : len ≤ 4) (hs : ∀ q, q < len → sg q < 10) : sm (rulev dr (onev lt (Xw X i j vec)) len sg i j) := by
  obtain ⟨g1, g2, g3, g4, g5, g6, g7, g8, g9, g10, g11, g12⟩ := id G
  obtain ⟨c1, c2⟩ := rule_bound G hv (sg := sg) hp hs
  exact bound_sm (c := sbd dr pu i j (fin vec)) (l := 0) g2 g3 (by omega) c1 (sbd_max g1 (by omega) (fin_le vec)) c2
theorem okO_sub {L j : Nat} {one : Nat → Nat → Nat → Nat} (h : okO L one) (hj : j ≤ L) : okO j one := fun s a b hs hab hb => h s a b hs hab (by omega)
/-- what a rule's walk needs, out of what holds at the part -/
theorem RF_of {σ0 σ : Mem} {dr pu L i j : Nat} {lt X : Nat → Nat → Nat → Nat} {vec : Nat → Nat} (hw : wfM σ0) (G : Given dr pu L lt (rcC σ0) (rlC σ0) (rsC σ0) X i j) (hv : PI dr pu lt (rcC σ0) (rlC σ0) (rsC σ0) X i j vec) (hc : CM σ0 σ lt X i j vec) {n r : Nat} (hn : n < 6) (hr : r < rcC σ0 n) : RF σ (onev lt (Xw X i j vec)) (rsC σ0 n r) (rlC σ0 n r) (slC σ0 n r) i j := by
  obtain ⟨g1, g2, g3, g4, g5, g6, g7, g8, g9, g10, g11, g12⟩ := id G
  obtain ⟨c1, c2, c3⟩ := hc
  have hsl := slC_lt (r := r) hw hn
  have hlen := rlC_le (r := r) hw hn
  have h5 := hw.2.1 (slC σ0 n r) hsl
  have hs10 : ∀ p, p < rlC σ0 n r → rsC σ0 n r p < 10 := fun p hp => g9 n r p hn hr hp
  refine ⟨g5, by omega, hsl, hlen, ?_, fun p hp => ?_, hs10, okO_sub (onev_ok g7 (Xw_ok g8 hv.1)) g6, fun s a b hs ha hab hb => ⟨c2 s a b hs ha hab hb, one_sm G hv hs ha hab hb⟩, fun q b hq hq2 hb1 hb2 => c3 n r q b hn hr hq hq2 hb1 hb2, fun p b hp hb1 hb2 => row_sm G hv (by omega) (fun q hq => hs10 q (by omega)) hb1 hb2, fun p a b hp ha hab hb n1 n2 => ?_⟩
  · rw [c1.2.2.1]; unfold rlC; omega
  · have := hw.2.2.1 (slC σ0 n r * 4 + p) (by omega)
    rw [c1.2.2.2.1]; unfold rsC sgC; omega
  · have := rule_sums G hv (sg := rsC σ0 n r) (p := p) (by omega) (fun q hq => hs10 q (by omega)) ha hab hb n1 n2
    have hm := sbd_max (dr := dr) (pu := pu) (i := i) (j := j) (f := fin vec) g1 (by omega) (fin_le vec)
    omega
/-- the loop over a name's rules -/
theorem L28_m {σ0 : Mem} {dr pu L i j n : Nat} {lt X : Nat → Nat → Nat → Nat} {vec : Nat → Nat} {N : Nat} {x4 : Int} (hN : 8 ≤ N) (hw : wfM σ0) (hd : σ0 12 0 = (dr : Int)) (G : Given dr pu L lt (rcC σ0) (rlC σ0) (rsC σ0) X i j) (hv : PI dr pu lt (rcC σ0) (rlC σ0) (rsC σ0) X i j vec) (hn : n < 6) (hsv : sm (vec n)) :
    ∀ (m r fuel : Nat) (σ : Mem), r + m = rcC σ0 n → m < fuel → CM σ0 σ lt X i j vec → HD σ0 σ lt X i j vec n r →
    ∃ τ, f_X0_lessen_L28 N (n : Int) (i : Int) (j : Int) x4 ((rcC σ0 n : Nat) : Int) fuel (enc (min (vec n) (mnk (fun r => rulev dr (onev lt (Xw X i j vec)) (rlC σ0 n r) (rsC σ0 n r) i j) r))) (r : Int) σ = some (enc (min (vec n) (RVr dr lt (rcC σ0) (rlC σ0) (rsC σ0) X i j vec n)), τ) ∧
      (∀ k, k ≠ 28 → τ k = σ k) ∧ (∀ x, (∀ r2 c, r2 < rcC σ0 n → c < 2 → x ≠ (10 + slC σ0 n r2 * 2 + c) * 49 + i * 7 + j) → τ 28 x = σ 28 x) ∧ HD σ0 τ lt X i j vec n (rcC σ0 n) := by
  intro m
  induction m with
  | zero =>
    intro r fuel σ hr hf hc hh
    obtain ⟨k, rfl⟩ : ∃ k, fuel = k + 1 := ⟨fuel - 1, by omega⟩
    have e : r = rcC σ0 n := by omega
    have := rcC_le hw hn
    subst e
    refine ⟨σ, ?_, fun _ _ => rfl, fun _ _ => rfl, hh⟩
    rw [f_X0_lessen_L28, ifle_t (by omega) (by omega) (by omega)]
    rfl
  | succ m ih =>
    intro r fuel σ hr hf hc hh
    obtain ⟨k, rfl⟩ : ∃ k, fuel = k + 1 := ⟨fuel - 1, by omega⟩
    have h5 := rcC_le hw hn
    obtain ⟨g1, g2, g3, g4, g5, g6, g7, g8, g9, g10, g11, g12⟩ := id G
    have hs10 : ∀ r p, r < rcC σ0 n → p < rlC σ0 n r → rsC σ0 n r p < 10 := fun r p hr hp => g9 n r p hn hr hp
    have hd2 : σ 12 0 = (dr : Int) := by rw [hc.1.2.2.2.2]; exact hd
    obtain ⟨τ, t1, t2, t3, t4⟩ := ruleFit_m (n := N) hN hd2 g1 (RF_of hw G hv hc hn (by omega : r < rcC σ0 n))
    rw [f_X0_lessen_L28, ifle_f (by omega) (by omega) (by omega), bV_ok (slotOf_v (EqG_wf hc.1 hw) hn (by omega)), EqG_sl hc.1, bL1_ok t1]
    simp only [nm]
    have s1 : sm (mnk (fun r => rulev dr (onev lt (Xw X i j vec)) (rlC σ0 n r) (rsC σ0 n r) i j) r) := by
      rcases mnk_att (fun r => rulev dr (onev lt (Xw X i j vec)) (rlC σ0 n r) (rsC σ0 n r) i j) r with z | ⟨r2, z1, z2⟩
      · rw [z]; exact Or.inl rfl
      · rw [z2]; exact rule_sm G hv (rlC_le hw hn) (fun q hq => hs10 r2 q (by omega) hq)
    have s2 := sm_min hsv s1
    have s3 := rule_sm G hv (sg := rsC σ0 n r) (rlC_le (r := r) hw hn) (fun q hq => hs10 r q (by omega) hq)
    have r1 := enc_rng s2
    have r2 := enc_rng s3
    have e1 : lMin (enc (min (vec n) (mnk (fun r => rulev dr (onev lt (Xw X i j vec)) (rlC σ0 n r) (rsC σ0 n r) i j) r))) (enc (rulev dr (onev lt (Xw X i j vec)) (rlC σ0 n r) (rsC σ0 n r) i j)) = enc (min (vec n) (mnk (fun r => rulev dr (onev lt (Xw X i j vec)) (rlC σ0 n r) (rsC σ0 n r) i j) (r + 1))) := by
      rw [lMin_z (by omega) (by omega) (by omega) (by omega), enc_min s2 s3, Nat.min_assoc]
      rfl
    have hslr := slC_lt (r := r) hw hn
    have far : ∀ x, x < 490 → τ 28 x = σ 28 x := fun x hx => t3 x (fun c hc2 => by omega)
    have hc2 : CM σ0 τ lt X i j vec := by
      refine ⟨EqG_28 hc.1 t2, fun s a b hs ha hab hb => ?_, fun n2 r2 q b hn2 hr2 hq hq2 hb1 hb2 => ?_⟩
      · rw [far _ (by omega)]; exact hc.2.1 s a b hs ha hab hb
      · rw [t3 _ (fun c hc3 => by omega)]; exact hc.2.2 n2 r2 q b hn2 hr2 hq hq2 hb1 hb2
    have hh2 : HD σ0 τ lt X i j vec n (r + 1) := by
      intro r2 q hr2 hq hq2
      by_cases e : r2 = r
      · rw [e] at hq2 ⊢; exact t4 q hq hq2
      · have hne : slC σ0 n r2 ≠ slC σ0 n r := fun z => e (slC_inj hw hn hn (by omega) (by omega) z).2
        have hl4 := rlC_le (r := r2) hw hn
        rw [t3 _ (fun c hc3 => by omega)]
        exact hh r2 q (by omega) hq hq2
    obtain ⟨τ2, u1, u2, u3, u4⟩ := ih (r + 1) k τ (by omega) (by omega) hc2 hh2
    refine ⟨τ2, ?_, fun k hk => (u2 k hk).trans (t2 k hk), fun x hx => (u3 x hx).trans (t3 x (fun c hc3 => hx r c (by omega) hc3)), u4⟩
    rw [e1, show (r : Int) + 1 = ((r + 1 : Nat) : Int) by omega]
    exact u1
