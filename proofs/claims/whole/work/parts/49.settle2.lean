/-! layer 2, Chart.lessen and Chart.settle -/
theorem onev_name {lt X : Nat → Nat → Nat → Nat} {i j n : Nat} {vec : Nat → Nat} : onev lt (Xw X i j vec) (4 + n) i j = vec n := by
  unfold onev Xw
  rw [if_neg (by omega), if_pos ⟨rfl, rfl⟩, Nat.add_sub_cancel_left]
theorem lessen_m {σ0 σ : Mem} {dr pu L i j n : Nat} {lt X : Nat → Nat → Nat → Nat} {vec : Nat → Nat} {N : Nat} (hN : 8 ≤ N) (hw : wfM σ0) (hd : σ0 12 0 = (dr : Int)) (G : Given dr pu L lt (rcC σ0) (rlC σ0) (rsC σ0) X i j) (hv : PI dr pu lt (rcC σ0) (rlC σ0) (rsC σ0) X i j vec) (hc : CM σ0 σ lt X i j vec) (hn : n < 6) :
    ∃ τ, f_X0_lessen N (n : Int) (i : Int) (j : Int) σ = some (if min (vec n) (RVr dr lt (rcC σ0) (rlC σ0) (rsC σ0) X i j vec n) < vec n then 1 else 0, τ) ∧
      (∀ k, k ≠ 28 → τ k = σ k) ∧ τ 28 ((4 + n) * 49 + i * 7 + j) = enc (min (vec n) (RVr dr lt (rcC σ0) (rlC σ0) (rsC σ0) X i j vec n)) ∧
      (∀ x, x ≠ (4 + n) * 49 + i * 7 + j → (∀ r2 c, r2 < rcC σ0 n → c < 2 → x ≠ (10 + slC σ0 n r2 * 2 + c) * 49 + i * 7 + j) → τ 28 x = σ 28 x) ∧ HD σ0 τ lt X i j vec n (rcC σ0 n) := by
  obtain ⟨g1, g2, g3, g4, g5, g6, g7, g8, g9, g10, g11, g12⟩ := id G
  have hsv : sm (vec n) := by
    have := one_sm G hv (s := 4 + n) (a := i) (b := j) (by omega) (Nat.le_refl _) g5 (Nat.le_refl _)
    rw [onev_name] at this
    exact this
  have hfit : σ 28 ((4 + n) * 49 + i * 7 + j) = enc (vec n) := by
    rw [hc.2.1 (4 + n) i j (by omega) (Nat.le_refl _) g5 (Nat.le_refl _), onev_name]
  have h5 := rcC_le hw hn
  obtain ⟨τ, t1, t2, t3, t4⟩ := L28_m (N := N) (x4 := enc (vec n)) hN hw hd G hv hn hsv (rcC σ0 n) 0 N σ (by omega) (by omega) hc (fun r q h => absurd h (Nat.not_lt_zero _))
  have e0 : min (vec n) (mnk (fun r => rulev dr (onev lt (Xw X i j vec)) (rlC σ0 n r) (rsC σ0 n r) i j) 0) = vec n := Nat.min_eq_left (sm_le hsv)
  rw [e0] at t1
  generalize hwv : min (vec n) (RVr dr lt (rcC σ0) (rlC σ0) (rsC σ0) X i j vec n) = w at t1 ⊢
  have hsw : sm w := by
    have hR : sm (RVr dr lt (rcC σ0) (rlC σ0) (rsC σ0) X i j vec n) := by
      rcases mnk_att (fun r => rulev dr (onev lt (Xw X i j vec)) (rlC σ0 n r) (rsC σ0 n r) i j) (rcC σ0 n) with z | ⟨r2, z1, z2⟩
      · have e : RVr dr lt (rcC σ0) (rlC σ0) (rsC σ0) X i j vec n = TT := z
        rw [e]; exact Or.inl rfl
      · have e : RVr dr lt (rcC σ0) (rlC σ0) (rsC σ0) X i j vec n = rulev dr (onev lt (Xw X i j vec)) (rlC σ0 n r2) (rsC σ0 n r2) i j := z2
        rw [e]; exact rule_sm G hv (rlC_le hw hn) (fun q hq => g9 n r2 q hn z1 hq)
    rw [← hwv]; exact sm_min hsv hR
  refine ⟨st τ 28 ((4 + n) * 49 + i * 7 + j) (enc w), ?_, fun k hk => (st_other τ _ hk).trans (t2 k hk), st_eq _ _ _ _, fun x hx hx2 => (st_ne τ _ hx).trans (t3 x hx2), fun r q hr hq hq2 => ?_⟩
  · unfold f_X0_lessen f_X0_fitOf
    rw [bV_ok (bV_ok (fitAt_m ((4 + n) * 49 + i * 7 + j) (by omega) (by omega))), hfit, bV_ok (countOf_v (EqG_wf hc.1 hw) hn), EqG_rc hc.1]
    have t1' : f_X0_lessen_L28 N (n : Int) (i : Int) (j : Int) (enc (vec n)) ((rcC σ0 n : Nat) : Int) N (enc (vec n)) 0 σ = some (enc w, τ) := t1
    rw [bL1_ok t1', bV_ok (setFit_m _ (4 + n) i j (by omega) rfl rfl (by omega) (by omega) (by omega))]
    have r1 := enc_rng hsw
    have r2 := enc_rng hsv
    have hle := enc_le hsv hsw
    by_cases q : w < vec n
    · rw [if_pos q, if_neg (fun z => by
        have := (lCmp_ge (a := enc w) (b := enc (vec n)) (by omega) (by omega) (by omega) (by omega)).mp z
        have := hle.mp this
        omega)]
    · rw [if_neg q, if_pos ((lCmp_ge (a := enc w) (b := enc (vec n)) (by omega) (by omega) (by omega) (by omega)).mpr (hle.mpr (by omega)))]
  · have hl4 := rlC_le (r := r) hw hn
    rw [st_ne τ _ (by omega)]
    exact t4 r q hr hq hq2
/-! masks of six bits -/
def clr (x k : Nat) : Nat := x &&& (63 ^^^ 2 ^ k)
theorem clr_z : ∀ x : Nat, x < 64 → ∀ k : Nat, k < 6 → iAnd (x : Int) (iXor (iShl 1 (k : Int)) (-1)) = ((clr x k : Nat) : Int) := by decide +kernel
theorem clr_bit : ∀ x : Nat, x < 64 → ∀ k : Nat, k < 6 → ∀ y : Nat, y < 6 → (clr x k).testBit y = (x.testBit y && decide (y ≠ k)) := by decide +kernel
theorem clr_lt (x k : Nat) (h : x < 64) : clr x k < 64 := Nat.lt_of_le_of_lt Nat.and_le_left h
theorem bit6 {x : Nat} (h : x < 64) (hz : ∀ y, y < 6 → x.testBit y = false) : x = 0 := by
  have : ∀ x : Nat, x < 64 → (∀ y, y < 6 → x.testBit y = false) → x = 0 := by decide +kernel
  exact this x h hz
/-- the users of each name, as bits -/
def US (σ0 σ : Mem) : Prop := ∀ m, m < 6 → ∃ u : Nat, σ 29 m = (u : Int) ∧ u < 64 ∧ ∀ x, x < 6 → (u.testBit x = true ↔ usesG (rcC σ0) (rlC σ0) (rsC σ0) x m)
/-- what holds between two visits -/
def ST (σ0 σ : Mem) (dr pu : Nat) (lt X : Nat → Nat → Nat → Nat) (i j k : Nat) (vis : Nat → Prop) (stale : Nat) (vec : Nat → Nat) : Prop :=
  PI dr pu lt (rcC σ0) (rlC σ0) (rsC σ0) X i j vec ∧ CM σ0 σ lt X i j vec ∧ InvS (usesG (rcC σ0) (rlC σ0) (rsC σ0)) (RVr dr lt (rcC σ0) (rlC σ0) (rsC σ0) X i j) k vis (fun x => stale.testBit x = true) vec ∧
  (∀ x, x < 6 → stale.testBit x = false → HD σ0 σ lt X i j vec x (rcC σ0 x)) ∧ stale < 64 ∧ US σ0 σ
/-- cells that a part's settling leaves alone -/
def far28 (i j : Nat) (σ τ : Mem) : Prop := (∀ k, k ≠ 28 → τ k = σ k) ∧ ∀ x, (∀ s, 4 ≤ s → s < 60 → x ≠ s * 49 + i * 7 + j) → τ 28 x = σ 28 x
theorem far28_rfl (i j : Nat) (σ : Mem) : far28 i j σ σ := ⟨fun _ _ => rfl, fun _ _ => rfl⟩
theorem far28_trans {i j : Nat} {σ τ ρ : Mem} (h1 : far28 i j σ τ) (h2 : far28 i j τ ρ) : far28 i j σ ρ := ⟨fun k hk => (h2.1 k hk).trans (h1.1 k hk), fun x hx => (h2.2 x hx).trans (h1.2 x hx)⟩
theorem HD_cong {σ0 σ : Mem} {lt X : Nat → Nat → Nat → Nat} {i j n w x R : Nat} {vec : Nat → Nat} (hR : R ≤ rcC σ0 x) (hu : ¬ usesG (rcC σ0) (rlC σ0) (rsC σ0) x n) (h : HD σ0 σ lt X i j vec x R) : HD σ0 σ lt X i j (uv vec n w) x R := by
  intro r q hr hq hq2
  rw [h r q hr hq hq2]
  congr 1
  refine rowv_cong (fun _ _ => rfl) (fun p a c hp _ _ _ => ?_)
  unfold onev
  by_cases q4 : rsC σ0 x r p < 4
  · rw [if_pos q4, if_pos q4]
  · rw [if_neg q4, if_neg q4]
    unfold Xw
    by_cases q5 : a = i ∧ c = j
    · rw [if_pos q5, if_pos q5]
      unfold uv
      rw [if_neg (fun z => hu ⟨r, by omega, p, by omega, by omega⟩)]
    · rw [if_neg q5, if_neg q5]
theorem visit_m {σ0 σ : Mem} {dr pu L i j n k stale : Nat} {lt X : Nat → Nat → Nat → Nat} {vis vis2 : Nat → Prop} {vec : Nat → Nat} {N : Nat} (hN : 8 ≤ N) (hw : wfM σ0) (hd : σ0 12 0 = (dr : Int)) (G : Given dr pu L lt (rcC σ0) (rlC σ0) (rsC σ0) X i j) (hs : ST σ0 σ dr pu lt X i j k vis stale vec) (hn : n < 6) (hnv : ¬ vis n) (hv : ∀ x, x ≠ n → (vis2 x ↔ vis x)) (hb : stale.testBit n = true) :
    ∃ τ v, f_X0_lessen N (n : Int) (i : Int) (j : Int) σ = some (v, τ) ∧ far28 i j σ τ ∧ (v = 0 ∨ (v = 1 ∧ min (vec n) (RVr dr lt (rcC σ0) (rlC σ0) (rsC σ0) X i j vec n) < vec n)) ∧ ∃ u : Nat, (if v = 0 then (0 : Int) else τ 29 n) = (u : Int) ∧ u < 64 ∧
      ST σ0 τ dr pu lt X i j k vis2 (clr stale n ||| u) (uv vec n (min (vec n) (RVr dr lt (rcC σ0) (rlC σ0) (rsC σ0) X i j vec n))) := by
  obtain ⟨s1, s2, s3, s4, s5, s6⟩ := hs
  obtain ⟨g1, g2, g3, g4, g5, g6, g7, g8, g9, g10, g11, g12⟩ := id G
  obtain ⟨τ, t1, t2, t3, t4, t5⟩ := lessen_m hN hw hd G s1 s2 hn
  have hp := PI_step G s1 hn
  generalize hwv : min (vec n) (RVr dr lt (rcC σ0) (rlC σ0) (rsC σ0) X i j vec n) = w at t1 t3 hp ⊢
  have hfar : far28 i j σ τ := ⟨t2, fun x hx => t4 x (hx (4 + n) (by omega) (by omega)) (fun r2 c hr2 hc => by
    have := slC_lt (r := r2) hw hn
    exact hx (10 + slC σ0 n r2 * 2 + c) (by omega) (by omega))⟩
  obtain ⟨um, u1, u2, u3⟩ := s6 n hn
  have hus : US σ0 τ := fun m hm => by
    obtain ⟨u, a1, a2, a3⟩ := s6 m hm
    exact ⟨u, by rw [t2 29 (by decide)]; exact a1, a2, a3⟩
  have hCM : CM σ0 τ lt X i j (uv vec n w) := by
    refine ⟨EqG_28 s2.1 t2, fun s a b hs10 ha hab hbj => ?_, fun n2 r q b hn2 hr hq hq2 hb1 hb2 => ?_⟩
    · by_cases e : s = 4 + n ∧ a = i ∧ b = j
      · obtain ⟨e1, e2, e3⟩ := e
        subst e1; subst e2; subst e3
        rw [t3, onev_name]
        unfold uv
        rw [if_pos rfl]
      · have hne : s * 49 + a * 7 + b ≠ (4 + n) * 49 + i * 7 + j := fun z => e (by omega)
        rw [t4 _ hne (fun r2 c hr2 hc => by omega), s2.2.1 s a b hs10 ha hab hbj]
        congr 1
        unfold onev
        by_cases q4 : s < 4
        · rw [if_pos q4, if_pos q4]
        · rw [if_neg q4, if_neg q4]
          unfold Xw
          by_cases q5 : a = i ∧ b = j
          · rw [if_pos q5, if_pos q5]
            unfold uv
            rw [if_neg (fun z => e ⟨by omega, q5.1, q5.2⟩)]
          · rw [if_neg q5, if_neg q5]
    · rw [t4 _ (by omega) (fun r2 c hr2 hc => by omega), s2.2.2 n2 r q b hn2 hr hq hq2 hb1 hb2]
      congr 1
      refine rowv_cong (fun _ _ => rfl) (fun p a c hp _ hac hcb => ?_)
      unfold onev
      by_cases q4 : rsC σ0 n2 r p < 4
      · rw [if_pos q4, if_pos q4]
      · rw [if_neg q4, if_neg q4]
        unfold Xw
        rw [if_neg (by omega), if_neg (by omega)]
  have hl : w ≤ vec n := by omega
  have old : ∀ x, x < 6 → x ≠ n → HD σ0 σ lt X i j vec x (rcC σ0 x) → HD σ0 τ lt X i j vec x (rcC σ0 x) := fun x hx hxn h r q hr hq hq2 => by
    have hl4 := rlC_le (r := r) hw hx
    rw [t4 _ (by omega) (fun r2 c hr2 hc => by
      have hne : slC σ0 x r ≠ slC σ0 n r2 := fun z => hxn (slC_inj hw hx hn hr hr2 z).1
      omega)]
    exact h r q hr hq hq2
  by_cases q : w < vec n
  · -- the fit is less: those that use the name are stale
    rw [if_pos q] at t1
    refine ⟨τ, 1, t1, hfar, Or.inr ⟨rfl, q⟩, um, ?_, u2, hp, hCM, ?_, fun x hx hst => ?_, Nat.or_lt_two_pow (n := 6) (clr_lt _ _ s5) u2, hus⟩
    · rw [if_neg (by decide), t2 29 (by decide)]; exact u1
    · refine InvS_visit (RVr_dep (by omega) g7 g8 g9 g5 g6) s3 s1.1 hp.1 hn hnv hb hwv.symm hv (fun x hx hor => ?_)
      show (clr stale n ||| um).testBit x = true
      rw [Nat.testBit_or, clr_bit stale s5 n hn x hx]
      rcases hor with ⟨a, b⟩ | ⟨a, b⟩
      · simp [show stale.testBit x = true from a, b]
      · simp [(u3 x hx).mpr b]
    · rw [Nat.testBit_or, clr_bit stale s5 n hn x hx] at hst
      have hx1 : um.testBit x = false := by
        by_cases z : um.testBit x = true
        · simp [z] at hst
        · simpa using z
      have hnu : ¬ usesG (rcC σ0) (rlC σ0) (rsC σ0) x n := fun z => by
        have := (u3 x hx).mpr z
        rw [this] at hx1; cases hx1
      refine HD_cong (Nat.le_refl _) hnu ?_
      by_cases e : x = n
      · rw [e]; exact t5
      · have hx2 : stale.testBit x = false := by
          rw [hx1] at hst
          simpa [e] using hst
        exact old x hx e (s4 x hx hx2)
  · rw [if_neg q] at t1
    have ew : w = vec n := by omega
    have eu : uv vec n w = vec := by
      funext y
      unfold uv
      by_cases q2 : y = n
      · rw [if_pos q2, q2]; exact ew
      · rw [if_neg q2]
    refine ⟨τ, 0, t1, hfar, Or.inl rfl, 0, by rw [if_pos rfl]; rfl, by decide, hp, hCM, ?_, fun x hx hst => ?_, by rw [Nat.or_zero]; exact clr_lt _ _ s5, hus⟩
    · refine InvS_visit (RVr_dep (by omega) g7 g8 g9 g5 g6) s3 s1.1 hp.1 hn hnv hb hwv.symm hv (fun x hx hor => ?_)
      show (clr stale n ||| 0).testBit x = true
      rw [Nat.or_zero, clr_bit stale s5 n hn x hx]
      rcases hor with ⟨a, b⟩ | ⟨a, b⟩
      · simp [show stale.testBit x = true from a, b]
      · exact absurd a q
    · rw [Nat.or_zero, clr_bit stale s5 n hn x hx] at hst
      rw [eu]
      by_cases e : x = n
      · rw [e]; exact t5
      · have hx2 : stale.testBit x = false := by simpa [e] using hst
        exact old x hx e (s4 x hx hx2)
