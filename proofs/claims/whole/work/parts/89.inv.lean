/-! layer 2, what both memories hold between two calls; A tells it: 0 signs on the pad, 1 the signs, 2 rules of names, 3 lengths of rules, 4 signs of rules, 5 start, 6 letters of the word, 7 the word, 8 costs, 9 examples, 10 their lengths, 11 their letters -/
abbrev AS : Type := Nat → Nat → Nat → Nat → Nat
def aC (A : AS) : Nat := A 0 0 0 0
def aP (A : AS) (k : Nat) : Nat := A 1 k 0 0
def aRc (A : AS) (n : Nat) : Nat := A 2 n 0 0
def aRl (A : AS) (n r : Nat) : Nat := A 3 n r 0
def aRs (A : AS) (n r p : Nat) : Nat := A 4 n r p
def aS (A : AS) : Nat := A 5 0 0 0
def aL (A : AS) : Nat := A 6 0 0 0
def aW (A : AS) (k : Nat) : Nat := A 7 k 0 0
def aD (A : AS) : Nat := A 8 0 0 0
def aU (A : AS) : Nat := A 8 1 0 0
def aH (A : AS) : Nat := A 8 2 0 0
def aE (A : AS) : Nat := A 9 0 0 0
def aEL (A : AS) (i : Nat) : Nat := A 10 i 0 0
def aEW (A : AS) (i k : Nat) : Nat := A 11 i k 0
def PadS (σ τ : Mem) (A : AS) : Prop := aC A ≤ 60 ∧ σ 1 1 = (aC A : Int) ∧ τ 0 0 = (aC A : Int) ∧ ∀ k, k < aC A → σ 2 k = (aP A k : Int) ∧ τ 1 k = (aP A k : Int) ∧ 33 ≤ aP A k ∧ aP A k ≤ 126
def GraS (σ τ : Mem) (A : AS) : Prop := wfM σ ∧ σ 3 6 = -1 ∧ sameG (rcC σ) (aRc A) (rlC σ) (aRl A) (rsC σ) (aRs A) ∧ GR τ (aRc A) (aRl A) (aRs A) ∧ (∀ n, n < 6 → aRc A n ≤ 4) ∧ aS A < 6 ∧ σ 3 4 = (aS A : Int) ∧ τ 0 5 = (aS A : Int) ∧ ∃ b : Nat, b < 64 ∧ σ 3 3 = (b : Int) ∧ ∀ n, n < 6 → (b.testBit n = true ↔ 0 < aRc A n)
def WrdS (σ τ : Mem) (A : AS) : Prop := WD σ 13 (aL A) (aW A) ∧ τ 0 6 = (aL A : Int) ∧ ∀ k, k < aL A → τ 5 k = (aW A k : Int)
def CosS (σ τ : Mem) (A : AS) : Prop := CS σ (aD A) (aU A) (aH A) ∧ τ 8 0 = (aD A : Int) ∧ τ 8 1 = (aU A : Int) ∧ τ 8 2 = (aH A : Int)
def ExaS (σ τ : Mem) (A : AS) : Prop := aE A ≤ 3 ∧ σ 25 2 = (aE A : Int) ∧ τ 0 8 = (aE A : Int) ∧ (∀ i, i < 3 → σ 26 i = ((17 + 2 * i : Nat) : Int)) ∧ ∀ i, i < aE A → WD σ (17 + 2 * i) (aEL A i) (aEW A i) ∧ τ 6 i = (aEL A i : Int) ∧ ∀ k, k < aEL A i → τ 7 (6 * i + k) = (aEW A i k : Int)
def DraS (σ : Mem) : Prop := σ 7 6 = -1 ∧ (∀ s, s < 25 → 0 ≤ σ 9 s ∧ σ 9 s ≤ 4) ∧ ∀ q, q < 100 → 0 ≤ σ 10 q ∧ σ 10 q < 10
/-- a table of least mends for a word, with the bounds of its costs -/
def LX (A : AS) (L : Nat) (wd : Nat → Nat) (rc : Nat → Nat) (rl : Nat → Nat → Nat) (rs : Nat → Nat → Nat → Nat) (X : Nat → Nat → Nat → Nat) : Prop :=
  leastT (aD A) L (ltV wd (aD A) (aU A) (aH A)) rc rl rs X ∧ ∀ n a b, n < 6 → a ≤ b → b ≤ L → cB (aD A * (b - a) + aU A * 4096) (X n a b) ∧ len_ok (aU A) (b - a) (X n a b)
def CHX (σ : Mem) (A : AS) (X : Nat → Nat → Nat → Nat) : Prop := LX A (aL A) (aW A) (aRc A) (aRl A) (aRs A) X ∧ HC σ (aL A) (onev (ltV (aW A) (aD A) (aU A) (aH A)) X)
def ChaS (σ : Mem) (A : AS) : Prop := σ 0 12 = 0 ∨ (σ 0 12 = 1 ∧ σ 27 2 = 13 ∧ ∃ X, CHX σ A X)
/-! the rule more: its number, its length, its signs -/
def tlen (k : Nat) : Nat := if k = 0 then 0 else if k < 11 then 1 else 2
def tsg (k p : Nat) : Nat := if k < 11 then k - 1 else if p = 0 then (k - 11) / 4 else (k - 11) % 4
def rcX (A : AS) (n : Nat) (m : Nat) : Nat := if m = n then aRc A n + 1 else aRc A m
def rlX (A : AS) (n k : Nat) (m r : Nat) : Nat := if m = n ∧ r = aRc A n then tlen k else aRl A m r
def rsX (A : AS) (n k : Nat) (m r p : Nat) : Nat := if m = n ∧ r = aRc A n then tsg k p else aRs A m r p
/-- the sum of the first i examples' mends; TT's cost at least: one comes to nothing -/
def TotP (A : AS) (rc : Nat → Nat) (rl : Nat → Nat → Nat) (rs : Nat → Nat → Nat → Nat) (t : Nat) : Prop :=
  ∃ X : Nat → Nat → Nat → Nat → Nat, (∀ i, i < aE A → LX A (aEL A i) (aEW A i) rc rl rs (X i)) ∧
    ((t = 100000000 ∧ ∃ i, i < aE A ∧ X i (aS A) 0 (aEL A i) = TT) ∨ ((∀ i, i < aE A → X i (aS A) 0 (aEL A i) ≠ TT) ∧ t = sumE (fun i => Cv (X i (aS A) 0 (aEL A i))) (fun i => i) (aE A)))
/-- the least total by a rule more, and the first rule that has it -/
def MoreP (A : AS) (n t kb : Nat) : Prop := ∃ T : Nat → Nat, (∀ k, k < 27 → TotP A (rcX A n) (rlX A n k) (rsX A n k) (T k)) ∧ kb < 27 ∧ T kb = t ∧ (∀ k, k < 27 → t ≤ T k) ∧ ∀ k, k < kb → t < T k
def ClaS (σ : Mem) (A : AS) : Prop := σ 38 3 = -1 ∨ ∃ n t kb : Nat, n < 6 ∧ σ 38 3 = (n : Int) ∧ MoreP A n t kb ∧ σ 38 4 = (if t = 100000000 then 1073741824 else (t : Int)) ∧ (t ≠ 100000000 → σ 5 24 = (tlen kb : Int) ∧ ∀ p, p < tlen kb → σ 6 (96 + p) = (tsg kb p : Int))
def RefS (τ : Mem) (A : AS) : Prop := ∀ n, n < 6 → τ 23 n = 0 ∨ (τ 23 n = 1 ∧ ∃ t kb : Nat, MoreP A n t kb ∧ τ 24 n = (t : Int) ∧ (t ≠ 100000000 → τ 25 n = (tlen kb : Int) ∧ τ 26 n = (if 0 < tlen kb then ((sgx (tsg kb 0) : Nat) : Int) else -6) ∧ τ 27 n = (if 1 < tlen kb then ((sgx (tsg kb 1) : Nat) : Int) else -6)))
def Inv (σ τ : Mem) (A : AS) : Prop := PadS σ τ A ∧ GraS σ τ A ∧ WrdS σ τ A ∧ CosS σ τ A ∧ ExaS σ τ A ∧ DraS σ ∧ ChaS σ A ∧ ClaS σ A ∧ RefS τ A
/-! what a call may leave: the class's work cells, the reference's -/
def keepC (σ σ2 : Mem) : Prop := ∀ k, k ≠ 15 → k ≠ 16 → k ≠ 29 → k ≠ 31 → k ≠ 33 → k ≠ 34 → k ≠ 36 → k ≠ 37 → σ2 k = σ k
def keepR (τ τ2 : Mem) : Prop := (∀ k, 0 < k → (k < 9 ∨ 22 < k) → τ2 k = τ k) ∧ ∀ j, j ≠ 12 → j ≠ 20 → j ≠ 21 → j ≠ 22 → j ≠ 25 → τ2 0 j = τ 0 j
theorem keepC_rfl (σ : Mem) : keepC σ σ := fun _ _ _ _ _ _ _ _ _ => rfl
theorem keepR_rfl (τ : Mem) : keepR τ τ := ⟨fun _ _ _ => rfl, fun _ _ _ _ _ _ => rfl⟩
theorem keepC_trans {σ σ2 σ3 : Mem} (h : keepC σ σ2) (h2 : keepC σ2 σ3) : keepC σ σ3 := fun k a b c d e f g i => (h2 k a b c d e f g i).trans (h k a b c d e f g i)
theorem keepR_trans {τ τ2 τ3 : Mem} (h : keepR τ τ2) (h2 : keepR τ2 τ3) : keepR τ τ3 := ⟨fun k a b => (h2.1 k a b).trans (h.1 k a b), fun j a b c d e => (h2.2 j a b c d e).trans (h.2 j a b c d e)⟩
theorem keepR_B {τ τ2 : Mem} (h : eqB τ τ2) : keepR τ τ2 := ⟨fun k a b => h.1 k (by omega) (by omega), fun j _ b c d _ => h.2 j b c d⟩
theorem rcC_eq {σ σ2 : Mem} (h3 : σ2 3 = σ 3) (h4 : σ2 4 = σ 4) : rcC σ2 = rcC σ := by
  funext n
  unfold rcC
  rw [h3, h4]
theorem rlC_eq {σ σ2 : Mem} (h4 : σ2 4 = σ 4) (h5 : σ2 5 = σ 5) : rlC σ2 = rlC σ := by
  funext n r
  unfold rlC slC
  rw [h4, h5]
theorem rsC_eq {σ σ2 : Mem} (h4 : σ2 4 = σ 4) (h6 : σ2 6 = σ 6) : rsC σ2 = rsC σ := by
  funext n r p
  unfold rsC sgC slC
  rw [h4, h6]
theorem GR_eq {τ τ2 : Mem} {rc : Nat → Nat} {rl : Nat → Nat → Nat} {rs : Nat → Nat → Nat → Nat} (h : GR τ rc rl rs) (h2 : τ2 2 = τ 2) (h3 : τ2 3 = τ 3) (h4 : τ2 4 = τ 4) : GR τ2 rc rl rs := by
  unfold GR
  rw [h2, h3, h4]
  exact h
theorem PadS_eq {σ τ σ2 τ2 : Mem} {A : AS} (h : PadS σ τ A) (h1 : σ2 1 = σ 1) (h2 : σ2 2 = σ 2) (g0 : τ2 0 0 = τ 0 0) (g1 : τ2 1 = τ 1) : PadS σ2 τ2 A := by
  unfold PadS
  rw [h1, h2, g0, g1]
  exact h
theorem GraS_eq {σ τ σ2 τ2 : Mem} {A : AS} (h : GraS σ τ A) (h3 : σ2 3 = σ 3) (h4 : σ2 4 = σ 4) (h5 : σ2 5 = σ 5) (h6 : σ2 6 = σ 6) (h12 : σ2 12 = σ 12) (g0 : τ2 0 5 = τ 0 5) (g2 : τ2 2 = τ 2) (g3 : τ2 3 = τ 3) (g4 : τ2 4 = τ 4) : GraS σ2 τ2 A := by
  obtain ⟨a1, a2, a3, a4, a5⟩ := h
  unfold GraS
  rw [rcC_eq h3 h4, rlC_eq h4 h5, rsC_eq h4 h6, h3, g0]
  exact ⟨wfM_eq a1 h3 h4 h5 h6 h12, a2, a3, GR_eq a4 g2 g3 g4, a5⟩
theorem WrdS_eq {σ τ σ2 τ2 : Mem} {A : AS} (h : WrdS σ τ A) (h1 : σ2 13 = σ 13) (h2 : σ2 14 = σ 14) (g0 : τ2 0 6 = τ 0 6) (g1 : τ2 5 = τ 5) : WrdS σ2 τ2 A := by
  obtain ⟨a1, a2, a3⟩ := h
  unfold WrdS
  rw [g0, g1]
  exact ⟨WD_eq a1 h1 h2, a2, a3⟩
theorem CosS_eq {σ τ σ2 τ2 : Mem} {A : AS} (h : CosS σ τ A) (h1 : σ2 12 = σ 12) (g1 : τ2 8 = τ 8) : CosS σ2 τ2 A := by
  obtain ⟨a1, a2⟩ := h
  unfold CosS
  rw [g1]
  exact ⟨CS_eq a1 h1, a2⟩
theorem ExaS_eq {σ τ σ2 τ2 : Mem} {A : AS} (h : ExaS σ τ A) (h0 : ∀ k, 17 ≤ k → k ≤ 26 → σ2 k = σ k) (g0 : τ2 0 8 = τ 0 8) (g1 : τ2 6 = τ 6) (g2 : τ2 7 = τ 7) : ExaS σ2 τ2 A := by
  obtain ⟨a1, a2, a3, a4, a5⟩ := h
  unfold ExaS
  rw [g0, g1, g2, h0 25 (by decide) (by decide), h0 26 (by decide) (by decide)]
  exact ⟨a1, a2, a3, a4, fun i hi => ⟨WD_eq (a5 i hi).1 (h0 _ (by omega) (by omega)) (h0 _ (by omega) (by omega)), (a5 i hi).2⟩⟩
theorem DraS_eq {σ σ2 : Mem} (h : DraS σ) (h7 : σ2 7 = σ 7) (h9 : σ2 9 = σ 9) (h10 : σ2 10 = σ 10) : DraS σ2 := by
  unfold DraS
  rw [h7, h9, h10]
  exact h
theorem HC_eq {σ σ2 : Mem} {L : Nat} {F : Nat → Nat → Nat → Nat} (h : HC σ L F) (h28 : σ2 28 = σ 28) : HC σ2 L F := by
  unfold HC
  rw [h28]
  exact h
theorem ChaS_eq {σ σ2 : Mem} {A : AS} (h : ChaS σ A) (h0 : σ2 0 = σ 0) (h27 : σ2 27 = σ 27) (h28 : σ2 28 = σ 28) : ChaS σ2 A := by
  unfold ChaS
  rw [h0, h27]
  exact h.imp id (fun ⟨a, b, X, c, d⟩ => ⟨a, b, X, c, HC_eq d h28⟩)
theorem ClaS_eq {σ σ2 : Mem} {A : AS} (h : ClaS σ A) (h38 : σ2 38 = σ 38) (h5 : σ2 5 = σ 5) (h6 : σ2 6 = σ 6) : ClaS σ2 A := by
  unfold ClaS
  rw [h38, h5, h6]
  exact h
theorem RefS_eq {τ τ2 : Mem} {A : AS} (h : RefS τ A) (h0 : ∀ k, 23 ≤ k → k ≤ 27 → τ2 k = τ k) : RefS τ2 A := by
  unfold RefS
  rw [h0 23 (by decide) (by decide), h0 24 (by decide) (by decide), h0 25 (by decide) (by decide), h0 26 (by decide) (by decide), h0 27 (by decide) (by decide)]
  exact h
/-- a call that leaves no more than its work cells keeps what both hold -/
theorem Inv_keep {σ τ σ2 τ2 : Mem} {A : AS} (h : Inv σ τ A) (hc : keepC σ σ2) (hr : keepR τ τ2) : Inv σ2 τ2 A := by
  obtain ⟨h1, h2, h3, h4, h5, h6, h7, h8, h9⟩ := h
  have c : ∀ k, k ≠ 15 → k ≠ 16 → k ≠ 29 → k ≠ 31 → k ≠ 33 → k ≠ 34 → k ≠ 36 → k ≠ 37 → σ2 k = σ k := hc
  obtain ⟨r1, r2⟩ := hr
  refine ⟨PadS_eq h1 (c 1 (by decide) (by decide) (by decide) (by decide) (by decide) (by decide) (by decide) (by decide)) (c 2 (by decide) (by decide) (by decide) (by decide) (by decide) (by decide) (by decide) (by decide)) (r2 0 (by decide) (by decide) (by decide) (by decide) (by decide)) (r1 1 (by decide) (by decide)),
    GraS_eq h2 (c 3 (by decide) (by decide) (by decide) (by decide) (by decide) (by decide) (by decide) (by decide)) (c 4 (by decide) (by decide) (by decide) (by decide) (by decide) (by decide) (by decide) (by decide)) (c 5 (by decide) (by decide) (by decide) (by decide) (by decide) (by decide) (by decide) (by decide)) (c 6 (by decide) (by decide) (by decide) (by decide) (by decide) (by decide) (by decide) (by decide)) (c 12 (by decide) (by decide) (by decide) (by decide) (by decide) (by decide) (by decide) (by decide)) (r2 5 (by decide) (by decide) (by decide) (by decide) (by decide)) (r1 2 (by decide) (by decide)) (r1 3 (by decide) (by decide)) (r1 4 (by decide) (by decide)),
    WrdS_eq h3 (c 13 (by decide) (by decide) (by decide) (by decide) (by decide) (by decide) (by decide) (by decide)) (c 14 (by decide) (by decide) (by decide) (by decide) (by decide) (by decide) (by decide) (by decide)) (r2 6 (by decide) (by decide) (by decide) (by decide) (by decide)) (r1 5 (by decide) (by decide)),
    CosS_eq h4 (c 12 (by decide) (by decide) (by decide) (by decide) (by decide) (by decide) (by decide) (by decide)) (r1 8 (by decide) (by decide)),
    ExaS_eq h5 (fun k a b => c k (by omega) (by omega) (by omega) (by omega) (by omega) (by omega) (by omega) (by omega)) (r2 8 (by decide) (by decide) (by decide) (by decide) (by decide)) (r1 6 (by decide) (by decide)) (r1 7 (by decide) (by decide)),
    DraS_eq h6 (c 7 (by decide) (by decide) (by decide) (by decide) (by decide) (by decide) (by decide) (by decide)) (c 9 (by decide) (by decide) (by decide) (by decide) (by decide) (by decide) (by decide) (by decide)) (c 10 (by decide) (by decide) (by decide) (by decide) (by decide) (by decide) (by decide) (by decide)),
    ChaS_eq h7 (c 0 (by decide) (by decide) (by decide) (by decide) (by decide) (by decide) (by decide) (by decide)) (c 27 (by decide) (by decide) (by decide) (by decide) (by decide) (by decide) (by decide) (by decide)) (c 28 (by decide) (by decide) (by decide) (by decide) (by decide) (by decide) (by decide) (by decide)),
    ClaS_eq h8 (c 38 (by decide) (by decide) (by decide) (by decide) (by decide) (by decide) (by decide) (by decide)) (c 5 (by decide) (by decide) (by decide) (by decide) (by decide) (by decide) (by decide) (by decide)) (c 6 (by decide) (by decide) (by decide) (by decide) (by decide) (by decide) (by decide) (by decide)),
    RefS_eq h9 (fun k a b => r1 k (by omega) (by omega))⟩
theorem sameG_symm {rc rc2 : Nat → Nat} {rl rl2 : Nat → Nat → Nat} {rs rs2 : Nat → Nat → Nat → Nat} (h : sameG rc rc2 rl rl2 rs rs2) : sameG rc2 rc rl2 rl rs2 rs := by
  obtain ⟨h1, h2, h3⟩ := h
  exact ⟨fun n hn => (h1 n hn).symm, fun n r hn hr => (h2 n r hn (by rw [h1 n hn]; exact hr)).symm, fun n r p hn hr hp => (h3 n r p hn (by rw [h1 n hn]; exact hr) (by rw [h2 n r hn (by rw [h1 n hn]; exact hr)]; exact hp)).symm⟩
/-- MendTexts.chartOfWord: afterwards the chart holds the word's least mends -/
theorem chartOfWord_m {σ τ : Mem} {A : AS} {N : Nat} (hN : 300 ≤ N) (h : Inv σ τ A) :
    ∃ (σ2 : Mem) (X : Nat → Nat → Nat → Nat), f_X11_chartOfWord N σ = some (27, σ2) ∧ Inv σ2 τ A ∧ WC σ2 13 (aL A) (aW A) ∧ CHX σ2 A X := by
  obtain ⟨h1, h2, h3, h4, h5, h6, h7, h8, h9⟩ := id h
  have hWD := h3.1
  rcases h7 with z | ⟨z1, z2, X, z3⟩
  · obtain ⟨σ3, X, t1, t2, t3, t4, t5, t6⟩ := fill_m (N := N) (by omega) h2.1 h4.1 hWD ⟨by decide, by decide, by decide, by decide, by decide, by decide⟩
    have hb : ∀ k, k ≠ 0 → k ≠ 27 → k ≠ 28 → k ≠ 29 → (st σ3 0 12 1) k = σ k := fun k a b c d => by rw [st_other _ _ a]; exact t2 k b c d
    have hX : CHX (st σ3 0 12 1) A X := ⟨⟨leastT_cong h2.2.2.1 t4, t6⟩, fun s a b hs hab hb2 => by
      rw [st_other _ _ (by decide : 28 ≠ 0)]
      exact t5 s a b hs hab hb2⟩
    have e27 : (st σ3 0 12 1) 27 2 = 13 := by
      rw [st_other _ _ (by decide : 27 ≠ 0), t3, st_eq]; rfl
    refine ⟨st σ3 0 12 1, X, ?_, ⟨PadS_eq h1 (hb 1 (by decide) (by decide) (by decide) (by decide)) (hb 2 (by decide) (by decide) (by decide) (by decide)) rfl rfl,
      GraS_eq h2 (hb 3 (by decide) (by decide) (by decide) (by decide)) (hb 4 (by decide) (by decide) (by decide) (by decide)) (hb 5 (by decide) (by decide) (by decide) (by decide)) (hb 6 (by decide) (by decide) (by decide) (by decide)) (hb 12 (by decide) (by decide) (by decide) (by decide)) rfl rfl rfl rfl,
      WrdS_eq h3 (hb 13 (by decide) (by decide) (by decide) (by decide)) (hb 14 (by decide) (by decide) (by decide) (by decide)) rfl rfl, CosS_eq h4 (hb 12 (by decide) (by decide) (by decide) (by decide)) rfl,
      ExaS_eq h5 (fun k a b => hb k (by omega) (by omega) (by omega) (by omega)) rfl rfl rfl, DraS_eq h6 (hb 7 (by decide) (by decide) (by decide) (by decide)) (hb 9 (by decide) (by decide) (by decide) (by decide)) (hb 10 (by decide) (by decide) (by decide) (by decide)),
      Or.inr ⟨st_eq _ _ _ _, e27, X, hX⟩, ClaS_eq h8 (hb 38 (by decide) (by decide) (by decide) (by decide)) (hb 5 (by decide) (by decide) (by decide) (by decide)) (hb 6 (by decide) (by decide) (by decide) (by decide)), h9⟩, ⟨e27, by decide, ?_, by decide, by decide⟩, hX⟩
    · unfold f_X11_chartOfWord
      rw [ife_t z, bV_ok t1, nm_s]
    · exact WD_eq hWD (hb 13 (by decide) (by decide) (by decide) (by decide)) (hb 14 (by decide) (by decide) (by decide) (by decide))
  · refine ⟨σ, X, ?_, h, ⟨z2, by decide, hWD, by decide, by decide⟩, z3⟩
    unfold f_X11_chartOfWord
    rw [z1, ife_f (by decide) (by decide) (by decide) (by decide) (by decide)]
/-! the reference's take -/
theorem take23w {L N : Nat} {wd : Nat → Nat} (hL : L ≤ 6) : ∀ (m k fuel : Nat) (τ : Mem), k + m = L → m < fuel → τ 0 12 = (L : Int) → (∀ x, x < L → τ 5 x = (wd x : Int)) → (∀ x, x < k → τ 9 x = (wd x : Int)) →
    ∃ τ2, f_X12_take_L23 N (-6) fuel (k : Int) τ = some τ2 ∧ (∀ r, r ≠ 9 → τ2 r = τ r) ∧ ∀ x, x < L → τ2 9 x = (wd x : Int) := by
  intro m
  induction m with
  | zero =>
    intro k fuel τ hk hf h12 h5 h9
    obtain ⟨f, rfl⟩ : ∃ f, fuel = f + 1 := ⟨fuel - 1, by omega⟩
    refine ⟨τ, ?_, fun _ _ => rfl, fun x hx => h9 x (by omega)⟩
    rw [f_X12_take_L23, h12, ifle_t (by omega) (by omega) (by omega)]
  | succ m ih =>
    intro k fuel τ hk hf h12 h5 h9
    obtain ⟨f, rfl⟩ : ∃ f, fuel = f + 1 := ⟨fuel - 1, by omega⟩
    obtain ⟨τ2, t1, t2, t3⟩ := ih (k + 1) f (st τ 9 k (wd k : Int)) (by omega) (by omega) (by rw [st_other _ _ (by decide : 0 ≠ 9)]; exact h12) (by rw [st_other _ _ (by decide : 5 ≠ 9)]; exact h5) (fun x hx => by
      by_cases e : x = k
      · rw [e, st_eq]
      · rw [st_ne _ _ e]; exact h9 x (by omega))
    refine ⟨τ2, ?_, fun r hr => by rw [t2 r hr]; exact st_other _ _ hr, t3⟩
    rw [f_X12_take_L23, h12, ifle_f (by omega) (by omega) (by omega), ifle_f (by omega) (by omega) (by omega), gd_pos ⟨by omega, by omega⟩, Int.toNat_natCast, h5 k (by omega), bV_s, gd_pos ⟨by omega, by omega⟩, nm_s, nm_s]
    exact t1
/-- take and layMends for the word: the table that the chart holds -/
theorem layWord_m {σ τ : Mem} {A : AS} {N : Nat} {X : Nat → Nat → Nat → Nat} (hN : 300 ≤ N) (hN2 : mu (fun _ _ _ => TT) 294 + 2 ≤ N) (h : Inv σ τ A) (hX : LX A (aL A) (aW A) (aRc A) (aRl A) (aRs A) X) :
    ∃ τ1 τ2 : Mem, f_X12_take N (-6) τ = some τ1 ∧ f_X12_layMends N τ1 = some τ2 ∧ keepR τ τ2 ∧ RB τ2 (aL A) (aD A) (aU A) (aH A) (aW A) ∧ TB τ2 (aL A) X ∧ GR τ2 (aRc A) (aRl A) (aRs A) := by
  obtain ⟨h1, h2, h3, h4, h5, h6, h7, h8, h9⟩ := id h
  obtain ⟨w1, w2, w3⟩ := h3
  obtain ⟨-, -, wL, -, w4⟩ := id w1
  obtain ⟨⟨-, -, -, c1, c2, c3, c4, c5, c6⟩, d1, d2, d3⟩ := h4
  obtain ⟨τ1, t1, t2, t3⟩ := take23w (N := N) (wd := aW A) wL (aL A) 0 N (st τ 0 12 (aL A : Int)) (by omega) (by omega) (st_eq _ _ _ _) (by rw [st_other _ _ (by decide : 5 ≠ 0)]; exact w3) (fun x hx => absurd hx (Nat.not_lt_zero x))
  have hk1 : keepR τ τ1 := ⟨fun k a b => by rw [t2 k (by omega), st_other _ _ (by omega)], fun j a _ _ _ _ => by rw [t2 0 (by decide), st_ne _ _ a]⟩
  have hRB : RB τ1 (aL A) (aD A) (aU A) (aH A) (aW A) := by
    refine ⟨wL, by rw [t2 0 (by decide), st_eq], fun k hk => ⟨t3 k hk, (w4 k hk).2⟩, ?_, ?_, ?_, c1, c2, c3, c4, c5, c6⟩
    · rw [hk1.1 8 (by decide) (by decide)]; exact d1
    · rw [hk1.1 8 (by decide) (by decide)]; exact d2
    · rw [hk1.1 8 (by decide) (by decide)]; exact d3
  have hGR : GR τ1 (aRc A) (aRl A) (aRs A) := GR_eq h2.2.2.2.1 (hk1.1 2 (by decide) (by decide)) (hk1.1 3 (by decide) (by decide)) (hk1.1 4 (by decide) (by decide))
  obtain ⟨τ2, Z, u1, u2, u3, u4⟩ := layMends_m hN hN2 hRB hGR
  have he := leastT_uniq hX.1 u4
  have t1' : f_X12_take_L23 N (-6) N 0 (st τ 0 12 (aL A : Int)) = some τ1 := t1
  refine ⟨τ1, τ2, ?_, u1, keepR_trans hk1 (keepR_B u2), RB_B hRB u2, fun n a b hn hab hb => ?_, GR_B hGR u2⟩
  · unfold f_X12_take
    rw [ifle_f (by decide) (by decide) (by decide), w2, bV_s, nm_s, bV_ok t1']
  · rw [he n a b hn hab hb]
    exact u3 n a b hn hab hb
