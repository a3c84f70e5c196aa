/-! layer 2, the chart's reads and writes -/
theorem isName_v (n : Nat) (h : n < 6) : f_X11_isName (n : Int) = some 1 := by
  unfold f_X11_isName
  simp (disch := omega) only [ifl_t, ifl_f, ifle_t, ifle_f, ife_t, ife_f, gd_pos, nm, bV_s, bL1_s, bL2_s, bL3_s, bL4_s, Int.toNat_natCast, Nat.reduceAdd]
theorem isName_f {a : Int} (h : a < 0 ∨ 6 ≤ a) (h1 : -2147483648 ≤ a) (h2 : a < 2147483648) : f_X11_isName a = some 0 := by
  unfold f_X11_isName
  rcases h with h | h
  · simp (disch := omega) only [ifl_t, ifl_f, ifle_t, ifle_f, ife_t, ife_f, gd_pos, nm, bV_s, bL1_s, bL2_s, bL3_s, bL4_s, Int.toNat_natCast, Nat.reduceAdd]
  · simp (disch := omega) only [ifl_t, ifl_f, ifle_t, ifle_f, ife_t, ife_f, gd_pos, nm, bV_s, bL1_s, bL2_s, bL3_s, bL4_s, Int.toNat_natCast, Nat.reduceAdd]
/-- the grammar in the memory -/
def wfM (σ : Mem) : Prop := (∀ n, n < 6 → 0 ≤ σ 4 n ∧ σ 4 n ≤ 4) ∧ (∀ s, s < 25 → 0 ≤ σ 5 s ∧ σ 5 s ≤ 4) ∧ (∀ q, q < 100 → 0 ≤ σ 6 q ∧ σ 6 q < 10) ∧ (-1 ≤ σ 3 6 ∧ σ 3 6 < 6) ∧ (∀ k, k < 3 → 1 ≤ σ 12 k ∧ σ 12 k ≤ 9)
theorem wfM_eq {σ τ : Mem} (h : wfM σ) (h3 : τ 3 = σ 3) (h4 : τ 4 = σ 4) (h5 : τ 5 = σ 5) (h6 : τ 6 = σ 6) (h12 : τ 12 = σ 12) : wfM τ := by
  unfold wfM
  rw [h3, h4, h5, h6, h12]
  exact h
def rcC (σ : Mem) (n : Nat) : Nat := (σ 4 n).toNat + (if σ 3 6 = (n : Int) then 1 else 0)
def slC (σ : Mem) (n r : Nat) : Nat := if (r : Int) < σ 4 n then n * 4 + r else 24
def rlC (σ : Mem) (n r : Nat) : Nat := (σ 5 (slC σ n r)).toNat
def sgC (σ : Mem) (s p : Nat) : Nat := (σ 6 (s * 4 + p)).toNat
def rsC (σ : Mem) (n r p : Nat) : Nat := sgC σ (slC σ n r) p
theorem slC_lt {σ : Mem} (h : wfM σ) {n r : Nat} (hn : n < 6) : slC σ n r < 25 := by
  have := h.1 n hn
  unfold slC
  split <;> omega
theorem countOf_v {σ : Mem} (h : wfM σ) {n : Nat} (hn : n < 6) : f_X4_countOf 3 (n : Int) σ = some ((rcC σ n : Nat) : Int) := by
  have h4 := h.1 n hn
  have h6 := h.2.2.2.1
  unfold f_X4_countOf rcC
  rw [bV_ok (isName_v n hn)]
  by_cases q : σ 3 6 = (n : Int)
  · simp (disch := omega) only [ifl_t, ifl_f, ifle_t, ifle_f, ife_t, ife_f, gd_pos, nm, bV_s, bL1_s, bL2_s, bL3_s, bL4_s, Int.toNat_natCast, Nat.reduceAdd, if_pos q]
    congr 1
    omega
  · simp (disch := omega) only [ifl_t, ifl_f, ifle_t, ifle_f, ife_t, ife_f, gd_pos, nm, bV_s, bL1_s, bL2_s, bL3_s, bL4_s, Int.toNat_natCast, Nat.reduceAdd, if_neg q]
    congr 1
    omega
theorem slotOf_v {σ : Mem} (h : wfM σ) {n r : Nat} (hn : n < 6) (hr : r ≤ 4) : f_X4_slotOf (n : Int) (r : Int) σ = some ((slC σ n r : Nat) : Int) := by
  have h4 := h.1 n hn
  unfold f_X4_slotOf slC
  rw [bV_ok (isName_v n hn)]
  by_cases q : (r : Int) < σ 4 n
  · simp (disch := omega) only [ifl_t, ifl_f, ifle_t, ifle_f, ife_t, ife_f, gd_pos, nm, bV_s, bL1_s, bL2_s, bL3_s, bL4_s, Int.toNat_natCast, Nat.reduceAdd, if_pos q]
    congr 1
  · simp (disch := omega) only [ifl_t, ifl_f, ifle_t, ifle_f, ife_t, ife_f, gd_pos, nm, bV_s, bL1_s, bL2_s, bL3_s, bL4_s, Int.toNat_natCast, Nat.reduceAdd, if_neg q]
    rfl
theorem lengthOf_m {σ : Mem} (g s : Nat) (hs : s < 25) : f_X4_lengthOf g (s : Int) σ = some (σ (g + 2) s) := by
  unfold f_X4_lengthOf
  simp (disch := omega) only [ifl_t, ifl_f, ifle_t, ifle_f, ife_t, ife_f, gd_pos, nm, bV_s, bL1_s, bL2_s, bL3_s, bL4_s, Int.toNat_natCast, Nat.reduceAdd]
theorem signAt_m {σ : Mem} (s p : Nat) (hs : s < 25) (hp : p < 4) : f_X4_signAt (s : Int) (p : Int) σ = some (σ 6 (s * 4 + p)) := by
  have e : ((s : Int) * 4 + (p : Int)).toNat = s * 4 + p := by omega
  unfold f_X4_signAt
  simp (disch := omega) only [ifl_t, ifl_f, ifle_t, ifle_f, ife_t, ife_f, gd_pos, nm, bV_s, bL1_s, bL2_s, bL3_s, bL4_s, Int.toNat_natCast, Nat.reduceAdd, e]
theorem fitAt_m {σ : Mem} {e : Int} (k : Nat) (he : e = (k : Int)) (hk : k < 2940) : f_X0_fitAt e σ = some (σ 28 k) := by
  subst he
  unfold f_X0_fitAt
  simp (disch := omega) only [ifl_t, ifl_f, ifle_t, ifle_f, ife_t, ife_f, gd_pos, nm, bV_s, bL1_s, bL2_s, bL3_s, bL4_s, Int.toNat_natCast, Nat.reduceAdd]
theorem setFit_m {σ : Mem} {a b c : Int} (v : Int) (r f t : Nat) (ha : a = (r : Int)) (hb : b = (f : Int)) (hc : c = (t : Int)) (hr : r < 60) (hf : f ≤ 6) (ht : t ≤ 6) : f_X0_setFit a b c v σ = some (st σ 28 (r * 49 + f * 7 + t) v) := by
  subst ha
  subst hb
  subst hc
  have e : ((r : Int) * 49 + (f : Int) * 7 + (t : Int)).toNat = r * 49 + f * 7 + t := by omega
  unfold f_X0_setFit
  simp (disch := omega) only [ifl_t, ifl_f, ifle_t, ifle_f, ife_t, ife_f, gd_pos, nm, bV_s, bL1_s, bL2_s, bL3_s, bL4_s, Int.toNat_natCast, Nat.reduceAdd, e]
theorem drop_m {σ : Mem} : f_X1_drop σ = some (σ 12 0) := by
  unfold f_X1_drop
  simp (disch := omega) only [ifl_t, ifl_f, ifle_t, ifle_f, ife_t, ife_f, gd_pos, nm, bV_s, bL1_s, bL2_s, bL3_s, bL4_s, Int.toNat_natCast, Nat.reduceAdd]
  rfl
theorem put_m {σ : Mem} : f_X1_put σ = some (σ 12 1) := by
  unfold f_X1_put
  simp (disch := omega) only [ifl_t, ifl_f, ifle_t, ifle_f, ife_t, ife_f, gd_pos, nm, bV_s, bL1_s, bL2_s, bL3_s, bL4_s, Int.toNat_natCast, Nat.reduceAdd]
  rfl
theorem change_m {σ : Mem} : f_X1_change σ = some (σ 12 2) := by
  unfold f_X1_change
  simp (disch := omega) only [ifl_t, ifl_f, ifle_t, ifle_f, ife_t, ife_f, gd_pos, nm, bV_s, bL1_s, bL2_s, bL3_s, bL4_s, Int.toNat_natCast, Nat.reduceAdd]
  rfl
/-! the least over a stretch, from its left end on -/
def mnx (f : Nat → Nat) (i : Nat) : Nat → Nat
  | 0 => TT
  | k + 1 => min (mnx f i k) (f (i + k))
theorem mnr_s (f : Nat → Nat) (i b : Nat) : mnr f i (b + 1) = if i ≤ b + 1 then min (mnr f i b) (f (b + 1)) else TT := rfl
theorem mnx_mnr (f : Nat → Nat) (i : Nat) : ∀ k, mnx f i (k + 1) = mnr f i (i + k)
  | 0 => by
    unfold mnx mnx
    cases i with
    | zero => unfold mnr; rfl
    | succ i =>
      show min TT (f (i + 1)) = mnr f (i + 1) (i + 1)
      unfold mnr
      rw [if_pos (Nat.le_refl _)]
      have : mnr f (i + 1) i = TT := by
        cases i with
        | zero => unfold mnr; rw [if_neg (by omega)]
        | succ i => unfold mnr; rw [if_neg (by omega)]
      rw [this]
  | k + 1 => by
    show min (mnx f i (k + 1)) (f (i + (k + 1))) = mnr f i (i + k + 1)
    rw [mnx_mnr f i k, mnr_s, if_pos (by omega)]
    rfl
theorem mnx_sm {f : Nat → Nat} {i : Nat} : ∀ {k : Nat}, (∀ a, i ≤ a → a < i + k → sm (f a)) → sm (mnx f i k)
  | 0, _ => Or.inl rfl
  | k + 1, h => sm_min (mnx_sm (fun a h1 h2 => h a h1 (by omega))) (h (i + k) (by omega) (by omega))
theorem cat_sm {s t a b : Nat} (ha : ok s a) (hb : ok t b) (hs : s ≤ 100) (ht : t ≤ 100) (hsum : a ≠ TT → b ≠ TT → Cv a + Cv b ≤ 1000000 ∧ Lv a + Lv b ≤ 500000) : sm (cat a b) := by
  by_cases h : cat a b = TT
  · exact Or.inl h
  · obtain ⟨na, nb, e1, e2, -, -⟩ := cat_fin ha hb hs ht h
    have := hsum na nb
    exact Or.inr ⟨by omega, by omega⟩
/-- the innermost loop: the part is shared out between the signs ahead and the next one -/
theorem L113_m {σ : Mem} {n i j row s : Nat} {x1 x4 x8 : Int} {f g : Nat → Nat} (hj : j ≤ 6) (hrow : row < 60) (hs : s < 10)
    (h1 : ∀ a, i ≤ a → a ≤ j → σ 28 (row * 49 + i * 7 + a) = enc (f a) ∧ σ 28 (s * 49 + a * 7 + j) = enc (g a))
    (h2 : ∀ a, i ≤ a → a ≤ j → ok (a - i) (f a) ∧ ok (j - a) (g a) ∧ sm (f a) ∧ sm (g a) ∧ (f a ≠ TT → g a ≠ TT → Cv (f a) + Cv (g a) ≤ 1000000 ∧ Lv (f a) + Lv (g a) ≤ 500000)) :
    ∀ (m a fuel : Nat), a + m = j + 1 → i ≤ a → m < fuel → f_X0_ruleFit_L113 n x1 (i : Int) (j : Int) x4 x8 σ fuel (enc (mnx (fun a => cat (f a) (g a)) i (a - i))) (((row * 49 + i * 7 + a : Nat) : Int)) (((s * 49 + a * 7 + j : Nat) : Int)) (a : Int) = some (enc (mnx (fun a => cat (f a) (g a)) i (j + 1 - i))) := by
  intro m
  induction m with
  | zero =>
    intro a fuel ha hi hf
    obtain ⟨k, rfl⟩ : ∃ k, fuel = k + 1 := ⟨fuel - 1, by omega⟩
    rw [f_X0_ruleFit_L113]
    have e : a = j + 1 := by omega
    subst e
    simp (disch := omega) only [ifl_t, ifl_f, ifle_t, ifle_f, ife_t, ife_f, gd_pos, nm, bV_s, bL1_s, bL2_s, bL3_s, bL4_s, Int.toNat_natCast, Nat.reduceAdd]
  | succ m ih =>
    intro a fuel ha hi hf
    obtain ⟨k, rfl⟩ : ∃ k, fuel = k + 1 := ⟨fuel - 1, by omega⟩
    obtain ⟨p1, p2⟩ := h1 a hi (by omega)
    obtain ⟨o1, o2, o3, o4, o5⟩ := h2 a hi (by omega)
    rw [f_X0_ruleFit_L113, ifl_f (by omega) (by omega) (by omega), bV_ok (fitAt_m _ rfl (by omega)), bV_ok (fitAt_m _ rfl (by omega)), p1, p2,
      bV_ok (lesser_v o1 o2 (by omega) (by omega) (mnx_sm (fun b hb1 hb2 => by
        obtain ⟨r1, r2, r3, r4, r5⟩ := h2 b hb1 (by omega)
        exact cat_sm r1 r2 (by omega) (by omega) r5)) o3 o4 o5)]
    have e1 : min (mnx (fun a => cat (f a) (g a)) i (a - i)) (cat (f a) (g a)) = mnx (fun a => cat (f a) (g a)) i (a + 1 - i) := by
      rw [show a + 1 - i = a - i + 1 by omega]
      show _ = min _ (cat (f (i + (a - i))) (g (i + (a - i))))
      rw [show i + (a - i) = a by omega]
    have := ih (a + 1) k (by omega) (by omega) (by omega)
    rw [e1]
    unfold nm
    rw [show (((row * 49 + i * 7 + a : Nat) : Int)) + 1 = ((row * 49 + i * 7 + (a + 1) : Nat) : Int) by omega, show (((s * 49 + a * 7 + j : Nat) : Int)) + 7 = ((s * 49 + (a + 1) * 7 + j : Nat) : Int) by omega, show (a : Int) + 1 = ((a + 1 : Nat) : Int) by omega]
    exact this
