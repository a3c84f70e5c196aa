/-! layer 2, Reach.sweep: one name -/
theorem ug_ug {g : Nat → Nat → Nat} {n p v w : Nat} : ug (ug g n p v) n p w = ug g n p w := by
  funext m c
  unfold ug
  split <;> rfl
theorem ug_at {g : Nat → Nat → Nat} {n p w : Nat} : ug g n p w n p = w := if_pos ⟨rfl, rfl⟩
theorem ug_same {g : Nat → Nat → Nat} {n p w : Nat} (h : w = g n p) : ug g n p w = g := by
  funext m c
  unfold ug
  by_cases e : m = n ∧ c = p
  · rw [if_pos e, e.1, e.2, h]
  · rw [if_neg e]
theorem ug_rng {g : Nat → Nat → Nat} {n p w B : Nat} (hg : ∀ m c, g m c ≤ B) (hw : w ≤ B) : ∀ m c, ug g n p w m c ≤ B := fun m c => by
  rcases ug_or (g := g) (n := n) (p := p) (w := w) m c with y | y
  · omega
  · have := hg m c; omega
/-- the memory but for the class's numbers -/
def off31 (σ0 σ : Mem) : Prop := ∀ k, k ≠ 31 → σ k = σ0 k
theorem off31_wf {σ0 σ : Mem} (h : off31 σ0 σ) (hw : wfM σ0) : wfM σ := wfM_eq hw (h 3 (by decide)) (h 4 (by decide)) (h 5 (by decide)) (h 6 (by decide)) (h 12 (by decide))
theorem off31_G {σ0 σ : Mem} (h : off31 σ0 σ) : EqG σ0 σ := ⟨h 3 (by decide), h 4 (by decide), h 5 (by decide), h 6 (by decide), h 12 (by decide)⟩
theorem off31_WC {σ0 σ : Mem} {w L : Nat} {wd : Nat → Nat} (h : off31 σ0 σ) (hw : WC σ0 w L wd) : WC σ w L wd := by
  obtain ⟨w1, w2, w3, w4⟩ := hw
  have hi := w3.1
  refine ⟨by rw [h 27 (by decide)]; exact w1, w2, WD_eq w3 (h w ?_) (h (w + 1) ?_), w4⟩
  · rcases hi with rfl | rfl | rfl | rfl | rfl | rfl <;> decide
  · rcases hi with rfl | rfl | rfl | rfl | rfl | rfl <;> decide
theorem off31_HC {σ0 σ : Mem} {L : Nat} {F : Nat → Nat → Nat → Nat} (h : off31 σ0 σ) (hc : HC σ0 L F) : HC σ L F := fun s a b hs hab hb => by
  rw [h 28 (by decide)]; exact hc s a b hs hab hb
theorem off31_RM {σ0 σ : Mem} {n r : Nat} (h : off31 σ0 σ) (hw : wfM σ0) (hn : n < 6) : RM σ (slC σ0 n r) (rlC σ0 n r) (rsC σ0 n r) := by
  obtain ⟨h1, h2, h3, h4⟩ := RM_of (r := r) hw hn
  exact ⟨h1, h2, by rw [h 5 (by decide)]; exact h3, by rw [h 6 (by decide)]; exact h4⟩
theorem FA_st {σ : Mem} {L n p v : Nat} {g : Nat → Nat → Nat} (hL : L ≤ 6) (hp : p ≤ L) (h : FA σ L g) : FA (st σ 31 (n * 7 + p) ((v : Int) - 1)) L (ug g n p v) := fun m c hm hc => by
  rw [st_row]
  unfold ug
  by_cases e : m = n ∧ c = p
  · rw [if_pos (by rw [e.1, e.2]), if_pos e]
  · rw [if_neg (fun z => e (by omega)), if_neg e]
    exact h m c hm hc
/-- what a chart, a word and a grammar give for Reach -/
def RC (σ0 : Mem) (w L : Nat) (wd : Nat → Nat) (F : Nat → Nat → Nat → Nat) : Prop := wfM σ0 ∧ WC σ0 w L wd ∧ HC σ0 L F ∧ KXb wd L (fun s a b => asis (F s a b)) (fun s => F s 0 0 ≠ TT) (rcC σ0) (rlC σ0) (rsC σ0)
def LBC (σ0 : Mem) (L : Nat) (wd : Nat → Nat) (F : Nat → Nat → Nat → Nat) : Nat → Nat → Nat → Prop := LB wd L (fun s a b => asis (F s a b)) (fun s => F s 0 0 ≠ TT) (rcC σ0) (rlC σ0) (rsC σ0)
noncomputable def rvC (σ0 : Mem) (L : Nat) (wd : Nat → Nat) (F : Nat → Nat → Nat → Nat) (g : Nat → Nat → Nat) (n r p : Nat) : Nat := rvR wd L (fun s a b => asis (F s a b)) (fun s => F s 0 0 ≠ TT) g (rsC σ0 n r) (rlC σ0 n r) p
theorem sweep19 {σ0 : Mem} {w L n p N : Nat} {wd : Nat → Nat} {F : Nat → Nat → Nat → Nat} (hN : 20 ≤ N) (K : RC σ0 w L wd F) (hn : n < 6) (hp : p ≤ L) : ∀ (m r fuel : Nat) (σ : Mem) (g : Nat → Nat → Nat) (x : Int), r + m = rcC σ0 n → m < fuel → off31 σ0 σ → FA σ L g → (∀ m c, g m c ≤ L + 1) → SB (LBC σ0 L wd F) L g →
    ∃ (τ : Mem) (v : Nat) (y : Int), f_X6_sweep_L19 N (p : Int) (n : Int) ((n * 7 + p : Nat) : Int) fuel x (r : Int) σ = some (y, τ) ∧ off31 σ0 τ ∧ FA τ L (ug g n p v) ∧ v ≤ L + 1 ∧ SB (LBC σ0 L wd F) L (ug g n p v) ∧ g n p ≤ v ∧
      (∀ q, r ≤ q → q < rcC σ0 n → rvC σ0 L wd F g n q p ≤ v) ∧ (v = g n p ∨ ∃ q, r ≤ q ∧ q < rcC σ0 n ∧ v = rvC σ0 L wd F g n q p) ∧ (y = 1 ∨ (y = x ∧ v = g n p)) := by
  obtain ⟨hw, hW, hC, hK⟩ := K
  have hL := hK.1
  have hrc := rcC_le hw hn
  intro m
  induction m with
  | zero =>
    intro r fuel σ g x hr hf h31 hF hg hS
    obtain ⟨f, rfl⟩ : ∃ f, fuel = f + 1 := ⟨fuel - 1, by omega⟩
    have hcnt := countOf_v (off31_wf h31 hw) hn
    rw [EqG_rc (off31_G h31)] at hcnt
    refine ⟨σ, g n p, x, ?_, h31, by rw [ug_same rfl]; exact hF, hg n p, by rw [ug_same rfl]; exact hS, Nat.le_refl _, fun q h1 h2 => by omega, Or.inl rfl, Or.inr ⟨rfl, rfl⟩⟩
    rw [f_X6_sweep_L19, bV_ok hcnt, ifle_t (by omega) (by omega) (by omega)]
  | succ m ih =>
    intro r fuel σ g x hr hf h31 hF hg hS
    obtain ⟨f, rfl⟩ : ∃ f, fuel = f + 1 := ⟨fuel - 1, by omega⟩
    have hw2 := off31_wf h31 hw
    have hcnt := countOf_v hw2 hn
    have hsl := slotOf_v hw2 hn (r := r) (by omega)
    rw [EqG_rc (off31_G h31)] at hcnt
    rw [EqG_sl (off31_G h31)] at hsl
    have hrule := farOfRule_m (N := N) hN (off31_WC h31 hW) (off31_HC h31 hC) (off31_RM (r := r) h31 hw hn) hF hg hp
    have hv := rvR_rng (wd := wd) (R := fun s a b => asis (F s a b)) (cm := fun s => F s 0 0 ≠ TT) (sg := rsC σ0 n r) (len := rlC σ0 n r) hp hg
    have e31 := hF n p hn hp
    have hgn := hg n p
    have evC : rvR wd L (fun s a b => asis (F s a b)) (fun s => F s 0 0 ≠ TT) g (rsC σ0 n r) (rlC σ0 n r) p = rvC σ0 L wd F g n r p := rfl
    rw [evC] at hrule hv
    generalize hvr : rvC σ0 L wd F g n r p = v at hrule hv evC
    by_cases q : v ≤ g n p
    · obtain ⟨τ, u, y, t1, t2, t3, t4, t5, t6, t7, t8, t9⟩ := ih (r + 1) f σ g x (by omega) (by omega) h31 hF hg hS
      refine ⟨τ, u, y, ?_, t2, t3, t4, t5, t6, fun q2 h1 h2 => ?_, ?_, t9⟩
      · rw [f_X6_sweep_L19, bV_ok hcnt, ifle_f (by omega) (by omega) (by omega), bV_ok hsl, bV_ok hrule, ifl_f (by omega) (by omega) (by omega), ifle_f (by omega) (by omega) (by omega), gd_pos ⟨by omega, by omega⟩, Int.toNat_natCast, e31, ifle_t (by omega) (by omega) (by omega), bL1_s, nm_s]
        exact t1
      · by_cases e : q2 = r
        · rw [e, hvr]; omega
        · exact t7 q2 (by omega) h2
      · rcases t8 with z | ⟨q2, z1, z2, z3⟩
        · exact Or.inl z
        · exact Or.inr ⟨q2, by omega, z2, z3⟩
    · have hS2 : SB (LBC σ0 L wd F) L (ug g n p v) := fun m c x2 hm h1 h2 h3 => by
        by_cases e : m = n ∧ c = p
        · rw [e.1, e.2] at h3 ⊢
          rw [ug_at] at h3
          exact rule_sound hK hS hn (by omega : r < rcC σ0 n) (by omega) h2 (by rw [evC]; exact h3)
        · have e2 : ug g n p v m c = g m c := if_neg e
          rw [e2] at h3
          exact hS m c x2 hm h1 h2 h3
      obtain ⟨τ, u, y, t1, t2, t3, t4, t5, t6, t7, t8, t9⟩ := ih (r + 1) f (st σ 31 (n * 7 + p) ((v : Int) - 1)) (ug g n p v) 1 (by omega) (by omega) (fun k hk => by rw [st_other σ _ hk]; exact h31 k hk) (FA_st hL hp hF) (ug_rng hg hv) hS2
      rw [ug_ug] at t3 t5
      rw [ug_at] at t6 t8 t9
      have hup : ∀ q2, rvC σ0 L wd F (ug g n p v) n q2 p ≤ max (rvC σ0 L wd F g n q2 p) v := fun q2 => rvR_up
      have hmo : ∀ q2, rvC σ0 L wd F g n q2 p ≤ rvC σ0 L wd F (ug g n p v) n q2 p := fun q2 => rvR_mono hp (fun m c _ => ug_le (by omega) m c)
      refine ⟨τ, u, y, ?_, t2, t3, t4, t5, by omega, fun q2 h1 h2 => ?_, ?_, ?_⟩
      · rw [f_X6_sweep_L19, bV_ok hcnt, ifle_f (by omega) (by omega) (by omega), bV_ok hsl, bV_ok hrule, ifl_f (by omega) (by omega) (by omega), ifle_f (by omega) (by omega) (by omega), gd_pos ⟨by omega, by omega⟩, Int.toNat_natCast, e31, ifle_f (by omega) (by omega) (by omega), nm_s, bL1_s, nm_s]
        exact t1
      · by_cases e : q2 = r
        · rw [e, hvr]; exact t6
        · exact Nat.le_trans (hmo q2) (t7 q2 (by omega) h2)
      · right
        rcases t8 with z | ⟨q2, z1, z2, z3⟩
        · exact ⟨r, Nat.le_refl _, by omega, by rw [hvr]; exact z⟩
        · by_cases e : rvC σ0 L wd F g n q2 p ≤ v
          · exact ⟨r, Nat.le_refl _, by omega, by rw [hvr]; have := hup q2; omega⟩
          · exact ⟨q2, by omega, z2, by have := hup q2; have := hmo q2; omega⟩
      · rcases t9 with z | z
        · exact Or.inl z
        · exact Or.inl z.1
