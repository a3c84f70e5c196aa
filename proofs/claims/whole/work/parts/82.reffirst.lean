/-! layer 2, the reference's first: its rounds -/
/-- how many beginnings aren't known yet -/
def cz (σ : Mem) : Nat := fb_ct (fun z => decide (σ 16 z = 0)) 294
theorem cz_lt {σ τ : Mem} {at0 : Nat} (ha : at0 < 294) (h0 : σ 16 at0 = 0) (h : ∀ z, τ 16 z = if z = at0 then 1 else σ 16 z) : cz τ < cz σ := by
  have h1 := fb_ct_upd (fun z => decide (σ 16 z = 0)) false (i := at0) (n := 294) ha
  have h2 : fb_ct (fun k => if k = at0 then false else decide (σ 16 k = 0)) 294 = cz τ := fb_ct_cong (fun k hk => by
    rw [h k]
    by_cases e : k = at0
    · rw [if_pos e, if_pos e]; rfl
    · rw [if_neg e, if_neg e])
  rw [h2] at h1
  have h3 : (fun z => decide (σ 16 z = 0)) at0 = true := decide_eq_true h0
  rw [if_pos h3, if_neg (by decide)] at h1
  show cz τ < fb_ct (fun z => decide (σ 16 z = 0)) 294
  omega
theorem cz_sub {σ τ : Mem} (h : ∀ z, z < 294 → τ 16 z = 0 → σ 16 z = 0) : cz τ ≤ cz σ := fb_ct_sub (fun k hk hz => decide_eq_true (h k hk (of_decide_eq_true hz)))
/-- the reference's beginnings, all of them true -/
def MC (σ : Mem) (L dr pu ch : Nat) (wd : Nat → Nat) (X : Nat → Nat → Nat → Nat) (rc : Nat → Nat) (rl : Nat → Nat → Nat) (rs : Nat → Nat → Nat → Nat) : Prop :=
  RF2 σ L dr pu ch wd X rc rl rs ∧ BB σ ∧ ∀ n a b, n < 6 → a ≤ b → b ≤ L → Pm σ n a b → LB wd L (rA (ltV wd dr pu ch) X) (fun s => onev (ltV wd dr pu ch) X s 0 0 ≠ TT) rc rl rs n a b
def OB (L dr pu ch : Nat) (wd : Nat → Nat) (X : Nat → Nat → Nat → Nat) (rc : Nat → Nat) (rl : Nat → Nat → Nat) (rs : Nat → Nat → Nat → Nat) (σ : Mem) (x : Int) (τ : Mem) (y : Int) (V : (Nat → Nat → Nat → Prop) → Prop) : Prop :=
  (∀ k, k ≠ 16 → k ≠ 17 → τ k = σ k) ∧ MC τ L dr pu ch wd X rc rl rs ∧ cz τ ≤ cz σ ∧ ((y = 1 ∧ (x = 1 ∨ cz τ < cz σ)) ∨ (y = 0 ∧ x = 0 ∧ Pm τ = Pm σ ∧ V (Pm σ)))
theorem OB_rfl {L dr pu ch : Nat} {wd : Nat → Nat} {X : Nat → Nat → Nat → Nat} {rc : Nat → Nat} {rl : Nat → Nat → Nat} {rs : Nat → Nat → Nat → Nat} {σ : Mem} {x : Int} {V : (Nat → Nat → Nat → Prop) → Prop} (h : MC σ L dr pu ch wd X rc rl rs) (hx : x = 0 ∨ x = 1) (hV : V (Pm σ)) : OB L dr pu ch wd X rc rl rs σ x σ x V :=
  ⟨fun _ _ _ => rfl, h, Nat.le_refl _, hx.elim (fun e => Or.inr ⟨e, e, rfl, hV⟩) (fun e => Or.inl ⟨e, Or.inl e⟩)⟩
theorem OB_trans {L dr pu ch : Nat} {wd : Nat → Nat} {X : Nat → Nat → Nat → Nat} {rc : Nat → Nat} {rl : Nat → Nat → Nat} {rs : Nat → Nat → Nat → Nat} {σ τ ω : Mem} {x y z : Int} {V V2 V3 : (Nat → Nat → Nat → Prop) → Prop} (h : OB L dr pu ch wd X rc rl rs σ x τ y V) (h2 : OB L dr pu ch wd X rc rl rs τ y ω z V2) (hV : V (Pm σ) → V2 (Pm σ) → V3 (Pm σ)) : OB L dr pu ch wd X rc rl rs σ x ω z V3 := by
  obtain ⟨a1, a2, a3, a4⟩ := h
  obtain ⟨b1, b2, b3, b4⟩ := h2
  refine ⟨fun k h1 h2 => by rw [b1 k h1 h2, a1 k h1 h2], b2, by omega, ?_⟩
  rcases b4 with ⟨c1, c2⟩ | ⟨c1, c2, c3, c4⟩
  · refine Or.inl ⟨c1, ?_⟩
    rcases a4 with ⟨d1, d2⟩ | ⟨d1, d2, d3, d4⟩
    · rcases d2 with d2 | d2
      · exact Or.inl d2
      · exact Or.inr (by omega)
    · rcases c2 with c2 | c2
      · omega
      · exact Or.inr (by omega)
  · rcases a4 with ⟨d1, d2⟩ | ⟨d1, d2, d3, d4⟩
    · omega
    · refine Or.inr ⟨c1, d2, c3.trans d3, hV d4 ?_⟩
      rw [← d3]; exact c4
theorem OB_x {L dr pu ch : Nat} {wd : Nat → Nat} {X : Nat → Nat → Nat → Nat} {rc : Nat → Nat} {rl : Nat → Nat → Nat} {rs : Nat → Nat → Nat → Nat} {σ τ : Mem} {x y : Int} {V : (Nat → Nat → Nat → Prop) → Prop} (h : OB L dr pu ch wd X rc rl rs σ x τ y V) : y = 0 ∨ y = 1 := by
  rcases h.2.2.2 with ⟨c, -⟩ | ⟨c, -⟩
  · exact Or.inr c
  · exact Or.inl c
/-- one rule tried for a part -/
def VB (L dr pu ch : Nat) (wd : Nat → Nat) (X : Nat → Nat → Nat → Nat) (rl : Nat → Nat → Nat) (rs : Nat → Nat → Nat → Nat) (n r i j : Nat) (P : Nat → Nat → Nat → Prop) : Prop :=
  BR wd L (rA (ltV wd dr pu ch) X) (fun s => onev (ltV wd dr pu ch) X s 0 0 ≠ TT) P (rs n r) (rl n r) i j → P n i j
theorem fi100 {L dr pu ch n i j N : Nat} {wd : Nat → Nat} {X : Nat → Nat → Nat → Nat} {rc : Nat → Nat} {rl : Nat → Nat → Nat} {rs : Nat → Nat → Nat → Nat} {x1 : Int} (hN : 40 ≤ N) (hn : n < 6) (hij : i ≤ j) (hj : j ≤ L) : ∀ (m r fuel : Nat) (σ : Mem) (x : Int), r + m = rc n → m < fuel → (x = 0 ∨ x = 1) → MC σ L dr pu ch wd X rc rl rs →
    ∃ (y : Int) (τ : Mem), f_X12_first_L100 N x1 (n : Int) (i : Int) (j : Int) ((49 * n + 7 * i + j : Nat) : Int) fuel x (r : Int) σ = some (y, τ) ∧ OB L dr pu ch wd X rc rl rs σ x τ y (fun P => ∀ q, r ≤ q → q < rc n → VB L dr pu ch wd X rl rs n q i j P) := by
  intro m
  induction m with
  | zero =>
    intro r fuel σ x hm hf hx h
    obtain ⟨k, rfl⟩ : ∃ k, fuel = k + 1 := ⟨fuel - 1, by omega⟩
    obtain ⟨e, e5⟩ := h.1.2.1.1 n hn
    refine ⟨x, σ, ?_, OB_rfl h hx (fun q h1 h2 => by omega)⟩
    rw [f_X12_first_L100, gd_pos (by omega), Int.toNat_natCast, e, ifle_t (by omega) (by omega) (by omega)]
  | succ m ih =>
    intro r fuel σ x hm hf hx h
    obtain ⟨k, rfl⟩ : ∃ k, fuel = k + 1 := ⟨fuel - 1, by omega⟩
    obtain ⟨e, e5⟩ := h.1.2.1.1 n hn
    have hL := h.1.1.1
    have hat : 49 * n + 7 * i + j < 294 := by omega
    rw [f_X12_first_L100, gd_pos (by omega), Int.toNat_natCast, e, ifle_f (by omega) (by omega) (by omega), gd_pos (by omega), Int.toNat_natCast]
    have er : (r : Int) + 1 = ((r + 1 : Nat) : Int) := by omega
    rcases h.2.1 _ hat with z | z
    · obtain ⟨v, τ, t1, t2, t3⟩ := beginsRule_m hN h.1 h.2.1 hn (by omega : r < rc n) hij hj
      have hv : v = 0 ∨ v = 1 := by rcases t3 with q | q <;> omega
      rw [ife_t z, bL1_ok t1, gd_pos hv, nm_s]
      have hoff : ∀ k, k ≠ 16 → k ≠ 17 → (st τ 16 (49 * n + 7 * i + j) v) k = σ k := fun k h1 h2 => by rw [st_other τ _ h1]; exact t2 k h2
      have e16 : ∀ w, (st τ 16 (49 * n + 7 * i + j) v) 16 w = if w = 49 * n + 7 * i + j then v else σ 16 w := fun w => by
        rw [st_row, t2 16 (by decide)]
      have hRF := off17_RF hoff h.1
      rcases t3 with ⟨rfl, t4⟩ | ⟨rfl, t4⟩
      · have hMC : MC (st τ 16 (49 * n + 7 * i + j) 1) L dr pu ch wd X rc rl rs := by
          refine ⟨hRF, fun w hw => ?_, fun n2 a b hn2 hab hb hP => ?_⟩
          · rw [e16 w]
            split
            · exact Or.inr rfl
            · exact h.2.1 w hw
          · by_cases q : n2 = n ∧ a = i ∧ b = j
            · obtain ⟨q1, q2, q3⟩ := q
              rw [q1, q2, q3]
              exact LB_closed h.1.2.2.2.2.1 n r i j hn (by omega) hij hj (BR_mono (fun q hq => h.1.2.2.2.2.1 n r q hn (by omega) hq) (fun n3 c hn3 hc hP3 => h.2.2 n3 c j hn3 hc hj hP3) t4)
            · have hP2 : (st τ 16 (49 * n + 7 * i + j) 1) 16 (49 * n2 + 7 * a + b) = 1 := hP
              rw [e16, if_neg (by omega)] at hP2
              exact h.2.2 n2 a b hn2 hab hb hP2
        have hO : OB L dr pu ch wd X rc rl rs σ x (st τ 16 (49 * n + 7 * i + j) 1) 1 (fun P => VB L dr pu ch wd X rl rs n r i j P) := ⟨hoff, hMC, Nat.le_of_lt (cz_lt hat z e16), Or.inl ⟨rfl, Or.inr (cz_lt hat z e16)⟩⟩
        obtain ⟨y, ω, u1, u2⟩ := ih (r + 1) k (st τ 16 (49 * n + 7 * i + j) 1) 1 (by omega) (by omega) (Or.inr rfl) hMC
        refine ⟨y, ω, ?_, OB_trans hO u2 (fun p1 p2 q h1 h2 => ?_)⟩
        · rw [e16, if_pos rfl]
          by_cases q : zI x = zI 0
          · rw [if_pos q, if_neg (by decide), bV_s, if_pos rfl, nm_s, er]
            exact u1
          · rw [if_neg q, bV_s, if_pos rfl, nm_s, er]
            exact u1
        · by_cases q1 : q = r
          · rw [q1]; exact p1
          · exact p2 q (by omega) h2
      · have e16' : (st τ 16 (49 * n + 7 * i + j) 0) 16 = σ 16 := by
          funext w
          rw [e16 w]
          split
          · next q => rw [q, z]
          · rfl
        have hPm : Pm (st τ 16 (49 * n + 7 * i + j) 0) = Pm σ := by
          funext a b c
          unfold Pm
          rw [e16']
        have hMC : MC (st τ 16 (49 * n + 7 * i + j) 0) L dr pu ch wd X rc rl rs := by
          refine ⟨hRF, fun w hw => ?_, ?_⟩
          · rw [e16']; exact h.2.1 w hw
          · rw [hPm]; exact h.2.2
        have hcz : cz (st τ 16 (49 * n + 7 * i + j) 0) = cz σ := by
          unfold cz
          rw [e16']
        have hO : OB L dr pu ch wd X rc rl rs σ x (st τ 16 (49 * n + 7 * i + j) 0) x (fun P => VB L dr pu ch wd X rl rs n r i j P) := by
          refine ⟨hoff, hMC, Nat.le_of_eq hcz, ?_⟩
          rcases hx with hx | hx
          · exact Or.inr ⟨hx, hx, hPm, fun q => absurd q t4⟩
          · exact Or.inl ⟨hx, Or.inl hx⟩
        obtain ⟨y, ω, u1, u2⟩ := ih (r + 1) k (st τ 16 (49 * n + 7 * i + j) 0) x (by omega) (by omega) hx hMC
        refine ⟨y, ω, ?_, OB_trans hO u2 (fun p1 p2 q h1 h2 => ?_)⟩
        · rw [e16, if_pos rfl]
          rcases hx with hx | hx
          · rw [hx, if_pos rfl, if_pos rfl, bV_s, if_neg (by decide), nm_s, er]
            rw [hx] at u1
            exact u1
          · rw [hx, if_neg (by decide), bV_s, if_pos rfl, nm_s, er]
            rw [hx] at u1
            exact u1
        · by_cases q1 : q = r
          · rw [q1]; exact p1
          · exact p2 q (by omega) h2
    · have c1 : zI (σ 16 (49 * n + 7 * i + j)) ≠ zI 0 := by rw [z]; decide
      refine ⟨x, σ, by rw [if_neg c1], OB_rfl h hx (fun q h1 h2 _ => z)⟩
theorem fi73 {L dr pu ch n i N : Nat} {wd : Nat → Nat} {X : Nat → Nat → Nat → Nat} {rc : Nat → Nat} {rl : Nat → Nat → Nat} {rs : Nat → Nat → Nat → Nat} {x1 : Int} (hN : 40 ≤ N) (hn : n < 6) : ∀ (m j fuel : Nat) (σ : Mem) (x : Int), j + m = L + 1 → i ≤ j → m < fuel → (x = 0 ∨ x = 1) → MC σ L dr pu ch wd X rc rl rs →
    ∃ (y : Int) (τ : Mem), f_X12_first_L73 N x1 (n : Int) (i : Int) fuel x (j : Int) σ = some (y, τ) ∧ OB L dr pu ch wd X rc rl rs σ x τ y (fun P => ∀ b q, j ≤ b → b ≤ L → q < rc n → VB L dr pu ch wd X rl rs n q i b P) := by
  intro m
  induction m with
  | zero =>
    intro j fuel σ x hm hij hf hx h
    obtain ⟨k, rfl⟩ : ∃ k, fuel = k + 1 := ⟨fuel - 1, by omega⟩
    have hL := h.1.1.1
    have h12 := h.1.1.2.1
    refine ⟨x, σ, ?_, OB_rfl h hx (fun b q h1 h2 => by omega)⟩
    rw [f_X12_first_L73, h12, ifl_t (by omega) (by omega) (by omega)]
  | succ m ih =>
    intro j fuel σ x hm hij hf hx h
    obtain ⟨k, rfl⟩ : ∃ k, fuel = k + 1 := ⟨fuel - 1, by omega⟩
    have hL := h.1.1.1
    have h12 := h.1.1.2.1
    have hrc := (h.1.2.1.1 n hn).2
    have e1 : ((49 * (n : Int)) + (7 * (i : Int))) + (j : Int) = ((49 * n + 7 * i + j : Nat) : Int) := by omega
    obtain ⟨y, τ, t1, t2⟩ := fi100 (x1 := x1) (i := i) (j := j) hN hn hij (by omega) (rc n) 0 N σ x (by omega) (by omega) hx h
    obtain ⟨y2, ω, u1, u2⟩ := ih (j + 1) k τ y (by omega) (by omega) (by omega) (OB_x t2) t2.2.1
    have t1' : f_X12_first_L100 N x1 (n : Int) (i : Int) (j : Int) ((49 * n + 7 * i + j : Nat) : Int) N x 0 σ = some (y, τ) := t1
    refine ⟨y2, ω, ?_, OB_trans t2 u2 (fun p1 p2 b q h1 h2 h3 => ?_)⟩
    · rw [f_X12_first_L73, h12, ifl_f (by omega) (by omega) (by omega), nm_s, e1, bL1_ok t1', nm_s]
      exact u1
    · by_cases z : b = j
      · rw [z]; exact p1 q (Nat.zero_le _) h3
      · exact p2 b q (by omega) h2 h3
theorem fi60 {L dr pu ch n N : Nat} {wd : Nat → Nat} {X : Nat → Nat → Nat → Nat} {rc : Nat → Nat} {rl : Nat → Nat → Nat} {rs : Nat → Nat → Nat → Nat} {x1 : Int} (hN : 40 ≤ N) (hn : n < 6) : ∀ (m i fuel : Nat) (σ : Mem) (x : Int), i + m = L + 1 → m < fuel → (x = 0 ∨ x = 1) → MC σ L dr pu ch wd X rc rl rs →
    ∃ (y : Int) (τ : Mem), f_X12_first_L60 N x1 (n : Int) fuel x (i : Int) σ = some (y, τ) ∧ OB L dr pu ch wd X rc rl rs σ x τ y (fun P => ∀ a b q, i ≤ a → a ≤ b → b ≤ L → q < rc n → VB L dr pu ch wd X rl rs n q a b P) := by
  intro m
  induction m with
  | zero =>
    intro i fuel σ x hm hf hx h
    obtain ⟨k, rfl⟩ : ∃ k, fuel = k + 1 := ⟨fuel - 1, by omega⟩
    have hL := h.1.1.1
    have h12 := h.1.1.2.1
    refine ⟨x, σ, ?_, OB_rfl h hx (fun a b q h1 h2 => by omega)⟩
    rw [f_X12_first_L60, h12, ifl_t (by omega) (by omega) (by omega)]
  | succ m ih =>
    intro i fuel σ x hm hf hx h
    obtain ⟨k, rfl⟩ : ∃ k, fuel = k + 1 := ⟨fuel - 1, by omega⟩
    have hL := h.1.1.1
    have h12 := h.1.1.2.1
    obtain ⟨y, τ, t1, t2⟩ := fi73 (x1 := x1) (i := i) hN hn (L + 1 - i) i N σ x (by omega) (Nat.le_refl _) (by omega) hx h
    obtain ⟨y2, ω, u1, u2⟩ := ih (i + 1) k τ y (by omega) (by omega) (OB_x t2) t2.2.1
    refine ⟨y2, ω, ?_, OB_trans t2 u2 (fun p1 p2 a b q h1 h2 h3 h4 => ?_)⟩
    · rw [f_X12_first_L60, h12, ifl_f (by omega) (by omega) (by omega), bL1_ok t1, nm_s]
      exact u1
    · by_cases z : a = i
      · rw [z] at h2 ⊢; exact p1 b q h2 h3 h4
      · exact p2 a b q (by omega) h2 h3 h4
theorem fi51 {L dr pu ch N : Nat} {wd : Nat → Nat} {X : Nat → Nat → Nat → Nat} {rc : Nat → Nat} {rl : Nat → Nat → Nat} {rs : Nat → Nat → Nat → Nat} {x1 : Int} (hN : 40 ≤ N) : ∀ (m n fuel : Nat) (σ : Mem) (x : Int), n + m = 6 → m < fuel → (x = 0 ∨ x = 1) → MC σ L dr pu ch wd X rc rl rs →
    ∃ (y : Int) (τ : Mem), f_X12_first_L51 N x1 fuel x (n : Int) σ = some (y, τ) ∧ OB L dr pu ch wd X rc rl rs σ x τ y (fun P => ∀ e a b q, n ≤ e → e < 6 → a ≤ b → b ≤ L → q < rc e → VB L dr pu ch wd X rl rs e q a b P) := by
  intro m
  induction m with
  | zero =>
    intro n fuel σ x hm hf hx h
    obtain ⟨k, rfl⟩ : ∃ k, fuel = k + 1 := ⟨fuel - 1, by omega⟩
    refine ⟨x, σ, ?_, OB_rfl h hx (fun e a b q h1 h2 => by omega)⟩
    rw [f_X12_first_L51, ifle_t (by omega) (by omega) (by omega)]
  | succ m ih =>
    intro n fuel σ x hm hf hx h
    obtain ⟨k, rfl⟩ : ∃ k, fuel = k + 1 := ⟨fuel - 1, by omega⟩
    have hL := h.1.1.1
    obtain ⟨y, τ, t1, t2⟩ := fi60 (x1 := x1) (n := n) hN (by omega) (L + 1) 0 N σ x (by omega) (by omega) hx h
    obtain ⟨y2, ω, u1, u2⟩ := ih (n + 1) k τ y (by omega) (by omega) (OB_x t2) t2.2.1
    have t1' : f_X12_first_L60 N x1 (n : Int) N x 0 σ = some (y, τ) := t1
    refine ⟨y2, ω, ?_, OB_trans t2 u2 (fun p1 p2 e a b q h1 h2 h3 h4 h5 => ?_)⟩
    · rw [f_X12_first_L51, ifle_f (by omega) (by omega) (by omega), bL1_ok t1', nm_s]
      exact u1
    · by_cases z : e = n
      · rw [z] at h5 ⊢; exact p1 a b q (Nat.zero_le _) h3 h4 h5
      · exact p2 e a b q (by omega) h2 h3 h4 h5
theorem fi43 {L dr pu ch N : Nat} {wd : Nat → Nat} {X : Nat → Nat → Nat → Nat} {rc : Nat → Nat} {rl : Nat → Nat → Nat} {rs : Nat → Nat → Nat → Nat} {x1 : Int} (hN : 40 ≤ N) : ∀ (m fuel : Nat) (σ : Mem), cz σ ≤ m → m + 1 < fuel → MC σ L dr pu ch wd X rc rl rs →
    ∃ τ, f_X12_first_L43 N x1 fuel 1 σ = some τ ∧ (∀ k, k ≠ 16 → k ≠ 17 → τ k = σ k) ∧ MC τ L dr pu ch wd X rc rl rs ∧ ∀ e a b q, e < 6 → a ≤ b → b ≤ L → q < rc e → VB L dr pu ch wd X rl rs e q a b (Pm τ) := by
  intro m
  induction m with
  | zero =>
    intro fuel σ hm hf h
    obtain ⟨k, rfl⟩ : ∃ k, fuel = k + 2 := ⟨fuel - 2, by omega⟩
    obtain ⟨y, τ, t1, t2, t3, t4, t5⟩ := fi51 (N := N) (x1 := x1) hN 6 0 N σ 0 (by omega) (by omega) (Or.inl rfl) h
    have t1' : f_X12_first_L51 N x1 N 0 0 σ = some (y, τ) := t1
    rcases t5 with ⟨c1, c2⟩ | ⟨c1, c2, c3, c4⟩
    · rcases c2 with c2 | c2
      · omega
      · omega
    · refine ⟨τ, ?_, t2, t3, fun e a b q h1 h2 h3 h4 => ?_⟩
      · rw [f_X12_first_L43, if_neg (by decide), bL1_ok t1', c1, f_X12_first_L43, if_pos rfl]
      · rw [c3]; exact c4 e a b q (Nat.zero_le _) h1 h2 h3 h4
  | succ m ih =>
    intro fuel σ hm hf h
    obtain ⟨k, rfl⟩ : ∃ k, fuel = k + 2 := ⟨fuel - 2, by omega⟩
    obtain ⟨y, τ, t1, t2, t3, t4, t5⟩ := fi51 (N := N) (x1 := x1) hN 6 0 N σ 0 (by omega) (by omega) (Or.inl rfl) h
    have t1' : f_X12_first_L51 N x1 N 0 0 σ = some (y, τ) := t1
    rcases t5 with ⟨c1, c2⟩ | ⟨c1, c2, c3, c4⟩
    · have hlt : cz τ < cz σ := c2.resolve_left (by decide)
      obtain ⟨ω, v1, v2, v3⟩ := ih (k + 1) τ (by omega) (by omega) t3
      refine ⟨ω, ?_, fun k2 h1 h2 => by rw [v2 k2 h1 h2, t2 k2 h1 h2], v3⟩
      rw [f_X12_first_L43, if_neg (by decide), bL1_ok t1', c1]
      exact v1
    · refine ⟨τ, ?_, t2, t3, fun e a b q h1 h2 h3 h4 => ?_⟩
      · rw [f_X12_first_L43, if_neg (by decide), bL1_ok t1', c1, f_X12_first_L43, if_pos rfl]
      · rw [c3]; exact c4 e a b q (Nat.zero_le _) h1 h2 h3 h4
theorem fi21 {N : Nat} {x1 : Int} : ∀ (m y fuel : Nat) (σ : Mem), y + m = 294 → m < fuel → (∀ z, z < y → σ 16 z = 0) →
    ∃ τ, f_X12_first_L21 N x1 fuel (y : Int) σ = some τ ∧ (∀ k, k ≠ 16 → τ k = σ k) ∧ ∀ z, z < 294 → τ 16 z = 0 := by
  intro m
  induction m with
  | zero =>
    intro y fuel σ hb hf h
    obtain ⟨k, rfl⟩ : ∃ k, fuel = k + 1 := ⟨fuel - 1, by omega⟩
    refine ⟨σ, ?_, fun _ _ => rfl, fun z hz => h z (by omega)⟩
    rw [f_X12_first_L21, ifle_t (by omega) (by omega) (by omega)]
  | succ m ih =>
    intro y fuel σ hb hf h
    obtain ⟨k, rfl⟩ : ∃ k, fuel = k + 1 := ⟨fuel - 1, by omega⟩
    obtain ⟨τ, t1, t2, t3⟩ := ih (y + 1) k (st σ 16 y 0) (by omega) (by omega) (fun z hz => by
      by_cases e : z = y
      · rw [e, st_eq]
      · rw [st_ne _ _ e]; exact h z (by omega))
    refine ⟨τ, ?_, fun q hq => by rw [t2 q hq]; exact st_other σ _ hq, t3⟩
    rw [f_X12_first_L21, ifle_f (by omega) (by omega) (by omega), gd_pos (by omega), Int.toNat_natCast, nm_s, nm_s]
    exact t1
/-- the search for the least number that isn't known -/
theorem fi188 {σ : Mem} {L n N : Nat} {P : Nat → Prop} (hL : L ≤ 6) (hn : n < 6) (h6 : σ 0 6 = (L : Int)) (hP : ∀ x, x ≤ L → (σ 16 (49 * n + x) = 1 ∧ P x) ∨ (σ 16 (49 * n + x) = 0 ∧ ¬ P x)) : ∀ (m x fuel : Nat), x + m = L + 1 → m < fuel → (∀ y, y < x → P y) →
    ∃ (t : Nat) (v : Int), f_X12_first_L188 N (n : Int) σ fuel (x : Int) = some (t, v) ∧ ((t = 0 ∧ ∃ k : Nat, v = (k : Int) ∧ k ≤ L ∧ ¬ P k ∧ ∀ y, y < k → P y) ∨ (t = 1 ∧ ∀ y, y ≤ L → P y)) := by
  intro m
  induction m with
  | zero =>
    intro x fuel hm hf h
    obtain ⟨k, rfl⟩ : ∃ k, fuel = k + 1 := ⟨fuel - 1, by omega⟩
    refine ⟨1, 0, ?_, Or.inr ⟨rfl, fun y hy => h y (by omega)⟩⟩
    rw [f_X12_first_L188, h6, ifl_t (by omega) (by omega) (by omega)]
  | succ m ih =>
    intro x fuel hm hf h
    obtain ⟨k, rfl⟩ : ∃ k, fuel = k + 1 := ⟨fuel - 1, by omega⟩
    have e1 : (49 * (n : Int)) + (x : Int) = ((49 * n + x : Nat) : Int) := by omega
    rw [f_X12_first_L188, h6, ifl_f (by omega) (by omega) (by omega), e1, gd_pos (by omega), Int.toNat_natCast]
    rcases hP x (by omega) with ⟨z1, z2⟩ | ⟨z1, z2⟩
    · obtain ⟨t, v, t1, t2⟩ := ih (x + 1) k (by omega) (by omega) (fun y hy => by
        by_cases e : y = x
        · rw [e]; exact z2
        · exact h y (by omega))
      refine ⟨t, v, ?_, t2⟩
      have c1 : zI (σ 16 (49 * n + x)) ≠ zI 0 := by rw [z1]; decide
      rw [if_neg c1, nm_s]
      exact t1
    · exact ⟨0, (x : Int), by rw [ife_t z1], Or.inl ⟨rfl, x, rfl, by omega, z2, h⟩⟩
/-- the reference's first behind its table: the beginnings are those of the least table of beginnings -/
theorem firstRest_m {σ : Mem} {L dr pu ch n N : Nat} {wd : Nat → Nat} {X : Nat → Nat → Nat → Nat} {rc : Nat → Nat} {rl : Nat → Nat → Nat} {rs : Nat → Nat → Nat → Nat} (hN : 400 ≤ N) (hn : n < 6) (hR : RF2 σ L dr pu ch wd X rc rl rs) (h6 : σ 0 6 = (L : Int)) :
    ∃ (σ8 σ9 : Mem) (t : Nat) (v : Int), f_X12_first_L21 N (n : Int) N 0 σ = some σ8 ∧ f_X12_first_L43 N (n : Int) N 1 σ8 = some σ9 ∧ (∀ k, k ≠ 16 → k ≠ 17 → σ9 k = σ k) ∧ f_X12_first_L188 N (n : Int) σ9 N 0 = some (t, v) ∧
      ((t = 0 ∧ ∃ k : Nat, v = (k : Int) ∧ k ≤ L ∧ ¬ LB wd L (rA (ltV wd dr pu ch) X) (fun s => onev (ltV wd dr pu ch) X s 0 0 ≠ TT) rc rl rs n 0 k ∧ ∀ y, y < k → LB wd L (rA (ltV wd dr pu ch) X) (fun s => onev (ltV wd dr pu ch) X s 0 0 ≠ TT) rc rl rs n 0 y) ∨
       (t = 1 ∧ ∀ y, y ≤ L → LB wd L (rA (ltV wd dr pu ch) X) (fun s => onev (ltV wd dr pu ch) X s 0 0 ≠ TT) rc rl rs n 0 y)) := by
  have hL := hR.1.1
  obtain ⟨σ8, a1, a2, a3⟩ := fi21 (N := N) (x1 := (n : Int)) 294 0 N σ rfl (by omega) (fun z hz => absurd hz (Nat.not_lt_zero _))
  have hM : MC σ8 L dr pu ch wd X rc rl rs := by
    refine ⟨off17_RF (fun k h1 h2 => a2 k h1) hR, fun z hz => Or.inl (a3 z hz), fun m a b hm hab hb hP => ?_⟩
    have hP2 : σ8 16 (49 * m + 7 * a + b) = 1 := hP
    rw [a3 _ (by omega)] at hP2
    exact absurd hP2 (by decide)
  have hcz : cz σ8 ≤ 294 := fb_ct_le _ 294
  obtain ⟨σ9, b1, b2, b3, b4⟩ := fi43 (N := N) (x1 := (n : Int)) (by omega) (cz σ8) N σ8 (Nat.le_refl _) (by omega) hM
  have hP : ∀ x, x ≤ L → (σ9 16 (49 * n + x) = 1 ∧ LB wd L (rA (ltV wd dr pu ch) X) (fun s => onev (ltV wd dr pu ch) X s 0 0 ≠ TT) rc rl rs n 0 x) ∨ (σ9 16 (49 * n + x) = 0 ∧ ¬ LB wd L (rA (ltV wd dr pu ch) X) (fun s => onev (ltV wd dr pu ch) X s 0 0 ≠ TT) rc rl rs n 0 x) := fun x hx => by
    rcases b3.2.1 (49 * n + x) (by omega) with z | z
    · refine Or.inr ⟨z, fun hl => ?_⟩
      have h1 : Pm σ9 n 0 x := hl (Pm σ9) (fun m r i j hm hr hij hj hb => b4 m i j r hm hij hj hr hb)
      have h2 : σ9 16 (49 * n + 7 * 0 + x) = 1 := h1
      rw [show 49 * n + 7 * 0 + x = 49 * n + x by omega, z] at h2
      exact absurd h2 (by decide)
    · refine Or.inl ⟨z, b3.2.2 n 0 x hn (Nat.zero_le _) hx ?_⟩
      show σ9 16 (49 * n + 7 * 0 + x) = 1
      rw [show 49 * n + 7 * 0 + x = 49 * n + x by omega]
      exact z
  have h69 : σ9 0 6 = (L : Int) := by rw [b2 0 (by decide) (by decide), a2 0 (by decide)]; exact h6
  obtain ⟨t, v, c1, c2⟩ := fi188 (N := N) hL hn h69 hP (L + 1) 0 N (by omega) (by omega) (fun y hy => absurd hy (Nat.not_lt_zero y))
  exact ⟨σ8, σ9, t, v, a1, b1, fun k h1 h2 => by rw [b2 k h1 h2, a2 k h1], c1, c2⟩
