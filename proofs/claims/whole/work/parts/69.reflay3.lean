/-! layer 2, the reference's layMends: a round, and all rounds -/
theorem lay66 {L dr pu ch n i N : Nat} {wd : Nat → Nat} {rc : Nat → Nat} {rl : Nat → Nat → Nat} {rs : Nat → Nat → Nat → Nat} (hN : 40 ≤ N) (hn : n < 6) : ∀ (m j fuel : Nat) (σ : Mem) (Y : Nat → Nat → Nat → Nat) (x : Int), j + m = L + 1 → m < fuel → (x = 0 ∨ x = 1) → LM σ L dr pu ch wd rc rl rs Y → i ≤ j →
    ∃ (x2 : Int) (τ : Mem) (Z : Nat → Nat → Nat → Nat), f_X12_layMends_L66 N (n : Int) (i : Int) fuel x (j : Int) σ = some (x2, τ) ∧ OU L dr pu ch wd rc rl rs σ Y x τ Z x2 (fun Y => ∀ c q, j ≤ c → c ≤ L → q < rc n → Y n i c ≤ rulev dr (onev (ltV wd dr pu ch) Y) (rl n q) (rs n q) i c) := by
  intro m
  induction m with
  | zero =>
    intro j fuel σ Y x hm hf hx h hij
    obtain ⟨k, rfl⟩ : ∃ k, fuel = k + 1 := ⟨fuel - 1, by omega⟩
    have hL := h.1.1
    have h12 := h.1.2.1
    refine ⟨x, σ, Y, ?_, OU_rfl h hx (fun c q h1 h2 => by omega)⟩
    rw [f_X12_layMends_L66, h12, ifl_t (by omega) (by omega) (by omega)]
  | succ m ih =>
    intro j fuel σ Y x hm hf hx h hij
    obtain ⟨k, rfl⟩ : ∃ k, fuel = k + 1 := ⟨fuel - 1, by omega⟩
    have hL := h.1.1
    have h12 := h.1.2.1
    obtain ⟨y, τ, Z, t1, t2⟩ := lay78 (N := N) hN hn hij (by omega : j ≤ L) (rc n) 0 N σ Y x (by omega) (by have := (h.2.2.2.1.1 n hn).2; omega) hx h
    rw [show ((0 : Nat) : Int) = 0 from rfl] at t1
    obtain ⟨x2, ω, W, v1, v2⟩ := ih (j + 1) k τ Z y (by omega) (by omega) (OU_x t2) t2.2.1 (by omega)
    refine ⟨x2, ω, W, ?_, OU_trans t2 v2 (fun p1 p2 c q h1 h2 h3 => by
      by_cases z : c = j
      · rw [z]; exact p1 q (Nat.zero_le _) h3
      · exact p2 c q (by omega) h2 h3)⟩
    rw [f_X12_layMends_L66, h12, ifl_f (by omega) (by omega) (by omega), bL1_ok t1, nm_s]
    exact v1
theorem lay55 {L dr pu ch n N : Nat} {wd : Nat → Nat} {rc : Nat → Nat} {rl : Nat → Nat → Nat} {rs : Nat → Nat → Nat → Nat} (hN : 40 ≤ N) (hn : n < 6) : ∀ (m i fuel : Nat) (σ : Mem) (Y : Nat → Nat → Nat → Nat) (x : Int), i + m = L + 1 → m < fuel → (x = 0 ∨ x = 1) → LM σ L dr pu ch wd rc rl rs Y →
    ∃ (x2 : Int) (τ : Mem) (Z : Nat → Nat → Nat → Nat), f_X12_layMends_L55 N (n : Int) fuel x (i : Int) σ = some (x2, τ) ∧ OU L dr pu ch wd rc rl rs σ Y x τ Z x2 (fun Y => ∀ a c q, i ≤ a → a ≤ c → c ≤ L → q < rc n → Y n a c ≤ rulev dr (onev (ltV wd dr pu ch) Y) (rl n q) (rs n q) a c) := by
  intro m
  induction m with
  | zero =>
    intro i fuel σ Y x hm hf hx h
    obtain ⟨k, rfl⟩ : ∃ k, fuel = k + 1 := ⟨fuel - 1, by omega⟩
    have hL := h.1.1
    have h12 := h.1.2.1
    refine ⟨x, σ, Y, ?_, OU_rfl h hx (fun a c q h1 h2 h3 => by omega)⟩
    rw [f_X12_layMends_L55, h12, ifl_t (by omega) (by omega) (by omega)]
  | succ m ih =>
    intro i fuel σ Y x hm hf hx h
    obtain ⟨k, rfl⟩ : ∃ k, fuel = k + 1 := ⟨fuel - 1, by omega⟩
    have hL := h.1.1
    have h12 := h.1.2.1
    obtain ⟨y, τ, Z, t1, t2⟩ := lay66 (i := i) hN hn (L + 1 - i) i N σ Y x (by omega) (by omega) hx h (Nat.le_refl _)
    obtain ⟨x2, ω, W, v1, v2⟩ := ih (i + 1) k τ Z y (by omega) (by omega) (OU_x t2) t2.2.1
    refine ⟨x2, ω, W, ?_, OU_trans t2 v2 (fun p1 p2 a c q h1 h2 h3 h4 => by
      by_cases z : a = i
      · rw [z] at h2 ⊢; exact p1 c q h2 h3 h4
      · exact p2 a c q (by omega) h2 h3 h4)⟩
    rw [f_X12_layMends_L55, h12, ifl_f (by omega) (by omega) (by omega), bL1_ok t1, nm_s]
    exact v1
theorem lay47 {L dr pu ch N : Nat} {wd : Nat → Nat} {rc : Nat → Nat} {rl : Nat → Nat → Nat} {rs : Nat → Nat → Nat → Nat} (hN : 40 ≤ N) : ∀ (m n fuel : Nat) (σ : Mem) (Y : Nat → Nat → Nat → Nat) (x : Int), n + m = 6 → m < fuel → (x = 0 ∨ x = 1) → LM σ L dr pu ch wd rc rl rs Y →
    ∃ (x2 : Int) (τ : Mem) (Z : Nat → Nat → Nat → Nat), f_X12_layMends_L47 N fuel x (n : Int) σ = some (x2, τ) ∧ OU L dr pu ch wd rc rl rs σ Y x τ Z x2 (fun Y => ∀ e a c q, n ≤ e → e < 6 → a ≤ c → c ≤ L → q < rc e → Y e a c ≤ rulev dr (onev (ltV wd dr pu ch) Y) (rl e q) (rs e q) a c) := by
  intro m
  induction m with
  | zero =>
    intro n fuel σ Y x hm hf hx h
    obtain ⟨k, rfl⟩ : ∃ k, fuel = k + 1 := ⟨fuel - 1, by omega⟩
    have hL := h.1.1
    have h12 := h.1.2.1
    refine ⟨x, σ, Y, ?_, OU_rfl h hx (fun e a c q h1 h2 => by omega)⟩
    rw [f_X12_layMends_L47, ifle_t (by omega) (by omega) (by omega)]
  | succ m ih =>
    intro n fuel σ Y x hm hf hx h
    obtain ⟨k, rfl⟩ : ∃ k, fuel = k + 1 := ⟨fuel - 1, by omega⟩
    have hL := h.1.1
    have h12 := h.1.2.1
    obtain ⟨y, τ, Z, t1, t2⟩ := lay55 (n := n) hN (by omega) (L + 1) 0 N σ Y x (by omega) (by omega) hx h
    rw [show ((0 : Nat) : Int) = 0 from rfl] at t1
    obtain ⟨x2, ω, W, v1, v2⟩ := ih (n + 1) k τ Z y (by omega) (by omega) (OU_x t2) t2.2.1
    refine ⟨x2, ω, W, ?_, OU_trans t2 v2 (fun p1 p2 e a c q h1 h2 h3 h4 h5 => by
      by_cases z : e = n
      · rw [z] at h5 ⊢; exact p1 a c q (Nat.zero_le _) h3 h4 h5
      · exact p2 e a c q (by omega) h2 h3 h4 h5)⟩
    rw [f_X12_layMends_L47, ifle_f (by omega) (by omega) (by omega), bL1_ok t1, nm_s]
    exact v1
theorem lay39 {L dr pu ch N : Nat} {wd : Nat → Nat} {rc : Nat → Nat} {rl : Nat → Nat → Nat} {rs : Nat → Nat → Nat → Nat} (hN : 40 ≤ N) : ∀ (m fuel : Nat) (σ : Mem) (Y : Nat → Nat → Nat → Nat), mu Y 294 ≤ m → m + 1 < fuel → LM σ L dr pu ch wd rc rl rs Y →
    ∃ (τ : Mem) (Z : Nat → Nat → Nat → Nat), f_X12_layMends_L39 N fuel 1 σ = some τ ∧ eqB σ τ ∧ LM τ L dr pu ch wd rc rl rs Z ∧ leastT dr L (ltV wd dr pu ch) rc rl rs Z := by
  intro m
  induction m with
  | zero =>
    intro fuel σ Y hm hf h
    obtain ⟨k, rfl⟩ : ∃ k, fuel = k + 2 := ⟨fuel - 2, by omega⟩
    obtain ⟨y, τ, Z, t1, t2, t3, t4, t5⟩ := lay47 (N := N) hN 6 0 N σ Y 0 (by omega) (by omega) (Or.inl rfl) h
    have t1' : f_X12_layMends_L47 N N 0 0 σ = some (y, τ) := t1
    rcases t5 with ⟨c1, c2⟩ | ⟨c1, c2, c3, c4⟩
    · rcases c2 with c2 | c2
      · omega
      · omega
    · refine ⟨τ, Z, ?_, t2, t3, t3.2.2.1, fun n r a c hn hr hac hc => ?_, t3.2.2.2.2⟩
      · rw [f_X12_layMends_L39, if_neg (by decide), bL1_ok t1', c1, f_X12_layMends_L39, if_pos rfl]
      · rw [c3]; exact c4 n a c r (Nat.zero_le _) hn hac hc hr
  | succ m ih =>
    intro fuel σ Y hm hf h
    obtain ⟨k, rfl⟩ : ∃ k, fuel = k + 2 := ⟨fuel - 2, by omega⟩
    obtain ⟨y, τ, Z, t1, t2, t3, t4, t5⟩ := lay47 (N := N) hN 6 0 N σ Y 0 (by omega) (by omega) (Or.inl rfl) h
    have t1' : f_X12_layMends_L47 N N 0 0 σ = some (y, τ) := t1
    rcases t5 with ⟨c1, c2⟩ | ⟨c1, c2, c3, c4⟩
    · have hlt : mu Z 294 < mu Y 294 := c2.resolve_left (by decide)
      obtain ⟨ω, W, v1, v2, v3, v4⟩ := ih (k + 1) τ Z (by omega) (by omega) t3
      refine ⟨ω, W, ?_, eqB_trans t2 v2, v3, v4⟩
      rw [f_X12_layMends_L39, if_neg (by decide), bL1_ok t1', c1]
      exact v1
    · refine ⟨τ, Z, ?_, t2, t3, t3.2.2.1, fun n r a c hn hr hac hc => ?_, t3.2.2.2.2⟩
      · rw [f_X12_layMends_L39, if_neg (by decide), bL1_ok t1', c1, f_X12_layMends_L39, if_pos rfl]
      · rw [c3]; exact c4 n a c r (Nat.zero_le _) hn hac hc hr
