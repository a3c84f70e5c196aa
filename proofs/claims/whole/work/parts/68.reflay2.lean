/-! layer 2, the reference's layMends: its rounds -/
def OU (L dr pu ch : Nat) (wd : Nat → Nat) (rc : Nat → Nat) (rl : Nat → Nat → Nat) (rs : Nat → Nat → Nat → Nat) (σ : Mem) (Y : Nat → Nat → Nat → Nat) (x : Int) (τ : Mem) (Z : Nat → Nat → Nat → Nat) (x2 : Int) (V : (Nat → Nat → Nat → Nat) → Prop) : Prop :=
  eqB σ τ ∧ LM τ L dr pu ch wd rc rl rs Z ∧ (∀ n a b, Z n a b ≤ Y n a b) ∧ ((x2 = 1 ∧ (x = 1 ∨ mu Z 294 < mu Y 294)) ∨ (x2 = 0 ∧ x = 0 ∧ Z = Y ∧ V Y))
theorem OU_rfl {L dr pu ch : Nat} {wd : Nat → Nat} {rc : Nat → Nat} {rl : Nat → Nat → Nat} {rs : Nat → Nat → Nat → Nat} {σ : Mem} {Y : Nat → Nat → Nat → Nat} {x : Int} {V : (Nat → Nat → Nat → Nat) → Prop} (h : LM σ L dr pu ch wd rc rl rs Y) (hx : x = 0 ∨ x = 1) (hV : V Y) : OU L dr pu ch wd rc rl rs σ Y x σ Y x V :=
  ⟨⟨fun _ _ _ => rfl, fun _ _ _ _ => rfl⟩, h, fun _ _ _ => Nat.le_refl _, hx.elim (fun e => Or.inr ⟨e, e, rfl, hV⟩) (fun e => Or.inl ⟨e, Or.inl e⟩)⟩
theorem OU_trans {L dr pu ch : Nat} {wd : Nat → Nat} {rc : Nat → Nat} {rl : Nat → Nat → Nat} {rs : Nat → Nat → Nat → Nat} {σ τ ω : Mem} {Y Z W : Nat → Nat → Nat → Nat} {x y z : Int} {V V2 V3 : (Nat → Nat → Nat → Nat) → Prop} (h : OU L dr pu ch wd rc rl rs σ Y x τ Z y V) (h2 : OU L dr pu ch wd rc rl rs τ Z y ω W z V2) (hV : V Y → V2 Y → V3 Y) : OU L dr pu ch wd rc rl rs σ Y x ω W z V3 := by
  obtain ⟨a1, a2, a3, a4⟩ := h
  obtain ⟨b1, b2, b3, b4⟩ := h2
  have m1 := mu_le a3 294
  have m2 := mu_le b3 294
  refine ⟨eqB_trans a1 b1, b2, fun n a b => Nat.le_trans (b3 n a b) (a3 n a b), ?_⟩
  rcases b4 with ⟨c1, c2⟩ | ⟨c1, c2, c3, c4⟩
  · refine Or.inl ⟨c1, ?_⟩
    rcases a4 with ⟨d1, d2⟩ | ⟨d1, d2, d3, d4⟩
    · rcases d2 with d2 | d2
      · exact Or.inl d2
      · exact Or.inr (Nat.lt_of_le_of_lt m2 d2)
    · rcases c2 with c2 | c2
      · omega
      · exact Or.inr (Nat.lt_of_lt_of_le c2 m1)
  · rcases a4 with ⟨d1, d2⟩ | ⟨d1, d2, d3, d4⟩
    · omega
    · refine Or.inr ⟨c1, d2, c3.trans d3, hV d4 ?_⟩
      rw [← d3]; exact c4
theorem OU_x {L dr pu ch : Nat} {wd : Nat → Nat} {rc : Nat → Nat} {rl : Nat → Nat → Nat} {rs : Nat → Nat → Nat → Nat} {σ τ : Mem} {Y Z : Nat → Nat → Nat → Nat} {x y : Int} {V : (Nat → Nat → Nat → Nat) → Prop} (h : OU L dr pu ch wd rc rl rs σ Y x τ Z y V) : y = 0 ∨ y = 1 := by
  rcases h.2.2.2 with ⟨c, -⟩ | ⟨c, -⟩
  · exact Or.inr c
  · exact Or.inl c
theorem lay78 {L dr pu ch n i j N : Nat} {wd : Nat → Nat} {rc : Nat → Nat} {rl : Nat → Nat → Nat} {rs : Nat → Nat → Nat → Nat} (hN : 40 ≤ N) (hn : n < 6) (hij : i ≤ j) (hj : j ≤ L) : ∀ (m r fuel : Nat) (σ : Mem) (Y : Nat → Nat → Nat → Nat) (x : Int), r + m = rc n → m < fuel → (x = 0 ∨ x = 1) → LM σ L dr pu ch wd rc rl rs Y →
    ∃ (x2 : Int) (τ : Mem) (Z : Nat → Nat → Nat → Nat), f_X12_layMends_L78 N (n : Int) (i : Int) (j : Int) fuel x (r : Int) σ = some (x2, τ) ∧ OU L dr pu ch wd rc rl rs σ Y x τ Z x2 (fun Y => ∀ q, r ≤ q → q < rc n → Y n i j ≤ rulev dr (onev (ltV wd dr pu ch) Y) (rl n q) (rs n q) i j) := by
  intro m
  induction m with
  | zero =>
    intro r fuel σ Y x hm hf hx h
    obtain ⟨k, rfl⟩ : ∃ k, fuel = k + 1 := ⟨fuel - 1, by omega⟩
    obtain ⟨e, e5⟩ := h.2.2.2.1.1 n hn
    refine ⟨x, σ, Y, ?_, OU_rfl h hx (fun q h1 h2 => by omega)⟩
    rw [f_X12_layMends_L78, gd_pos (by omega), Int.toNat_natCast, e, ifle_t (by omega) (by omega) (by omega)]
  | succ m ih =>
    intro r fuel σ Y x hm hf hx h
    obtain ⟨k, rfl⟩ : ∃ k, fuel = k + 1 := ⟨fuel - 1, by omega⟩
    obtain ⟨e, e5⟩ := h.2.2.2.1.1 n hn
    have hL := h.1.1
    obtain ⟨b, τ, t1, t2, t3, t4⟩ := LM_step hN h hn (by omega : r < rc n) hij hj
    have hO : ∃ y : Int, (y = 0 ∨ y = 1) ∧ OU L dr pu ch wd rc rl rs σ Y x τ (nx dr pu ch wd rl rs Y n r i j) y (fun Y => Y n i j ≤ rulev dr (onev (ltV wd dr pu ch) Y) (rl n r) (rs n r) i j) ∧
        (bV (if zI b = zI 0 then (if zI x = zI 0 then (some 1) else (some 0)) else (some 0)) (fun (t6 : Nat) => if t6 = 0 then (nm ((r : Int) + 1) (fun (x9 : Int) => f_X12_layMends_L78 N (n : Int) (i : Int) (j : Int) k 1 x9 τ)) else (nm ((r : Int) + 1) (fun (x10 : Int) => f_X12_layMends_L78 N (n : Int) (i : Int) (j : Int) k 0 x10 τ)))) = f_X12_layMends_L78 N (n : Int) (i : Int) (j : Int) k y ((r + 1 : Nat) : Int) τ := by
      rcases t4 with ⟨b1, b2⟩ | ⟨b1, b2, b3⟩
      · refine ⟨1, Or.inr rfl, ⟨t2, t3, nx_le, Or.inl ⟨rfl, Or.inr (mu_lt nx_le (by omega) (by omega) b2 294 (by omega))⟩⟩, ?_⟩
        rw [b1, if_neg (by decide), bV_s, if_pos rfl, nm_s]; rfl
      · rcases hx with hx | hx
        · refine ⟨0, Or.inl rfl, ⟨t2, t3, nx_le, Or.inr ⟨rfl, hx, b3, b2⟩⟩, ?_⟩
          rw [b1, hx, if_pos rfl, if_pos rfl, bV_s, if_neg (by decide), nm_s]; rfl
        · refine ⟨1, Or.inr rfl, ⟨t2, t3, nx_le, Or.inl ⟨rfl, Or.inl hx⟩⟩, ?_⟩
          rw [b1, hx, if_pos rfl, if_neg (by decide), bV_s, if_pos rfl, nm_s]; rfl
    obtain ⟨y, y1, y2, y3⟩ := hO
    obtain ⟨x2, ω, Z, v1, v2⟩ := ih (r + 1) k τ _ y (by omega) (by omega) y1 t3
    refine ⟨x2, ω, Z, ?_, OU_trans y2 v2 (fun p1 p2 q h1 h2 => ?_)⟩
    · rw [f_X12_layMends_L78, gd_pos (by omega), Int.toNat_natCast, e, ifle_f (by omega) (by omega) (by omega), bL1_ok t1, y3]
      exact v1
    · by_cases z : q = r
      · rw [z]; exact p1
      · exact p2 q (by omega) h2
