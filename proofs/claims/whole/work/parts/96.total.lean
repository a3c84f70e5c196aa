/-! layer 2, total -/
/-- what the sum of the examples' mends hangs on, in the class -/
def TC (σ : Mem) (A : AS) (rc : Nat → Nat) (rl : Nat → Nat → Nat) (rs : Nat → Nat → Nat → Nat) : Prop :=
  wfM σ ∧ CS σ (aD A) (aU A) (aH A) ∧ aE A ≤ 3 ∧ σ 25 2 = (aE A : Int) ∧ (∀ i, i < 3 → σ 26 i = ((17 + 2 * i : Nat) : Int)) ∧ (∀ i, i < aE A → WD σ (17 + 2 * i) (aEL A i) (aEW A i)) ∧ aS A < 6 ∧ σ 3 4 = (aS A : Int) ∧ sameG (rcC σ) rc (rlC σ) rl (rsC σ) rs
def off2729 (σ τ : Mem) : Prop := ∀ k, k ≠ 27 → k ≠ 28 → k ≠ 29 → τ k = σ k
theorem TC_off {σ σ2 : Mem} {A : AS} {rc : Nat → Nat} {rl : Nat → Nat → Nat} {rs : Nat → Nat → Nat → Nat} (h : TC σ A rc rl rs) (ho : off2729 σ σ2) : TC σ2 A rc rl rs := by
  obtain ⟨h1, h2, h3, h4, h5, h6, h7, h8, h9⟩ := h
  have e : ∀ k, k < 27 → σ2 k = σ k := fun k hk => ho k (by omega) (by omega) (by omega)
  refine ⟨wfM_eq h1 (e 3 (by decide)) (e 4 (by decide)) (e 5 (by decide)) (e 6 (by decide)) (e 12 (by decide)), CS_eq h2 (e 12 (by decide)), h3, by rw [e 25 (by decide)]; exact h4, by rw [e 26 (by decide)]; exact h5, fun i hi => WD_eq (h6 i hi) (e _ (by omega)) (e _ (by omega)), h7, by rw [e 3 (by decide)]; exact h8, ?_⟩
  rw [rcC_eq (e 3 (by decide)) (e 4 (by decide)), rlC_eq (e 4 (by decide)) (e 5 (by decide)), rsC_eq (e 4 (by decide)) (e 6 (by decide))]
  exact h9
/-- one example's fill: its least mends -/
theorem fillE_m {σ : Mem} {A : AS} {rc : Nat → Nat} {rl : Nat → Nat → Nat} {rs : Nat → Nat → Nat → Nat} {i N : Nat} (hN : 10 ≤ N) (h : TC σ A rc rl rs) (hi : i < aE A) :
    ∃ (σ2 : Mem) (X : Nat → Nat → Nat → Nat), f_X0_fill N (17 + 2 * i) σ = some σ2 ∧ off2729 σ σ2 ∧ LX A (aEL A i) (aEW A i) rc rl rs X ∧ σ2 28 ((4 + aS A) * 49 + 0 * 7 + aEL A i) = enc (X (aS A) 0 (aEL A i)) ∧ sm (X (aS A) 0 (aEL A i)) := by
  obtain ⟨h1, h2, h3, h4, h5, h6, h7, h8, h9⟩ := h
  obtain ⟨σ2, X, t1, t2, t3, t4, t5, t6⟩ := fill_m (N := N) hN h1 h2 (h6 i hi) ⟨by omega, by omega, by omega, by omega, by omega, by omega⟩
  have h5' := t5 (4 + aS A) 0 (aEL A i) (by omega) (Nat.zero_le _) (Nat.le_refl _)
  rw [onev_n] at h5'
  exact ⟨σ2, X, t1, t2, ⟨leastT_cong h9 t4, t6⟩, h5'⟩
theorem LX_uniq {A : AS} {L : Nat} {wd : Nat → Nat} {rc : Nat → Nat} {rl : Nat → Nat → Nat} {rs : Nat → Nat → Nat → Nat} {X Y : Nat → Nat → Nat → Nat} (h1 : LX A L wd rc rl rs X) (h2 : LX A L wd rc rl rs Y) : ∀ n a b, n < 6 → a ≤ b → b ≤ L → X n a b = Y n a b := leastT_uniq h1.1 h2.1
theorem sumE_cong {F G sg : Nat → Nat} : ∀ {p : Nat}, (∀ q, q < p → F (sg q) = G (sg q)) → sumE F sg p = sumE G sg p
  | 0, _ => rfl
  | p + 1, h => by
    unfold sumE
    rw [sumE_cong (fun q hq => h q (by omega)), h p (by omega)]
theorem TotP_uniq {A : AS} {rc : Nat → Nat} {rl : Nat → Nat → Nat} {rs : Nat → Nat → Nat → Nat} {t t2 : Nat} (hs : aS A < 6) (h : TotP A rc rl rs t) (h2 : TotP A rc rl rs t2) : t = t2 := by
  obtain ⟨X, x1, x2⟩ := h
  obtain ⟨Y, y1, y2⟩ := h2
  have e : ∀ i, i < aE A → X i (aS A) 0 (aEL A i) = Y i (aS A) 0 (aEL A i) := fun i hi => LX_uniq (x1 i hi) (y1 i hi) _ _ _ hs (Nat.zero_le _) (Nat.le_refl _)
  rcases x2 with ⟨a, i, ai, b⟩ | ⟨a, b⟩
  · rcases y2 with ⟨c, -⟩ | ⟨c, d⟩
    · omega
    · exact absurd (by rw [← e i ai]; exact b) (c i ai)
  · rcases y2 with ⟨c, i, ci, d⟩ | ⟨c, d⟩
    · exact absurd (by rw [e i ci]; exact d) (a i ci)
    · rw [b, d]
      exact sumE_cong (fun i hi => by rw [e i hi])
/-- a mend's cost is small -/
theorem LX_cost {A : AS} {L : Nat} {wd : Nat → Nat} {rc : Nat → Nat} {rl : Nat → Nat → Nat} {rs : Nat → Nat → Nat → Nat} {X : Nat → Nat → Nat → Nat} (hd : aD A ≤ 9) (hu : aU A ≤ 9) (hL : L ≤ 6) (h : LX A L wd rc rl rs X) {n : Nat} (hn : n < 6) (hne : X n 0 L ≠ TT) : Cv (X n 0 L) ≤ 36918 := by
  have h1 := (h.2 n 0 L hn (Nat.zero_le _) (Nat.le_refl _)).1
  have h2 : aD A * (L - 0) ≤ 9 * 6 := Nat.mul_le_mul hd (by omega)
  have h3 : aU A * 4096 ≤ 9 * 4096 := Nat.mul_le_mul_right _ hu
  rcases h1 with z | z
  · exact absurd z hne
  · omega
/-- a total is there, and it is small or tells of nothing -/
theorem tot_ex {σ : Mem} {A : AS} {rc : Nat → Nat} {rl : Nat → Nat → Nat} {rs : Nat → Nat → Nat → Nat} (h : TC σ A rc rl rs) : ∃ t, TotP A rc rl rs t := by
  have hX : ∀ i : Nat, ∃ X : Nat → Nat → Nat → Nat, i < aE A → LX A (aEL A i) (aEW A i) rc rl rs X := fun i => by
    by_cases q : i < aE A
    · obtain ⟨σ2, X, t1, t2, t3, t4⟩ := fillE_m (N := 10) (Nat.le_refl _) h q
      exact ⟨X, fun _ => t3⟩
    · exact ⟨fun _ _ _ => 0, fun z => absurd z q⟩
  obtain ⟨X, hX⟩ := Classical.axiomOfChoice hX
  by_cases q : ∃ i, i < aE A ∧ X i (aS A) 0 (aEL A i) = TT
  · exact ⟨100000000, X, hX, Or.inl ⟨rfl, q⟩⟩
  · exact ⟨_, X, hX, Or.inr ⟨fun i hi z => q ⟨i, hi, z⟩, rfl⟩⟩
theorem sumE_step {F : Nat → Nat} {p : Nat} : sumE F (fun i => i) (p + 1) = sumE F (fun i => i) p + F p := rfl
theorem sumE_up {F : Nat → Nat} {p q : Nat} (h : p ≤ q) : sumE F (fun i => i) p ≤ sumE F (fun i => i) q := by
  obtain ⟨d, rfl⟩ : ∃ d, q = p + d := ⟨q - p, by omega⟩
  clear h
  induction d with
  | zero => exact Nat.le_refl _
  | succ d ih =>
    have : sumE F (fun i => i) (p + (d + 1)) = sumE F (fun i => i) (p + d) + F (p + d) := rfl
    omega
theorem tot4 {A : AS} {rc : Nat → Nat} {rl : Nat → Nat → Nat} {rs : Nat → Nat → Nat → Nat} {N l : Nat} {X : Nat → Nat → Nat → Nat → Nat} (hN : 10 ≤ N) (hl : l ≤ 1073741824) (hX : ∀ i, i < aE A → LX A (aEL A i) (aEW A i) rc rl rs (X i)) : ∀ (m i fuel : Nat) (σ : Mem), i + m = aE A → m < fuel → TC σ A rc rl rs → (∀ j, j < i → X j (aS A) 0 (aEL A j) ≠ TT) →
    ∃ (t : Nat) (x : Int) (σ2 : Mem), f_X9_totalBelow_L4 N (l : Int) fuel ((sumE (fun i => Cv (X i (aS A) 0 (aEL A i))) (fun i => i) i : Nat) : Int) (i : Int) σ = some (t, x, σ2) ∧ off2729 σ σ2 ∧
      ((t = 0 ∧ ∃ j, j < aE A ∧ X j (aS A) 0 (aEL A j) = TT) ∨ (t = 1 ∧ ∃ p, p ≤ aE A ∧ x = ((sumE (fun i => Cv (X i (aS A) 0 (aEL A i))) (fun i => i) p : Nat) : Int) ∧ x ≤ 200000 ∧ ((l : Int) ≤ x ∨ (p = aE A ∧ ∀ j, j < aE A → X j (aS A) 0 (aEL A j) ≠ TT)))) := by
  intro m
  induction m with
  | zero =>
    intro i fuel σ hi hf h hne
    obtain ⟨f, rfl⟩ : ∃ f, fuel = f + 1 := ⟨fuel - 1, by omega⟩
    have e : i = aE A := by omega
    have h3 := h.2.2.1
    obtain ⟨-, -, -, c1, c2, c3, c4, c5, c6⟩ := h.2.1
    have hb : sumE (fun i => Cv (X i (aS A) 0 (aEL A i))) (fun i => i) i ≤ i * 36918 := sumE_big (fun q hq => LX_cost c2 c4 (h.2.2.2.2.2.1 q (by omega)).2.2.1 (hX q (by omega)) h.2.2.2.2.2.2.1 (hne q hq))
    refine ⟨1, _, σ, ?_, fun _ _ _ _ => rfl, Or.inr ⟨rfl, i, by omega, rfl, by omega, Or.inr ⟨e, fun j hj => hne j (by omega)⟩⟩⟩
    rw [f_X9_totalBelow_L4, h.2.2.2.1, ifle_t (by omega) (by omega) (by omega)]
  | succ m ih =>
    intro i fuel σ hi hf h hne
    obtain ⟨f, rfl⟩ : ∃ f, fuel = f + 1 := ⟨fuel - 1, by omega⟩
    have h3 := h.2.2.1
    obtain ⟨-, -, -, c1, c2, c3, c4, c5, c6⟩ := h.2.1
    have hb : sumE (fun i => Cv (X i (aS A) 0 (aEL A i))) (fun i => i) i ≤ i * 36918 := sumE_big (fun q hq => LX_cost c2 c4 (h.2.2.2.2.2.1 q (by omega)).2.2.1 (hX q (by omega)) h.2.2.2.2.2.2.1 (hne q hq))
    have hb2 : i * 36918 ≤ 3 * 36918 := Nat.mul_le_mul_right _ (by omega)
    rw [f_X9_totalBelow_L4, h.2.2.2.1, ifle_f (by omega) (by omega) (by omega)]
    by_cases q : l ≤ sumE (fun i => Cv (X i (aS A) 0 (aEL A i))) (fun i => i) i
    · refine ⟨1, _, σ, by rw [ifle_t (by omega) (by omega) (by omega)], fun _ _ _ _ => rfl, Or.inr ⟨rfl, i, by omega, rfl, by omega, Or.inl (by omega)⟩⟩
    · obtain ⟨σ2, Y, t1, t2, t3, t4, t5⟩ := fillE_m (N := N) (i := i) hN h (by omega)
      have hTC2 := TC_off h t2
      have hw := (isW_e (i := i) (by omega)).1
      have eY : Y (aS A) 0 (aEL A i) = X i (aS A) 0 (aEL A i) := LX_uniq t3 (hX i (by omega)) _ _ _ h.2.2.2.2.2.2.1 (Nat.zero_le _) (Nat.le_refl _)
      rw [eY] at t4 t5
      have hlen := (hTC2.2.2.2.2.2.1 i (by omega)).2.1
      have hL6 := (hTC2.2.2.2.2.2.1 i (by omega)).2.2.1
      have hs := h.2.2.2.2.2.2.1
      have hfit : f_X0_fitOf (4 + (aS A : Int)) 0 (aEL A i : Int) σ2 = some (enc (X i (aS A) 0 (aEL A i))) := by
        unfold f_X0_fitOf
        rw [bV_ok (fitAt_m ((4 + aS A) * 49 + 0 * 7 + aEL A i) (by omega) (by omega)), t4]
      have he := enc_rng t5
      rw [ifle_f (by omega) (by omega) (by omega), bV_ok (X2_at_m h3 h.2.2.2.1 h.2.2.2.2.1 (by omega)), gd_pos hw, bV_ok t1, hTC2.2.2.2.2.2.2.2.1, hlen, bV_ok hfit]
      by_cases qT : X i (aS A) 0 (aEL A i) = TT
      · refine ⟨0, 0, σ2, ?_, t2, Or.inl ⟨rfl, i, by omega, qT⟩⟩
        have eT : enc (X i (aS A) 0 (aEL A i)) = 9223372036854775807 := by rw [qT, enc_TT]
        rw [eT, if_pos ((lCmp_eq (by omega) (by omega) (by omega) (by omega)).mpr rfl)]
      · have he2 := he.2.2 qT
        obtain ⟨t, x, σ3, u1, u2, u3⟩ := ih (i + 1) f σ2 (by omega) (by omega) hTC2 (fun j hj => by
          by_cases e : j = i
          · rw [e]; exact qT
          · exact hne j (by omega))
        refine ⟨t, x, σ3, ?_, fun k a b c => by rw [u2 k a b c, t2 k a b c], u3⟩
        have es : ((sumE (fun i => Cv (X i (aS A) 0 (aEL A i))) (fun i => i) i : Nat) : Int) + ((Cv (X i (aS A) 0 (aEL A i)) : Nat) : Int) = ((sumE (fun i => Cv (X i (aS A) 0 (aEL A i))) (fun i => i) (i + 1) : Nat) : Int) := by
          rw [sumE_step]; omega
        rw [if_neg (fun z => by
          have := (lCmp_eq (by omega) (by omega) (by omega) (by omega)).mp z
          omega), bV_ok (costOf_v t5 qT), nm_s, nm_s, es]
        exact u1
/-- a total as the class writes it -/
def big (t : Nat) : Nat := if t = 100000000 then 1073741824 else t
theorem totalBelow_m {σ : Mem} {A : AS} {rc : Nat → Nat} {rl : Nat → Nat → Nat} {rs : Nat → Nat → Nat → Nat} {N l t : Nat} (hN : 10 ≤ N) (hl : l ≤ 1073741824) (h : TC σ A rc rl rs) (ht : TotP A rc rl rs t) :
    ∃ σ2, f_X9_totalBelow N (l : Int) σ = some (((min (big t) l : Nat) : Int), σ2) ∧ off2729 σ σ2 := by
  obtain ⟨X, hX, ht⟩ := ht
  obtain ⟨s, x, σ2, t1, t2, t3⟩ := tot4 (N := N) hN hl hX (aE A) 0 N σ (by omega) (by have := h.2.2.1; omega) h (fun j hj => absurd hj (Nat.not_lt_zero j))
  have t1' : f_X9_totalBelow_L4 N (l : Int) N 0 0 σ = some (s, x, σ2) := t1
  refine ⟨σ2, ?_, t2⟩
  have bl : ∀ {B C D β : Type} {o : Option (B × C × D)} {g : B → C → D → Option β} {b : B} {c : C} {d : D}, o = some (b, c, d) → bL2 o g = g b c d := fun e => by rw [e]; rfl
  unfold f_X9_totalBelow
  rw [bl t1']
  have hbig : (∃ j, j < aE A ∧ X j (aS A) 0 (aEL A j) = TT) → min (big t) l = l := fun ⟨j, hj, e⟩ => by
    rcases ht with ⟨a, -⟩ | ⟨a, -⟩
    · unfold big
      rw [if_pos a]; omega
    · exact absurd e (a j hj)
  rcases t3 with ⟨e, j⟩ | ⟨e, p, p1, p2, p3, p4⟩
  · rw [e, if_pos rfl, hbig j]
  · rw [e, if_neg (by decide), iMin_z (by omega) (by omega) (by omega) (by omega)]
    congr 2
    by_cases q : ∃ j, j < aE A ∧ X j (aS A) 0 (aEL A j) = TT
    · rw [hbig q]
      rcases p4 with z | ⟨-, z⟩
      · omega
      · obtain ⟨j, j1, j2⟩ := q
        exact absurd j2 (z j j1)
    · rcases ht with ⟨-, a⟩ | ⟨-, a⟩
      · exact absurd a q
      · have hup := sumE_up (F := fun i => Cv (X i (aS A) 0 (aEL A i))) p1
        rw [← a] at hup
        have hb : big t = if t = 100000000 then 1073741824 else t := rfl
        have ht2 : t ≤ big t := by
          rw [hb]
          split <;> omega
        rcases p4 with z | ⟨z, -⟩
        · omega
        · rw [z, ← a] at p2
          have : big t = t := by
            rw [hb, if_neg (by omega)]
          omega
/-- what the sum hangs on, in the reference -/
def TR (τ : Mem) (A : AS) (rc : Nat → Nat) (rl : Nat → Nat → Nat) (rs : Nat → Nat → Nat → Nat) : Prop :=
  GR τ rc rl rs ∧ τ 8 0 = (aD A : Int) ∧ τ 8 1 = (aU A : Int) ∧ τ 8 2 = (aH A : Int) ∧ (1 ≤ aD A ∧ aD A ≤ 9 ∧ 1 ≤ aU A ∧ aU A ≤ 9 ∧ 1 ≤ aH A ∧ aH A ≤ 9) ∧ aE A ≤ 3 ∧ τ 0 8 = (aE A : Int) ∧ (∀ i, i < aE A → aEL A i ≤ 6 ∧ τ 6 i = (aEL A i : Int) ∧ ∀ k, k < aEL A i → τ 7 (6 * i + k) = (aEW A i k : Int) ∧ aEW A i k < 4) ∧ aS A < 6 ∧ τ 0 5 = (aS A : Int)
theorem TR_keep {τ τ2 : Mem} {A : AS} {rc : Nat → Nat} {rl : Nat → Nat → Nat} {rs : Nat → Nat → Nat → Nat} (h : TR τ A rc rl rs) (hk : keepR τ τ2) : TR τ2 A rc rl rs := by
  obtain ⟨h1, h2, h3, h4, h5, h6, h7, h8, h9, h10⟩ := h
  obtain ⟨k1, k2⟩ := hk
  refine ⟨GR_eq h1 (k1 2 (by decide) (by decide)) (k1 3 (by decide) (by decide)) (k1 4 (by decide) (by decide)), ?_, ?_, ?_, h5, h6, ?_, ?_, h9, ?_⟩
  · rw [k1 8 (by decide) (by decide)]; exact h2
  · rw [k1 8 (by decide) (by decide)]; exact h3
  · rw [k1 8 (by decide) (by decide)]; exact h4
  · rw [k2 8 (by decide) (by decide) (by decide) (by decide) (by decide)]; exact h7
  · rw [k1 6 (by decide) (by decide), k1 7 (by decide) (by decide)]; exact h8
  · rw [k2 5 (by decide) (by decide) (by decide) (by decide) (by decide)]; exact h10
theorem totE_m {τ : Mem} {A : AS} {rc : Nat → Nat} {rl : Nat → Nat → Nat} {rs : Nat → Nat → Nat → Nat} {N i : Nat} {X : Nat → Nat → Nat → Nat} (hN : 300 ≤ N) (hN2 : mu (fun _ _ _ => TT) 294 + 2 ≤ N) (h : TR τ A rc rl rs) (hi : i < aE A) (hX : LX A (aEL A i) (aEW A i) rc rl rs X) :
    ∃ τ1 τ2 : Mem, f_X12_take N (i : Int) τ = some τ1 ∧ f_X12_layMends N τ1 = some τ2 ∧ keepR τ τ2 ∧ τ2 0 12 = (aEL A i : Int) ∧ ∃ l t : Int, R3 (τ2 10 (49 * aS A + aEL A i)) l t (X (aS A) 0 (aEL A i)) := by
  obtain ⟨h1, h2, h3, h4, h5, h6, h7, h8, h9, h10⟩ := h
  obtain ⟨e1, e2, e3⟩ := h8 i hi
  obtain ⟨τ1, t1, t2, t3, t4⟩ := takeE_m (N := N) (wd := aEW A i) (by omega) e1 (by omega) e2 (fun x hx => (e3 x hx).1)
  obtain ⟨d1, d2, d3, d4, d5, d6⟩ := h5
  have hRB : RB τ1 (aEL A i) (aD A) (aU A) (aH A) (aEW A i) := ⟨e1, t3, fun k hk => ⟨t4 k hk, (e3 k hk).2⟩, by rw [t2.1 8 (by decide) (by decide)]; exact h2, by rw [t2.1 8 (by decide) (by decide)]; exact h3, by rw [t2.1 8 (by decide) (by decide)]; exact h4, d1, d2, d3, d4, d5, d6⟩
  have hGR : GR τ1 rc rl rs := GR_eq h1 (t2.1 2 (by decide) (by decide)) (t2.1 3 (by decide) (by decide)) (t2.1 4 (by decide) (by decide))
  obtain ⟨τ2, Z, u1, u2, u3, u4⟩ := layMends_m hN hN2 hRB hGR
  have he := leastT_uniq hX.1 u4
  have hT := u3 (aS A) 0 (aEL A i) h9 (Nat.zero_le _) (Nat.le_refl _)
  rw [← he (aS A) 0 (aEL A i) h9 (Nat.zero_le _) (Nat.le_refl _), show 49 * aS A + 7 * 0 + aEL A i = 49 * aS A + aEL A i by omega] at hT
  exact ⟨τ1, τ2, t1, u1, keepR_trans t2 (keepR_B u2), (RB_B hRB u2).2.1, _, _, hT⟩
theorem totR4 {A : AS} {rc : Nat → Nat} {rl : Nat → Nat → Nat} {rs : Nat → Nat → Nat → Nat} {N : Nat} {X : Nat → Nat → Nat → Nat → Nat} (hN : 300 ≤ N) (hN2 : mu (fun _ _ _ => TT) 294 + 2 ≤ N) (hX : ∀ i, i < aE A → LX A (aEL A i) (aEW A i) rc rl rs (X i)) : ∀ (m i fuel x : Nat) (τ : Mem), i + m = aE A → m < fuel → TR τ A rc rl rs → ((x = 100000000 ∧ ∃ j, j < i ∧ X j (aS A) 0 (aEL A j) = TT) ∨ ((∀ j, j < i → X j (aS A) 0 (aEL A j) ≠ TT) ∧ x = sumE (fun i => Cv (X i (aS A) 0 (aEL A i))) (fun i => i) i)) →
    ∃ (y : Nat) (τ2 : Mem), f_X12_totalOf_L4 N fuel (x : Int) (i : Int) τ = some ((y : Int), τ2) ∧ keepR τ τ2 ∧ ((y = 100000000 ∧ ∃ j, j < aE A ∧ X j (aS A) 0 (aEL A j) = TT) ∨ ((∀ j, j < aE A → X j (aS A) 0 (aEL A j) ≠ TT) ∧ y = sumE (fun i => Cv (X i (aS A) 0 (aEL A i))) (fun i => i) (aE A))) := by
  intro m
  induction m with
  | zero =>
    intro i fuel x τ hi hf h hx
    obtain ⟨f, rfl⟩ : ∃ f, fuel = f + 1 := ⟨fuel - 1, by omega⟩
    have e : i = aE A := by omega
    have h3 := h.2.2.2.2.2.1
    refine ⟨x, τ, ?_, keepR_rfl τ, by rw [← e]; exact hx⟩
    rw [f_X12_totalOf_L4, h.2.2.2.2.2.2.1, ifle_t (by omega) (by omega) (by omega)]
  | succ m ih =>
    intro i fuel x τ hi hf h hx
    obtain ⟨f, rfl⟩ : ∃ f, fuel = f + 1 := ⟨fuel - 1, by omega⟩
    have h3 := h.2.2.2.2.2.1
    have hs := h.2.2.2.2.2.2.2.2.1
    obtain ⟨d1, d2, d3, d4, d5, d6⟩ := h.2.2.2.2.1
    have hx2 : x ≤ 100000000 := by
      rcases hx with ⟨z, -⟩ | ⟨z, z2⟩
      · omega
      · have hb : sumE (fun i => Cv (X i (aS A) 0 (aEL A i))) (fun i => i) i ≤ i * 36918 := sumE_big (fun q hq => LX_cost d2 d4 (h.2.2.2.2.2.2.2.1 q (by omega)).1 (hX q (by omega)) hs (z q hq))
        have hb2 : i * 36918 ≤ 3 * 36918 := Nat.mul_le_mul_right _ (by omega)
        omega
    obtain ⟨τ1, τ2, t1, t2, t3, t4, l, t, t5⟩ := totE_m hN hN2 h (by omega : i < aE A) (hX i (by omega))
    have hL6 := (h.2.2.2.2.2.2.2.1 i (by omega)).1
    have h05 : τ2 0 5 = (aS A : Int) := (TR_keep h t3).2.2.2.2.2.2.2.2.2
    have e49 : (49 * (aS A : Int)) + (aEL A i : Int) = ((49 * aS A + aEL A i : Nat) : Int) := by omega
    have hr := R3_rng t5
    have en : (i : Int) + 1 = ((i + 1 : Nat) : Int) := by omega
    rw [f_X12_totalOf_L4, h.2.2.2.2.2.2.1, ifle_f (by omega) (by omega) (by omega), bV_ok t1, bV_ok t2, h05, t4, e49, gd_pos ⟨by omega, by omega⟩, Int.toNat_natCast, nm_s]
    by_cases qT : X i (aS A) 0 (aEL A i) = TT
    · have hT := (R3_TT t5).mpr qT
      obtain ⟨y, τ3, u1, u2, u3⟩ := ih (i + 1) f 100000000 τ2 (by omega) (by omega) (TR_keep h t3) (Or.inl ⟨rfl, i, by omega, qT⟩)
      refine ⟨y, τ3, ?_, keepR_trans t3 u2, u3⟩
      rw [ifle_t hT (by omega) (by omega), bV_s, if_pos rfl, nm_s, en]
      exact u1
    · have hT : ¬ _ := fun z => qT ((R3_TT t5).mp z)
      have hc : τ2 10 (49 * aS A + aEL A i) = (Cv (X i (aS A) 0 (aEL A i)) : Int) := by
        rcases t5 with ⟨z, -⟩ | ⟨-, -, z, -⟩
        · exact absurd z qT
        · exact z
      rw [ifle_f (a := 100000000) (by omega) (by omega) (by omega)]
      by_cases qx : x = 100000000
      · obtain ⟨y, τ3, u1, u2, u3⟩ := ih (i + 1) f 100000000 τ2 (by omega) (by omega) (TR_keep h t3) (Or.inl ⟨rfl, by
          rcases hx with ⟨-, j, j1, j2⟩ | ⟨z, z2⟩
          · exact ⟨j, by omega, j2⟩
          · have hb : sumE (fun i => Cv (X i (aS A) 0 (aEL A i))) (fun i => i) i ≤ i * 36918 := sumE_big (fun q hq => LX_cost d2 d4 (h.2.2.2.2.2.2.2.1 q (by omega)).1 (hX q (by omega)) hs (z q hq))
            have hb2 : i * 36918 ≤ 3 * 36918 := Nat.mul_le_mul_right _ (by omega)
            omega⟩)
        refine ⟨y, τ3, ?_, keepR_trans t3 u2, u3⟩
        rw [ifl_f (by omega) (by omega) (by omega), bV_s, if_pos rfl, nm_s, en]
        exact u1
      · rcases hx with ⟨z, -⟩ | ⟨z, z2⟩
        · exact absurd z qx
        · obtain ⟨y, τ3, u1, u2, u3⟩ := ih (i + 1) f (x + Cv (X i (aS A) 0 (aEL A i))) τ2 (by omega) (by omega) (TR_keep h t3) (Or.inr ⟨fun j hj => by
            by_cases e : j = i
            · rw [e]; exact qT
            · exact z j (by omega), by rw [sumE_step, z2]⟩)
          refine ⟨y, τ3, ?_, keepR_trans t3 u2, u3⟩
          rw [ifl_t (by omega) (by omega) (by omega), bV_s, if_neg (by decide), nm_s, nm_s, en, hc]
          exact u1
theorem totalOf_m {τ : Mem} {A : AS} {rc : Nat → Nat} {rl : Nat → Nat → Nat} {rs : Nat → Nat → Nat → Nat} {N t : Nat} (hN : 300 ≤ N) (hN2 : mu (fun _ _ _ => TT) 294 + 2 ≤ N) (h : TR τ A rc rl rs) (ht : TotP A rc rl rs t) :
    ∃ τ2, f_X12_totalOf N τ = some ((t : Int), τ2) ∧ keepR τ τ2 := by
  obtain ⟨X, hX, ht2⟩ := id ht
  obtain ⟨y, τ2, t1, t2, t3⟩ := totR4 hN hN2 hX (aE A) 0 N 0 τ (by omega) (by have := h.2.2.2.2.2.1; omega) h (Or.inr ⟨fun j hj => absurd hj (Nat.not_lt_zero j), rfl⟩)
  have e : y = t := TotP_uniq h.2.2.2.2.2.2.2.2.1 ⟨X, hX, t3⟩ ht
  have t1' : f_X12_totalOf_L4 N N 0 0 τ = some ((y : Int), τ2) := t1
  refine ⟨τ2, ?_, t2⟩
  unfold f_X12_totalOf
  rw [bL1_ok t1', e]
theorem TotP_le {A : AS} {rc : Nat → Nat} {rl : Nat → Nat → Nat} {rs : Nat → Nat → Nat → Nat} {t : Nat} (hd : aD A ≤ 9) (hu : aU A ≤ 9) (he : aE A ≤ 3) (hL : ∀ i, i < aE A → aEL A i ≤ 6) (hs : aS A < 6) (h : TotP A rc rl rs t) : t ≤ 100000000 := by
  obtain ⟨X, hX, h⟩ := h
  rcases h with ⟨z, -⟩ | ⟨z, z2⟩
  · omega
  · have hb : sumE (fun i => Cv (X i (aS A) 0 (aEL A i))) (fun i => i) (aE A) ≤ aE A * 36918 := sumE_big (fun q hq => LX_cost hd hu (hL q hq) (hX q hq) hs (z q hq))
    have hb2 : aE A * 36918 ≤ 3 * 36918 := Nat.mul_le_mul_right _ he
    omega
theorem TC_of {σ τ : Mem} {A : AS} (h : Inv σ τ A) : TC σ A (aRc A) (aRl A) (aRs A) := by
  obtain ⟨g1, g2, g3, g4, g5, g6, g7, g8, g9⟩ := h
  exact ⟨g2.1, g4.1, g5.1, g5.2.1, g5.2.2.2.1, fun i hi => (g5.2.2.2.2 i hi).1, g2.2.2.2.2.2.1, g2.2.2.2.2.2.2.1, g2.2.2.1⟩
theorem TR_of {σ τ : Mem} {A : AS} (h : Inv σ τ A) : TR τ A (aRc A) (aRl A) (aRs A) := by
  obtain ⟨g1, g2, g3, g4, g5, g6, g7, g8, g9⟩ := h
  obtain ⟨⟨-, -, -, c1, c2, c3, c4, c5, c6⟩, d1, d2, d3⟩ := g4
  exact ⟨g2.2.2.2.1, d1, d2, d3, ⟨c1, c2, c3, c4, c5, c6⟩, g5.1, g5.2.2.1, fun i hi => by
    obtain ⟨x1, x2, x3⟩ := g5.2.2.2.2 i hi
    exact ⟨x1.2.2.1, x2, fun k hk => ⟨x3 k hk, (x1.2.2.2.2 k hk).2⟩⟩, g2.2.2.2.2.2.1, g2.2.2.2.2.2.2.2.1⟩
/-- the chart forgotten, work cells changed -/
theorem Inv_nochart {σ τ σ2 : Mem} {A : AS} (h : Inv σ τ A) (h0 : σ2 0 12 = 0) (ho : ∀ k, k ≠ 0 → k ≠ 27 → k ≠ 28 → k ≠ 29 → σ2 k = σ k) : Inv σ2 τ A := by
  obtain ⟨g1, g2, g3, g4, g5, g6, g7, g8, g9⟩ := h
  have c : ∀ k, 0 < k → k < 27 → σ2 k = σ k := fun k a b => ho k (by omega) (by omega) (by omega) (by omega)
  exact ⟨PadS_eq g1 (c 1 (by decide) (by decide)) (c 2 (by decide) (by decide)) rfl rfl, GraS_eq g2 (c 3 (by decide) (by decide)) (c 4 (by decide) (by decide)) (c 5 (by decide) (by decide)) (c 6 (by decide) (by decide)) (c 12 (by decide) (by decide)) rfl rfl rfl rfl, WrdS_eq g3 (c 13 (by decide) (by decide)) (c 14 (by decide) (by decide)) rfl rfl, CosS_eq g4 (c 12 (by decide) (by decide)) rfl, ExaS_eq g5 (fun k a b => c k (by omega) (by omega)) rfl rfl rfl, DraS_eq g6 (c 7 (by decide) (by decide)) (c 9 (by decide) (by decide)) (c 10 (by decide) (by decide)), Or.inl h0, ClaS_eq g8 (ho 38 (by decide) (by decide) (by decide) (by decide)) (c 5 (by decide) (by decide)) (c 6 (by decide) (by decide)), g9⟩
theorem total_m {σ τ : Mem} {A : AS} {N : Nat} (hN : 400 ≤ N) (hN2 : mu (fun _ _ _ => TT) 294 + 2 ≤ N) (h : Inv σ τ A) : SameI (f_X11_total N σ) (f_X12_total N τ) := by
  obtain ⟨t, ht⟩ := tot_ex (TC_of h)
  have hI0 := Inv_nochart h (st_eq σ 0 12 0) (fun k a _ _ _ => st_other σ _ a)
  obtain ⟨σ2, a1, a2⟩ := totalBelow_m (N := N) (l := 1073741824) (by omega) (Nat.le_refl _) (TC_of hI0) ht
  obtain ⟨τ2, b1, b2⟩ := totalOf_m (N := N) (by omega) hN2 (TR_of h) ht
  have hTR := TR_of h
  have htl := TotP_le hTR.2.2.2.2.1.2.1 hTR.2.2.2.2.1.2.2.2.1 hTR.2.2.2.2.2.1 (fun i hi => (hTR.2.2.2.2.2.2.2.1 i hi).1) hTR.2.2.2.2.2.2.2.2.1 ht
  have hI2 : Inv σ2 τ2 A := Inv_keep (Inv_nochart hI0 (by rw [a2 0 (by decide) (by decide) (by decide)]; exact st_eq _ _ _ _) (fun k _ b c d => a2 k b c d)) (keepC_rfl σ2) b2
  have a1' : f_X9_totalBelow N 1073741824 (st σ 0 12 0) = some (((min (big t) 1073741824 : Nat) : Int), σ2) := a1
  have hb : big t = if t = 100000000 then 1073741824 else t := rfl
  by_cases q : t = 100000000
  · refine ⟨-5, σ2, τ2, A, ?_, ?_, hI2⟩
    · rw [if_pos q] at hb
      unfold f_X11_total
      rw [nm_s, bL1_ok a1', hb, ife_t (by omega)]
    · unfold f_X12_total
      rw [bL1_ok b1, ifl_f (by omega) (by omega) (by omega)]
  · refine ⟨(t : Int), σ2, τ2, A, ?_, ?_, hI2⟩
    · rw [if_neg q] at hb
      have e : min t 1073741824 = t := by omega
      unfold f_X11_total
      rw [nm_s, bL1_ok a1', hb, e, ife_f (by omega) (by omega) (by omega) (by omega) (by omega)]
    · unfold f_X12_total
      rw [bL1_ok b1, ifl_t (by omega) (by omega) (by omega)]
