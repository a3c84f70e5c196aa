/-! layer 2, Chart.settle -/
theorem uv_same {vec : Nat → Nat} {n w : Nat} (h : w = vec n) : uv vec n w = vec := by
  funext y
  unfold uv
  by_cases q : y = n
  · rw [if_pos q, q]; exact h
  · rw [if_neg q]
theorem L46_m {σ0 : Mem} {dr pu L i j k : Nat} {lt X : Nat → Nat → Nat → Nat} {N : Nat} {x4 : Int} (hN : 8 ≤ N) (hw : wfM σ0) (hd : σ0 12 0 = (dr : Int)) (G : Given dr pu L lt (rcC σ0) (rlC σ0) (rsC σ0) X i j) :
    ∀ (t fuel : Nat) (σ : Mem) (stale : Nat) (vec : Nat → Nat), t ≤ 6 → t < fuel → ST σ0 σ dr pu lt X i j k (fun x => t ≤ x) stale vec →
    ∃ (τ : Mem) (stale2 : Nat) (vec2 : Nat → Nat), f_X0_settle_L46 N (i : Int) (j : Int) x4 fuel (stale : Int) ((t : Int) - 1) σ = some ((stale2 : Int), τ) ∧ far28 i j σ τ ∧ ST σ0 τ dr pu lt X i j k (fun _ => True) stale2 vec2 ∧
      ((∀ n, n < 6 → vec n ≤ RVr dr lt (rcC σ0) (rlC σ0) (rsC σ0) X i j vec n) → ∀ x, x < 6 → stale2.testBit x = true → t ≤ x ∧ stale.testBit x = true) := by
  intro t
  induction t with
  | zero =>
    intro fuel σ stale vec ht hf hs
    obtain ⟨f, rfl⟩ : ∃ f, fuel = f + 1 := ⟨fuel - 1, by omega⟩
    refine ⟨σ, stale, vec, ?_, far28_rfl i j σ, ?_, fun _ x hx hb => ⟨Nat.zero_le _, hb⟩⟩
    · rw [f_X0_settle_L46, ifl_t (by omega) (by omega) (by omega)]
    · obtain ⟨s1, s2, s3, s4, s5, s6⟩ := hs
      refine ⟨s1, s2, fun n hn => ?_, s4, s5, s6⟩
      rcases s3 n hn with a | ⟨a, b, c⟩
      · exact Or.inl a
      · exact Or.inr ⟨a, fun z => absurd trivial z, fun _ => c (Nat.zero_le _)⟩
  | succ t ih =>
    intro fuel σ stale vec ht hf hs
    obtain ⟨f, rfl⟩ : ∃ f, fuel = f + 1 := ⟨fuel - 1, by omega⟩
    have e5 : ((t + 1 : Nat) : Int) - 1 = (t : Int) := by omega
    have e6 : (t : Int) + (-1) = (t : Int) - 1 := by omega
    have hs5 := hs.2.2.2.2.1
    have hbit := bit_test stale t (by omega) (by omega)
    by_cases hb : stale.testBit t = true
    · have hnb : ¬ zI (iAnd (iShr (stale : Int) (t : Int)) 1) = zI 0 := fun z => by
        have := hbit.mp z
        rw [hb] at this; cases this
      obtain ⟨τ, v, v1, v2, v3, u, v4, v5, v6⟩ := visit_m (vis2 := fun x => t ≤ x) hN hw hd G hs (by omega : t < 6) (by show ¬ (t + 1 ≤ t); omega) (fun x hx => by show t ≤ x ↔ t + 1 ≤ x; omega) hb
      obtain ⟨τ2, st2, vec2, w1, w2, w3, w4⟩ := ih f τ (clr stale t ||| u) _ (by omega) (by omega) v6
      have hu : (bV (if zI v = zI 0 then some 0 else gd (0 ≤ (t : Int) ∧ (t : Int) < ((6 : Nat) : Int)) (some (τ 29 (t : Int).toNat))) (fun v9 => nm (iOr ((clr stale t : Nat) : Int) v9) (fun x12 => some (x12, τ)))) = some (((clr stale t ||| u : Nat) : Int), τ) := by
        have hclr := clr_lt stale t hs5
        rcases v3 with v3 | ⟨v3, -⟩
        · rw [v3] at v4 ⊢
          rw [if_pos rfl] at v4
          rw [if_pos rfl, bV_s, v4]
          simp only [nm]
          rw [iOr_n _ _ (by omega) (by omega)]
        · rw [v3] at v4 ⊢
          rw [if_neg (by decide)] at v4
          rw [if_neg (by decide), gd_pos (by omega), Int.toNat_natCast, bV_s, v4]
          simp only [nm]
          rw [iOr_n _ _ (by omega) (by omega)]
      refine ⟨τ2, st2, vec2, ?_, far28_trans v2 w2, w3, fun hcl x hx hb2 => ?_⟩
      · rw [f_X0_settle_L46, e5, ifl_f (by omega) (by omega) (by omega), if_neg hnb]
        simp only [nm]
        rw [clr_z stale hs5 t (by omega), bL1_ok v1]
        simp only [nm] at hu
        rw [hu, bL1_s, e6]
        exact w1
      · have hmin : min (vec t) (RVr dr lt (rcC σ0) (rlC σ0) (rsC σ0) X i j vec t) = vec t := Nat.min_eq_left (hcl t (by omega))
        have huv : uv vec t (min (vec t) (RVr dr lt (rcC σ0) (rlC σ0) (rsC σ0) X i j vec t)) = vec := uv_same hmin
        have hu0 : u = 0 := by
          rcases v3 with v3 | ⟨v3, v7⟩
          · rw [v3, if_pos rfl] at v4; omega
          · omega
        obtain ⟨a, b⟩ := w4 (by rw [huv]; exact hcl) x hx hb2
        rw [hu0, Nat.or_zero, clr_bit stale hs5 t (by omega) x hx] at b
        have hne : x ≠ t := fun z => by simp [z] at b
        refine ⟨by omega, by simpa [hne] using b⟩
    · have hb0 : stale.testBit t = false := by simpa using hb
      have hpb : zI (iAnd (iShr (stale : Int) (t : Int)) 1) = zI 0 := hbit.mpr hb0
      obtain ⟨s1, s2, s3, s4, s5, s6⟩ := hs
      have hs2 : ST σ0 σ dr pu lt X i j k (fun x => t ≤ x) stale vec := ⟨s1, s2, InvS_skip (n := t) s3 hb (fun x hx => by show t ≤ x ↔ t + 1 ≤ x; omega), s4, s5, s6⟩
      obtain ⟨τ2, st2, vec2, w1, w2, w3, w4⟩ := ih f σ stale vec (by omega) (by omega) hs2
      refine ⟨τ2, st2, vec2, ?_, w2, w3, fun hcl x hx hb2 => ?_⟩
      · rw [f_X0_settle_L46, e5, ifl_f (by omega) (by omega) (by omega), if_pos hpb, bL1_s]
        simp only [nm]
        rw [e6]
        exact w1
      · obtain ⟨a, b⟩ := w4 hcl x hx hb2
        have hne : x ≠ t := fun z => by rw [z, hb0] at b; cases b
        exact ⟨by omega, b⟩
/-- what a part's settling leaves -/
def FN (σ0 σ : Mem) (dr pu : Nat) (lt X : Nat → Nat → Nat → Nat) (i j : Nat) (vec : Nat → Nat) : Prop :=
  PI dr pu lt (rcC σ0) (rlC σ0) (rsC σ0) X i j vec ∧ CM σ0 σ lt X i j vec ∧ (∀ n, n < 6 → vec n ≤ RVr dr lt (rcC σ0) (rlC σ0) (rsC σ0) X i j vec n) ∧ (∀ n, n < 6 → HD σ0 σ lt X i j vec n (rcC σ0 n)) ∧ US σ0 σ
theorem L32_m {σ0 : Mem} {dr pu L i j : Nat} {lt X : Nat → Nat → Nat → Nat} {N : Nat} (hN : 10 ≤ N) (hw : wfM σ0) (hd : σ0 12 0 = (dr : Int)) (G : Given dr pu L lt (rcC σ0) (rlC σ0) (rsC σ0) X i j) :
    ∀ (m r fuel : Nat) (σ : Mem) (stale : Nat) (vec : Nat → Nat), r + m = 7 → m < fuel → ST σ0 σ dr pu lt X i j r (fun _ => False) stale vec → (7 ≤ r → stale = 0) →
    ∃ τ vec2, f_X0_settle_L32 N (i : Int) (j : Int) fuel (stale : Int) (r : Int) σ = some τ ∧ far28 i j σ τ ∧ FN σ0 τ dr pu lt X i j vec2 := by
  intro m
  induction m with
  | zero =>
    intro r fuel σ stale vec hr hf hs hz
    obtain ⟨f, rfl⟩ : ∃ f, fuel = f + 1 := ⟨fuel - 1, by omega⟩
    have e0 : stale = 0 := hz (by omega)
    subst e0
    obtain ⟨s1, s2, s3, s4, s5, s6⟩ := hs
    refine ⟨σ, vec, ?_, far28_rfl i j σ, s1, s2, InvS_end s3 (fun n _ => by simp), fun n hn => s4 n hn (by simp), s6⟩
    rw [f_X0_settle_L32, ife_t (by omega)]
  | succ m ih =>
    intro r fuel σ stale vec hr hf hs hz
    obtain ⟨f, rfl⟩ : ∃ f, fuel = f + 1 := ⟨fuel - 1, by omega⟩
    have hs5 := hs.2.2.2.2.1
    by_cases e0 : stale = 0
    · subst e0
      obtain ⟨s1, s2, s3, s4, s5, s6⟩ := hs
      refine ⟨σ, vec, ?_, far28_rfl i j σ, s1, s2, InvS_end s3 (fun n _ => by simp), fun n hn => s4 n hn (by simp), s6⟩
      rw [f_X0_settle_L32, ife_t (by omega)]
    · have hs2 : ST σ0 σ dr pu lt X i j r (fun x => 6 ≤ x) stale vec := by
        obtain ⟨s1, s2, s3, s4, s5, s6⟩ := hs
        refine ⟨s1, s2, fun n hn => ?_, s4, s5, s6⟩
        rcases s3 n hn with a | ⟨a, b, c⟩
        · exact Or.inl a
        · exact Or.inr ⟨a, fun _ => b (fun z => z), fun z => absurd (show 6 ≤ n from z) (by omega)⟩
      obtain ⟨τ, st2, vec2, w1, w2, w3, w4⟩ := L46_m (x4 := (r : Int)) (by omega : 8 ≤ N) hw hd G 6 N σ stale vec (Nat.le_refl _) (by omega) hs2
      have hs3 : ST σ0 τ dr pu lt X i j (r + 1) (fun _ => False) st2 vec2 := by
        obtain ⟨s1, s2, s3, s4, s5, s6⟩ := w3
        exact ⟨s1, s2, InvS_round s3 (fun _ _ => trivial), s4, s5, s6⟩
      have hz2 : 7 ≤ r + 1 → st2 = 0 := fun h7 => by
        have hcl := InvS_6 hs.2.2.1 (by omega : 6 ≤ r)
        refine bit6 w3.2.2.2.2.1 (fun y hy => ?_)
        by_cases q : st2.testBit y = true
        · have := (w4 hcl y hy q).1
          omega
        · simpa using q
      obtain ⟨τ2, vec3, u1, u2, u3⟩ := ih (r + 1) f τ st2 vec2 (by omega) (by omega) hs3 hz2
      refine ⟨τ2, vec3, ?_, far28_trans w2 u2, u3⟩
      have w1' : f_X0_settle_L46 N (i : Int) (j : Int) (r : Int) N (stale : Int) 5 σ = some ((st2 : Int), τ) := w1
      rw [f_X0_settle_L32, ife_f (by omega) (by omega) (by omega) (by omega) (by omega), ifl_f (by omega) (by omega) (by omega), bL1_ok w1']
      simp only [nm]
      rw [show (r : Int) + 1 = ((r + 1 : Nat) : Int) by omega]
      exact u1
theorem settleL2_m {i j N : Nat} (hi : i ≤ 6) (hj : j ≤ 6) : ∀ (m n fuel : Nat) (σ : Mem), n + m = 6 → m < fuel → ∃ τ, f_X0_settle_L2 N (i : Int) (j : Int) fuel (n : Int) σ = some τ ∧ (∀ k, k ≠ 28 → τ k = σ k) ∧
    (∀ q, n ≤ q → q < 6 → τ 28 ((4 + q) * 49 + i * 7 + j) = 9223372036854775807) ∧ ∀ x, (∀ q, n ≤ q → q < 6 → x ≠ (4 + q) * 49 + i * 7 + j) → τ 28 x = σ 28 x := by
  intro m
  induction m with
  | zero =>
    intro n fuel σ hn hf
    obtain ⟨f, rfl⟩ : ∃ f, fuel = f + 1 := ⟨fuel - 1, by omega⟩
    refine ⟨σ, ?_, fun _ _ => rfl, fun q h1 h2 => by omega, fun x _ => rfl⟩
    rw [f_X0_settle_L2, ifle_t (by omega) (by omega) (by omega)]
  | succ m ih =>
    intro n fuel σ hn hf
    obtain ⟨f, rfl⟩ : ∃ f, fuel = f + 1 := ⟨fuel - 1, by omega⟩
    obtain ⟨τ, t1, t2, t3, t4⟩ := ih (n + 1) f (st σ 28 ((4 + n) * 49 + i * 7 + j) 9223372036854775807) (by omega) (by omega)
    refine ⟨τ, ?_, fun k hk => (t2 k hk).trans (st_other σ _ hk), fun q h1 h2 => ?_, fun x hx => ?_⟩
    · rw [f_X0_settle_L2, ifle_f (by omega) (by omega) (by omega), bV_ok (setFit_m _ (4 + n) i j (by omega) rfl rfl (by omega) hi hj)]
      simp only [nm]
      rw [show (n : Int) + 1 = ((n + 1 : Nat) : Int) by omega]
      exact t1
    · by_cases e : q = n
      · rw [e, t4 _ (fun q2 h3 h4 => by omega), st_eq]
      · exact t3 q (by omega) h2
    · rw [t4 x (fun q h1 h2 => hx q (by omega) h2), st_ne σ _ (hx n (Nat.le_refl _) (by omega))]
/-- Chart.settle: what is in the memory ahead of it -/
def PreT (σ0 σ : Mem) (lt X : Nat → Nat → Nat → Nat) (i j : Nat) : Prop :=
  EqG σ0 σ ∧ (∀ s a b, s < 10 → i ≤ a → a ≤ b → b ≤ j → ¬ (4 ≤ s ∧ a = i ∧ b = j) → σ 28 (s * 49 + a * 7 + b) = enc (onev lt X s a b)) ∧
  (∀ n r q b, n < 6 → r < rcC σ0 n → 1 ≤ q → q + 1 < rlC σ0 n r → i ≤ b → b < j → σ 28 ((10 + slC σ0 n r * 2 + q - 1) * 49 + i * 7 + b) = enc (rowv (onev lt X) (rsC σ0 n r) i (q + 1) b)) ∧ US σ0 σ
theorem settle_m {σ0 σ : Mem} {dr pu L i j : Nat} {lt X : Nat → Nat → Nat → Nat} {N : Nat} (hN : 10 ≤ N) (hw : wfM σ0) (hd : σ0 12 0 = (dr : Int)) (G : Given dr pu L lt (rcC σ0) (rlC σ0) (rsC σ0) X i j) (hp : PreT σ0 σ lt X i j) :
    ∃ τ vec, f_X0_settle N (i : Int) (j : Int) σ = some τ ∧ far28 i j σ τ ∧ FN σ0 τ dr pu lt X i j vec := by
  obtain ⟨g1, g2, g3, g4, g5, g6, g7, g8, g9, g10, g11, g12⟩ := id G
  obtain ⟨p1, p2, p3, p4⟩ := hp
  obtain ⟨τ, t1, t2, t3, t4⟩ := settleL2_m (i := i) (j := j) (N := N) (by omega) (by omega) 6 0 N σ rfl (by omega)
  have t1' : f_X0_settle_L2 N (i : Int) (j : Int) N 0 σ = some τ := t1
  have hxw : ∀ s a b, ¬ (4 ≤ s ∧ a = i ∧ b = j) → onev lt (Xw X i j (fun _ => TT)) s a b = onev lt X s a b := fun s a b h => by
    unfold onev
    by_cases q4 : s < 4
    · rw [if_pos q4, if_pos q4]
    · rw [if_neg q4, if_neg q4]
      unfold Xw
      rw [if_neg (fun z => h ⟨by omega, z.1, z.2⟩)]
  have hCM : CM σ0 τ lt X i j (fun _ => TT) := by
    refine ⟨EqG_28 p1 t2, fun s a b hs ha hab hb => ?_, fun n r q b hn hr hq hq2 hb1 hb2 => ?_⟩
    · by_cases q : 4 ≤ s ∧ a = i ∧ b = j
      · obtain ⟨e1, e2, e3⟩ := q
        subst e2; subst e3
        have h3 := t3 (s - 4) (Nat.zero_le _) (by omega)
        have h4 : onev lt (Xw X a b (fun _ => TT)) (4 + (s - 4)) a b = TT := onev_name
        rw [show 4 + (s - 4) = s by omega] at h3 h4
        rw [h3, h4, enc_TT]
      · rw [t4 _ (fun q' h1 h2 => by omega), hxw s a b q]
        exact p2 s a b hs ha hab hb q
    · rw [t4 _ (fun q' h1 h2 => by omega), p3 n r q b hn hr hq hq2 hb1 hb2]
      congr 1
      exact rowv_cong (fun _ _ => rfl) (fun p a c _ _ _ hc => (hxw _ a c (fun z => by omega)).symm)
  have hUS : US σ0 τ := fun m hm => by
    obtain ⟨u, a1, a2, a3⟩ := p4 m hm
    exact ⟨u, by rw [t2 29 (by decide)]; exact a1, a2, a3⟩
  have h63 : ∀ x, x < 6 → (63 : Nat).testBit x = true := by decide
  have hST : ST σ0 τ dr pu lt X i j 0 (fun _ => False) 63 (fun _ => TT) :=
    ⟨PI_0, hCM, InvS_0 h63, (fun x hx h => absurd ((h63 x hx).symm.trans h) Bool.noConfusion), by decide, hUS⟩
  obtain ⟨τ2, vec, u1, u2, u3⟩ := L32_m hN hw hd G 7 0 N τ 63 _ rfl (by omega) hST (fun z => by omega)
  refine ⟨τ2, vec, ?_, far28_trans ⟨t2, fun x hx => t4 x (fun q h1 h2 => hx (4 + q) (by omega) (by omega))⟩ u2, u3⟩
  have u1' : f_X0_settle_L32 N (i : Int) (j : Int) N 63 0 τ = some τ2 := u1
  unfold f_X0_settle
  rw [bV_ok t1', bV_ok u1']
