/-! layer 2, the reference's layMore, and more -/
theorem totals_ex {σ τ : Mem} {A : AS} {n : Nat} (h : Inv σ τ A) (hn : n < 6) : ∃ T : Nat → Nat, (∀ k, k < 27 → TotP A (rcX A n) (rlX A n k) (rsX A n k) (T k)) ∧ ∀ k, k < 27 → T k ≤ 100000000 := by
  have hq := QC_of h
  have hTR := TR_of h
  have hTe : ∀ k, ∃ t, k < 27 → TotP A (rcX A n) (rlX A n k) (rsX A n k) t := fun k => by
    by_cases q : k < 27
    · obtain ⟨σ4, t1, t2⟩ := tryRule_m (σ := σ) (n := n) (k := k) q
      obtain ⟨t, ht⟩ := tot_ex (TC_TY hn q hq t2)
      exact ⟨t, fun _ => ht⟩
    · exact ⟨0, fun z => absurd z q⟩
  obtain ⟨T, hT⟩ := Classical.axiomOfChoice hTe
  exact ⟨T, hT, fun k hk => TotP_le hTR.2.2.2.2.1.2.1 hTR.2.2.2.2.1.2.2.2.1 hTR.2.2.2.2.2.1 (fun i hi => (hTR.2.2.2.2.2.2.2.1 i hi).1) hTR.2.2.2.2.2.2.2.2.1 (hT k hk)⟩
theorem MoreP_uniq {A : AS} {n t kb t2 kb2 : Nat} (hs : aS A < 6) (h : MoreP A n t kb) (h2 : MoreP A n t2 kb2) : t = t2 ∧ kb = kb2 := by
  obtain ⟨T, a1, a2, a3, a4, a5⟩ := h
  obtain ⟨U, b1, b2, b3, b4, b5⟩ := h2
  have e : ∀ k, k < 27 → T k = U k := fun k hk => TotP_uniq hs (a1 k hk) (b1 k hk)
  have e1 := e kb a2
  have e2 := e kb2 b2
  have c1 := a4 kb2 b2
  have c2 := b4 kb a2
  have et : t = t2 := by omega
  refine ⟨et, ?_⟩
  rcases Nat.lt_trichotomy kb kb2 with z | z | z
  · have := b5 kb z; omega
  · exact z
  · have := a5 kb2 z; omega
theorem divrem2 : ∀ x : Nat, x < 28 → iRem (x : Int) 4 = ((x % 4 : Nat) : Int) := by decide +kernel
/-- the first sign of the rule on trial as the reference writes it -/
def pv (k : Nat) : Int := if k < 5 then (k : Int) - 1 else if k < 11 then (k : Int) + 5 else (((k - 11) / 4 : Nat) : Int)
theorem tsg_lo {k p : Nat} (h : k < 11) : tsg k p = k - 1 := if_pos h
theorem tsg_h0 {k : Nat} (h : ¬ k < 11) : tsg k 0 = (k - 11) / 4 := by
  unfold tsg
  rw [if_neg h]
  rfl
theorem tsg_h1 {k : Nat} (h : ¬ k < 11) : tsg k 1 = (k - 11) % 4 := by
  unfold tsg
  rw [if_neg h]
  rfl
theorem sgx_lo {s : Nat} (h : s < 4) : sgx s = s := if_pos h
theorem sgx_hi {s : Nat} (h : ¬ s < 4) : sgx s = s + 6 := if_neg h
theorem pv_0 {k : Nat} (hk : k < 27) (h : 0 < tlen k) : pv k = ((sgx (tsg k 0) : Nat) : Int) := by
  unfold tlen at h
  unfold pv
  by_cases q : k < 5
  · by_cases q0 : k = 0
    · rw [if_pos q0] at h; omega
    · rw [if_pos q, tsg_lo (by omega), sgx_lo (by omega)]
      omega
  · rw [if_neg q]
    by_cases q2 : k < 11
    · rw [if_pos q2, tsg_lo q2, sgx_hi (by omega)]; omega
    · rw [if_neg q2, tsg_h0 q2, sgx_lo (by omega)]
theorem pv_1 {k : Nat} (hk : k < 27) (h : 1 < tlen k) : (((k + 1) % 4 : Nat) : Int) = ((sgx (tsg k 1) : Nat) : Int) := by
  unfold tlen at h
  by_cases q0 : k = 0
  · rw [if_pos q0] at h; omega
  · rw [if_neg q0] at h
    by_cases q : k < 11
    · rw [if_pos q] at h; omega
    · rw [tsg_h1 q, sgx_lo (Nat.mod_lt _ (by decide))]
      omega
/-- the reference's grammar while a rule more is tried -/
def TRx (τ : Mem) (A : AS) (n : Nat) : Prop := (∀ m, m < 6 → τ 2 m = (rcX A n m : Int)) ∧ (∀ m, m < 6 → aRc A m ≤ 4) ∧ (∀ m r, m < 6 → r < aRc A m → τ 3 (5 * m + r) = (aRl A m r : Int) ∧ aRl A m r ≤ 4) ∧ (∀ m r q, m < 6 → r < aRc A m → q < aRl A m r → τ 4 (4 * (5 * m + r) + q) = ((sgx (aRs A m r q) : Nat) : Int) ∧ aRs A m r q < 10) ∧
  τ 8 0 = (aD A : Int) ∧ τ 8 1 = (aU A : Int) ∧ τ 8 2 = (aH A : Int) ∧ (1 ≤ aD A ∧ aD A ≤ 9 ∧ 1 ≤ aU A ∧ aU A ≤ 9 ∧ 1 ≤ aH A ∧ aH A ≤ 9) ∧ aE A ≤ 3 ∧ τ 0 8 = (aE A : Int) ∧ (∀ i, i < aE A → aEL A i ≤ 6 ∧ τ 6 i = (aEL A i : Int) ∧ ∀ k, k < aEL A i → τ 7 (6 * i + k) = (aEW A i k : Int) ∧ aEW A i k < 4) ∧ aS A < 6 ∧ τ 0 5 = (aS A : Int)
/-- cells that trying rules may change -/
def offL (τ τ2 : Mem) (x : Nat) : Prop := (∀ k, 0 < k → (k < 9 ∨ 22 < k) → k ≠ 3 → k ≠ 4 → τ2 k = τ k) ∧ (∀ j, j ≠ 12 → j ≠ 20 → j ≠ 21 → j ≠ 22 → j ≠ 25 → τ2 0 j = τ 0 j) ∧ (∀ y, y ≠ x → τ2 3 y = τ 3 y) ∧ ∀ y, y ≠ 4 * x → y ≠ 4 * x + 1 → τ2 4 y = τ 4 y
theorem offL_rfl (τ : Mem) (x : Nat) : offL τ τ x := ⟨fun _ _ _ _ _ => rfl, fun _ _ _ _ _ _ => rfl, fun _ _ => rfl, fun _ _ _ => rfl⟩
theorem offL_trans {τ τ2 τ3 : Mem} {x : Nat} (h : offL τ τ2 x) (h2 : offL τ2 τ3 x) : offL τ τ3 x := ⟨fun k a b c d => (h2.1 k a b c d).trans (h.1 k a b c d), fun j a b c d e => (h2.2.1 j a b c d e).trans (h.2.1 j a b c d e), fun y a => (h2.2.2.1 y a).trans (h.2.2.1 y a), fun y a b => (h2.2.2.2 y a b).trans (h.2.2.2 y a b)⟩
theorem offL_keep {τ τ2 : Mem} {x : Nat} (h : keepR τ τ2) : offL τ τ2 x := ⟨fun k a b _ _ => h.1 k a b, h.2, fun y _ => by rw [h.1 3 (by decide) (by decide)], fun y _ _ => by rw [h.1 4 (by decide) (by decide)]⟩
theorem TRx_off {τ τ2 : Mem} {A : AS} {n : Nat} (hn : n < 6) (h : TRx τ A n) (ho : offL τ τ2 (5 * n + aRc A n)) : TRx τ2 A n := by
  obtain ⟨h1, h2, h3, h4, h5, h6, h7, h8, h9, h10, h11, h12, h13⟩ := h
  obtain ⟨o1, o2, o3, o4⟩ := ho
  have hne : ∀ m r, m < 6 → r < aRc A m → 5 * m + r ≠ 5 * n + aRc A n := fun m r hm hr e => by
    have a1 := h2 m hm
    have a2 := h2 n hn
    have e2 : m = n := by omega
    rw [e2] at e hr
    omega
  refine ⟨?_, h2, fun m r hm hr => ?_, fun m r q hm hr hq => ?_, ?_, ?_, ?_, h8, h9, ?_, ?_, h12, ?_⟩
  · rw [o1 2 (by decide) (by decide) (by decide) (by decide)]; exact h1
  · rw [o3 _ (hne m r hm hr)]; exact h3 m r hm hr
  · have := (h3 m r hm hr).2
    have := hne m r hm hr
    rw [o4 _ (by omega) (by omega)]; exact h4 m r q hm hr hq
  · rw [o1 8 (by decide) (by decide) (by decide) (by decide)]; exact h5
  · rw [o1 8 (by decide) (by decide) (by decide) (by decide)]; exact h6
  · rw [o1 8 (by decide) (by decide) (by decide) (by decide)]; exact h7
  · rw [o2 8 (by decide) (by decide) (by decide) (by decide) (by decide)]; exact h10
  · rw [o1 6 (by decide) (by decide) (by decide) (by decide), o1 7 (by decide) (by decide) (by decide) (by decide)]; exact h11
  · rw [o2 5 (by decide) (by decide) (by decide) (by decide) (by decide)]; exact h13
/-- with the trial rule written, the reference's grammar is the one with a rule more -/
theorem TR_x {τ : Mem} {A : AS} {n k : Nat} (hn : n < 6) (hk : k < 27) (h : TRx τ A n) (w1 : τ 3 (5 * n + aRc A n) = (tlen k : Int)) (w2 : τ 4 (4 * (5 * n + aRc A n)) = pv k) (w3 : τ 4 (4 * (5 * n + aRc A n) + 1) = (((k + 1) % 4 : Nat) : Int)) : TR τ A (rcX A n) (rlX A n k) (rsX A n k) := by
  obtain ⟨h1, h2, h3, h4, h5⟩ := h
  have hsp : ∀ m r, m < 6 → r < rcX A n m → (m = n ∧ r = aRc A n) ∨ (¬ (m = n ∧ r = aRc A n) ∧ r < aRc A m) := fun m r hm hr => by
    unfold rcX at hr
    by_cases e : m = n
    · rw [if_pos e] at hr
      by_cases e2 : r = aRc A n
      · exact Or.inl ⟨e, e2⟩
      · exact Or.inr ⟨fun z => e2 z.2, by rw [e]; omega⟩
    · rw [if_neg e] at hr
      exact Or.inr ⟨fun z => e z.1, hr⟩
  refine ⟨⟨fun m hm => ⟨h1 m hm, ?_⟩, fun m r hm hr => ?_, fun m r q hm hr hq => ?_⟩, h5⟩
  · unfold rcX
    have a1 := h2 m hm
    have a2 := h2 n hn
    split <;> omega
  · rcases hsp m r hm hr with z | ⟨z, z2⟩
    · have e1 : rlX A n k m r = tlen k := if_pos z
      have := tlen_le k
      rw [e1, z.1, z.2, w1]
      exact ⟨rfl, by omega⟩
    · rw [rlX_o z]; exact h3 m r hm z2
  · rcases hsp m r hm hr with z | ⟨z, z2⟩
    · have e1 : rlX A n k m r = tlen k := if_pos z
      have e2 : rsX A n k m r q = tsg k q := if_pos z
      have := tlen_le k
      rw [e1] at hq
      rw [e2, z.1, z.2]
      refine ⟨?_, tsg_lt hk⟩
      have hq2 : q = 0 ∨ q = 1 := by omega
      rcases hq2 with rfl | rfl
      · rw [Nat.add_zero, w2]; exact pv_0 hk (by omega)
      · rw [w3]; exact pv_1 hk (by omega)
    · rw [rlX_o z] at hq
      rw [rsX_o z]; exact h4 m r q hm z2 hq
/-- what the reference has found among the first k rules -/
def BSR (T : Nat → Nat) (k t kb : Nat) (x4 x5 x6 : Int) : Prop := t ≤ 100000000 ∧ (∀ j, j < k → t ≤ T j) ∧ ((t = 100000000 ∧ kb = 0) ∨ (kb < k ∧ T kb = t ∧ t < 100000000 ∧ (∀ j, j < kb → t < T j) ∧ x4 = (tlen kb : Int) ∧ x5 = (if 0 < tlen kb then ((sgx (tsg kb 0) : Nat) : Int) else -6) ∧ x6 = (if 1 < tlen kb then ((sgx (tsg kb 1) : Nat) : Int) else -6)))
theorem lm38 {A : AS} {n N : Nat} {x1 : Int} {T : Nat → Nat} (hN : 300 ≤ N) (hN2 : mu (fun _ _ _ => TT) 294 + 2 ≤ N) (hn : n < 6) (hT : ∀ k, k < 27 → TotP A (rcX A n) (rlX A n k) (rsX A n k) (T k)) (hTl : ∀ k, k < 27 → T k ≤ 100000000) : ∀ (m k fuel t kb : Nat) (x4 x5 x6 : Int) (τ : Mem), k + m = 27 → m < fuel → TRx τ A n → BSR T k t kb x4 x5 x6 →
    ∃ (t2 kb2 : Nat) (y4 y5 y6 : Int) (τ2 : Mem), f_X12_layMore_L38 N x1 ((5 * n + aRc A n : Nat) : Int) fuel (t : Int) x4 x5 x6 (k : Int) τ = some ((t2 : Int), y4, y5, y6, τ2) ∧ offL τ τ2 (5 * n + aRc A n) ∧ BSR T 27 t2 kb2 y4 y5 y6 := by
  intro m
  induction m with
  | zero =>
    intro k fuel t kb x4 x5 x6 τ hk hf h hb
    obtain ⟨f, rfl⟩ : ∃ f, fuel = f + 1 := ⟨fuel - 1, by omega⟩
    refine ⟨t, kb, x4, x5, x6, τ, ?_, offL_rfl τ _, by rw [show 27 = k by omega]; exact hb⟩
    rw [f_X12_layMore_L38, ifle_t (by omega) (by omega) (by omega)]
  | succ m ih =>
    intro k fuel t kb x4 x5 x6 τ hk hf h hb
    obtain ⟨f, rfl⟩ : ∃ f, fuel = f + 1 := ⟨fuel - 1, by omega⟩
    have hk27 : k < 27 := by omega
    have hrc := h.2.1 n hn
    have hat : 5 * n + aRc A n < 30 := by omega
    have en : (k : Int) + 1 = ((k + 1 : Nat) : Int) := by omega
    have ev2 : (if zI (k : Int) = zI 0 then some (0 : Int) else if zI 11 ≤ zI (k : Int) then some 2 else some 1) = some (tlen k : Int) := by
      unfold tlen
      by_cases q : k = 0
      · rw [ife_t (by omega), if_pos q]; rfl
      · rw [ife_f (by omega) (by omega) (by omega) (by omega) (by omega), if_neg q]
        by_cases q2 : k < 11
        · rw [ifle_f (by omega) (by omega) (by omega), if_pos q2]; rfl
        · rw [ifle_t (by omega) (by omega) (by omega), if_neg q2]; rfl
    have ev7 : (if zI 5 ≤ zI (k : Int) then (if zI 11 ≤ zI (k : Int) then some (iDiv ((k : Int) - 11) 4) else some ((10 + (k : Int)) - 5)) else some ((k : Int) - 1)) = some (pv k) := by
      unfold pv
      by_cases q : k < 5
      · rw [ifle_f (by omega) (by omega) (by omega), if_pos q]
      · rw [ifle_t (a := 5) (by omega) (by omega) (by omega), if_neg q]
        by_cases q2 : k < 11
        · rw [ifle_f (by omega) (by omega) (by omega), if_pos q2]
          congr 1
          omega
        · rw [ifle_t (by omega) (by omega) (by omega), if_neg q2, show (k : Int) - 11 = ((k - 11 : Nat) : Int) by omega, (divrem (k - 11) (by omega)).1]
    have erem := divrem2 (k + 1) (by omega)
    have e4 : 4 * ((5 * n + aRc A n : Nat) : Int) = ((4 * (5 * n + aRc A n) : Nat) : Int) := by omega
    have e41 : ((4 * (5 * n + aRc A n) : Nat) : Int) + 1 = ((4 * (5 * n + aRc A n) + 1 : Nat) : Int) := by omega
    generalize hx : 5 * n + aRc A n = x at hat ev2 ev7 e4 e41 ⊢
    generalize h13 : st (st (st τ 3 x (tlen k : Int)) 4 (4 * x) (pv k)) 4 (4 * x + 1) (((k + 1) % 4 : Nat) : Int) = τ13
    have o13 : offL τ τ13 x := by
      rw [← h13]
      refine ⟨fun j _ _ a b => by rw [st_other _ _ b, st_other _ _ b, st_other _ _ a], fun j _ _ _ _ _ => by rw [st_other _ _ (by decide), st_other _ _ (by decide), st_other _ _ (by decide)], fun y a => by rw [st_other _ _ (by decide), st_other _ _ (by decide), st_ne _ _ a], fun y a b => by rw [st_ne _ _ b, st_ne _ _ a, st_other _ _ (by decide)]⟩
    have w1 : τ13 3 x = (tlen k : Int) := by rw [← h13, st_other _ _ (by decide), st_other _ _ (by decide), st_eq]
    have w2 : τ13 4 (4 * x) = pv k := by rw [← h13, st_ne _ _ (by omega), st_eq]
    have w3 : τ13 4 (4 * x + 1) = (((k + 1) % 4 : Nat) : Int) := by rw [← h13, st_eq]
    have hTx : TRx τ13 A n := TRx_off hn h (by rw [hx]; exact o13)
    have hTR := TR_x hn hk27 hTx (by rw [hx]; exact w1) (by rw [hx]; exact w2) (by rw [hx]; exact w3)
    obtain ⟨τ15, u1, u2⟩ := totalOf_m hN hN2 hTR (hT k hk27)
    have o15 := offL_trans o13 (offL_keep (x := x) u2)
    have hTx15 : TRx τ15 A n := TRx_off hn h (by rw [hx]; exact o15)
    have y1 : τ15 3 x = (tlen k : Int) := by rw [u2.1 3 (by decide) (by decide)]; exact w1
    have y2 : τ15 4 (4 * x) = pv k := by rw [u2.1 4 (by decide) (by decide)]; exact w2
    have y3 : τ15 4 (4 * x + 1) = (((k + 1) % 4 : Nat) : Int) := by rw [u2.1 4 (by decide) (by decide)]; exact w3
    have hTk := hTl k hk27
    obtain ⟨b1, b2, b3⟩ := hb
    rw [f_X12_layMore_L38, ifle_f (by omega) (by omega) (by omega), ev2, bV_s, gd_pos ⟨by omega, by omega⟩, nm_s, ev7, bV_s, e4, gd_pos ⟨by omega, by omega⟩, nm_s, e41, gd_pos ⟨by omega, by omega⟩, nm_s, en, erem, Int.toNat_natCast, Int.toNat_natCast, Int.toNat_natCast, h13, bL1_ok u1]
    by_cases q : T k < t
    · have hb2 : BSR T (k + 1) (T k) k (tlen k : Int) (if 0 < tlen k then ((sgx (tsg k 0) : Nat) : Int) else -6) (if 1 < tlen k then ((sgx (tsg k 1) : Nat) : Int) else -6) := by
        refine ⟨by omega, fun j hj => ?_, Or.inr ⟨by omega, rfl, by omega, fun j hj => ?_, rfl, rfl, rfl⟩⟩
        · by_cases e : j = k
          · rw [e]; exact Nat.le_refl _
          · have := b2 j (by omega); omega
        · have := b2 j hj; omega
      obtain ⟨t2, kb2, z4, z5, z6, τ2, s1, s2, s3⟩ := ih (k + 1) f (T k) k _ _ _ τ15 (by omega) (by omega) hTx15 hb2
      rw [hx] at s1 s2
      refine ⟨t2, kb2, z4, z5, z6, τ2, ?_, offL_trans o15 s2, s3⟩
      have e23 : (if zI (tlen k : Int) ≤ zI 0 then some (-6) else some (τ15 4 (4 * x))) = some (if 0 < tlen k then ((sgx (tsg k 0) : Nat) : Int) else -6) := by
        have := tlen_le k
        by_cases z : 0 < tlen k
        · rw [ifle_f (by omega) (by omega) (by omega), if_pos z, y2, pv_0 hk27 z]
        · rw [ifle_t (by omega) (by omega) (by omega), if_neg z]
      have e25 : (if zI (tlen k : Int) ≤ zI 1 then some (-6) else some (τ15 4 (4 * x + 1))) = some (if 1 < tlen k then ((sgx (tsg k 1) : Nat) : Int) else -6) := by
        have := tlen_le k
        by_cases z : 1 < tlen k
        · rw [ifle_f (by omega) (by omega) (by omega), if_pos z, y3, pv_1 hk27 z]
        · rw [ifle_t (by omega) (by omega) (by omega), if_neg z]
      rw [ifle_f (by omega) (by omega) (by omega), y1, nm_s, e23, bV_s, e25, bV_s, bL3_s, nm_s]
      exact s1
    · have hb2 : BSR T (k + 1) t kb x4 x5 x6 := by
        refine ⟨b1, fun j hj => ?_, ?_⟩
        · by_cases e : j = k
          · rw [e]; omega
          · exact b2 j (by omega)
        · rcases b3 with z | ⟨z1, z2⟩
          · exact Or.inl z
          · exact Or.inr ⟨by omega, z2⟩
      obtain ⟨t2, kb2, z4, z5, z6, τ2, s1, s2, s3⟩ := ih (k + 1) f t kb x4 x5 x6 τ15 (by omega) (by omega) hTx15 hb2
      rw [hx] at s1 s2
      refine ⟨t2, kb2, z4, z5, z6, τ2, ?_, offL_trans o15 s2, s3⟩
      rw [ifle_t (by omega) (by omega) (by omega), bL3_s, nm_s]
      exact s1
/-- what the reference knows of a name -/
def RefN (τ : Mem) (A : AS) (n : Nat) : Prop := ∃ t kb : Nat, MoreP A n t kb ∧ τ 24 n = (t : Int) ∧ (t ≠ 100000000 → τ 25 n = (tlen kb : Int) ∧ τ 26 n = (if 0 < tlen kb then ((sgx (tsg kb 0) : Nat) : Int) else -6) ∧ τ 27 n = (if 1 < tlen kb then ((sgx (tsg kb 1) : Nat) : Int) else -6))
theorem layMore_m {σ τ : Mem} {A : AS} {n N : Nat} (hN : 400 ≤ N) (hN2 : mu (fun _ _ _ => TT) 294 + 2 ≤ N) (h : Inv σ τ A) (hn : n < 6) : ∃ τ2, f_X12_layMore N (n : Int) τ = some τ2 ∧ Inv σ τ2 A ∧ RefN τ2 A n := by
  obtain ⟨T, hT, hTl⟩ := totals_ex h hn
  have hTR := TR_of h
  obtain ⟨g1, g2, g3, g4, g5, g6, g7, g8, g9⟩ := id h
  obtain ⟨a1, a2, a3, ⟨r1, r2, r3⟩, a5, a6, a7, a8, a9⟩ := g2
  obtain ⟨-, t2', t3', t4', t5', t6', t7', t8', t9', t10'⟩ := hTR
  have hrcn := a5 n hn
  have e2n := (r1 n hn).1
  have hx0 : TRx (st τ 2 n ((aRc A n + 1 : Nat) : Int)) A n := by
    have o : ∀ k, k ≠ 2 → (st τ 2 n ((aRc A n + 1 : Nat) : Int)) k = τ k := fun k hk => st_other _ _ hk
    refine ⟨fun m hm => ?_, a5, fun m r hm hr => ?_, fun m r q hm hr hq => ?_, ?_, ?_, ?_, t5', t6', ?_, ?_, t9', ?_⟩
    · rw [st_row]
      unfold rcX
      by_cases e : m = n
      · rw [if_pos e, if_pos e]
      · rw [if_neg e, if_neg e]; exact (r1 m hm).1
    · rw [o 3 (by decide)]; exact r2 m r hm hr
    · rw [o 4 (by decide)]; exact r3 m r q hm hr hq
    · rw [o 8 (by decide)]; exact t2'
    · rw [o 8 (by decide)]; exact t3'
    · rw [o 8 (by decide)]; exact t4'
    · rw [o 0 (by decide)]; exact t7'
    · rw [o 6 (by decide), o 7 (by decide)]; exact t8'
    · rw [o 0 (by decide)]; exact t10'
  obtain ⟨t, kb, y4, y5, y6, τ2, s1, s2, s3⟩ := lm38 (N := N) (x1 := (n : Int)) (by omega) hN2 hn hT hTl 27 0 N 100000000 0 0 (-6) (-6) _ rfl (by omega) hx0 ⟨Nat.le_refl _, fun j hj => absurd hj (Nat.not_lt_zero j), Or.inl ⟨rfl, rfl⟩⟩
  have s1' : f_X12_layMore_L38 N (n : Int) ((5 * n + aRc A n : Nat) : Int) N 100000000 0 (-6) (-6) 0 (st τ 2 n ((aRc A n + 1 : Nat) : Int)) = some ((t : Int), y4, y5, y6, τ2) := s1
  have hm : MoreP A n t kb := by
    obtain ⟨c1, c2, c3⟩ := s3
    rcases c3 with ⟨z1, z2⟩ | ⟨z1, z2, z3, z4, -⟩
    · have h0 := c2 0 (by decide)
      have h1 := hTl 0 (by decide)
      exact ⟨T, hT, by omega, by rw [z2]; omega, c2, fun k hk => by omega⟩
    · exact ⟨T, hT, z1, z2, c2, z4⟩
  have e22 : τ2 2 n = ((aRc A n + 1 : Nat) : Int) := by rw [s2.1 2 (by decide) (by decide) (by decide) (by decide), st_eq]
  generalize hρ : st (st (st (st (st (st τ2 2 n (aRc A n : Int)) 23 n 1) 24 n (t : Int)) 25 n y4) 26 n y5) 27 n y6 = ρ
  have p : ∀ k, k ≠ 2 → k ≠ 23 → k ≠ 24 → k ≠ 25 → k ≠ 26 → k ≠ 27 → ρ k = τ2 k := fun k a b c d e f => by rw [← hρ, st_other _ _ f, st_other _ _ e, st_other _ _ d, st_other _ _ c, st_other _ _ b, st_other _ _ a]
  have p2 : ρ 2 = τ 2 := by
    rw [← hρ, st_other _ _ (by decide), st_other _ _ (by decide), st_other _ _ (by decide), st_other _ _ (by decide), st_other _ _ (by decide)]
    funext j
    rw [st_row, s2.1 2 (by decide) (by decide) (by decide) (by decide), st_row]
    by_cases e : j = n
    · rw [if_pos e, e, e2n]
    · rw [if_neg e, if_neg e]
  have p23 : ∀ j, ρ 23 j = if j = n then 1 else τ 23 j := fun j => by
    rw [← hρ, st_other _ _ (by decide), st_other _ _ (by decide), st_other _ _ (by decide), st_other _ _ (by decide), st_row, st_other _ _ (by decide), s2.1 23 (by decide) (by decide) (by decide) (by decide), st_other _ _ (by decide)]
  have p24 : ∀ j, ρ 24 j = if j = n then (t : Int) else τ 24 j := fun j => by
    rw [← hρ, st_other _ _ (by decide), st_other _ _ (by decide), st_other _ _ (by decide), st_row, st_other _ _ (by decide), st_other _ _ (by decide), s2.1 24 (by decide) (by decide) (by decide) (by decide), st_other _ _ (by decide)]
  have p25 : ∀ j, ρ 25 j = if j = n then y4 else τ 25 j := fun j => by
    rw [← hρ, st_other _ _ (by decide), st_other _ _ (by decide), st_row, st_other _ _ (by decide), st_other _ _ (by decide), st_other _ _ (by decide), s2.1 25 (by decide) (by decide) (by decide) (by decide), st_other _ _ (by decide)]
  have p26 : ∀ j, ρ 26 j = if j = n then y5 else τ 26 j := fun j => by
    rw [← hρ, st_other _ _ (by decide), st_row, st_other _ _ (by decide), st_other _ _ (by decide), st_other _ _ (by decide), st_other _ _ (by decide), s2.1 26 (by decide) (by decide) (by decide) (by decide), st_other _ _ (by decide)]
  have p27 : ∀ j, ρ 27 j = if j = n then y6 else τ 27 j := fun j => by
    rw [← hρ, st_row, st_other _ _ (by decide), st_other _ _ (by decide), st_other _ _ (by decide), st_other _ _ (by decide), st_other _ _ (by decide), s2.1 27 (by decide) (by decide) (by decide) (by decide), st_other _ _ (by decide)]
  have hRN : RefN ρ A n := by
    refine ⟨t, kb, hm, by rw [p24, if_pos rfl], fun ht => ?_⟩
    rcases s3.2.2 with ⟨z1, z2⟩ | ⟨z1, z2, z3, z4, z5, z6, z7⟩
    · exact absurd z1 ht
    · rw [p25, p26, p27, if_pos rfl, if_pos rfl, if_pos rfl]
      exact ⟨z5, z6, z7⟩
  have hlow : ∀ k, 0 < k → k < 9 → k ≠ 2 → k ≠ 3 → k ≠ 4 → ρ k = τ k := fun k a b c d e => by rw [p k c (by omega) (by omega) (by omega) (by omega) (by omega), s2.1 k a (by omega) d e, st_other _ _ c]
  have h0j : ∀ j, j ≠ 12 → j ≠ 20 → j ≠ 21 → j ≠ 22 → j ≠ 25 → ρ 0 j = τ 0 j := fun j a b c d e => by rw [p 0 (by decide) (by decide) (by decide) (by decide) (by decide) (by decide), s2.2.1 j a b c d e, st_other _ _ (by decide)]
  have hGR : GR ρ (aRc A) (aRl A) (aRs A) := by
    have hx2 := TRx_off hn hx0 s2
    refine ⟨?_, fun m r hm hr => ?_, fun m r q hm hr hq => ?_⟩
    · rw [p2]; exact r1
    · rw [p 3 (by decide) (by decide) (by decide) (by decide) (by decide) (by decide)]; exact hx2.2.2.1 m r hm hr
    · rw [p 4 (by decide) (by decide) (by decide) (by decide) (by decide) (by decide)]; exact hx2.2.2.2.1 m r q hm hr hq
  refine ⟨ρ, ?_, ⟨?_, ?_, ?_, ?_, ?_, g6, g7, g8, ?_⟩, hRN⟩
  · have e5 : (5 * (n : Int)) + (aRc A n : Int) = ((5 * n + aRc A n : Nat) : Int) := by omega
    have ep : (aRc A n : Int) + 1 = ((aRc A n + 1 : Nat) : Int) := by omega
    have em : ((aRc A n + 1 : Nat) : Int) - 1 = (aRc A n : Int) := by omega
    have bl4 : ∀ {B C D E F β : Type} {o : Option (B × C × D × E × F)} {g : B → C → D → E → F → Option β} {b : B} {c : C} {d : D} {e : E} {f : F}, o = some (b, c, d, e, f) → bL4 o g = g b c d e f := fun e => by rw [e]; rfl
    unfold f_X12_layMore
    rw [gd_pos ⟨by omega, by omega⟩, Int.toNat_natCast, e2n, nm_s, nm_s, nm_s, nm_s, e5, ep, bl4 s1', e22, em, nm_s, nm_s, nm_s, nm_s, nm_s, nm_s, hρ]
  · exact PadS_eq g1 rfl rfl (h0j 0 (by decide) (by decide) (by decide) (by decide) (by decide)) (hlow 1 (by decide) (by decide) (by decide) (by decide) (by decide))
  · exact ⟨a1, a2, a3, hGR, a5, a6, a7, by rw [h0j 5 (by decide) (by decide) (by decide) (by decide) (by decide)]; exact a8, a9⟩
  · exact WrdS_eq g3 rfl rfl (h0j 6 (by decide) (by decide) (by decide) (by decide) (by decide)) (hlow 5 (by decide) (by decide) (by decide) (by decide) (by decide))
  · exact CosS_eq g4 rfl (hlow 8 (by decide) (by decide) (by decide) (by decide) (by decide))
  · exact ExaS_eq g5 (fun _ _ _ => rfl) (h0j 8 (by decide) (by decide) (by decide) (by decide) (by decide)) (hlow 6 (by decide) (by decide) (by decide) (by decide) (by decide)) (hlow 7 (by decide) (by decide) (by decide) (by decide) (by decide))
  · intro m hm6
    by_cases e : m = n
    · rw [e]
      obtain ⟨t', kb', n1, n2, n3⟩ := hRN
      exact Or.inr ⟨by rw [p23, if_pos rfl], t', kb', n1, n2, n3⟩
    · rw [p23, p24, p25, p26, p27, if_neg e, if_neg e, if_neg e, if_neg e, if_neg e]
      exact g9 m hm6
/-- MendTexts.more -/
theorem more_m {σ τ : Mem} {A : AS} {N : Nat} {a b : Int} (hN : 400 ≤ N) (hN2 : mu (fun _ _ _ => TT) 294 + 2 ≤ N) (h : Inv σ τ A) (h1 : -2147483648 ≤ a) (h2 : a < 2147483648) (h3 : -2147483648 ≤ b) (h4 : b < 2147483648) : SameI (f_X11_more N a b σ) (f_X12_more N a b τ) := by
  have hE := h.2.2.2.2.1
  rcases name_cases h1 h2 with ⟨n, hn, rfl⟩ | hn
  · by_cases qb : 0 ≤ b ∧ b ≤ 3
    · by_cases qe : aE A = 0
      · refine ⟨-3, σ, τ, A, ?_, ?_, h⟩
        · unfold f_X11_more
          rw [bV_ok (isName_v n hn), if_neg z10, ifl_f (by omega) (by omega) (by omega), ifle_t (by omega) (by omega) (by omega), hE.2.1, ife_t (by omega)]
        · unfold f_X12_more
          rw [bV_ok (isName2_v n hn), if_neg z10, in_v h3 h4 (by decide) (by decide) (by decide) (by decide), if_pos qb, bV_s, if_neg z10, hE.2.2.1, ife_t (by omega)]
      · have hcl : ∃ σ9, (bV (f_X9_hasSought (n : Int) σ) (fun (y8 : Int) => if zI y8 = zI 0 then nm (st σ 0 12 0) (fun (σ11 : Mem) => bV (f_X9_seek N (n : Int) σ11) (fun (σ13 : Mem) => some σ13)) else some σ)) = some σ9 ∧ Inv σ9 τ A ∧ ClaN σ9 A n := by
          unfold f_X9_hasSought
          by_cases q : zI (n : Int) = zI (σ 38 3)
          · refine ⟨σ, by rw [if_pos q, bV_s, if_neg z10], h, ?_⟩
            rcases h.2.2.2.2.2.2.2.1 with z | ⟨n2, t, kb, z1, z2, z3, z4⟩
            · rw [z] at q
              have := (zI_eqI (by omega) (by omega) (by omega) (by omega)).mp q
              omega
            · rw [z2] at q
              have := (zI_eqI (by omega) (by omega) (by omega) (by omega)).mp q
              have e : n2 = n := by omega
              rw [e] at z3
              exact ⟨t, kb, z3, z4⟩
          · have hI0 := Inv_nochart h (st_eq σ 0 12 0) (fun k a _ _ _ => st_other σ _ a)
            obtain ⟨σ9, s1, s2, s3, s4⟩ := seek_m hN hI0 hn (st_eq σ 0 12 0)
            exact ⟨σ9, by rw [if_neg q, bV_s, if_pos z00, nm_s, bV_ok s1], s2, s3⟩
        obtain ⟨σ9, c1, c2, c3⟩ := hcl
        have hrf : ∃ τ9, (if zI (τ 23 n) = zI 0 then bV (f_X12_layMore N (n : Int) τ) (fun (σ12 : Mem) => some σ12) else some τ) = some τ9 ∧ Inv σ9 τ9 A ∧ RefN τ9 A n := by
          rcases c2.2.2.2.2.2.2.2.2 n hn with z | ⟨z, t, kb, z1, z2⟩
          · obtain ⟨τ9, s1, s2, s3⟩ := layMore_m hN hN2 c2 hn
            exact ⟨τ9, by rw [z, if_pos z00, bV_ok s1], s2, s3⟩
          · exact ⟨τ, by rw [z, if_neg z10], c2, t, kb, z1, z2⟩
        obtain ⟨τ9, r1, r2, r3⟩ := hrf
        obtain ⟨t, kb, m1, m2, m3⟩ := c3
        obtain ⟨t', kb', n1, n2, n3⟩ := r3
        have hs := h.2.1.2.2.2.2.2.1
        obtain ⟨e1, e2⟩ := MoreP_uniq hs m1 n1
        rw [← e1] at n2 n3
        rw [← e2] at n3
        have htl : t ≤ 100000000 := by
          obtain ⟨T, hT, hTl⟩ := totals_ex h hn
          obtain ⟨U, u1, u2, u3, -⟩ := m1
          have := TotP_uniq hs (u1 kb u2) (hT kb u2)
          have := hTl kb u2
          omega
        have hpre : f_X11_more N (n : Int) b σ = (if zI (σ9 38 4) = zI 1073741824 then some (-5, σ9) else if zI b = zI 0 then some (σ9 38 4, σ9) else bV (f_X4_lengthOf 3 24 σ9) (fun (y17 : Int) => if zI b = zI 1 then some (y17, σ9) else if zI y17 ≤ zI (b - 2) then some (-6, σ9) else bV (f_X4_signAt 24 (b - 2) σ9) (fun (y21 : Int) => bV (f_X11_codeOf y21) (fun (y23 : Int) => some (y23, σ9))))) := by
          unfold f_X11_more
          rw [bV_ok (isName_v n hn), if_neg z10, ifl_f (a := b) (b := 0) (by omega) (by omega) (by omega), ifle_t (a := b) (b := 3) (by omega) (by omega) (by omega), hE.2.1, ife_f (a := (aE A : Int)) (b := 0) (by omega) (by omega) (by have := hE.1; omega) (by omega) (by omega)]
          have bk : ∀ {α β γ : Type} {o : Option α} {g : α → Option β} {k : β → Option γ} {r : β}, bV o g = some r → bV o (fun y => bV (g y) k) = k r := fun {α β γ o g k r} hh => by
            rw [← bV_k, hh]; rfl
          exact bk c1
        have hpr2 : f_X12_more N (n : Int) b τ = (if zI (t : Int) < zI 100000000 then (if zI b = zI 0 then some ((t : Int), τ9) else if zI b = zI 1 then some (τ9 25 n, τ9) else if zI b = zI 2 then some (τ9 26 n, τ9) else some (τ9 27 n, τ9)) else some (-5, τ9)) := by
          unfold f_X12_more
          rw [bV_ok (isName2_v n hn), if_neg z10, in_v h3 h4 (by decide) (by decide) (by decide) (by decide), if_pos qb, bV_s, if_neg z10, hE.2.2.1, ife_f (a := (aE A : Int)) (b := 0) (by omega) (by omega) (by have := hE.1; omega) (by omega) (by omega), gd_pos ⟨by omega, by omega⟩, Int.toNat_natCast, r1, bV_s, nm_s, n2]
        by_cases qt : t = 100000000
        · refine ⟨-5, σ9, τ9, A, ?_, ?_, r2⟩
          · rw [hpre, m2, if_pos qt, ife_t rfl]
          · rw [hpr2, ifl_f (by omega) (by omega) (by omega)]
        · obtain ⟨k1, k2⟩ := m3 qt
          obtain ⟨k3, k4, k5⟩ := n3 qt
          have hlen : f_X4_lengthOf 3 24 σ9 = some (tlen kb : Int) := by
            have := lengthOf_m (σ := σ9) 3 24 (by decide)
            have h' : f_X4_lengthOf 3 24 σ9 = some (σ9 5 24) := this
            rw [h', k1]
          have htl2 := tlen_le kb
          have hkb27 : kb < 27 := by
            obtain ⟨U, u1, u2, -⟩ := m1
            exact u2
          rw [if_neg qt] at m2
          have hsig : ∀ p : Nat, p < tlen kb → f_X4_signAt 24 (p : Int) σ9 = some ((tsg kb p : Nat) : Int) := fun p hp => by
            have h' : f_X4_signAt ((24 : Nat) : Int) (p : Int) σ9 = some (σ9 6 (24 * 4 + p)) := signAt_m 24 p (by decide) (by omega)
            have h'' : f_X4_signAt 24 (p : Int) σ9 = some (σ9 6 (24 * 4 + p)) := h'
            rw [h'', show 24 * 4 + p = 96 + p by omega, k2 p hp]
          have hb : b = 0 ∨ b = 1 ∨ b = 2 ∨ b = 3 := by omega
          rcases hb with rfl | rfl | rfl | rfl
          · refine ⟨(t : Int), σ9, τ9, A, ?_, ?_, r2⟩
            · rw [hpre, m2, ife_f (by omega) (by omega) (by omega) (by omega) (by omega), if_pos z00]
            · rw [hpr2, ifl_t (by omega) (by omega) (by omega), if_pos z00]
          · refine ⟨(tlen kb : Int), σ9, τ9, A, ?_, ?_, r2⟩
            · rw [hpre, m2, ife_f (by omega) (by omega) (by omega) (by omega) (by omega), if_neg z10, bV_ok hlen, if_pos rfl]
            · rw [hpr2, ifl_t (by omega) (by omega) (by omega), if_neg z10, if_pos rfl, k3]
          · refine ⟨if 0 < tlen kb then ((sgx (tsg kb 0) : Nat) : Int) else -6, σ9, τ9, A, ?_, ?_, r2⟩
            · rw [hpre, m2, ife_f (by omega) (by omega) (by omega) (by omega) (by omega), ife_f (a := 2) (b := 0) (by decide) (by decide) (by decide) (by decide) (by decide), bV_ok hlen, ife_f (a := 2) (b := 1) (by decide) (by decide) (by decide) (by decide) (by decide), show (2 : Int) - 2 = ((0 : Nat) : Int) by decide]
              by_cases z : 0 < tlen kb
              · rw [ifle_f (by omega) (by omega) (by omega), bV_ok (hsig 0 z), bV_ok (codeOf_m (tsg_lt hkb27)), if_pos z]
              · rw [ifle_t (by omega) (by omega) (by omega), if_neg z]
            · rw [hpr2, ifl_t (by omega) (by omega) (by omega), ife_f (a := 2) (b := 0) (by decide) (by decide) (by decide) (by decide) (by decide), ife_f (a := 2) (b := 1) (by decide) (by decide) (by decide) (by decide) (by decide), if_pos rfl, k4]
          · refine ⟨if 1 < tlen kb then ((sgx (tsg kb 1) : Nat) : Int) else -6, σ9, τ9, A, ?_, ?_, r2⟩
            · rw [hpre, m2, ife_f (by omega) (by omega) (by omega) (by omega) (by omega), ife_f (a := 3) (b := 0) (by decide) (by decide) (by decide) (by decide) (by decide), bV_ok hlen, ife_f (a := 3) (b := 1) (by decide) (by decide) (by decide) (by decide) (by decide), show (3 : Int) - 2 = ((1 : Nat) : Int) by decide]
              by_cases z : 1 < tlen kb
              · rw [ifle_f (by omega) (by omega) (by omega), bV_ok (hsig 1 z), bV_ok (codeOf_m (tsg_lt hkb27)), if_pos z]
              · rw [ifle_t (by omega) (by omega) (by omega), if_neg z]
            · rw [hpr2, ifl_t (by omega) (by omega) (by omega), ife_f (a := 3) (b := 0) (by decide) (by decide) (by decide) (by decide) (by decide), ife_f (a := 3) (b := 1) (by decide) (by decide) (by decide) (by decide) (by decide), ife_f (a := 3) (b := 2) (by decide) (by decide) (by decide) (by decide) (by decide), k5]
    · refine ⟨-2, σ, τ, A, ?_, ?_, h⟩
      · unfold f_X11_more
        rw [bV_ok (isName_v n hn), if_neg z10]
        by_cases q : b < 0
        · rw [ifl_t q (by omega) (by omega)]
        · rw [ifl_f (a := b) (b := 0) (by omega) (by omega) (by omega), ifle_f (a := b) (b := 3) (by omega) (by omega) (by omega)]
      · unfold f_X12_more
        rw [bV_ok (isName2_v n hn), if_neg z10, in_v h3 h4 (by decide) (by decide) (by decide) (by decide), if_neg qb, bV_s, if_pos z00]
  · unfold f_X11_more f_X12_more
    rw [bV_ok (isName_f hn h1 h2), if_pos z00, bV_ok (isName2_f hn h1 h2), if_pos z00]
    exact ⟨-1, σ, τ, A, rfl, rfl, h⟩
