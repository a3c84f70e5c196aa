/-! layer 2, Search.seek: whole -/
/-- the grammar without a rule on trial, in the class's rows -/
def BGm (σ : Mem) (A : AS) : Prop := (∀ m, m < 6 → σ 4 m = (aRc A m : Int)) ∧ (∀ m r, m < 6 → r < aRc A m → σ 5 (m * 4 + r) = (aRl A m r : Int)) ∧ ∀ m r p, m < 6 → r < aRc A m → p < aRl A m r → σ 6 ((m * 4 + r) * 4 + p) = (aRs A m r p : Int)
def QC (σ : Mem) (A : AS) : Prop := wfM σ ∧ CS σ (aD A) (aU A) (aH A) ∧ aE A ≤ 3 ∧ σ 25 2 = (aE A : Int) ∧ (∀ i, i < 3 → σ 26 i = ((17 + 2 * i : Nat) : Int)) ∧ (∀ i, i < aE A → WD σ (17 + 2 * i) (aEL A i) (aEW A i)) ∧ aS A < 6 ∧ σ 3 4 = (aS A : Int) ∧ BGm σ A
theorem QC_rc {σ : Mem} {A : AS} (h : QC σ A) {m : Nat} (hm : m < 6) : aRc A m ≤ 4 := by
  have h1 := h.1.1 m hm
  have h2 := h.2.2.2.2.2.2.2.2.1 m hm
  omega
theorem QC_rl {σ : Mem} {A : AS} (h : QC σ A) {m r : Nat} (hm : m < 6) (hr : r < aRc A m) : aRl A m r ≤ 4 := by
  have h0 := QC_rc h hm
  have h1 := h.1.2.1 (m * 4 + r) (by omega)
  have h2 := h.2.2.2.2.2.2.2.2.2.1 m r hm hr
  omega
theorem QC_of {σ τ : Mem} {A : AS} (h : Inv σ τ A) : QC σ A := by
  obtain ⟨g1, ⟨a1, a2, ⟨s1, s2, s3⟩, a4, a5, a6, a7, a8, a9⟩, g3, g4, g5, g6, g7, g8, g9⟩ := h
  have e4 : ∀ m, m < 6 → σ 4 m = (aRc A m : Int) := fun m hm => by
    have h1 := s1 m hm
    have h2 := a1.1 m hm
    unfold rcC at h1
    rw [if_neg (by omega)] at h1
    omega
  have esl : ∀ m r, m < 6 → r < aRc A m → slC σ m r = m * 4 + r := fun m r hm hr => by
    unfold slC
    rw [if_pos (by rw [e4 m hm]; omega)]
  refine ⟨a1, g4.1, g5.1, g5.2.1, g5.2.2.2.1, fun i hi => (g5.2.2.2.2 i hi).1, a6, a7, e4, fun m r hm hr => ?_, fun m r p hm hr hp => ?_⟩
  · have h1 := s2 m r hm (by rw [s1 m hm]; exact hr)
    unfold rlC at h1
    rw [esl m r hm hr] at h1
    have h2 := a5 m hm
    have h3 := a1.2.1 (m * 4 + r) (by omega)
    omega
  · have hr2 : r < rcC σ m := by rw [s1 m hm]; exact hr
    have h1 := s3 m r p hm hr2 (by rw [s2 m r hm hr2]; exact hp)
    unfold rsC sgC at h1
    rw [esl m r hm hr] at h1
    have h2 := a5 m hm
    have hp4 := (a4.2.1 m r hm hr).2
    have h3 := a1.2.2.1 ((m * 4 + r) * 4 + p) (by omega)
    omega
/-- what a search may change -/
def offS (σ σ2 : Mem) : Prop := (∀ j, j ≠ 3 → j ≠ 5 → j ≠ 6 → j ≠ 27 → j ≠ 28 → j ≠ 29 → j ≠ 38 → σ2 j = σ j) ∧ (∀ j, j ≠ 6 → σ2 3 j = σ 3 j) ∧ (∀ s, s ≠ 24 → σ2 5 s = σ 5 s) ∧ (∀ q, q < 96 → σ2 6 q = σ 6 q) ∧ ∀ j, j ≠ 4 → j ≠ 5 → σ2 38 j = σ 38 j
theorem offS_rfl (σ : Mem) : offS σ σ := ⟨fun _ _ _ _ _ _ _ _ => rfl, fun _ _ => rfl, fun _ _ => rfl, fun _ _ => rfl, fun _ _ _ => rfl⟩
theorem offS_trans {σ τ ω : Mem} (h : offS σ τ) (h2 : offS τ ω) : offS σ ω := ⟨fun j a b c d e f g => (h2.1 j a b c d e f g).trans (h.1 j a b c d e f g), fun j a => (h2.2.1 j a).trans (h.2.1 j a), fun j a => (h2.2.2.1 j a).trans (h.2.2.1 j a), fun j a => (h2.2.2.2.1 j a).trans (h.2.2.2.1 j a), fun j a b => (h2.2.2.2.2 j a b).trans (h.2.2.2.2 j a b)⟩
theorem offS_TY {σ σ2 : Mem} {n k : Nat} (h : TY σ σ2 n k) : offS σ σ2 := by
  obtain ⟨h1, h2, h3, h4, h5, h6, h7, h8⟩ := h
  exact ⟨fun j a b c _ _ _ _ => h1 j a b c, h2, h4, h6, fun j _ _ => by rw [h1 38 (by decide) (by decide) (by decide)]⟩
theorem offS_27 {σ σ2 : Mem} (h : off2729 σ σ2) : offS σ σ2 :=
  ⟨fun j _ _ _ d e f _ => h j d e f, fun j _ => by rw [h 3 (by decide) (by decide) (by decide)], fun s _ => by rw [h 5 (by decide) (by decide) (by decide)], fun q _ => by rw [h 6 (by decide) (by decide) (by decide)], fun j _ _ => by rw [h 38 (by decide) (by decide) (by decide)]⟩
theorem offS_38 {σ : Mem} {j : Nat} {v : Int} (hj : j = 4 ∨ j = 5) : offS σ (st σ 38 j v) :=
  ⟨fun k _ _ _ _ _ _ g => st_other _ _ g, fun _ _ => by rw [st_other _ _ (by decide : 3 ≠ 38)], fun _ _ => by rw [st_other _ _ (by decide : 5 ≠ 38)], fun _ _ => by rw [st_other _ _ (by decide : 6 ≠ 38)], fun i a b => st_ne _ _ (by omega)⟩
theorem QC_eq {σ σ2 : Mem} {A : AS} (h : QC σ A) (ho : offS σ σ2) (hw : wfM σ2) : QC σ2 A := by
  have hrc : ∀ m, m < 6 → aRc A m ≤ 4 := fun m hm => QC_rc h hm
  have hrl : ∀ m r, m < 6 → r < aRc A m → aRl A m r ≤ 4 := fun m r hm hr => QC_rl h hm hr
  obtain ⟨h1, h2, h3, h4, h5, h6, h7, h8, b1, b2, b3⟩ := h
  obtain ⟨o1, o2, o3, o4, o5⟩ := ho
  have e : ∀ k, 6 < k → k < 27 → σ2 k = σ k := fun k a b => o1 k (by omega) (by omega) (by omega) (by omega) (by omega) (by omega) (by omega)
  refine ⟨hw, CS_eq h2 (e 12 (by decide) (by decide)), h3, by rw [e 25 (by decide) (by decide)]; exact h4, by rw [e 26 (by decide) (by decide)]; exact h5, fun i hi => WD_eq (h6 i hi) (e _ (by omega) (by omega)) (e _ (by omega) (by omega)), h7, by rw [o2 4 (by decide)]; exact h8, ?_, fun m r hm hr => ?_, fun m r p hm hr hp => ?_⟩
  · rw [o1 4 (by decide) (by decide) (by decide) (by decide) (by decide) (by decide) (by decide)]; exact b1
  · have := hrc m hm
    rw [o3 _ (by omega)]; exact b2 m r hm hr
  · have := hrc m hm
    have := hrl m r hm hr
    rw [o4 _ (by omega)]; exact b3 m r p hm hr hp
theorem wfM_27 {σ σ2 : Mem} (h : wfM σ) (ho : off2729 σ σ2) : wfM σ2 := wfM_eq h (ho 3 (by decide) (by decide) (by decide)) (ho 4 (by decide) (by decide) (by decide)) (ho 5 (by decide) (by decide) (by decide)) (ho 6 (by decide) (by decide) (by decide)) (ho 12 (by decide) (by decide) (by decide))
theorem wfM_TY {σ σ2 : Mem} {n k : Nat} (hn : n < 6) (hk : k < 27) (h : wfM σ) (hT : TY σ σ2 n k) : wfM σ2 := by
  obtain ⟨a1, a2, a3, a4, a5⟩ := h
  obtain ⟨h1, h2, h3, h4, h5, h6, h7, h8⟩ := hT
  refine ⟨?_, fun s hs => ?_, fun q hq => ?_, by rw [h3]; omega, ?_⟩
  · rw [h1 4 (by decide) (by decide) (by decide)]; exact a1
  · by_cases e : s = 24
    · rw [e, h5]
      have := tlen_le k
      omega
    · rw [h4 s e]; exact a2 s hs
  · rcases h8 q with z | ⟨p, z⟩
    · rw [z]; exact a3 q hq
    · rw [z]
      have := tsg_lt (p := p) hk
      omega
  · rw [h1 12 (by decide) (by decide) (by decide)]; exact a5
theorem QC_TY {σ σ2 : Mem} {A : AS} {n k : Nat} (hn : n < 6) (hk : k < 27) (h : QC σ A) (hT : TY σ σ2 n k) : QC σ2 A := QC_eq h (offS_TY hT) (wfM_TY hn hk h.1 hT)
/-- with the rule on trial the class's grammar is the one with a rule more -/
theorem TC_TY {σ σ2 : Mem} {A : AS} {n k : Nat} (hn : n < 6) (hk : k < 27) (h : QC σ A) (hT : TY σ σ2 n k) : TC σ2 A (rcX A n) (rlX A n k) (rsX A n k) := by
  have hq := QC_TY hn hk h hT
  obtain ⟨q1, q2, q3, q4, q5, q6, q7, q8, b1, b2, b3⟩ := id hq
  obtain ⟨h1, h2, h3, h4, h5, h6, h7, h8⟩ := hT
  have hrc : ∀ m, m < 6 → rcC σ2 m = rcX A n m := fun m hm => by
    unfold rcC rcX
    rw [b1 m hm, h3]
    by_cases e : m = n
    · rw [if_pos (by omega), if_pos e, e]; omega
    · rw [if_neg (by omega), if_neg e]; omega
  have hsl : ∀ m r, m < 6 → r < rcX A n m → (m = n ∧ r = aRc A n ∧ slC σ2 m r = 24) ∨ (¬ (m = n ∧ r = aRc A n) ∧ r < aRc A m ∧ slC σ2 m r = m * 4 + r) := fun m r hm hr => by
    unfold slC
    rw [b1 m hm]
    unfold rcX at hr
    by_cases e : m = n
    · rw [if_pos e] at hr
      by_cases e2 : r = aRc A n
      · left
        rw [if_neg (by rw [e]; omega)]
        exact ⟨e, e2, rfl⟩
      · right
        rw [if_pos (by rw [e]; omega)]
        exact ⟨fun z => e2 z.2, by rw [e]; omega, rfl⟩
    · rw [if_neg e] at hr
      right
      rw [if_pos (by omega)]
      exact ⟨fun z => e z.1, hr, rfl⟩
  have hrl : ∀ m r, m < 6 → r < rcX A n m → rlC σ2 m r = rlX A n k m r := fun m r hm hr => by
    unfold rlC
    rcases hsl m r hm hr with ⟨z1, z2, z3⟩ | ⟨z1, z2, z3⟩
    · have : rlX A n k m r = tlen k := if_pos ⟨z1, z2⟩
      rw [z3, this, h5]; omega
    · rw [z3, rlX_o z1, b2 m r hm z2]; omega
  refine ⟨q1, q2, q3, q4, q5, q6, q7, q8, hrc, fun m r hm hr => hrl m r hm (by rw [← hrc m hm]; exact hr), fun m r p hm hr hp => ?_⟩
  have hr2 : r < rcX A n m := by rw [← hrc m hm]; exact hr
  rw [hrl m r hm hr2] at hp
  unfold rsC sgC
  rcases hsl m r hm hr2 with ⟨z1, z2, z3⟩ | ⟨z1, z2, z3⟩
  · have e1 : rlX A n k m r = tlen k := if_pos ⟨z1, z2⟩
    have e2 : rsX A n k m r p = tsg k p := if_pos ⟨z1, z2⟩
    rw [e1] at hp
    rw [z3, e2, show 24 * 4 + p = 96 + p by omega, h7 p hp]
    omega
  · rw [rlX_o z1] at hp
    rw [z3, rsX_o z1, b3 m r p hm z2 hp]
    omega
/-- the best total of the first k rules, and its number -/
def BST (T : Nat → Nat) (k b kb : Nat) : Prop := b ≤ 1073741824 ∧ (∀ j, j < k → b ≤ big (T j)) ∧ ((b = 1073741824 ∧ kb = 0) ∨ (kb < k ∧ big (T kb) = b ∧ b < 1073741824 ∧ ∀ j, j < kb → b < big (T j)))
theorem BST_next {T : Nat → Nat} {k b kb : Nat} (h : BST T k b kb) : (big (T k) < b → BST T (k + 1) (big (T k)) k) ∧ (b ≤ big (T k) → BST T (k + 1) b kb) := by
  obtain ⟨h1, h2, h3⟩ := h
  refine ⟨fun q => ⟨by omega, fun j hj => ?_, Or.inr ⟨by omega, rfl, by omega, fun j hj => ?_⟩⟩, fun q => ⟨h1, fun j hj => ?_, ?_⟩⟩
  · by_cases e : j = k
    · rw [e]; exact Nat.le_refl _
    · have := h2 j (by omega); omega
  · have := h2 j hj; omega
  · by_cases e : j = k
    · rw [e]; exact q
    · exact h2 j (by omega)
  · rcases h3 with z | ⟨z1, z2⟩
    · exact Or.inl z
    · exact Or.inr ⟨by omega, z2⟩
theorem seek31 {A : AS} {n tn N : Nat} {T : Nat → Nat} (hN : 10 ≤ N) (hn : n < 6) (htn : tn ≤ 27) (hT : ∀ k, k < 27 → TotP A (rcX A n) (rlX A n k) (rsX A n k) (T k)) : ∀ (m k fuel b kb : Nat) (σ : Mem), k + m = tn → m < fuel → QC σ A → σ 38 4 = (b : Int) → σ 38 5 = (kb : Int) → BST T k b kb →
    ∃ (σ2 : Mem) (k2 b2 kb2 : Nat), f_X9_seek_L31 N (n : Int) (tn : Int) fuel (k : Int) σ = some σ2 ∧ QC σ2 A ∧ offS σ σ2 ∧ σ2 38 4 = (b2 : Int) ∧ σ2 38 5 = (kb2 : Int) ∧ k2 ≤ tn ∧ BST T k2 b2 kb2 ∧ (k2 = tn ∨ b2 = 0) := by
  intro m
  induction m with
  | zero =>
    intro k fuel b kb σ hk hf hq h4 h5 hb
    obtain ⟨f, rfl⟩ : ∃ f, fuel = f + 1 := ⟨fuel - 1, by omega⟩
    refine ⟨σ, k, b, kb, ?_, hq, offS_rfl σ, h4, h5, by omega, hb, Or.inl (by omega)⟩
    rw [f_X9_seek_L31, ifle_t (by omega) (by omega) (by omega)]
  | succ m ih =>
    intro k fuel b kb σ hk hf hq h4 h5 hb
    obtain ⟨f, rfl⟩ : ∃ f, fuel = f + 1 := ⟨fuel - 1, by omega⟩
    have hb1 := hb.1
    rw [f_X9_seek_L31, ifle_f (by omega) (by omega) (by omega), h4]
    by_cases q0 : b = 0
    · refine ⟨σ, k, b, kb, ?_, hq, offS_rfl σ, h4, h5, by omega, hb, Or.inr q0⟩
      rw [ifle_t (by omega) (by omega) (by omega)]
    · obtain ⟨σ4, t1, t2⟩ := tryRule_m (σ := σ) (n := n) (k := k) (by omega)
      have hTC := TC_TY hn (by omega) hq t2
      have hq4 := QC_TY hn (by omega) hq t2
      obtain ⟨σ6, u1, u2⟩ := totalBelow_m (N := N) (l := b) hN hb1 hTC (hT k (by omega))
      have hq6 := QC_eq hq4 (offS_27 u2) (wfM_27 hq4.1 u2)
      have e44 : σ4 38 4 = (b : Int) := by rw [t2.1 38 (by decide) (by decide) (by decide)]; exact h4
      have e64 : σ6 38 4 = (b : Int) := by rw [u2 38 (by decide) (by decide) (by decide)]; exact e44
      have e65 : σ6 38 5 = (kb : Int) := by rw [u2 38 (by decide) (by decide) (by decide), t2.1 38 (by decide) (by decide) (by decide)]; exact h5
      have en : (k : Int) + 1 = ((k + 1 : Nat) : Int) := by omega
      have ho := offS_trans (offS_TY t2) (offS_27 u2)
      rw [ifle_f (by omega) (by omega) (by omega), bV_ok t1, e44, bL1_ok u1, e64]
      by_cases q : big (T k) < b
      · have ho2 := offS_trans ho (offS_trans (offS_38 (j := 4) (v := ((big (T k) : Nat) : Int)) (Or.inl rfl)) (offS_38 (j := 5) (v := (k : Int)) (Or.inr rfl)))
        have hw : wfM (st (st σ6 38 4 ((big (T k) : Nat) : Int)) 38 5 (k : Int)) := wfM_eq hq6.1 (by rw [st_other _ _ (by decide), st_other _ _ (by decide)]) (by rw [st_other _ _ (by decide), st_other _ _ (by decide)]) (by rw [st_other _ _ (by decide), st_other _ _ (by decide)]) (by rw [st_other _ _ (by decide), st_other _ _ (by decide)]) (by rw [st_other _ _ (by decide), st_other _ _ (by decide)])
        obtain ⟨σ2, k2, b2, kb2, s1, s2, s3, s4⟩ := ih (k + 1) f (big (T k)) k (st (st σ6 38 4 ((big (T k) : Nat) : Int)) 38 5 (k : Int)) (by omega) (by omega) (QC_eq hq ho2 hw) (by rw [st_ne _ _ (by decide), st_eq]) (st_eq _ _ _ _) ((BST_next hb).1 q)
        refine ⟨σ2, k2, b2, kb2, ?_, s2, offS_trans ho2 s3, s4⟩
        rw [show min (big (T k)) b = big (T k) by omega, ifle_f (by omega) (by omega) (by omega), nm_s, nm_s, bV_s, nm_s, en]
        exact s1
      · obtain ⟨σ2, k2, b2, kb2, s1, s2, s3, s4⟩ := ih (k + 1) f b kb σ6 (by omega) (by omega) hq6 e64 e65 ((BST_next hb).2 (by omega))
        refine ⟨σ2, k2, b2, kb2, ?_, s2, offS_trans ho s3, s4⟩
        rw [show min (big (T k)) b = b by omega, ifle_t (Int.le_refl _) (by omega) (by omega), bV_s, nm_s, en]
        exact s1
/-- what the class keeps of a search for the name -/
def ClaN (σ : Mem) (A : AS) (n : Nat) : Prop := ∃ t kb : Nat, MoreP A n t kb ∧ σ 38 4 = (if t = 100000000 then 1073741824 else (t : Int)) ∧ (t ≠ 100000000 → σ 5 24 = (tlen kb : Int) ∧ ∀ p, p < tlen kb → σ 6 (96 + p) = (tsg kb p : Int))
theorem big_inj {t t2 : Nat} (h1 : t ≤ 100000000) (h2 : t2 ≤ 100000000) : (big t ≤ big t2 ↔ t ≤ t2) ∧ (big t < big t2 ↔ t < t2) := by
  have e1 : big t = if t = 100000000 then 1073741824 else t := rfl
  have e2 : big t2 = if t2 = 100000000 then 1073741824 else t2 := rfl
  rw [e1, e2]
  by_cases q : t = 100000000
  · rw [if_pos q]
    by_cases q2 : t2 = 100000000
    · rw [if_pos q2]; omega
    · rw [if_neg q2]; omega
  · rw [if_neg q]
    by_cases q2 : t2 = 100000000
    · rw [if_pos q2]; omega
    · rw [if_neg q2]; omega
theorem seek_m {σ τ : Mem} {A : AS} {n N : Nat} (hN : 400 ≤ N) (h : Inv σ τ A) (hn : n < 6) (h0 : σ 0 12 = 0) :
    ∃ σ2, f_X9_seek N (n : Int) σ = some σ2 ∧ Inv σ2 τ A ∧ ClaN σ2 A n ∧ σ2 38 3 = (n : Int) := by
  have hq := QC_of h
  have hTR := TR_of h
  -- the totals of all rules
  have hTe : ∀ k, ∃ t, k < 27 → TotP A (rcX A n) (rlX A n k) (rsX A n k) t := fun k => by
    by_cases q : k < 27
    · obtain ⟨σ4, t1, t2⟩ := tryRule_m (σ := σ) (n := n) (k := k) q
      obtain ⟨t, ht⟩ := tot_ex (TC_TY hn q hq t2)
      exact ⟨t, fun _ => ht⟩
    · exact ⟨0, fun z => absurd z q⟩
  obtain ⟨T, hT⟩ := Classical.axiomOfChoice hTe
  have hTle : ∀ k, k < 27 → T k ≤ 100000000 := fun k hk => TotP_le hTR.2.2.2.2.1.2.1 hTR.2.2.2.2.1.2.2.2.1 hTR.2.2.2.2.2.1 (fun i hi => (hTR.2.2.2.2.2.2.2.1 i hi).1) hTR.2.2.2.2.2.2.2.2.1 (hT k hk)
  have hb2 : ∀ t, big t = if t = 100000000 then 1073741824 else t := fun _ => rfl
  generalize hs2 : st (st σ 38 4 1073741824) 38 5 0 = σ2
  have o2 : ∀ k, k ≠ 38 → σ2 k = σ k := fun k hk => by rw [← hs2, st_other _ _ hk, st_other _ _ hk]
  have e24 : σ2 38 4 = ((1073741824 : Nat) : Int) := by rw [← hs2, st_ne _ _ (by decide), st_eq]; rfl
  have e25 : σ2 38 5 = ((0 : Nat) : Int) := by rw [← hs2, st_eq]; rfl
  have ho2 : offS σ σ2 := by rw [← hs2]; exact offS_trans (offS_38 (j := 4) (Or.inl rfl)) (offS_38 (j := 5) (Or.inr rfl))
  have hw2 : wfM σ2 := wfM_eq hq.1 (o2 3 (by decide)) (o2 4 (by decide)) (o2 5 (by decide)) (o2 6 (by decide)) (o2 12 (by decide))
  have hq2 := QC_eq hq ho2 hw2
  obtain ⟨v, v1, v2⟩ := startUses_m (n := n) (s := aS A) (N := N) hw2 (by omega) hn hq2.2.2.2.2.2.2.1 hq2.2.2.2.2.2.2.2.1
  -- the trials
  have htr : ∃ tn : Nat, (tn = 27 ∨ (tn = 1 ∧ ∀ k, k < 27 → T k = T 0)) ∧ (if zI v = zI 0 then some (1 : Int) else some 27) = some (tn : Int) := by
    rcases v2 with e | ⟨e, u, u1, u2, u3⟩
    · exact ⟨27, Or.inl rfl, by rw [e, if_neg z10]; rfl⟩
    · refine ⟨1, Or.inr ⟨rfl, fun k hk => ?_⟩, by rw [e, if_pos z00]; rfl⟩
      obtain ⟨g1, ⟨a1, a2, ⟨s1, s2, s3⟩, a4, a5, -⟩, -⟩ := id h
      refine tot_indep (u := u) (fun m r p hm hr hp => (a4.2.2 m r p hm hr hp).2) hq.2.2.2.2.2.2.1 hk (by decide) u1 u2 (fun x hx hux y hy huy => ?_) (hT k hk) (hT 0 (by decide))
      refine u3 x hx hux y hy ?_
      obtain ⟨r, hr, p, hp, e2⟩ := huy
      rw [rcC_eq (o2 3 (by decide)) (o2 4 (by decide)), rlC_eq (o2 4 (by decide)) (o2 5 (by decide)), rsC_eq (o2 4 (by decide)) (o2 6 (by decide))]
      have hr2 : r < rcC σ x := by rw [s1 x hx]; exact hr
      have hp2 : p < rlC σ x r := by rw [s2 x r hx hr2]; exact hp
      exact ⟨r, hr2, p, hp2, by rw [s3 x r p hx hr2 hp2]; exact e2⟩
  obtain ⟨tn, t1, t2⟩ := htr
  obtain ⟨σ7, k2, b2, kb2, s1, s2, s3, s4, s5, s6, s7, s8⟩ := seek31 (N := N) (tn := tn) (by omega) hn (by rcases t1 with z | z <;> omega) hT tn 0 N 1073741824 0 σ2 (by omega) (by rcases t1 with z | z <;> omega) hq2 e24 e25 ⟨Nat.le_refl _, fun j hj => absurd hj (Nat.not_lt_zero j), Or.inl ⟨rfl, rfl⟩⟩
  have s1' : f_X9_seek_L31 N (n : Int) (tn : Int) N 0 σ2 = some σ7 := s1
  have hkb27 : kb2 < 27 := by
    obtain ⟨-, -, z⟩ := s7
    rcases t1 with y | y <;> rcases z with z | z <;> omega
  have hmore : ∃ t, MoreP A n t kb2 ∧ b2 = big t ∧ t ≤ 100000000 := by
    obtain ⟨c1, c2, c3⟩ := s7
    have hall : ∀ k, k < 27 → b2 ≤ big (T k) := fun k hk => by
      rcases s8 with z | z
      · rcases t1 with y | ⟨y, y2⟩
        · exact c2 k (by omega)
        · rw [y2 k hk]; exact c2 0 (by omega)
      · omega
    rcases c3 with ⟨z1, z2⟩ | ⟨z1, z2, z3, z4⟩
    · refine ⟨T 0, ⟨T, hT, hkb27, by rw [z2], fun k hk => ?_, fun k hk => by omega⟩, ?_, hTle 0 (by decide)⟩
      · have h1 := hall k hk
        rw [hb2] at h1
        by_cases e : T k = 100000000
        · rw [e]; exact hTle 0 (by decide)
        · rw [if_neg e] at h1
          have := hTle k hk
          omega
      · have h1 := hall 0 (by decide)
        rw [hb2] at h1 ⊢
        have := hTle 0 (by decide)
        by_cases e : T 0 = 100000000
        · rw [if_pos e]; exact z1
        · rw [if_neg e] at h1
          omega
    · refine ⟨T kb2, ⟨T, hT, hkb27, rfl, fun k hk => ?_, fun k hk => ?_⟩, z2.symm, hTle kb2 hkb27⟩
      · have h1 := hall k hk
        rw [← z2] at h1
        exact (big_inj (hTle kb2 hkb27) (hTle k hk)).1.mp h1
      · have h1 := z4 k hk
        rw [← z2] at h1
        exact (big_inj (hTle kb2 hkb27) (hTle k (by omega))).2.mp h1
  obtain ⟨t, m1, m2, m3⟩ := hmore
  obtain ⟨σ9, w1, w2⟩ := tryRule_m (σ := σ7) (n := n) (k := kb2) hkb27
  have hq9 := QC_TY hn hkb27 s2 w2
  have ho9 := offS_trans ho2 (offS_trans s3 (offS_TY w2))
  -- the end
  generalize hs3 : st (st σ9 3 6 (-1)) 38 3 (n : Int) = ρ
  have p3 : ∀ k, k ≠ 3 → k ≠ 38 → ρ k = σ9 k := fun k a b => by rw [← hs3, st_other _ _ b, st_other _ _ a]
  have p36 : ρ 3 6 = -1 := by rw [← hs3, st_other _ _ (by decide), st_eq]
  have p3j : ∀ j, j ≠ 6 → ρ 3 j = σ9 3 j := fun j a => by rw [← hs3, st_other _ _ (by decide), st_ne _ _ a]
  have p383 : ρ 38 3 = (n : Int) := by rw [← hs3, st_eq]
  have p384 : ρ 38 4 = (b2 : Int) := by
    rw [← hs3, st_ne _ _ (by decide), st_other _ _ (by decide), w2.1 38 (by decide) (by decide) (by decide)]; exact s4
  have hcl : ClaN ρ A n := by
    refine ⟨t, kb2, m1, ?_, fun _ => ⟨?_, fun p hp => ?_⟩⟩
    · rw [p384, m2, hb2]
      by_cases e : t = 100000000
      · rw [if_pos e, if_pos e]; rfl
      · rw [if_neg e, if_neg e]
    · rw [p3 5 (by decide) (by decide)]; exact w2.2.2.2.2.1
    · rw [p3 6 (by decide) (by decide)]; exact w2.2.2.2.2.2.2.1 p hp
  obtain ⟨o91, o92, o93, o94, o95⟩ := ho9
  have c : ∀ k, k ≠ 3 → k ≠ 5 → k ≠ 6 → k ≠ 27 → k ≠ 28 → k ≠ 29 → k ≠ 38 → ρ k = σ k := fun k a b d e f g i => by rw [p3 k a i]; exact o91 k a b d e f g i
  have hwρ : wfM ρ := by
    obtain ⟨a1, a2, a3, a4, a5⟩ := hq9.1
    unfold wfM
    rw [p3 4 (by decide) (by decide), p3 5 (by decide) (by decide), p3 6 (by decide) (by decide), p3 12 (by decide) (by decide), p36]
    exact ⟨a1, a2, a3, by decide, a5⟩
  have hBG : BGm ρ A := by
    obtain ⟨b1, b2', b3⟩ := hq9.2.2.2.2.2.2.2.2
    unfold BGm
    rw [p3 4 (by decide) (by decide), p3 5 (by decide) (by decide), p3 6 (by decide) (by decide)]
    exact ⟨b1, b2', b3⟩
  obtain ⟨g1, g2, g3, g4, g5, g6, g7, g8, g9⟩ := id h
  obtain ⟨a1, a2, a3, a4, a5, a6, a7, a8, a9⟩ := g2
  have hG : GraS ρ τ A := by
    have esl : ∀ m r, m < 6 → r < aRc A m → slC ρ m r = m * 4 + r := fun m r hm hr => by
      unfold slC
      rw [if_pos (by rw [hBG.1 m hm]; omega)]
    have hrc : ∀ m, m < 6 → rcC ρ m = aRc A m := fun m hm => by
      unfold rcC
      rw [hBG.1 m hm, p36, if_neg (by omega)]; omega
    have hrl : ∀ m r, m < 6 → r < aRc A m → rlC ρ m r = aRl A m r := fun m r hm hr => by
      unfold rlC
      rw [esl m r hm hr, hBG.2.1 m r hm hr]; omega
    refine ⟨hwρ, p36, ⟨hrc, fun m r hm hr => hrl m r hm (by rw [← hrc m hm]; exact hr), fun m r p hm hr hp => ?_⟩, a4, a5, a6, ?_, a8, ?_⟩
    · have hr2 : r < aRc A m := by rw [← hrc m hm]; exact hr
      rw [hrl m r hm hr2] at hp
      unfold rsC sgC
      rw [esl m r hm hr2, hBG.2.2 m r p hm hr2 hp]; omega
    · rw [p3j 4 (by decide), o92 4 (by decide)]; exact a7
    · rw [p3j 3 (by decide), o92 3 (by decide)]; exact a9
  refine ⟨ρ, ?_, ⟨?_, hG, ?_, ?_, ?_, ?_, ?_, ?_, g9⟩, hcl, p383⟩
  · unfold f_X9_seek f_X4_endTrial
    rw [nm_s, nm_s, hs2, bV_ok v1, t2, bV_s, bV_ok s1', s5, bV_ok w1, nm_s, bV_s, nm_s, hs3]
  · exact PadS_eq g1 (c 1 (by decide) (by decide) (by decide) (by decide) (by decide) (by decide) (by decide)) (c 2 (by decide) (by decide) (by decide) (by decide) (by decide) (by decide) (by decide)) rfl rfl
  · exact WrdS_eq g3 (c 13 (by decide) (by decide) (by decide) (by decide) (by decide) (by decide) (by decide)) (c 14 (by decide) (by decide) (by decide) (by decide) (by decide) (by decide) (by decide)) rfl rfl
  · exact CosS_eq g4 (c 12 (by decide) (by decide) (by decide) (by decide) (by decide) (by decide) (by decide)) rfl
  · exact ExaS_eq g5 (fun k x y => c k (by omega) (by omega) (by omega) (by omega) (by omega) (by omega) (by omega)) rfl rfl rfl
  · exact DraS_eq g6 (c 7 (by decide) (by decide) (by decide) (by decide) (by decide) (by decide) (by decide)) (c 9 (by decide) (by decide) (by decide) (by decide) (by decide) (by decide) (by decide)) (c 10 (by decide) (by decide) (by decide) (by decide) (by decide) (by decide) (by decide))
  · exact Or.inl (by rw [c 0 (by decide) (by decide) (by decide) (by decide) (by decide) (by decide) (by decide)]; exact h0)
  · obtain ⟨t', kb', n1, n2⟩ := hcl
    exact Or.inr ⟨n, t', kb', hn, p383, n1, n2⟩
