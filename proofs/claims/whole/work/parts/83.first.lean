/-! layer 2: what a least table gives for beginnings -/
theorem LTV_B {wd : Nat → Nat} {dr pu ch s : Nat} (hd : dr ≤ 9) (hp : pu ≤ 9) (hs : s < 4) : Cv (ltV wd dr pu ch s 0 0) ≤ 1000000 := by
  rw [(ltV_fld hs).1]
  exact (lcost_le hd hp (Nat.le_refl _) (Nat.zero_le _)).2
theorem KX_of {dr pu ch L : Nat} {wd : Nat → Nat} {X : Nat → Nat → Nat → Nat} {rc : Nat → Nat} {rl : Nat → Nat → Nat} {rs : Nat → Nat → Nat → Nat} (hd : 1 ≤ dr) (hd9 : dr ≤ 9) (hp : 1 ≤ pu) (hp9 : pu ≤ 9) (hc : 1 ≤ ch) (hL : L ≤ 6) (hG : wfG rc rl rs) (hl4 : ∀ n r, n < 6 → r < rc n → rl n r ≤ 4) (hX : leastT dr L (ltV wd dr pu ch) rc rl rs X) (hB : ∀ n, n < 6 → cB (pu * 4096) (X n 0 0)) :
    KXb wd L (rA (ltV wd dr pu ch) X) (fun s => onev (ltV wd dr pu ch) X s 0 0 ≠ TT) rc rl rs := by
  have hlt : okL L (ltV wd dr pu ch) := ltV_ok hd9 hp9 hp hL
  have e4 : ∀ n a b, onev (ltV wd dr pu ch) X (n + 4) a b = X n a b := fun n a b => by
    unfold onev
    rw [if_neg (by omega), Nat.add_sub_cancel]
  have nt := least_nt (dr := dr) hp9 (by omega) hlt (fun s hs => LTV_B hd9 hp9 hs) hG hl4 hX hB
  refine ⟨hL, hG, hl4, fun s a b hs hab hb => ?_, fun s hs => ?_, fun Q hQ n i j hn hij hj h => ?_, fun Q hQ n hn h => ?_, fun n i j hn hij hj h => ?_⟩
  · unfold rA onev
    rw [if_pos hs]
    exact ltV_asis hd hp hc hs hab
  · show onev (ltV wd dr pu ch) X s 0 0 ≠ TT
    unfold onev
    rw [if_pos hs]
    exact ltV_nTT hd9 hp9 hs (Nat.le_refl _) (Nat.zero_le _)
  · have h2 : asis (onev (ltV wd dr pu ch) X (n + 4) i j) := h
    rw [e4] at h2
    exact least_exact hd hd9 (by omega) hlt hG hX Q hQ n i j hn hij hj h2
  · have h2 : onev (ltV wd dr pu ch) X (n + 4) 0 0 ≠ TT := h
    rw [e4] at h2
    have h3 := least_names (by omega) hlt hG hX (fun n => X n 0 0 ≠ TT ∧ Q n) (fun m r hm hr h => ⟨rule_nt (dr := dr) hp9 (by omega) hlt (fun s hs => LTV_B hd9 hp9 hs) hG hl4 hX hB hm hr (fun q hq h4 => (h q hq h4).1), hQ m r hm hr (fun q hq => by
      show onev (ltV wd dr pu ch) X (rs m r q) 0 0 ≠ TT
      unfold onev
      by_cases h4 : rs m r q < 4
      · rw [if_pos h4]; exact ltV_nTT hd9 hp9 h4 (Nat.le_refl _) (Nat.zero_le _)
      · rw [if_neg h4]; exact (h q hq (by omega)).1) (fun q hq h4 => (h q hq h4).2)⟩) n 0 0 hn (Nat.le_refl _) (Nat.zero_le _) h2
    exact h3.2
  · have h2 : asis (onev (ltV wd dr pu ch) X (n + 4) i j) := h
    rw [e4] at h2
    show onev (ltV wd dr pu ch) X (n + 4) 0 0 ≠ TT
    rw [e4]
    exact nt n i j hn hij hj h2.1
/-- the class's first and the reference's, over one table -/
theorem first_eq {σ σ2 : Mem} {w L dr pu ch n N : Nat} {wd : Nat → Nat} {X : Nat → Nat → Nat → Nat} {rc : Nat → Nat} {rl : Nat → Nat → Nat} {rs : Nat → Nat → Nat → Nat} (hN : 400 ≤ N) (hn : n < 6) (hw : wfM σ) (hW : WC σ w L wd) (hC : HC σ L (onev (ltV wd dr pu ch) X)) (hR : RF2 σ2 L dr pu ch wd X rc rl rs) (h6 : σ2 0 6 = (L : Int)) (hs : sameG (rcC σ) rc (rlC σ) rl (rsC σ) rs)
    (K : KXb wd L (rA (ltV wd dr pu ch) X) (fun s => onev (ltV wd dr pu ch) X s 0 0 ≠ TT) (rcC σ) (rlC σ) (rsC σ)) :
    ∃ (τ σ8 σ9 : Mem) (v : Nat) (t : Nat) (u : Int), f_X6_farthest N (n : Int) σ = some ((v : Int) - 1, τ) ∧ off31 σ τ ∧ v ≤ L + 1 ∧
      f_X12_first_L21 N (n : Int) N 0 σ2 = some σ8 ∧ f_X12_first_L43 N (n : Int) N 1 σ8 = some σ9 ∧ (∀ k, k ≠ 16 → k ≠ 17 → σ9 k = σ2 k) ∧ f_X12_first_L188 N (n : Int) σ9 N 0 = some (t, u) ∧ ((t = 0 ∧ v ≤ L ∧ u = (v : Int)) ∨ (t = 1 ∧ v = L + 1)) := by
  have hRC : RC σ w L wd (onev (ltV wd dr pu ch) X) := ⟨hw, hW, hC, K⟩
  obtain ⟨τ, v, t1, t2, t3, t4⟩ := farthest_m (N := N) (by omega) hRC hn
  obtain ⟨σ8, σ9, t, u, u1, u2, u3, u4, u5⟩ := firstRest_m hN hn hR h6
  have hLB : ∀ x, LB wd L (rA (ltV wd dr pu ch) X) (fun s => onev (ltV wd dr pu ch) X s 0 0 ≠ TT) rc rl rs n 0 x ↔ LBC σ L wd (onev (ltV wd dr pu ch) X) n 0 x := fun x => by
    have hcl : ∀ P, closedB wd L (rA (ltV wd dr pu ch) X) (fun s => onev (ltV wd dr pu ch) X s 0 0 ≠ TT) rc rl rs P ↔ closedB wd L (rA (ltV wd dr pu ch) X) (fun s => onev (ltV wd dr pu ch) X s 0 0 ≠ TT) (rcC σ) (rlC σ) (rsC σ) P := fun P => by
      obtain ⟨s1, s2, s3⟩ := hs
      have heb : ∀ (sg sg2 : Nat → Nat) (i : Nat), ∀ p b, (∀ q, q < p → sg q = sg2 q) → eb L (rA (ltV wd dr pu ch) X) sg i p b → eb L (rA (ltV wd dr pu ch) X) sg2 i p b := fun sg sg2 i p => by
        induction p with
        | zero => exact fun b _ h => h
        | succ p ih =>
          rintro b hq ⟨c, h1, h2, h3, h4⟩
          exact ⟨c, ih c (fun q hq2 => hq q (by omega)) h1, h2, h3, by rw [← hq p (by omega)]; exact h4⟩
      have hbr : ∀ (sg sg2 : Nat → Nat) (len i j : Nat), (∀ q, q < len → sg q = sg2 q) → BR wd L (rA (ltV wd dr pu ch) X) (fun s => onev (ltV wd dr pu ch) X s 0 0 ≠ TT) P sg len i j → BR wd L (rA (ltV wd dr pu ch) X) (fun s => onev (ltV wd dr pu ch) X s 0 0 ≠ TT) P sg2 len i j := fun sg sg2 len i j hq h => by
        refine ⟨fun q hq2 => by rw [← hq q hq2]; exact h.1 q hq2, h.2.elim (fun ⟨q, c, h1, h2, h3, h4⟩ => Or.inl ⟨q, c, h1, heb sg sg2 i q c (fun q2 hq2 => hq q2 (by omega)) h2, h3, by rw [← hq q h1]; exact h4⟩) (fun h => Or.inr (heb sg sg2 i len j hq h))⟩
      constructor
      · intro h m r i j hm hr hij hj hb
        have hr2 : r < rc m := by rw [← s1 m hm]; exact hr
        refine h m r i j hm hr2 hij hj ?_
        rw [← s2 m r hm hr]
        exact hbr _ _ _ i j (fun q hq => s3 m r q hm hr hq) hb
      · intro h m r i j hm hr hij hj hb
        have hr2 : r < rcC σ m := by rw [s1 m hm]; exact hr
        refine h m r i j hm hr2 hij hj ?_
        rw [s2 m r hm hr2]
        exact hbr _ _ _ i j (fun q hq => (s3 m r q hm hr2 (by rw [s2 m r hm hr2]; exact hq)).symm) hb
    exact ⟨fun h P hP => h P ((hcl P).mpr hP), fun h P hP => h P ((hcl P).mp hP)⟩
  refine ⟨τ, σ8, σ9, v, t, u, t1, t2, t3, u1, u2, u3, u4, ?_⟩
  rcases u5 with ⟨e, k, k1, k2, k3, k4⟩ | ⟨e, k1⟩
  · have a1 : ¬ k + 1 ≤ v := fun z => k3 ((hLB k).mpr ((t4 k k2).mpr z))
    have a2 : k ≤ v := by
      by_cases z : k = 0
      · omega
      · have := (t4 (k - 1) (by omega)).mp ((hLB (k - 1)).mp (k4 (k - 1) (by omega)))
        omega
    exact Or.inl ⟨e, by omega, by rw [k1]; omega⟩
  · have a1 := (t4 L (Nat.le_refl _)).mp ((hLB L).mp (k1 L (Nat.le_refl _)))
    exact Or.inr ⟨e, by omega⟩
