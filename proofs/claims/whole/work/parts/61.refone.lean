/-! layer 2, the reference's one -/
def eq0 (σ τ : Mem) : Prop := (∀ k, k ≠ 0 → τ k = σ k) ∧ ∀ j, j ≠ 20 → j ≠ 21 → j ≠ 22 → τ 0 j = σ 0 j
theorem eq0_rfl (σ : Mem) : eq0 σ σ := ⟨fun _ _ => rfl, fun _ _ _ _ => rfl⟩
theorem eq0_trans {σ τ ρ : Mem} (h : eq0 σ τ) (h2 : eq0 τ ρ) : eq0 σ ρ := ⟨fun k hk => (h2.1 k hk).trans (h.1 k hk), fun j a b c => (h2.2 j a b c).trans (h.2 j a b c)⟩
theorem eq0_st {σ : Mem} {j : Nat} {v : Int} (h : j = 20 ∨ j = 21 ∨ j = 22) : eq0 σ (st σ 0 j v) := ⟨fun k hk => st_other σ _ hk, fun i a b c => st_ne σ _ (by omega)⟩
/-- the reference's word and costs -/
def RB (σ : Mem) (L dr pu ch : Nat) (wd : Nat → Nat) : Prop := L ≤ 6 ∧ σ 0 12 = (L : Int) ∧ (∀ k, k < L → σ 9 k = (wd k : Int) ∧ wd k < 4) ∧ σ 8 0 = (dr : Int) ∧ σ 8 1 = (pu : Int) ∧ σ 8 2 = (ch : Int) ∧ 1 ≤ dr ∧ dr ≤ 9 ∧ 1 ≤ pu ∧ pu ≤ 9 ∧ 1 ≤ ch ∧ ch ≤ 9
theorem RB_eq {σ τ : Mem} {L dr pu ch : Nat} {wd : Nat → Nat} (h : RB σ L dr pu ch wd) (h0 : τ 0 12 = σ 0 12) (h9 : τ 9 = σ 9) (h8 : τ 8 = σ 8) : RB τ L dr pu ch wd := by
  unfold RB
  rw [h0, h9, h8]
  exact h
def curc (wd : Nat → Nat) (P dr pu ch s a k : Nat) : Nat := if k ≤ a then P + dr + pu else P + (if occ wd s a k then 0 else min ch (dr + pu))
theorem occ_s (wd : Nat → Nat) (s a b : Nat) : occ wd s a (b + 1) = (occ wd s a b || (decide (a ≤ b) && decide (wd b = s))) := rfl
theorem curc_succ {wd : Nat → Nat} {P dr pu ch s a k : Nat} (hk : a ≤ k) : curc wd P dr pu ch s a (k + 1) = min (P + (if wd k = s then 0 else ch)) (curc wd P dr pu ch s a k) := by
  unfold curc
  rw [if_neg (by omega : ¬ k + 1 ≤ a), occ_s, decide_eq_true hk, Bool.true_and]
  by_cases q : wd k = s
  · rw [if_pos q, decide_eq_true q, Bool.or_true, if_pos rfl]
    split <;> omega
  · rw [if_neg q, decide_eq_false q, Bool.or_false]
    by_cases e : k ≤ a
    · rw [if_pos e, occ_emp e, if_neg (by decide)]
      omega
    · rw [if_neg e]
      split <;> omega
theorem one80 {L dr pu ch s a b P N : Nat} {wd : Nat → Nat} (hb : b ≤ L) (hs : s < 4) (hP : P = (b - a - 1) * dr) (hP2 : P ≤ 54) : ∀ (m k fuel : Nat) (σ : Mem), k + m = b → a ≤ k → m < fuel → RB σ L dr pu ch wd → σ 0 20 = ((curc wd P dr pu ch s a k : Nat) : Int) →
    ∃ τ, f_X12_one_L80 N (s : Int) (a : Int) (b : Int) fuel (k : Int) σ = some τ ∧ eq0 σ τ ∧ τ 0 20 = ((curc wd P dr pu ch s a b : Nat) : Int) := by
  intro m
  induction m with
  | zero =>
    intro k fuel σ hk hak hf hR h20
    obtain ⟨f, rfl⟩ : ∃ f, fuel = f + 1 := ⟨fuel - 1, by omega⟩
    have e : k = b := by omega
    subst e
    refine ⟨σ, ?_, eq0_rfl σ, h20⟩
    have hL := hR.1
    rw [f_X12_one_L80, ifle_t (by omega) (by omega) (by omega)]
  | succ m ih =>
    intro k fuel σ hk hak hf hR h20
    obtain ⟨f, rfl⟩ : ∃ f, fuel = f + 1 := ⟨fuel - 1, by omega⟩
    obtain ⟨r1, r2, r3, r4, r5, r6, r7, r8, r9, r10, r11, r12⟩ := id hR
    obtain ⟨w1, w2⟩ := r3 k (by omega)
    have hcur : curc wd P dr pu ch s a k ≤ 100 := by
      unfold curc
      split
      · omega
      · split <;> omega
    have hv : (if zI (σ 9 k) = zI (s : Int) then (some (0 : Int)) else (gd (0 ≤ (2 : Int) ∧ (2 : Int) < ((3 : Nat) : Int)) (some (σ 8 (2 : Int).toNat)))) = some (((if wd k = s then 0 else ch : Nat) : Nat) : Int) := by
      rw [w1]
      by_cases q : wd k = s
      · rw [if_pos q, ife_t (by omega)]; rfl
      · rw [if_neg q, ife_f (by omega) (by omega) (by omega) (by omega) (by omega), gd_pos (by decide)]
        exact congrArg some r6
    have hx : (if wd k = s then 0 else ch) ≤ 9 := by split <;> omega
    generalize hxe : (if wd k = s then 0 else ch) = x at hv hx
    have hc := curc_succ (wd := wd) (P := P) (dr := dr) (pu := pu) (ch := ch) (s := s) hak
    rw [hxe] at hc
    have hmin : (if zI (σ 0 20) ≤ zI ((P : Int) + (x : Int)) then (some (σ 0 20)) else (some ((P : Int) + (x : Int)))) = some ((curc wd P dr pu ch s a (k + 1) : Nat) : Int) := by
      rw [h20, hc]
      by_cases q : curc wd P dr pu ch s a k ≤ P + x
      · rw [ifle_t (by omega) (by omega) (by omega)]
        congr 1; omega
      · rw [ifle_f (by omega) (by omega) (by omega)]
        congr 1; omega
    obtain ⟨τ, t1, t2, t3⟩ := ih (k + 1) f (st σ 0 20 ((curc wd P dr pu ch s a (k + 1) : Nat) : Int)) (by omega) (by omega) (by omega)
      (RB_eq hR (st_ne _ _ (by decide)) (st_other _ _ (by decide)) (st_other _ _ (by decide))) (st_eq _ _ _ _)
    refine ⟨τ, ?_, eq0_trans (eq0_st (Or.inl rfl)) t2, t3⟩
    have eP : ((b : Int) - (a : Int) - 1) * (dr : Int) = (P : Int) := by
      rw [hP, show ((b : Int) - (a : Int) - 1) = ((b - a - 1 : Nat) : Int) by omega]
      exact (Int.natCast_mul _ _).symm
    have e8 : σ 8 (0 : Int).toNat = (dr : Int) := r4
    rw [f_X12_one_L80, ifle_f (by omega) (by omega) (by omega), gd_pos (by decide), gd_pos (by omega), Int.toNat_natCast, hv, bV_s, nm_s, e8, eP, hmin, bV_s, nm_s, nm_s]
    exact t1
theorem one_letter {L dr pu ch s a b N : Nat} {wd : Nat → Nat} {σ : Mem} (hN : 10 ≤ N) (hab : a ≤ b) (hb : b ≤ L) (hs : s < 4) (hR : RB σ L dr pu ch wd) :
    ∃ τ, f_X12_one N (s : Int) (a : Int) (b : Int) σ = some τ ∧ eq0 σ τ ∧ R3 (τ 0 20) (τ 0 21) (τ 0 22) (ltV wd dr pu ch s a b) := by
  obtain ⟨r1, r2, r3, r4, r5, r6, r7, r8, r9, r10, r11, r12⟩ := id hR
  have hlc := lcost_le (wd := wd) (ch := ch) (s := s) r8 r10 hab (by omega : b ≤ 6)
  have hfin : ∃ τ, bV (f_X12_one_L80 N (s : Int) (a : Int) (b : Int) N (a : Int) (st σ 0 20 (((b : Int) - a) * dr + pu))) (fun (σ5 : Mem) => nm (st σ5 0 21 1) (fun (σ6 : Mem) => nm (st σ6 0 22 (s : Int)) (fun (σ7 : Mem) => some σ7))) = some τ ∧ eq0 σ τ ∧ τ 0 20 = ((lcost wd dr pu ch s a b : Nat) : Int) ∧ τ 0 21 = 1 ∧ τ 0 22 = (s : Int) := by
    have hd0 : eq0 σ (st σ 0 20 (((b : Int) - a) * dr + pu)) := eq0_st (Or.inl rfl)
    have hR0 : RB (st σ 0 20 (((b : Int) - a) * dr + pu)) L dr pu ch wd := RB_eq hR (st_ne _ _ (by decide)) (st_other _ _ (by decide)) (st_other _ _ (by decide))
    by_cases e : a = b
    · subst e
      refine ⟨st (st (st σ 0 20 (((a : Int) - a) * dr + pu)) 0 21 1) 0 22 (s : Int), ?_, eq0_trans hd0 (eq0_trans (eq0_st (Or.inr (Or.inl rfl))) (eq0_st (Or.inr (Or.inr rfl)))), ?_, ?_, st_eq _ _ _ _⟩
      · obtain ⟨f, hfN⟩ : ∃ f, N = f + 1 := ⟨N - 1, by omega⟩
        have : f_X12_one_L80 N (s : Int) (a : Int) (a : Int) N (a : Int) (st σ 0 20 (((a : Int) - a) * dr + pu)) = some (st σ 0 20 (((a : Int) - a) * dr + pu)) := by
          generalize st σ 0 20 (((a : Int) - a) * dr + pu) = ρ
          rw [hfN, f_X12_one_L80, ifle_t (by omega) (by omega) (by omega)]
        rw [bV_ok this, nm_s, nm_s]
      · rw [st_ne _ _ (by decide), st_ne _ _ (by decide), st_eq]
        unfold lcost
        rw [if_pos rfl, Int.sub_self, Int.zero_mul, Int.zero_add]
      · rw [st_ne _ _ (by decide), st_eq]
    · have hP2 : (b - a - 1) * dr ≤ 6 * 9 := Nat.mul_le_mul (by omega) r8
      have e0 : ((b : Int) - a) * dr + pu = ((curc wd ((b - a - 1) * dr) dr pu ch s a a : Nat) : Int) := by
        unfold curc
        rw [if_pos (Nat.le_refl _), show ((b : Int) - a) = ((b - a - 1 + 1 : Nat) : Int) by omega, ← Int.natCast_mul, Nat.add_mul, Nat.one_mul]
        omega
      obtain ⟨τ, t1, t2, t3⟩ := one80 (N := N) (s := s) (a := a) (b := b) hb hs rfl hP2 (b - a) a N _ (by omega) (Nat.le_refl _) (by omega) hR0 (by rw [st_eq]; exact e0)
      refine ⟨st (st τ 0 21 1) 0 22 (s : Int), ?_, eq0_trans hd0 (eq0_trans t2 (eq0_trans (eq0_st (Or.inr (Or.inl rfl))) (eq0_st (Or.inr (Or.inr rfl))))), ?_, ?_, st_eq _ _ _ _⟩
      · rw [bV_ok t1, nm_s, nm_s]
      · rw [st_ne _ _ (by decide), st_ne _ _ (by decide), t3]
        unfold curc lcost
        rw [if_neg (by omega), if_neg e]
      · rw [st_ne _ _ (by decide), st_eq]
  obtain ⟨τ, t1, t2, t3, t4, t5⟩ := hfin
  obtain ⟨e1, e2, e3⟩ := ltV_fld (wd := wd) (dr := dr) (pu := pu) (ch := ch) (a := a) (b := b) hs
  refine ⟨τ, ?_, t2, Or.inr ⟨ok_nTT (by omega), by omega, by rw [t3, e1], by rw [t4, e2]; rfl, by rw [t5, e3]⟩⟩
  have e8 : σ 8 (0 : Int).toNat = (dr : Int) := r4
  have e9 : σ 8 (1 : Int).toNat = (pu : Int) := r5
  unfold f_X12_one
  rw [ifl_t (by omega) (by omega) (by omega), gd_pos (by decide), gd_pos (by decide), e8, e9, nm_s]
  exact t1
/-- the reference's table -/
def TB (σ : Mem) (L : Nat) (Y : Nat → Nat → Nat → Nat) : Prop := ∀ n a b, n < 6 → a ≤ b → b ≤ L → R3 (σ 10 (49 * n + 7 * a + b)) (σ 11 (49 * n + 7 * a + b)) (σ 12 (49 * n + 7 * a + b)) (Y n a b)
/-- a sign as the reference writes it -/
def sgx (s : Nat) : Nat := if s < 4 then s else s + 6
theorem one_m {L dr pu ch s a b N : Nat} {wd : Nat → Nat} {Y : Nat → Nat → Nat → Nat} {σ : Mem} (hN : 10 ≤ N) (hab : a ≤ b) (hb : b ≤ L) (hs : s < 10) (hR : RB σ L dr pu ch wd) (hT : TB σ L Y) :
    ∃ τ, f_X12_one N ((sgx s : Nat) : Int) (a : Int) (b : Int) σ = some τ ∧ eq0 σ τ ∧ R3 (τ 0 20) (τ 0 21) (τ 0 22) (onev (ltV wd dr pu ch) Y s a b) := by
  by_cases q : s < 4
  · have e : sgx s = s := if_pos q
    have e2 : onev (ltV wd dr pu ch) Y s a b = ltV wd dr pu ch s a b := if_pos q
    rw [e, e2]
    exact one_letter hN hab hb q hR
  · have e : sgx s = s + 6 := if_neg q
    have e2 : onev (ltV wd dr pu ch) Y s a b = Y (s - 4) a b := if_neg q
    have h := hT (s - 4) a b (by omega) hab hb
    have hL := hR.1
    have ek : 49 * (((s + 6 : Nat) : Int) - 10) + 7 * (a : Int) + (b : Int) = ((49 * (s - 4) + 7 * a + b : Nat) : Int) := by omega
    rw [e, e2]
    refine ⟨st (st (st σ 0 20 (σ 10 (49 * (s - 4) + 7 * a + b))) 0 21 (σ 11 (49 * (s - 4) + 7 * a + b))) 0 22 (σ 12 (49 * (s - 4) + 7 * a + b)), ?_, eq0_trans (eq0_st (Or.inl rfl)) (eq0_trans (eq0_st (Or.inr (Or.inl rfl))) (eq0_st (Or.inr (Or.inr rfl)))), ?_⟩
    · unfold f_X12_one
      rw [ifl_f (by omega) (by omega) (by omega), nm_s, ek, gd_pos (by omega), Int.toNat_natCast, nm_s, nm_s, nm_s, st_other _ _ (by decide), st_other _ _ (by decide), st_other _ _ (by decide)]
    · rw [st_ne _ _ (by decide), st_ne _ _ (by decide), st_eq, st_ne _ _ (by decide), st_eq, st_eq]
      exact h
