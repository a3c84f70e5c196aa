/-! layer 2, grammar: the reference reads the pad once more -/
theorem cbt_add : ∀ u : Nat, u < 64 → ∀ n : Nat, n < 6 → (u.testBit n = false → cbt (u ||| 2 ^ n) = cbt u + 1) := by decide +kernel
theorem bitCount_m : ∀ u : Nat, u < 64 → f_J6_bitCount_0f7a4 (u : Int) = some ((cbt u : Nat) : Int) := by decide +kernel
theorem cod_sgx {s : Nat} (h : isSg s) : (s ≤ 100 ∧ 97 ≤ s ∧ ((sgx (cod s) : Nat) : Int) = (s : Int) - 97) ∨ (65 ≤ s ∧ s ≤ 70 ∧ ((sgx (cod s) : Nat) : Int) = (10 + (s : Int)) - 65) := by
  unfold isSg at h
  unfold cod
  by_cases q : 97 ≤ s
  · left
    rw [if_pos q, sgx_lo (by omega)]
    omega
  · right
    rw [if_neg q, sgx_hi (by omega)]
    omega
/-! what a sign is, where no fault follows -/
theorem step0 {p : PSt} {s : Nat} (h0 : p 0 0 = 0) (h5 : stepP p s 0 0 ≠ 5) : 65 ≤ s ∧ s ≤ 70 ∧ (p 0 1).testBit (s - 65) = false ∧ stepP p s = namP p s := by
  unfold stepP at h5 ⊢
  rw [if_pos h0] at h5 ⊢
  by_cases q : 65 ≤ s ∧ s ≤ 70 ∧ ¬ (p 0 1).testBit (s - 65) = true
  · rw [if_pos q]
    refine ⟨q.1, q.2.1, ?_, rfl⟩
    cases z : (p 0 1).testBit (s - 65) with
    | true => exact absurd z q.2.2
    | false => rfl
  · rw [if_neg q, pst_eq] at h5
    exact absurd rfl h5
theorem step1 {p : PSt} {s : Nat} (h0 : p 0 0 = 1) (h5 : stepP p s 0 0 ≠ 5) : s = 61 ∧ stepP p s = pst p 0 0 2 := by
  unfold stepP at h5 ⊢
  rw [if_neg (by omega), if_pos h0] at h5 ⊢
  by_cases q : s = 61
  · rw [if_pos q]; exact ⟨q, rfl⟩
  · rw [if_neg q, pst_eq] at h5
    exact absurd rfl h5
theorem step2 {p : PSt} {s : Nat} (h0 : p 0 0 = 2) (h5 : stepP p s 0 0 ≠ 5) : (s = 95 ∧ stepP p s = pst (begP p) 0 0 4) ∨ (isSg s ∧ stepP p s = addP (begP p) s) := by
  unfold stepP at h5 ⊢
  rw [if_neg (by omega), if_neg (by omega), if_pos h0] at h5 ⊢
  by_cases q : s = 95
  · rw [if_pos q]; exact Or.inl ⟨q, rfl⟩
  · rw [if_neg q] at h5 ⊢
    by_cases q3 : isSg s
    · rw [if_pos q3]; exact Or.inr ⟨q3, rfl⟩
    · rw [if_neg q3, pst_eq] at h5
      exact absurd rfl h5
theorem step3 {p : PSt} {s : Nat} (h0 : 3 ≤ p 0 0) (h5 : stepP p s 0 0 ≠ 5) : (p 0 0 = 3 ∧ isSg s ∧ p 2 (cur p) < 4 ∧ stepP p s = addP p s) ∨ (s = 124 ∧ stepP p s = pst p 0 0 2) ∨ (s = 59 ∧ stepP p s = pst p 0 0 0) := by
  unfold stepP at h5 ⊢
  rw [if_neg (by omega), if_neg (by omega), if_neg (by omega)] at h5 ⊢
  by_cases q : p 0 0 = 3 ∧ isSg s
  · rw [if_pos q] at h5 ⊢
    by_cases q3 : p 2 (cur p) < 4
    · rw [if_pos q3]; exact Or.inl ⟨q.1, q.2, q3, rfl⟩
    · rw [if_neg q3, pst_eq] at h5
      exact absurd rfl h5
  · rw [if_neg q] at h5 ⊢
    unfold clsP at h5 ⊢
    by_cases q3 : s = 124 ∧ p 1 (p 0 3) < 4
    · rw [if_pos q3]; exact Or.inr (Or.inl ⟨q3.1, rfl⟩)
    · rw [if_neg q3] at h5 ⊢
      by_cases q4 : s = 59 ∧ p 0 1 ≠ 63
      · rw [if_pos q4]; exact Or.inr (Or.inr ⟨q4.1, rfl⟩)
      · rw [if_neg q4, pst_eq] at h5
        exact absurd rfl h5
/-- a whole pad without a fault -/
def GPad (p0 : PSt) (pd : Nat → Nat) (c : Nat) : Prop := c ≤ 60 ∧ (∀ j, j ≤ c → WP (PP p0 pd j)) ∧ 3 ≤ PP p0 pd c 0 0 ∧ (∀ k, k < c → 33 ≤ pd k ∧ pd k ≤ 126)
theorem GPad_5 {p0 : PSt} {pd : Nat → Nat} {c j : Nat} (h : GPad p0 pd c) (hj : j < c) : stepP (PP p0 pd j) (pd j) 0 0 ≠ 5 := fun z => by
  have := (h.2.1 (j + 1) (by omega)).1
  have e : PP p0 pd (j + 1) 0 0 = stepP (PP p0 pd j) (pd j) 0 0 := rfl
  omega
/-- the reference's pad -/
def RPad (τ : Mem) (pd : Nat → Nat) (c : Nat) : Prop := τ 0 0 = (c : Int) ∧ ∀ k, k < c → τ 1 k = (pd k : Int)
def offG (τ τ2 : Mem) : Prop := ∀ k, k ≠ 2 → k ≠ 3 → k ≠ 4 → τ2 k = τ k
theorem offG_trans {τ τ2 τ3 : Mem} (h : offG τ τ2) (h2 : offG τ2 τ3) : offG τ τ3 := fun k a b c => (h2 k a b c).trans (h k a b c)
theorem RPad_off {τ τ2 : Mem} {pd : Nat → Nat} {c : Nat} (h : RPad τ pd c) (ho : offG τ τ2) : RPad τ2 pd c := by
  unfold RPad
  rw [ho 0 (by decide) (by decide) (by decide), ho 1 (by decide) (by decide) (by decide)]
  exact h
/-- the reference's rules, as many as cn tells -/
def GP (τ : Mem) (p : PSt) (cn : Nat → Nat) : Prop := (∀ m, m < 6 → τ 2 m = (cn m : Int)) ∧ (∀ m r, m < 6 → r < p 1 m → τ 3 (5 * m + r) = (p 2 (m * 4 + r) : Int)) ∧ ∀ m r q, m < 6 → r < p 1 m → q < p 2 (m * 4 + r) → τ 4 (4 * (5 * m + r) + q) = ((sgx (p 3 ((m * 4 + r) * 4 + q)) : Nat) : Int)
theorem GP_0 {τ : Mem} {p : PSt} {cn : Nat → Nat} {v : Nat} (h : GP τ p cn) : GP τ (pst p 0 0 v) cn := by
  unfold GP
  rw [pr0 (by decide), pr0 (by decide), pr0 (by decide)]
  exact h
/-- while a rule of n is read: one rule less is told of n -/
def cnI (p : PSt) (n : Nat) : Nat → Nat := fun m => if m = n then p 1 n - 1 else p 1 m
/-- a sign added to the rule that is read -/
theorem GP_add {τ : Mem} {p : PSt} {n s : Nat} (hB : WB p) (hn : p 0 3 = n) (hl : p 2 (cur p) < 4) (hs : isSg s) (h : GP τ p (cnI p n)) :
    GP (st (st τ 4 (4 * (5 * n + (p 1 n - 1)) + p 2 (cur p)) ((sgx (cod s) : Nat) : Int)) 3 (5 * n + (p 1 n - 1)) ((p 2 (cur p) + 1 : Nat) : Int)) (addP p s) (cnI (addP p s) n) ∧ τ 3 (5 * n + (p 1 n - 1)) = (p 2 (cur p) : Int) := by
  obtain ⟨a1, a2, a3, a4, a5, a6, a7⟩ := WB_add hB hl hs
  obtain ⟨g1, g2, g3⟩ := h
  obtain ⟨b1, b2, b3, b4, b5, b6, b7, b8, b9⟩ := hB
  have hn6 : n < 6 := by omega
  rw [hn] at b9
  have hc4 := b4 n hn6
  have ecur : cur p = n * 4 + (p 1 n - 1) := by unfold cur; rw [hn]; omega
  have hcn : cnI (addP p s) n = cnI p n := by unfold cnI; rw [a4]
  refine ⟨⟨fun m hm => ?_, fun m r hm hr => ?_, fun m r q hm hr hq => ?_⟩, ?_⟩
  · rw [st_other _ _ (by decide), st_other _ _ (by decide), hcn]; exact g1 m hm
  · rw [a4] at hr
    have hm4 := b4 m hm
    rw [st_row, a6]
    by_cases e : m * 4 + r = cur p
    · rw [if_pos e, if_pos (by omega)]
    · rw [if_neg e, if_neg (by omega), st_other _ _ (by decide)]
      exact g2 m r hm hr
  · rw [a4] at hr
    rw [a6] at hq
    have hm4 := b4 m hm
    rw [st_other _ _ (by decide), st_row, a7]
    have hq4 : q < 4 := by
      by_cases e : m * 4 + r = cur p
      · rw [if_pos e] at hq; omega
      · rw [if_neg e] at hq
        have := b5 (m * 4 + r) (by omega)
        omega
    by_cases e : m * 4 + r = cur p ∧ q = p 2 (cur p)
    · rw [if_pos (by omega), if_pos (by omega)]
    · rw [if_neg (by omega), if_neg (by omega)]
      refine g3 m r q hm hr ?_
      by_cases e2 : m * 4 + r = cur p
      · rw [if_pos e2] at hq
        rw [e2]; omega
      · rw [if_neg e2] at hq; exact hq
  · rw [g2 n (p 1 n - 1) hn6 (by omega), ecur]
/-- one step of the reference's inner loop: a letter or a name -/
theorem gr100_add {τ : Mem} {pd : Nat → Nat} {c k n x sz f N : Nat} {x1 : Int} (hP : RPad τ pd c) (hc : c ≤ 60) (hk : k < c) (hs : isSg (pd k)) (hx : x < 30) (hsz : τ 3 x = (sz : Int)) (hsz4 : sz < 4) :
    f_X12_grammar_L100 N x1 (n : Int) (x : Int) (f + 1) (k : Int) τ = f_X12_grammar_L100 N x1 (n : Int) (x : Int) f ((k + 1 : Nat) : Int) (st (st τ 4 (4 * x + sz) ((sgx (cod (pd k)) : Nat) : Int)) 3 x ((sz + 1 : Nat) : Int)) := by
  have h0 := hP.1
  have h1 := hP.2 k hk
  have hsl : 65 ≤ pd k ∧ pd k ≤ 100 ∧ pd k ≠ 95 := by unfold isSg at hs; omega
  have e4 : (4 * (x : Int)) + (sz : Int) = ((4 * x + sz : Nat) : Int) := by omega
  have esz : (sz : Int) + 1 = ((sz + 1 : Nat) : Int) := by omega
  have ev : ∃ v : Int, f_X12_in (pd k : Int) 97 100 = some v ∧ (if zI v = zI 0 then some ((10 + (pd k : Int)) - 65) else some ((pd k : Int) - 97)) = some ((sgx (cod (pd k)) : Nat) : Int) := by
    rw [in_v (by omega) (by omega) (by decide) (by decide) (by decide) (by decide)]
    rcases cod_sgx hs with ⟨z1, z2, z3⟩ | ⟨z1, z2, z3⟩
    · exact ⟨1, by rw [if_pos (by omega)], by rw [if_neg z10, z3]⟩
    · exact ⟨0, by rw [if_neg (by omega)], by rw [if_pos z00, z3]⟩
  obtain ⟨v, v1, v2⟩ := ev
  rw [f_X12_grammar_L100, h0, ifle_f (by omega) (by omega) (by omega), gd_pos ⟨by omega, by omega⟩, Int.toNat_natCast, h1, ife_f (a := (pd k : Int)) (b := 124) (by omega) (by omega) (by omega) (by omega) (by omega), ife_f (a := (pd k : Int)) (b := 59) (by omega) (by omega) (by omega) (by omega) (by omega), ife_f (a := (pd k : Int)) (b := 95) (by omega) (by omega) (by omega) (by omega) (by omega), gd_pos ⟨by omega, by omega⟩, Int.toNat_natCast, v1, bV_s, v2, bV_s, hsz, e4, gd_pos ⟨by omega, by omega⟩, nm_s, nm_s, bV_s, nm_s, st_other _ _ (by decide : 3 ≠ 4), hsz, esz, Int.toNat_natCast]
  rfl
theorem gr100_3 {p0 : PSt} {pd : Nat → Nat} {c n N : Nat} {x1 : Int} (hG : GPad p0 pd c) : ∀ (m k fuel : Nat) (τ : Mem), k + m = c → m < fuel → RPad τ pd c → 3 ≤ PP p0 pd k 0 0 → PP p0 pd k 0 3 = n → GP τ (PP p0 pd k) (cnI (PP p0 pd k) n) →
    ∃ (k2 : Nat) (τ2 : Mem), f_X12_grammar_L100 N x1 (n : Int) ((5 * n + (PP p0 pd k 1 n - 1) : Nat) : Int) fuel (k : Int) τ = some ((k2 : Int), τ2) ∧ k ≤ k2 ∧ k2 ≤ c ∧ offG τ τ2 ∧ 3 ≤ PP p0 pd k2 0 0 ∧ PP p0 pd k2 0 3 = n ∧ PP p0 pd k2 0 1 = PP p0 pd k 0 1 ∧ GP τ2 (PP p0 pd k2) (cnI (PP p0 pd k2) n) ∧ (k2 = c ∨ pd k2 = 124 ∨ pd k2 = 59) := by
  have h60 := hG.1
  intro m
  induction m with
  | zero =>
    intro k fuel τ hk hf hP h3 hn hg
    obtain ⟨f, rfl⟩ : ∃ f, fuel = f + 1 := ⟨fuel - 1, by omega⟩
    refine ⟨k, τ, ?_, Nat.le_refl _, by omega, fun _ _ _ _ => rfl, h3, hn, rfl, hg, Or.inl (by omega)⟩
    rw [f_X12_grammar_L100, hP.1, ifle_t (by omega) (by omega) (by omega)]
  | succ m ih =>
    intro k fuel τ hk hf hP h3 hn hg
    obtain ⟨f, rfl⟩ : ∃ f, fuel = f + 1 := ⟨fuel - 1, by omega⟩
    have h5 := GPad_5 hG (by omega : k < c)
    have hW := hG.2.1 k (by omega)
    have hB := WB_of hW h3
    have hn6 : n < 6 := by have := hB.2.2.1; omega
    have hc4 := hB.2.2.2.1 n hn6
    have h1 := hP.2 k (by omega)
    have hpd := hG.2.2.2 k (by omega)
    rcases step3 h3 h5 with ⟨z1, z2, z3, z4⟩ | ⟨z1, z4⟩ | ⟨z1, z4⟩
    · obtain ⟨g1, g2⟩ := GP_add hB hn z3 z2 hg
      obtain ⟨a1, a2, a3, a4, a5, a6, a7⟩ := WB_add hB z3 z2
      have eP : PP p0 pd (k + 1) = addP (PP p0 pd k) (pd k) := z4
      have hoff : offG τ (st (st τ 4 (4 * (5 * n + (PP p0 pd k 1 n - 1)) + PP p0 pd k 2 (cur (PP p0 pd k))) ((sgx (cod (pd k)) : Nat) : Int)) 3 (5 * n + (PP p0 pd k 1 n - 1)) ((PP p0 pd k 2 (cur (PP p0 pd k)) + 1 : Nat) : Int)) := fun j a b d => by rw [st_other _ _ b, st_other _ _ d]
      obtain ⟨k2, τ2, t1, t2, t3, t4, t5, t6, t7, t8, t9⟩ := ih (k + 1) f _ (by omega) (by omega) (RPad_off hP hoff) (by rw [eP, a3]; exact Nat.le_refl _) (by rw [eP, a2 3 (by decide)]; exact hn) (by rw [eP]; exact g1)
      refine ⟨k2, τ2, ?_, by omega, t3, offG_trans hoff t4, t5, t6, ?_, t8, t9⟩
      · rw [gr100_add hP h60 (by omega) z2 (by omega) g2 z3]
        rw [eP, a4] at t1
        exact t1
      · rw [t7, eP, a2 1 (by decide)]
    · refine ⟨k, τ, ?_, Nat.le_refl _, by omega, fun _ _ _ _ => rfl, h3, hn, rfl, hg, Or.inr (Or.inl z1)⟩
      rw [f_X12_grammar_L100, hP.1, ifle_f (by omega) (by omega) (by omega), gd_pos ⟨by omega, by omega⟩, Int.toNat_natCast, h1, z1, ife_t (show ((124 : Nat) : Int) = 124 from rfl)]
    · refine ⟨k, τ, ?_, Nat.le_refl _, by omega, fun _ _ _ _ => rfl, h3, hn, rfl, hg, Or.inr (Or.inr z1)⟩
      rw [f_X12_grammar_L100, hP.1, ifle_f (by omega) (by omega) (by omega), gd_pos ⟨by omega, by omega⟩, Int.toNat_natCast, h1, z1, ife_f (by decide) (by decide) (by decide) (by decide) (by decide), ife_t (show ((59 : Nat) : Int) = 59 from rfl)]
/-- a rule begun -/
theorem GP_beg {τ : Mem} {p : PSt} (hW : WP p) (h2 : p 0 0 = 2) (h : GP τ p (p 1)) (hz : τ 3 (5 * p 0 3 + p 1 (p 0 3)) = 0) : GP τ (begP p) (cnI (begP p) (p 0 3)) := by
  obtain ⟨b1, b2, b3, b4, b5⟩ := WB_beg hW h2
  obtain ⟨g1, g2, g3⟩ := h
  have hl := hW.2.2.2.1
  have hc := hW.2.2.2.2.2.2.2.2.2.2.2.1 h2
  have e1 : ∀ n, begP p 1 n = if n = p 0 3 then p 1 (p 0 3) + 1 else p 1 n := fun n => by unfold begP; rw [pst_row, pst_other _ (by decide : 1 ≠ 2)]
  have e2 : ∀ s, begP p 2 s = if s = p 0 3 * 4 + p 1 (p 0 3) then 0 else p 2 s := fun s => by unfold begP; rw [pst_other _ (by decide), pst_row]
  have e3 : begP p 3 = p 3 := by unfold begP; rw [pst_other _ (by decide), pst_other _ (by decide)]
  refine ⟨fun m hm => ?_, fun m r hm hr => ?_, fun m r q hm hr hq => ?_⟩
  · rw [g1 m hm]
    unfold cnI
    by_cases e : m = p 0 3
    · rw [if_pos e, e1, if_pos rfl, e]; omega
    · rw [if_neg e, e1, if_neg e]
  · have hm4 := hW.2.2.2.2.1 m hm
    rw [e1] at hr
    rw [e2]
    by_cases e : m = p 0 3
    · rw [if_pos e] at hr
      by_cases e4 : r = p 1 (p 0 3)
      · rw [if_pos (by rw [e, e4]), e, e4]; exact hz
      · rw [if_neg (by rw [e]; omega)]
        exact g2 m r hm (by rw [e]; omega)
    · rw [if_neg e] at hr
      rw [if_neg (by omega)]
      exact g2 m r hm hr
  · have hm4 := hW.2.2.2.2.1 m hm
    rw [e1] at hr
    rw [e2] at hq
    rw [e3]
    by_cases e : m * 4 + r = p 0 3 * 4 + p 1 (p 0 3)
    · rw [if_pos e] at hq; omega
    · rw [if_neg e] at hq
      refine g3 m r q hm ?_ hq
      by_cases e4 : m = p 0 3
      · rw [if_pos e4] at hr
        rw [e4]; rw [e4] at e; omega
      · rw [if_neg e4] at hr; exact hr
theorem gr100_2 {p0 : PSt} {pd : Nat → Nat} {c n k N : Nat} {x1 : Int} {τ : Mem} (hG : GPad p0 pd c) (hN : 100 ≤ N) (hk : k ≤ c) (hP : RPad τ pd c) (h2 : PP p0 pd k 0 0 = 2) (hn : PP p0 pd k 0 3 = n) (hg : GP τ (PP p0 pd k) (PP p0 pd k 1)) (hz : τ 3 (5 * n + PP p0 pd k 1 n) = 0) :
    ∃ (k2 : Nat) (τ2 : Mem), f_X12_grammar_L100 N x1 (n : Int) ((5 * n + PP p0 pd k 1 n : Nat) : Int) N (k : Int) τ = some ((k2 : Int), τ2) ∧ k < k2 ∧ k2 ≤ c ∧ offG τ τ2 ∧ 3 ≤ PP p0 pd k2 0 0 ∧ PP p0 pd k2 0 3 = n ∧ PP p0 pd k2 0 1 = PP p0 pd k 0 1 ∧ GP τ2 (PP p0 pd k2) (cnI (PP p0 pd k2) n) ∧ (k2 = c ∨ pd k2 = 124 ∨ pd k2 = 59) := by
  have h60 := hG.1
  have hkc : k < c := by
    rcases Nat.lt_or_ge k c with z | z
    · exact z
    · have e : k = c := by omega
      have := hG.2.2.1
      rw [← e] at this
      omega
  have h5 := GPad_5 hG hkc
  have hW := hG.2.1 k hk
  obtain ⟨b1, b2, b3, b4, b5⟩ := WB_beg hW h2
  have hgb := GP_beg hW h2 hg (by rw [hn]; exact hz)
  rw [hn] at hgb
  have hl := hW.2.2.2.1
  have hc4 := hW.2.2.2.2.2.2.2.2.2.2.2.1 h2
  rw [hn] at hl hc4 b2 b5
  have h1 := hP.2 k hkc
  have hpd := hG.2.2.2 k hkc
  obtain ⟨f, hf⟩ : ∃ f, N = f + 1 := ⟨N - 1, by omega⟩
  rcases step2 h2 h5 with ⟨z1, z2⟩ | ⟨z1, z2⟩
  · have eP : PP p0 pd (k + 1) = pst (begP (PP p0 pd k)) 0 0 4 := z2
    have e13 : PP p0 pd (k + 1) 0 3 = n := by rw [eP, p00 (by decide), b4, hn]
    have e1n : PP p0 pd (k + 1) 1 n = PP p0 pd k 1 n + 1 := by rw [eP, pr0 (by decide), b5]
    obtain ⟨k2, τ2, t1, t2, t3, t4, t5, t6, t7, t8, t9⟩ := gr100_3 (N := N) (n := n) (x1 := x1) hG (c - (k + 1)) (k + 1) f τ (by omega) (by omega) hP (by rw [eP, pst_eq]; decide) e13 (by
      rw [eP]
      have e : cnI (pst (begP (PP p0 pd k)) 0 0 4) n = cnI (begP (PP p0 pd k)) n := by
        unfold cnI
        rw [pr0 (by decide)]
      rw [e]
      exact GP_0 hgb)
    refine ⟨k2, τ2, ?_, by omega, t3, t4, t5, t6, ?_, t8, t9⟩
    · rw [e1n, Nat.add_sub_cancel] at t1
      have hstep : ∀ M, f_X12_grammar_L100 M x1 (n : Int) ((5 * n + PP p0 pd k 1 n : Nat) : Int) (f + 1) (k : Int) τ = f_X12_grammar_L100 M x1 (n : Int) ((5 * n + PP p0 pd k 1 n : Nat) : Int) f ((k + 1 : Nat) : Int) τ := fun M => by
        rw [f_X12_grammar_L100, hP.1, ifle_f (by omega) (by omega) (by omega), gd_pos ⟨by omega, by omega⟩, Int.toNat_natCast, h1, z1, ife_f (by decide) (by decide) (by decide) (by decide) (by decide), ife_f (by decide) (by decide) (by decide) (by decide) (by decide), ife_t (show ((95 : Nat) : Int) = 95 from rfl), bV_s, nm_s]
        rfl
      have := hstep N
      rw [← hf] at this
      rw [this]; exact t1
    · rw [t7, eP, p00 (by decide), b4]
  · have hl0 : begP (PP p0 pd k) 2 (cur (begP (PP p0 pd k))) < 4 := by rw [b3]; decide
    obtain ⟨a1, a2, a3, a4, a5, a6, a7⟩ := WB_add b1 hl0 z1
    have hb3 : begP (PP p0 pd k) 0 3 = n := by rw [b4, hn]
    obtain ⟨g1, g2⟩ := GP_add b1 hb3 hl0 z1 hgb
    have eP : PP p0 pd (k + 1) = addP (begP (PP p0 pd k)) (pd k) := z2
    rw [b5, Nat.add_sub_cancel, b3] at g1 g2
    have hoff : offG τ (st (st τ 4 (4 * (5 * n + PP p0 pd k 1 n) + 0) ((sgx (cod (pd k)) : Nat) : Int)) 3 (5 * n + PP p0 pd k 1 n) ((0 + 1 : Nat) : Int)) := fun j a b d => by rw [st_other _ _ b, st_other _ _ d]
    have e1n : PP p0 pd (k + 1) 1 n = PP p0 pd k 1 n + 1 := by rw [eP, a4, b5]
    obtain ⟨k2, τ2, t1, t2, t3, t4, t5, t6, t7, t8, t9⟩ := gr100_3 (N := N) (n := n) (x1 := x1) hG (c - (k + 1)) (k + 1) f _ (by omega) (by omega) (RPad_off hP hoff) (by rw [eP, a3]; exact Nat.le_refl _) (by rw [eP, a2 3 (by decide)]; exact hb3) (by rw [eP]; exact g1)
    refine ⟨k2, τ2, ?_, by omega, t3, offG_trans hoff t4, t5, t6, ?_, t8, t9⟩
    · rw [e1n, Nat.add_sub_cancel] at t1
      have hstep : ∀ M, f_X12_grammar_L100 M x1 (n : Int) ((5 * n + PP p0 pd k 1 n : Nat) : Int) (f + 1) (k : Int) τ = _ := fun M => gr100_add hP h60 hkc z1 (by omega) g2 (by decide)
      have := hstep N
      rw [← hf] at this
      rw [this]; exact t1
    · rw [t7, eP, a2 1 (by decide), b4]
