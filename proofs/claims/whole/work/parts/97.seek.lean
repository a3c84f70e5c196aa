/-! layer 2, Search.seek -/
def clU (σ : Mem) (u : Nat) : Prop := ∀ x, x < 6 → u.testBit x = true → ∀ k, k < 6 → usesG (rcC σ) (rlC σ) (rsC σ) x k → u.testBit k = true
theorem or_bits : ∀ u : Nat, u < 64 → ∀ v : Nat, v < 64 → iOr (u : Int) (v : Int) = ((u ||| v : Nat) : Int) := fun u hu v hv => iOr_n u v (by omega) (by omega)
theorem su18 {σ : Mem} {x1 x3 : Int} {N : Nat} (hw : wfM σ) (hN : 8 ≤ N) : ∀ (m o fuel u : Nat), o + m = 6 → m < fuel → u < 64 →
    ∃ u2 : Nat, f_X4_startUses_L18 N x1 x3 σ fuel (u : Int) (o : Int) = some (u2 : Int) ∧ u2 < 64 ∧ (∀ k, k < 6 → u.testBit k = true → u2.testBit k = true) ∧ (u2 = u → ∀ x, o ≤ x → x < 6 → u.testBit x = true → ∀ k, k < 6 → usesG (rcC σ) (rlC σ) (rsC σ) x k → u.testBit k = true) ∧ (clU σ u → u2 = u) := by
  intro m
  induction m with
  | zero =>
    intro o fuel u ho hf hu
    obtain ⟨f, rfl⟩ : ∃ f, fuel = f + 1 := ⟨fuel - 1, by omega⟩
    refine ⟨u, ?_, hu, fun _ _ h => h, fun _ x h1 h2 => by omega, fun _ => rfl⟩
    rw [f_X4_startUses_L18, ifle_t (by omega) (by omega) (by omega)]
  | succ m ih =>
    intro o fuel u ho hf hu
    obtain ⟨f, rfl⟩ : ∃ f, fuel = f + 1 := ⟨fuel - 1, by omega⟩
    have en : (o : Int) + 1 = ((o + 1 : Nat) : Int) := by omega
    have hbit := bit_test u o (by omega) (by omega)
    rw [f_X4_startUses_L18, ifle_f (by omega) (by omega) (by omega)]
    by_cases q : u.testBit o = true
    · obtain ⟨v, v1, v2, v3⟩ := used_m (N := N) hw (by omega : o < 6) hN
      have hor : ∀ k, (u ||| v).testBit k = (u.testBit k || v.testBit k) := fun k => Nat.testBit_or u v k
      obtain ⟨u2, t1, t2, t3, t4, t5⟩ := ih (o + 1) f (u ||| v) (by omega) (by omega) (or_lt64 hu v2)
      have hsub : ∀ k, k < 6 → u.testBit k = true → u2.testBit k = true := fun k hk h => t3 k hk (by rw [hor, h]; rfl)
      refine ⟨u2, ?_, t2, hsub, fun e x h1 h2 h3 k hk h4 => ?_, fun hc => ?_⟩
      · rw [if_neg (fun z => by rw [hbit.mp z] at q; cases q), v1, bV_s, bV_s, nm_s, or_bits u hu v v2, nm_s, en]
        exact t1
      · have hvu : ∀ k, k < 6 → v.testBit k = true → u.testBit k = true := fun k hk hv => by
          rw [← e]
          exact t3 k hk (by rw [hor, hv]; cases u.testBit k <;> rfl)
        have euv : u ||| v = u := bits6_eq (or_lt64 hu v2) hu (fun k hk => by
          rw [hor, Bool.or_eq_true]
          exact ⟨fun z => z.elim id (hvu k hk), Or.inl⟩)
        rw [euv] at t4
        by_cases ex : x = o
        · rw [ex] at h4
          exact hvu k hk ((v3 k hk).mpr h4)
        · exact t4 e x (by omega) h2 h3 k hk h4
      · have hvu : ∀ k, k < 6 → v.testBit k = true → u.testBit k = true := fun k hk hv => hc o (by omega) q k hk ((v3 k hk).mp hv)
        have euv : u ||| v = u := bits6_eq (or_lt64 hu v2) hu (fun k hk => by
          rw [hor, Bool.or_eq_true]
          exact ⟨fun z => z.elim id (hvu k hk), Or.inl⟩)
        rw [euv] at t5
        exact t5 hc
    · have qf : u.testBit o = false := by
        cases z : u.testBit o with
        | true => exact absurd z q
        | false => rfl
      obtain ⟨u2, t1, t2, t3, t4, t5⟩ := ih (o + 1) f u (by omega) (by omega) hu
      refine ⟨u2, ?_, t2, t3, fun e x h1 h2 h3 k hk h4 => ?_, t5⟩
      · rw [if_pos (hbit.mpr qf), bV_s, nm_s, or_z u hu, nm_s, en]
        exact t1
      · by_cases ex : x = o
        · rw [ex] at h3; exact absurd h3 q
        · exact t4 e x (by omega) h2 h3 k hk h4
def cbt (u : Nat) : Nat := fb_ct (fun k => u.testBit k) 6
theorem cbt_more {u v : Nat} (hu : u < 64) (hv : v < 64) (h : ∀ k, k < 6 → u.testBit k = true → v.testBit k = true) (hne : v ≠ u) : cbt u + 1 ≤ cbt v := by
  have hex : ∃ k, k < 6 ∧ v.testBit k = true ∧ ¬ u.testBit k = true := Classical.byContradiction (fun z => hne (bits6_eq hv hu (fun k hk => ⟨fun hk2 => Classical.byContradiction (fun y => z ⟨k, hk, hk2, y⟩), h k hk⟩)))
  obtain ⟨i, i1, i2, i3⟩ := hex
  have h1 := fb_ct_upd (fun k => u.testBit k) true (i := i) (n := 6) i1
  rw [if_neg i3, if_pos rfl] at h1
  have h2 : fb_ct (fun k => if k = i then true else u.testBit k) 6 ≤ cbt v := fb_ct_sub (fun k hk hz => by
    by_cases e : k = i
    · rw [e]; exact i2
    · rw [if_neg e] at hz; exact h k hk hz)
  show fb_ct (fun k => u.testBit k) 6 + 1 ≤ cbt v
  omega
theorem su9 {σ : Mem} {x1 : Int} {N : Nat} (hw : wfM σ) (hN : 8 ≤ N) : ∀ (m r fuel u : Nat), r + m = 6 → m < fuel → u < 64 → (clU σ u ∨ r + 1 ≤ cbt u) →
    ∃ u2 : Nat, f_X4_startUses_L9 N x1 σ fuel (u : Int) (r : Int) = some (u2 : Int) ∧ u2 < 64 ∧ (∀ k, k < 6 → u.testBit k = true → u2.testBit k = true) ∧ clU σ u2 := by
  intro m
  induction m with
  | zero =>
    intro r fuel u ho hf hu hc
    obtain ⟨f, rfl⟩ : ∃ f, fuel = f + 1 := ⟨fuel - 1, by omega⟩
    refine ⟨u, ?_, hu, fun _ _ h => h, ?_⟩
    · rw [f_X4_startUses_L9, ifle_t (by omega) (by omega) (by omega)]
    · rcases hc with z | z
      · exact z
      · have : cbt u ≤ 6 := fb_ct_le _ 6
        omega
  | succ m ih =>
    intro r fuel u ho hf hu hc
    obtain ⟨f, rfl⟩ : ∃ f, fuel = f + 1 := ⟨fuel - 1, by omega⟩
    have en : (r : Int) + 1 = ((r + 1 : Nat) : Int) := by omega
    obtain ⟨v, t1, t2, t3, t4, t5⟩ := su18 (N := N) (x1 := x1) (x3 := (r : Int)) hw hN 6 0 N u rfl (by omega) hu
    have t1' : f_X4_startUses_L18 N x1 (r : Int) σ N (u : Int) 0 = some (v : Int) := t1
    have hc2 : clU σ v ∨ r + 1 + 1 ≤ cbt v := by
      by_cases e : v = u
      · left
        rw [e]
        exact fun x hx h3 k hk h4 => t4 e x (Nat.zero_le _) hx h3 k hk h4
      · rcases hc with z | z
        · exact absurd (t5 z) e
        · have := cbt_more hu t2 t3 e
          exact Or.inr (by omega)
    obtain ⟨u2, s1, s2, s3, s4⟩ := ih (r + 1) f v (by omega) (by omega) t2 hc2
    refine ⟨u2, ?_, s2, fun k hk h => s3 k hk (t3 k hk h), s4⟩
    rw [f_X4_startUses_L9, ifle_f (by omega) (by omega) (by omega), bV_ok t1', nm_s, en]
    exact s1
theorem sgl6 : ∀ s : Nat, s < 6 → iShl 1 (s : Int) = ((2 ^ s : Nat) : Int) ∧ 2 ^ s < 64 ∧ (2 ^ s : Nat).testBit s = true ∧ 1 ≤ fb_ct (fun k => (2 ^ s : Nat).testBit k) 6 := by decide +kernel
/-- Grammar.startUses: where it says no, the start hangs on names without this one -/
theorem startUses_m {σ : Mem} {n s N : Nat} (hw : wfM σ) (hN : 20 ≤ N) (hn : n < 6) (hs : s < 6) (h34 : σ 3 4 = (s : Int)) :
    ∃ v : Int, f_X4_startUses N (n : Int) σ = some v ∧ (v = 1 ∨ (v = 0 ∧ ∃ u : Nat, u.testBit s = true ∧ ¬ u.testBit n = true ∧ clU σ u)) := by
  obtain ⟨e1, e2, e3, e4⟩ := sgl6 s hs
  obtain ⟨u, t1, t2, t3, t4⟩ := su9 (N := N) (x1 := (n : Int)) hw (by omega) 6 0 N (2 ^ s) rfl (by omega) e2 (Or.inr e4)
  have t1' : f_X4_startUses_L9 N (n : Int) σ N ((2 ^ s : Nat) : Int) 0 = some (u : Int) := t1
  have hbit := bit_test u n (by omega) (by omega)
  unfold f_X4_startUses
  rw [nm_s, h34, e1, bV_ok t1']
  by_cases q : u.testBit n = true
  · exact ⟨1, by rw [if_neg (fun z => by rw [hbit.mp z] at q; cases q)], Or.inl rfl⟩
  · have qf : u.testBit n = false := by
      cases z : u.testBit n with
      | true => exact absurd z q
      | false => rfl
    exact ⟨0, by rw [if_pos (hbit.mpr qf)], Or.inr ⟨rfl, u, t3 s hs e3, q, t4⟩⟩
/-- the start's mends hang on its names alone -/
theorem indep_le {dr L : Nat} {lt X Y : Nat → Nat → Nat → Nat} {rc rc2 : Nat → Nat} {rl rl2 : Nat → Nat → Nat} {rs rs2 : Nat → Nat → Nat → Nat} {R : Nat → Prop} (hX : leastT dr L lt rc rl rs X) (hY : leastT dr L lt rc2 rl2 rs2 Y) (hG : wfG rc rl rs)
    (h1 : ∀ m, m < 6 → R m → rc2 m = rc m ∧ (∀ r, r < rc m → rl2 m r = rl m r) ∧ ∀ r p, r < rc m → p < rl m r → rs2 m r p = rs m r p) (h2 : ∀ m x, m < 6 → R m → usesG rc rl rs m x → R x) : ∀ m a b, m < 6 → R m → a ≤ b → b ≤ L → X m a b ≤ Y m a b := by
  have : ∀ m, Decidable (R m) := fun m => Classical.propDecidable _
  generalize hZ : (fun m a b => if R m then X m a b else 0 : Nat → Nat → Nat → Nat) = Z
  have e1 : ∀ m a b, R m → Z m a b = X m a b := fun m a b h => by rw [← hZ]; exact if_pos h
  have e2 : ∀ m a b, ¬ R m → Z m a b = 0 := fun m a b h => by rw [← hZ]; exact if_neg h
  have oZ : okT L Z := fun m a b hm hab hb => by
    by_cases q : R m
    · rw [e1 m a b q]; exact hX.1 m a b hm hab hb
    · rw [e2 m a b q]; exact ok_0 _
  have cZ : closedT dr L lt rc2 rl2 rs2 Z := fun m r i j hm hr hij hj => by
    by_cases q : R m
    · obtain ⟨k1, k2, k3⟩ := h1 m hm q
      have hr2 : r < rc m := by rw [← k1]; exact hr
      rw [e1 m i j q, k2 r hr2]
      have e3 : rulev dr (onev lt Z) (rl m r) (rs2 m r) i j = rulev dr (onev lt X) (rl m r) (rs m r) i j := rulev_cong (fun p hp => k3 r p hr2 hp) (fun p a c hp _ _ _ => by
        rw [k3 r p hr2 hp]
        unfold onev
        split
        · rfl
        · next h4 =>
          have hs := hG m r p hm hr2 hp
          exact e1 _ a c (h2 m (rs m r p - 4) hm q ⟨r, hr2, p, hp, by omega⟩))
      rw [e3]
      exact hX.2.1 m r i j hm hr2 hij hj
    · rw [e2 m i j q]; exact Nat.zero_le _
  intro m a b hm q hab hb
  rw [← e1 m a b q]
  exact hY.2.2 Z oZ cZ m a b hm hab hb
theorem rcX_o {A : AS} {n m : Nat} (h : m ≠ n) : rcX A n m = aRc A m := if_neg h
theorem rlX_o {A : AS} {n k m r : Nat} (h : ¬ (m = n ∧ r = aRc A n)) : rlX A n k m r = aRl A m r := if_neg h
theorem rsX_o {A : AS} {n k m r p : Nat} (h : ¬ (m = n ∧ r = aRc A n)) : rsX A n k m r p = aRs A m r p := if_neg h
theorem tlen_le (k : Nat) : tlen k ≤ 2 := by unfold tlen; split; omega; split <;> omega
theorem tsg_lt {k p : Nat} (hk : k < 27) : tsg k p < 10 := by
  unfold tsg
  split
  · omega
  · split
    · omega
    · have : (k - 11) % 4 < 4 := Nat.mod_lt _ (by decide)
      omega
/-- a rule more for a name that the start doesn't hang on changes no total -/
theorem tot_indep {A : AS} {n k k2 t t2 : Nat} {u : Nat} (hG : ∀ m r p, m < 6 → r < aRc A m → p < aRl A m r → aRs A m r p < 10) (hs : aS A < 6) (hk : k < 27) (hk2 : k2 < 27) (h1 : u.testBit (aS A) = true) (h2 : ¬ u.testBit n = true) (h3 : ∀ x, x < 6 → u.testBit x = true → ∀ y, y < 6 → usesG (aRc A) (aRl A) (aRs A) x y → u.testBit y = true) (ht : TotP A (rcX A n) (rlX A n k) (rsX A n k) t) (ht2 : TotP A (rcX A n) (rlX A n k2) (rsX A n k2) t2) : t = t2 := by
  have hwf : ∀ k, k < 27 → wfG (rcX A n) (rlX A n k) (rsX A n k) := fun k hk m r p hm hr hp => by
    by_cases q : m = n ∧ r = aRc A n
    · have : rsX A n k m r p = tsg k p := if_pos q
      rw [this]; exact tsg_lt hk
    · rw [rsX_o q]
      rw [rlX_o q] at hp
      refine hG m r p hm ?_ hp
      by_cases e : m = n
      · have : rcX A n m = aRc A n + 1 := if_pos e
        rw [this] at hr
        rw [e] at q ⊢
        omega
      · rw [rcX_o e] at hr; exact hr
  have hus : ∀ k m x, m < 6 → u.testBit m = true → usesG (rcX A n) (rlX A n k) (rsX A n k) m x → usesG (aRc A) (aRl A) (aRs A) m x := fun k m x hm hu ⟨r, hr, p, hp, e⟩ => by
    have hmn : m ≠ n := fun z => h2 (by rw [← z]; exact hu)
    rw [rcX_o hmn] at hr
    rw [rlX_o (fun z => hmn z.1)] at hp
    rw [rsX_o (fun z => hmn z.1)] at e
    exact ⟨r, hr, p, hp, e⟩
  have hx6 : ∀ k m x, k < 27 → m < 6 → usesG (rcX A n) (rlX A n k) (rsX A n k) m x → x < 6 := fun k m x hk hm ⟨r, hr, p, hp, e⟩ => by
    have := hwf k hk m r p hm hr hp
    omega
  have half : ∀ k k2, k < 27 → k2 < 27 → ∀ (L : Nat) (wd : Nat → Nat) (X Y : Nat → Nat → Nat → Nat), LX A L wd (rcX A n) (rlX A n k) (rsX A n k) X → LX A L wd (rcX A n) (rlX A n k2) (rsX A n k2) Y → X (aS A) 0 L ≤ Y (aS A) 0 L := fun k k2 hk hk2 L wd X Y hX hY =>
    indep_le (R := fun m => u.testBit m = true) hX.1 hY.1 (hwf k hk) (fun m hm hu => by
      have hmn : m ≠ n := fun z => h2 (by rw [← z]; exact hu)
      exact ⟨rfl, fun r _ => by rw [rlX_o (fun z => hmn z.1), rlX_o (fun z => hmn z.1)], fun r p _ _ => by rw [rsX_o (fun z => hmn z.1), rsX_o (fun z => hmn z.1)]⟩) (fun m x hm hu hux => h3 m hm hu x (hx6 k m x hk hm hux) (hus k m x hm hu hux)) (aS A) 0 L hs h1 (Nat.zero_le _) (Nat.le_refl _)
  obtain ⟨X, x1, x2⟩ := ht
  obtain ⟨Y, y1, y2⟩ := ht2
  have e : ∀ i, i < aE A → X i (aS A) 0 (aEL A i) = Y i (aS A) 0 (aEL A i) := fun i hi => Nat.le_antisymm (half k k2 hk hk2 _ _ _ _ (x1 i hi) (y1 i hi)) (half k2 k hk2 hk _ _ _ _ (y1 i hi) (x1 i hi))
  rcases x2 with ⟨a, i, ai, b⟩ | ⟨a, b⟩
  · rcases y2 with ⟨c, -⟩ | ⟨c, d⟩
    · omega
    · exact absurd (by rw [← e i ai]; exact b) (c i ai)
  · rcases y2 with ⟨c, i, ci, d⟩ | ⟨c, d⟩
    · exact absurd (by rw [e i ci]; exact d) (a i ci)
    · rw [b, d]
      exact sumE_cong (fun i hi => by rw [e i hi])
theorem isSlot_m {s : Nat} (hs : s < 25) : f_X4_isSlot (s : Int) = some 1 := by
  unfold f_X4_isSlot
  rw [ifl_f (by omega) (by omega) (by omega), ifle_f (by omega) (by omega) (by omega)]
theorem emptySlot_m {σ : Mem} {g s : Nat} (hs : s < 25) : f_X4_emptySlot g (s : Int) σ = some (st σ (g + 2) s 0) := by
  unfold f_X4_emptySlot
  rw [bV_ok (isSlot_m hs), if_neg z10, gd_pos ⟨by omega, by omega⟩, nm_s, Int.toNat_natCast]
theorem addTo_m {σ : Mem} {g s l : Nat} {v : Int} (hs : s < 25) (h : σ (g + 2) s = (l : Int)) (hl : l < 4) : f_X4_addTo g (s : Int) v σ = some (1, st (st σ (g + 3) (s * 4 + l) v) (g + 2) s ((l + 1 : Nat) : Int)) := by
  have e : (s : Int) * 4 + (l : Int) = ((s * 4 + l : Nat) : Int) := by omega
  unfold f_X4_addTo
  rw [bV_ok (lengthOf_m g s hs), h, bV_ok (isSlot_m hs), if_neg z10, ifl_f (by omega) (by omega) (by omega), ifl_t (by omega) (by omega) (by omega), e, gd_pos ⟨by omega, by omega⟩, nm_s, gd_pos ⟨by omega, by omega⟩, nm_s, Int.toNat_natCast, Int.toNat_natCast]
  rfl
theorem addTo_full {σ : Mem} {g s l : Nat} {v : Int} (hs : s < 25) (h : σ (g + 2) s = (l : Int)) (hl : l = 4) : f_X4_addTo g (s : Int) v σ = some (0, σ) := by
  unfold f_X4_addTo
  rw [bV_ok (lengthOf_m g s hs), h, bV_ok (isSlot_m hs), if_neg z10, ifl_f (by omega) (by omega) (by omega), ifl_f (by omega) (by omega) (by omega)]
theorem divrem : ∀ x : Nat, x < 16 → iDiv (x : Int) 4 = ((x / 4 : Nat) : Int) ∧ iRem (x : Int) 4 = ((x % 4 : Nat) : Int) := by decide +kernel
/-- what a rule on trial leaves: the trial name, the trial slot -/
def TY (σ σ2 : Mem) (n k : Nat) : Prop := (∀ j, j ≠ 3 → j ≠ 5 → j ≠ 6 → σ2 j = σ j) ∧ (∀ j, j ≠ 6 → σ2 3 j = σ 3 j) ∧ σ2 3 6 = (n : Int) ∧ (∀ s, s ≠ 24 → σ2 5 s = σ 5 s) ∧ σ2 5 24 = (tlen k : Int) ∧ (∀ q, q < 96 → σ2 6 q = σ 6 q) ∧ (∀ p, p < tlen k → σ2 6 (96 + p) = (tsg k p : Int)) ∧ ∀ q, σ2 6 q = σ 6 q ∨ ∃ p, σ2 6 q = (tsg k p : Int)
theorem tryRule_m {σ : Mem} {n k : Nat} (hk : k < 27) : ∃ σ2, f_X4_tryRule (n : Int) (k : Int) σ = some σ2 ∧ TY σ σ2 n k := by
  have hes : f_X4_emptySlot 3 24 (st σ 3 6 (n : Int)) = some (st (st σ 3 6 (n : Int)) (3 + 2) 24 0) := emptySlot_m (s := 24) (by decide)
  have h5 : (st (st σ 3 6 (n : Int)) 5 24 0) 5 24 = ((0 : Nat) : Int) := st_eq _ _ _ _
  unfold f_X4_tryRule
  rw [nm_s, bV_ok hes, nm_s]
  by_cases q0 : k = 0
  · subst q0
    refine ⟨st (st σ 3 6 (n : Int)) 5 24 0, ?_, fun j a b c => by rw [st_other _ _ b, st_other _ _ a], fun j a => by rw [st_other _ _ (by decide), st_ne _ _ a], by rw [st_other _ _ (by decide), st_eq], fun s a => by rw [st_ne _ _ a, st_other _ _ (by decide)], by rw [st_eq]; rfl, fun q _ => by rw [st_other _ _ (by decide), st_other _ _ (by decide)], fun p hp => absurd hp (Nat.not_lt_zero p), fun q => Or.inl (by rw [st_other _ _ (by decide), st_other _ _ (by decide)])⟩
    rw [ifl_t (by omega) (by omega) (by omega), ifle_t (by omega) (by omega) (by omega)]
  · by_cases q1 : k < 11
    · have hadd : f_X4_addTo 3 24 ((k : Int) - 1) (st (st σ 3 6 (n : Int)) 5 24 0) = some (1, st (st (st (st σ 3 6 (n : Int)) 5 24 0) 6 96 ((k : Int) - 1)) 5 24 ((0 + 1 : Nat) : Int)) := addTo_m (g := 3) (s := 24) (l := 0) (by decide) h5 (by decide)
      have el : tlen k = 1 := by unfold tlen; rw [if_neg q0, if_pos q1]
      have es : tsg k 0 = k - 1 := by unfold tsg; rw [if_pos q1]
      refine ⟨_, by rw [ifl_t (by omega) (by omega) (by omega), ifle_f (by omega) (by omega) (by omega), bL1_ok hadd], fun j a b c => by rw [st_other _ _ b, st_other _ _ c, st_other _ _ b, st_other _ _ a], fun j a => by rw [st_other _ _ (by decide), st_other _ _ (by decide), st_other _ _ (by decide), st_ne _ _ a], by rw [st_other _ _ (by decide), st_other _ _ (by decide), st_other _ _ (by decide), st_eq], fun s a => by rw [st_ne _ _ a, st_other _ _ (by decide), st_ne _ _ a, st_other _ _ (by decide)], by rw [st_eq, el], fun q hq => by rw [st_other _ _ (by decide), st_ne _ _ (by omega), st_other _ _ (by decide), st_other _ _ (by decide)], fun p hp => ?_, fun q => ?_⟩
      · have hp0 : p = 0 := by omega
        rw [hp0, es, st_other _ _ (by decide), st_eq]
        omega
      · rw [st_other _ _ (by decide), st_row]
        by_cases e : q = 96
        · rw [if_pos e]; exact Or.inr ⟨0, by rw [es]; omega⟩
        · rw [if_neg e, st_other _ _ (by decide), st_other _ _ (by decide)]; exact Or.inl rfl
    · have ex : ((k : Int) - 1) - 10 = ((k - 11 : Nat) : Int) := by omega
      obtain ⟨d1, d2⟩ := divrem (k - 11) (by omega)
      have hadd : f_X4_addTo 3 24 (((k - 11) / 4 : Nat) : Int) (st (st σ 3 6 (n : Int)) 5 24 0) = some (1, st (st (st (st σ 3 6 (n : Int)) 5 24 0) 6 96 (((k - 11) / 4 : Nat) : Int)) 5 24 ((0 + 1 : Nat) : Int)) := addTo_m (g := 3) (s := 24) (l := 0) (by decide) h5 (by decide)
      have hadd2 : f_X4_addTo 3 24 (((k - 11) % 4 : Nat) : Int) (st (st (st (st σ 3 6 (n : Int)) 5 24 0) 6 96 (((k - 11) / 4 : Nat) : Int)) 5 24 ((0 + 1 : Nat) : Int)) = some (1, st (st (st (st (st (st σ 3 6 (n : Int)) 5 24 0) 6 96 (((k - 11) / 4 : Nat) : Int)) 5 24 ((0 + 1 : Nat) : Int)) 6 97 (((k - 11) % 4 : Nat) : Int)) 5 24 ((1 + 1 : Nat) : Int)) := addTo_m (g := 3) (s := 24) (l := 1) (by decide) (st_eq _ _ _ _) (by decide)
      have el : tlen k = 2 := by unfold tlen; rw [if_neg q0, if_neg q1]
      have es : tsg k 0 = (k - 11) / 4 := by unfold tsg; rw [if_neg q1, if_pos rfl]
      have es1 : tsg k 1 = (k - 11) % 4 := by unfold tsg; rw [if_neg q1, if_neg (by decide)]
      have h6 : ∀ q, (st (st (st (st (st (st σ 3 6 (n : Int)) 5 24 0) 6 96 (((k - 11) / 4 : Nat) : Int)) 5 24 ((0 + 1 : Nat) : Int)) 6 97 (((k - 11) % 4 : Nat) : Int)) 5 24 ((1 + 1 : Nat) : Int)) 6 q = if q = 97 then (((k - 11) % 4 : Nat) : Int) else if q = 96 then (((k - 11) / 4 : Nat) : Int) else σ 6 q := fun q => by
        rw [st_other _ _ (by decide), st_row, st_other _ _ (by decide), st_row, st_other _ _ (by decide), st_other _ _ (by decide)]
      refine ⟨_, by rw [ex, ifl_f (by omega) (by omega) (by omega), d1, bL1_ok hadd, d2, bL1_ok hadd2], fun j a b c => by rw [st_other _ _ b, st_other _ _ c, st_other _ _ b, st_other _ _ c, st_other _ _ b, st_other _ _ a], fun j a => by rw [st_other _ _ (by decide), st_other _ _ (by decide), st_other _ _ (by decide), st_other _ _ (by decide), st_other _ _ (by decide), st_ne _ _ a], by rw [st_other _ _ (by decide), st_other _ _ (by decide), st_other _ _ (by decide), st_other _ _ (by decide), st_other _ _ (by decide), st_eq], fun s a => by rw [st_ne _ _ a, st_other _ _ (by decide), st_ne _ _ a, st_other _ _ (by decide), st_ne _ _ a, st_other _ _ (by decide)], by rw [st_eq, el], fun q hq => by rw [h6, if_neg (by omega), if_neg (by omega)], fun p hp => ?_, fun q => ?_⟩
      · rw [h6]
        have hp2 : p = 0 ∨ p = 1 := by omega
        rcases hp2 with rfl | rfl
        · rw [es, if_neg (by decide), if_pos rfl]
        · rw [es1, if_pos rfl]
      · rw [h6]
        by_cases e : q = 97
        · rw [if_pos e]; exact Or.inr ⟨1, by rw [es1]⟩
        · rw [if_neg e]
          by_cases e2 : q = 96
          · rw [if_pos e2]; exact Or.inr ⟨0, by rw [es]⟩
          · rw [if_neg e2]; exact Or.inl rfl
