/-! layer 2, how far along a word some word of a name goes with it: what both sides compute -/
/-- j letters from c on begin a word of the sign s, where P tells it of names -/
def bOne (wd : Nat → Nat) (L : Nat) (P : Nat → Nat → Nat → Prop) (s c j : Nat) : Prop := (s < 4 ∧ (j = c ∨ (j = c + 1 ∧ c < L ∧ wd c = s))) ∨ (4 ≤ s ∧ P (s - 4) c j)
/-- the same of a rule; R: signs as they are, cm: signs that come to a word -/
def BR (wd : Nat → Nat) (L : Nat) (R : Nat → Nat → Nat → Prop) (cm : Nat → Prop) (P : Nat → Nat → Nat → Prop) (sg : Nat → Nat) (len i j : Nat) : Prop :=
  (∀ q, q < len → cm (sg q)) ∧ ((∃ q c, q < len ∧ eb L R sg i q c ∧ c ≤ j ∧ bOne wd L P (sg q) c j) ∨ eb L R sg i len j)
def closedB (wd : Nat → Nat) (L : Nat) (R : Nat → Nat → Nat → Prop) (cm : Nat → Prop) (rc : Nat → Nat) (rl : Nat → Nat → Nat) (rs : Nat → Nat → Nat → Nat) (P : Nat → Nat → Nat → Prop) : Prop := ∀ n r i j, n < 6 → r < rc n → i ≤ j → j ≤ L → BR wd L R cm P (rs n r) (rl n r) i j → P n i j
def LB (wd : Nat → Nat) (L : Nat) (R : Nat → Nat → Nat → Prop) (cm : Nat → Prop) (rc : Nat → Nat) (rl : Nat → Nat → Nat) (rs : Nat → Nat → Nat → Nat) (n i j : Nat) : Prop := ∀ P, closedB wd L R cm rc rl rs P → P n i j
theorem bOne_mono {wd : Nat → Nat} {L s c j : Nat} {P Q : Nat → Nat → Nat → Prop} (hs : s < 10) (h : ∀ n, n < 6 → P n c j → Q n c j) (hb : bOne wd L P s c j) : bOne wd L Q s c j :=
  hb.elim (fun z => Or.inl z) (fun z => Or.inr ⟨z.1, h _ (by omega) z.2⟩)
theorem BR_mono {wd : Nat → Nat} {L : Nat} {R : Nat → Nat → Nat → Prop} {cm : Nat → Prop} {P Q : Nat → Nat → Nat → Prop} {sg : Nat → Nat} {len i j : Nat} (hs : ∀ q, q < len → sg q < 10) (h : ∀ n c, n < 6 → c ≤ j → P n c j → Q n c j) (hb : BR wd L R cm P sg len i j) : BR wd L R cm Q sg len i j :=
  ⟨hb.1, hb.2.elim (fun ⟨q, c, h1, h2, h3, h4⟩ => Or.inl ⟨q, c, h1, h2, h3, bOne_mono (hs q h1) (fun n hn => h n c hn h3) h4⟩) Or.inr⟩
theorem LB_closed {wd : Nat → Nat} {L : Nat} {R : Nat → Nat → Nat → Prop} {cm : Nat → Prop} {rc : Nat → Nat} {rl : Nat → Nat → Nat} {rs : Nat → Nat → Nat → Nat} (hG : wfG rc rl rs) : closedB wd L R cm rc rl rs (LB wd L R cm rc rl rs) := fun n r i j hn hr hij hj h P hP =>
  hP n r i j hn hr hij hj (BR_mono (fun q hq => hG n r q hn hr hq) (fun m c _ _ hz => hz P hP) h)
/-- what is known of a table: exact parts and names that come to words hang on rules -/
def KXb (wd : Nat → Nat) (L : Nat) (R : Nat → Nat → Nat → Prop) (cm : Nat → Prop) (rc : Nat → Nat) (rl : Nat → Nat → Nat) (rs : Nat → Nat → Nat → Nat) : Prop :=
  L ≤ 6 ∧ wfG rc rl rs ∧ (∀ n r, n < 6 → r < rc n → rl n r ≤ 4) ∧ (∀ s a b, s < 4 → a ≤ b → b ≤ L → (R s a b ↔ b = a + 1 ∧ wd a = s)) ∧ (∀ s, s < 4 → cm s) ∧
  (∀ Q : Nat → Nat → Nat → Prop, (∀ n r i j, n < 6 → r < rc n → i ≤ j → j ≤ L → eb L (fun s x y => R s x y ∧ (4 ≤ s → Q (s - 4) x y)) (rs n r) i (rl n r) j → Q n i j) → ∀ n i j, n < 6 → i ≤ j → j ≤ L → R (n + 4) i j → Q n i j) ∧
  (∀ Q : Nat → Prop, (∀ n r, n < 6 → r < rc n → (∀ q, q < rl n r → cm (rs n r q)) → (∀ q, q < rl n r → 4 ≤ rs n r q → Q (rs n r q - 4)) → Q n) → ∀ n, n < 6 → cm (n + 4) → Q n) ∧
  (∀ n i j, n < 6 → i ≤ j → j ≤ L → R (n + 4) i j → cm (n + 4))
/-- a rule whose signs are exact has signs that come to words -/
theorem eb_cm {wd : Nat → Nat} {L : Nat} {R : Nat → Nat → Nat → Prop} {cm : Nat → Prop} {rc : Nat → Nat} {rl : Nat → Nat → Nat} {rs : Nat → Nat → Nat → Nat} (K : KXb wd L R cm rc rl rs) {n r i j p : Nat} (hn : n < 6) (hr : r < rc n) (hp : p ≤ rl n r) (hi : i ≤ L) (h : eb L R (rs n r) i p j) : ∀ q, q < p → cm (rs n r q) := fun q hq => by
  obtain ⟨k1, k2, k3, k4, k5, k6, k7, k8⟩ := K
  obtain ⟨c, d, h1, h2, h3, h4⟩ := eb_all hi h q hq
  have hs := k2 n r q hn hr (by omega)
  by_cases q4 : rs n r q < 4
  · exact k5 _ q4
  · have := k8 (rs n r q - 4) c d (by omega) h2 h3
    rw [show rs n r q - 4 + 4 = rs n r q by omega] at this
    exact this h4
/-- no letter begins a word of each name that comes to one -/
theorem LB_empty {wd : Nat → Nat} {L : Nat} {R : Nat → Nat → Nat → Prop} {cm : Nat → Prop} {rc : Nat → Nat} {rl : Nat → Nat → Nat} {rs : Nat → Nat → Nat → Nat} (K : KXb wd L R cm rc rl rs) : ∀ n, n < 6 → cm (n + 4) → ∀ i, i ≤ L → LB wd L R cm rc rl rs n i i := by
  obtain ⟨k1, k2, k3, k4, k5, k6, k7, k8⟩ := K
  refine k7 (fun n => ∀ i, i ≤ L → LB wd L R cm rc rl rs n i i) (fun n r hn hr hcm h i hi => ?_)
  refine LB_closed k2 n r i i hn hr (Nat.le_refl _) hi ⟨hcm, ?_⟩
  by_cases e : rl n r = 0
  · rw [e]; exact Or.inr rfl
  · refine Or.inl ⟨0, i, by omega, rfl, Nat.le_refl _, ?_⟩
    by_cases q4 : rs n r 0 < 4
    · exact Or.inl ⟨q4, Or.inl rfl⟩
    · exact Or.inr ⟨by omega, h 0 (by omega) (by omega) i hi⟩
/-- what is a word of a name as it is begins one with each of its first letters -/
theorem LB_exact {wd : Nat → Nat} {L : Nat} {R : Nat → Nat → Nat → Prop} {cm : Nat → Prop} {rc : Nat → Nat} {rl : Nat → Nat → Nat} {rs : Nat → Nat → Nat → Nat} (K : KXb wd L R cm rc rl rs) : ∀ n i j, n < 6 → i ≤ j → j ≤ L → R (n + 4) i j → ∀ x, i ≤ x → x ≤ j → LB wd L R cm rc rl rs n i x := by
  have K2 := K
  obtain ⟨k1, k2, k3, k4, k5, k6, k7, k8⟩ := K
  refine k6 (fun n i j => ∀ x, i ≤ x → x ≤ j → LB wd L R cm rc rl rs n i x) (fun n r i j hn hr hij hj h x h1 h2 => ?_)
  have hs : ∀ q, q < rl n r → rs n r q < 10 := fun q hq => k2 n r q hn hr hq
  have he : eb L R (rs n r) i (rl n r) j := eb_mono (by omega) (fun q a b _ _ _ _ hz => hz.1) h
  refine LB_closed k2 n r i x hn hr h1 (by omega) ⟨eb_cm K2 hn hr (Nat.le_refl _) (by omega) he, ?_⟩
  by_cases e : x = j
  · rw [e]; exact Or.inr he
  · obtain ⟨q, c, d, z1, z2, z3, z4, z5, z6, z7⟩ := eb_cut h h1 (by omega : x < j)
    refine Or.inl ⟨q, c, z1, eb_mono (by omega) (fun q a b _ _ _ _ hz => hz.1) z2, z3, ?_⟩
    have hq := hs q z1
    by_cases q4 : rs n r q < 4
    · have := (k4 (rs n r q) c d q4 (by omega) z5).mp z7.1
      exact Or.inl ⟨q4, Or.inl (by omega)⟩
    · exact Or.inr ⟨by omega, z7.2 (by omega) x z3 (by omega)⟩
/-! the class's numbers: one more than the place up to which; 0: no word is known -/
noncomputable def mxc (P : Nat → Prop) (f : Nat → Nat) : Nat → Nat
  | 0 => 0
  | k + 1 => @ite _ (P k) (Classical.propDecidable _) (max (mxc P f k) (f k)) (mxc P f k)
theorem mxc_s {P : Nat → Prop} {f : Nat → Nat} {k : Nat} (h : P k) : mxc P f (k + 1) = max (mxc P f k) (f k) := if_pos h
theorem mxc_n {P : Nat → Prop} {f : Nat → Nat} {k : Nat} (h : ¬ P k) : mxc P f (k + 1) = mxc P f k := if_neg h
theorem mxc_le {P : Nat → Prop} {f : Nat → Nat} {k : Nat} (hP : P k) : ∀ {n : Nat}, k < n → f k ≤ mxc P f n
  | 0, h => absurd h (Nat.not_lt_zero k)
  | n + 1, h => by
    by_cases e : k = n
    · subst e
      rw [mxc_s hP]; omega
    · have := mxc_le (f := f) hP (n := n) (by omega)
      by_cases q : P n
      · rw [mxc_s q]; omega
      · rw [mxc_n q]; exact this
theorem mxc_att (P : Nat → Prop) (f : Nat → Nat) : ∀ n, mxc P f n = 0 ∨ ∃ k, k < n ∧ P k ∧ mxc P f n = f k
  | 0 => Or.inl rfl
  | n + 1 => by
    have ih := mxc_att P f n
    by_cases q : P n
    · rw [mxc_s q]
      by_cases e : mxc P f n ≤ f n
      · exact Or.inr ⟨n, by omega, q, by omega⟩
      · rcases ih with z | ⟨k, z1, z2, z3⟩
        · omega
        · exact Or.inr ⟨k, by omega, z2, by omega⟩
    · rw [mxc_n q]
      rcases ih with z | ⟨k, z1, z2, z3⟩
      · exact Or.inl z
      · exact Or.inr ⟨k, by omega, z2, z3⟩
theorem mxc_lub {P : Nat → Prop} {f : Nat → Nat} {n v : Nat} (h : ∀ k, k < n → P k → f k ≤ v) : mxc P f n ≤ v := by
  rcases mxc_att P f n with z | ⟨k, z1, z2, z3⟩
  · omega
  · rw [z3]; exact h k z1 z2
theorem mxc_cong {P : Nat → Prop} {f g : Nat → Nat} {n : Nat} (h : ∀ k, k < n → P k → f k = g k) : mxc P f n = mxc P g n :=
  Nat.le_antisymm (mxc_lub (fun k hk hP => by rw [h k hk hP]; exact mxc_le hP hk)) (mxc_lub (fun k hk hP => by rw [← h k hk hP]; exact mxc_le hP hk))
/-- of a sign from a place on -/
def fo (wd : Nat → Nat) (L : Nat) (g : Nat → Nat → Nat) (s c : Nat) : Nat := if s < 4 then (if c < L ∧ wd c = s then c + 2 else c + 1) else g (s - 4) c
noncomputable def rvA (wd : Nat → Nat) (L : Nat) (R : Nat → Nat → Nat → Prop) (g : Nat → Nat → Nat) (sg : Nat → Nat) (p k : Nat) : Nat := max (p + 1) (mxc (fun _ => True) (fun q => mxc (fun c => eb L R sg p q c) (fun c => fo wd L g (sg q) c) (L + 1)) k)
noncomputable def rvR (wd : Nat → Nat) (L : Nat) (R : Nat → Nat → Nat → Prop) (cm : Nat → Prop) (g : Nat → Nat → Nat) (sg : Nat → Nat) (len p : Nat) : Nat := @ite _ (∀ q, q < len → cm (sg q)) (Classical.propDecidable _) (rvA wd L R g sg p len) 0
theorem rvA_lub {wd : Nat → Nat} {L : Nat} {R : Nat → Nat → Nat → Prop} {g : Nat → Nat → Nat} {sg : Nat → Nat} {p k v : Nat} (h1 : p + 1 ≤ v) (h2 : ∀ q c, q < k → c ≤ L → eb L R sg p q c → fo wd L g (sg q) c ≤ v) : rvA wd L R g sg p k ≤ v := by
  have := mxc_lub (P := fun _ => True) (f := fun q => mxc (fun c => eb L R sg p q c) (fun c => fo wd L g (sg q) c) (L + 1)) (n := k) (v := v) (fun q hq _ => mxc_lub (fun c hc he => h2 q c hq (by omega) he))
  unfold rvA
  omega
theorem rvA_le {wd : Nat → Nat} {L : Nat} {R : Nat → Nat → Nat → Prop} {g : Nat → Nat → Nat} {sg : Nat → Nat} {p k q c : Nat} (hq : q < k) (hc : c ≤ L) (he : eb L R sg p q c) : fo wd L g (sg q) c ≤ rvA wd L R g sg p k := by
  have h1 : fo wd L g (sg q) c ≤ mxc (fun c => eb L R sg p q c) (fun c => fo wd L g (sg q) c) (L + 1) := mxc_le (P := fun c => eb L R sg p q c) (f := fun c => fo wd L g (sg q) c) (k := c) he (by omega)
  have h2 := mxc_le (P := fun _ => True) (f := fun q => mxc (fun c => eb L R sg p q c) (fun c => fo wd L g (sg q) c) (L + 1)) (k := q) trivial hq
  unfold rvA
  omega
theorem rvA_att {wd : Nat → Nat} {L : Nat} {R : Nat → Nat → Nat → Prop} {g : Nat → Nat → Nat} {sg : Nat → Nat} {p k : Nat} : rvA wd L R g sg p k = p + 1 ∨ ∃ q c, q < k ∧ c ≤ L ∧ eb L R sg p q c ∧ rvA wd L R g sg p k = fo wd L g (sg q) c := by
  unfold rvA
  generalize hm : mxc (fun _ => True) (fun q => mxc (fun c => eb L R sg p q c) (fun c => fo wd L g (sg q) c) (L + 1)) k = m
  by_cases e : m ≤ p + 1
  · exact Or.inl (by omega)
  · rcases mxc_att (fun _ => True) (fun q => mxc (fun c => eb L R sg p q c) (fun c => fo wd L g (sg q) c) (L + 1)) k with z | ⟨q, z1, _, z3⟩
    · omega
    · rcases mxc_att (fun c => eb L R sg p q c) (fun c => fo wd L g (sg q) c) (L + 1) with y | ⟨c, y1, y2, y3⟩
      · have z3' : mxc (fun _ => True) (fun q => mxc (fun c => eb L R sg p q c) (fun c => fo wd L g (sg q) c) (L + 1)) k = mxc (fun c => eb L R sg p q c) (fun c => fo wd L g (sg q) c) (L + 1) := z3
        omega
      · have z3' : mxc (fun _ => True) (fun q => mxc (fun c => eb L R sg p q c) (fun c => fo wd L g (sg q) c) (L + 1)) k = mxc (fun c => eb L R sg p q c) (fun c => fo wd L g (sg q) c) (L + 1) := z3
        exact Or.inr ⟨q, c, z1, by omega, y2, by omega⟩
def ug (g : Nat → Nat → Nat) (n p w : Nat) : Nat → Nat → Nat := fun m c => if m = n ∧ c = p then w else g m c
theorem ug_le {g : Nat → Nat → Nat} {n p w : Nat} (h : g n p ≤ w) (m c : Nat) : g m c ≤ ug g n p w m c := by
  unfold ug
  by_cases e : m = n ∧ c = p
  · rw [if_pos e, e.1, e.2]; exact h
  · rw [if_neg e]; exact Nat.le_refl _
theorem ug_or {g : Nat → Nat → Nat} {n p w : Nat} (m c : Nat) : ug g n p w m c = w ∨ ug g n p w m c = g m c := by
  unfold ug
  split
  · exact Or.inl rfl
  · exact Or.inr rfl
theorem fo_mono {wd : Nat → Nat} {L s c : Nat} {g g2 : Nat → Nat → Nat} (h : ∀ m, g m c ≤ g2 m c) : fo wd L g s c ≤ fo wd L g2 s c := by
  unfold fo
  split
  · exact Nat.le_refl _
  · exact h _
theorem rvR_mono {wd : Nat → Nat} {L : Nat} {R : Nat → Nat → Nat → Prop} {cm : Nat → Prop} {g g2 : Nat → Nat → Nat} {sg : Nat → Nat} {len p : Nat} (hp : p ≤ L) (h : ∀ m c, p ≤ c → g m c ≤ g2 m c) : rvR wd L R cm g sg len p ≤ rvR wd L R cm g2 sg len p := by
  unfold rvR
  by_cases q : ∀ q, q < len → cm (sg q)
  · rw [if_pos q, if_pos q]
    refine rvA_lub (by unfold rvA; omega) (fun x c hx hc he => Nat.le_trans (fo_mono (fun m => h m c (eb_rng hp he).1)) (rvA_le hx hc he))
  · rw [if_neg q]; exact Nat.zero_le _
theorem rvR_up {wd : Nat → Nat} {L : Nat} {R : Nat → Nat → Nat → Prop} {cm : Nat → Prop} {g : Nat → Nat → Nat} {sg : Nat → Nat} {len p n w : Nat} : rvR wd L R cm (ug g n p w) sg len p ≤ max (rvR wd L R cm g sg len p) w := by
  unfold rvR
  by_cases q : ∀ q, q < len → cm (sg q)
  · rw [if_pos q, if_pos q]
    have h1 : p + 1 ≤ rvA wd L R g sg p len := by unfold rvA; omega
    refine rvA_lub (by omega) (fun x c hx hc he => ?_)
    have h2 := rvA_le (wd := wd) (g := g) hx hc he
    unfold fo at h2 ⊢
    split
    · next z => rw [if_pos z] at h2; omega
    · next z =>
      rw [if_neg z] at h2
      rcases ug_or (g := g) (n := n) (p := p) (w := w) (sg x - 4) c with y | y <;> omega
  · rw [if_neg q]; exact Nat.zero_le _
theorem rvR_rng {wd : Nat → Nat} {L : Nat} {R : Nat → Nat → Nat → Prop} {cm : Nat → Prop} {g : Nat → Nat → Nat} {sg : Nat → Nat} {len p : Nat} (hp : p ≤ L) (h : ∀ m c, g m c ≤ L + 1) : rvR wd L R cm g sg len p ≤ L + 1 := by
  unfold rvR
  by_cases q : ∀ q, q < len → cm (sg q)
  · rw [if_pos q]
    refine rvA_lub (by omega) (fun x c hx hc he => ?_)
    unfold fo
    split
    · split <;> omega
    · exact h _ _
  · rw [if_neg q]; exact Nat.zero_le _
/-- what is known so far is sound: the class's numbers tell of beginnings of words -/
def SB (B : Nat → Nat → Nat → Prop) (L : Nat) (g : Nat → Nat → Nat) : Prop := ∀ n p x, n < 6 → p ≤ x → x ≤ L → x + 1 ≤ g n p → B n p x
theorem rule_sound {wd : Nat → Nat} {L : Nat} {R : Nat → Nat → Nat → Prop} {cm : Nat → Prop} {rc : Nat → Nat} {rl : Nat → Nat → Nat} {rs : Nat → Nat → Nat → Nat} (K : KXb wd L R cm rc rl rs) {g : Nat → Nat → Nat} (hS : SB (LB wd L R cm rc rl rs) L g) {n r p x : Nat} (hn : n < 6) (hr : r < rc n) (hp : p ≤ x) (hx : x ≤ L) (h : x + 1 ≤ rvR wd L R cm g (rs n r) (rl n r) p) : LB wd L R cm rc rl rs n p x := by
  have K2 := K
  obtain ⟨k1, k2, k3, k4, k5, k6, k7, k8⟩ := K
  unfold rvR at h
  by_cases q : ∀ q, q < rl n r → cm (rs n r q)
  · rw [if_pos q] at h
    refine LB_closed k2 n r p x hn hr hp hx ⟨q, ?_⟩
    rcases rvA_att (wd := wd) (L := L) (R := R) (g := g) (sg := rs n r) (p := p) (k := rl n r) with z | ⟨y, c, z1, z2, z3, z4⟩
    · have e : x = p := by omega
      subst e
      by_cases e0 : rl n r = 0
      · rw [e0]; exact Or.inr rfl
      · refine Or.inl ⟨0, x, by omega, rfl, Nat.le_refl _, ?_⟩
        by_cases q4 : rs n r 0 < 4
        · exact Or.inl ⟨q4, Or.inl rfl⟩
        · refine Or.inr ⟨by omega, LB_empty K2 _ (by have := k2 n r 0 hn hr (by omega); omega) ?_ x hx⟩
          have := q 0 (by omega)
          rw [show rs n r 0 - 4 + 4 = rs n r 0 by omega]
          exact this
    · rw [z4] at h
      have hq10 := k2 n r y hn hr z1
      by_cases hc : c ≤ x
      · refine Or.inl ⟨y, c, z1, z3, hc, ?_⟩
        unfold fo at h
        by_cases q4 : rs n r y < 4
        · rw [if_pos q4] at h
          by_cases q5 : c < L ∧ wd c = rs n r y
          · rw [if_pos q5] at h
            by_cases e : x = c
            · exact Or.inl ⟨q4, Or.inl e⟩
            · exact Or.inl ⟨q4, Or.inr ⟨by omega, q5⟩⟩
          · rw [if_neg q5] at h
            exact Or.inl ⟨q4, Or.inl (by omega)⟩
        · rw [if_neg q4] at h
          exact Or.inr ⟨by omega, hS _ c x (by omega) hc hx h⟩
      · obtain ⟨t, a, d, y1, y2, y3, y4, y5, y6, y7⟩ := eb_cut z3 hp (by omega : x < c)
        refine Or.inl ⟨t, a, by omega, y2, y3, ?_⟩
        have ht10 := k2 n r t hn hr (by omega)
        by_cases q4 : rs n r t < 4
        · have := (k4 (rs n r t) a d q4 (by omega) y5).mp y7
          exact Or.inl ⟨q4, Or.inl (by omega)⟩
        · refine Or.inr ⟨by omega, LB_exact K2 _ a d (by omega) (by omega) y5 ?_ x y3 (by omega)⟩
          rw [show rs n r t - 4 + 4 = rs n r t by omega]
          exact y7
  · rw [if_neg q] at h; omega
/-- what is settled knows all beginnings -/
theorem rule_complete {wd : Nat → Nat} {L : Nat} {R : Nat → Nat → Nat → Prop} {cm : Nat → Prop} {rc : Nat → Nat} {rl : Nat → Nat → Nat} {rs : Nat → Nat → Nat → Nat} (K : KXb wd L R cm rc rl rs) {g : Nat → Nat → Nat} (hC : ∀ n r p, n < 6 → r < rc n → p ≤ L → rvR wd L R cm g (rs n r) (rl n r) p ≤ g n p) {n p x : Nat} (hn : n < 6) (hp : p ≤ x) (hx : x ≤ L) (h : LB wd L R cm rc rl rs n p x) : x + 1 ≤ g n p := by
  have K2 := K
  obtain ⟨k1, k2, k3, k4, k5, k6, k7, k8⟩ := K
  have hrule : ∀ n r p, n < 6 → r < rc n → p ≤ L → (∀ q, q < rl n r → cm (rs n r q)) → rvA wd L R g (rs n r) p (rl n r) ≤ g n p := fun n r p hn hr hp hq => by
    have := hC n r p hn hr hp
    unfold rvR at this
    rw [if_pos hq] at this
    exact this
  have hlast : ∀ n r i j, n < 6 → r < rc n → i ≤ j → j ≤ L → (∀ q, q < rl n r → cm (rs n r q)) → eb L R (rs n r) i (rl n r) j → (∀ q c, q < rl n r → q + 1 = rl n r → eb L R (rs n r) i q c → c ≤ j → R (rs n r q) c j → 4 ≤ rs n r q → j + 1 ≤ g (rs n r q - 4) c) → j + 1 ≤ g n i := fun n r i j hn hr hij hj hq he hpart => by
    have h1 := hrule n r i hn hr (by omega) hq
    by_cases e : rl n r = 0
    · have e2 : j = i := by
        have he2 : eb L R (rs n r) i 0 j := by rw [← e]; exact he
        exact he2
      have : i + 1 ≤ rvA wd L R g (rs n r) i (rl n r) := by unfold rvA; omega
      omega
    · obtain ⟨k, e2⟩ : ∃ k, rl n r = k + 1 := ⟨rl n r - 1, by omega⟩
      have he2 : eb L R (rs n r) i (k + 1) j := by rw [← e2]; exact he
      obtain ⟨c, z1, z2, z3, z4⟩ := he2
      have h2 := rvA_le (wd := wd) (g := g) (k := rl n r) (by omega : k < rl n r) (by omega : c ≤ L) z1
      unfold fo at h2
      by_cases q4 : rs n r k < 4
      · have y := (k4 (rs n r k) c j q4 z2 z3).mp z4
        rw [if_pos q4, if_pos ⟨by omega, y.2⟩] at h2
        omega
      · rw [if_neg q4] at h2
        have := hpart k c (by omega) (by omega) z1 z2 z4 (by omega)
        omega
  have hE : ∀ n i j, n < 6 → i ≤ j → j ≤ L → R (n + 4) i j → j + 1 ≤ g n i := by
    refine k6 (fun n i j => j + 1 ≤ g n i) (fun n r i j hn hr hij hj he => ?_)
    have he1 : eb L R (rs n r) i (rl n r) j := eb_mono (by omega) (fun q a b _ _ _ _ hz => hz.1) he
    by_cases e : rl n r = 0
    · exact hlast n r i j hn hr hij hj (eb_cm K2 hn hr (Nat.le_refl _) (by omega) he1) he1 (fun q c hq => by omega)
    · obtain ⟨k, e2⟩ : ∃ k, rl n r = k + 1 := ⟨rl n r - 1, by omega⟩
      have he2 : eb L (fun s x y => R s x y ∧ (4 ≤ s → y + 1 ≤ g (s - 4) x)) (rs n r) i (k + 1) j := by rw [← e2]; exact he
      obtain ⟨c0, z1, z2, z3, z4⟩ := he2
      have hcm := eb_cm K2 hn hr (Nat.le_refl _) (by omega) he1
      have h1 := hrule n r i hn hr (by omega) hcm
      have z1' : eb L R (rs n r) i k c0 := eb_mono (by omega) (fun q a b _ _ _ _ hz => hz.1) z1
      have h2 := rvA_le (wd := wd) (g := g) (k := rl n r) (by omega : k < rl n r) (by omega : c0 ≤ L) z1'
      unfold fo at h2
      show j + 1 ≤ g n i
      by_cases q4 : rs n r k < 4
      · have y := (k4 (rs n r k) c0 j q4 z2 z3).mp z4.1
        rw [if_pos q4, if_pos ⟨by omega, y.2⟩] at h2
        omega
      · rw [if_neg q4] at h2
        have := z4.2 (by omega)
        omega
  refine h (fun n p x => x + 1 ≤ g n p) (fun n r i j hn hr hij hj hb => ?_)
  obtain ⟨b1, b2⟩ := hb
  have h1 := hrule n r i hn hr (by omega) b1
  show j + 1 ≤ g n i
  rcases b2 with ⟨q, c, z1, z2, z3, z4⟩ | he
  · have h2 := rvA_le (wd := wd) (g := g) (k := rl n r) z1 (by omega : c ≤ L) z2
    unfold fo at h2
    rcases z4 with ⟨y1, y2⟩ | ⟨y1, y2⟩
    · rw [if_pos y1] at h2
      by_cases q5 : c < L ∧ wd c = rs n r q
      · rw [if_pos q5] at h2
        rcases y2 with y | y <;> omega
      · rw [if_neg q5] at h2
        rcases y2 with y | y
        · omega
        · exact absurd y.2 q5
    · rw [if_neg (by omega)] at h2
      have y3 : j + 1 ≤ g (rs n r q - 4) c := y2
      omega
  · refine hlast n r i j hn hr hij hj b1 he (fun q c hq _ hz1 hz2 hz3 hz4 => ?_)
    have hq10 := k2 n r q hn hr hq
    refine hE (rs n r q - 4) c j (by omega) hz2 hj ?_
    rw [show rs n r q - 4 + 4 = rs n r q by omega]
    exact hz3
