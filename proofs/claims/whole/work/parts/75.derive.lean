/-! layer 2, what a least table's values come from: exact parts (at no cost), names that come to words -/
/-- the places at which the first p signs of a rule can end, from a on, where R s c b: the sign s can take the part (c, b) -/
def eb (L : Nat) (R : Nat → Nat → Nat → Prop) (sg : Nat → Nat) (a : Nat) : Nat → Nat → Prop
  | 0, b => b = a
  | p + 1, b => ∃ c, eb L R sg a p c ∧ c ≤ b ∧ b ≤ L ∧ R (sg p) c b
theorem eb_rng {L a : Nat} {R : Nat → Nat → Nat → Prop} {sg : Nat → Nat} (ha : a ≤ L) : ∀ {p b : Nat}, eb L R sg a p b → a ≤ b ∧ b ≤ L
  | 0, b, h => by
    have e : b = a := h
    omega
  | p + 1, b, ⟨c, h1, h2, h3, _⟩ => by
    have := eb_rng ha h1
    omega
theorem eb_mono {L a : Nat} {R S : Nat → Nat → Nat → Prop} {sg : Nat → Nat} (ha : a ≤ L) : ∀ {p b : Nat}, (∀ q x y, q < p → a ≤ x → x ≤ y → y ≤ L → R (sg q) x y → S (sg q) x y) → eb L R sg a p b → eb L S sg a p b
  | 0, _, _, h => h
  | p + 1, _, hm, ⟨c, h1, h2, h3, h4⟩ => ⟨c, eb_mono ha (fun q x y hq => hm q x y (by omega)) h1, h2, h3, hm p _ _ (by omega) (eb_rng ha h1).1 h2 h3 h4⟩
/-- a place inside of what signs take lies in one of them -/
theorem eb_cut {L a j : Nat} {R : Nat → Nat → Nat → Prop} {sg : Nat → Nat} : ∀ {p b : Nat}, eb L R sg a p b → a ≤ j → j < b → ∃ q c d, q < p ∧ eb L R sg a q c ∧ c ≤ j ∧ j < d ∧ d ≤ L ∧ d ≤ b ∧ R (sg q) c d
  | 0, b, h, h1, h2 => by
    have e : b = a := h
    omega
  | p + 1, b, ⟨c, h3, h4, h5, h6⟩, h1, h2 => by
    by_cases q : c ≤ j
    · exact ⟨p, c, b, by omega, h3, q, h2, h5, by omega, h6⟩
    · obtain ⟨q, c2, d2, z1, z2, z3, z4, z5, z6, z7⟩ := eb_cut h3 h1 (by omega)
      exact ⟨q, c2, d2, by omega, z2, z3, z4, z5, by omega, z7⟩
/-- each of the signs has a part -/
theorem eb_all {L a : Nat} {R : Nat → Nat → Nat → Prop} {sg : Nat → Nat} (ha : a ≤ L) : ∀ {p b : Nat}, eb L R sg a p b → ∀ q, q < p → ∃ c d, a ≤ c ∧ c ≤ d ∧ d ≤ L ∧ R (sg q) c d
  | 0, _, _, q, hq => absurd hq (Nat.not_lt_zero q)
  | p + 1, b, ⟨c, h3, h4, h5, h6⟩, q, hq => by
    by_cases e : q = p
    · subst e
      exact ⟨c, b, (eb_rng ha h3).1, h4, h5, h6⟩
    · exact eb_all ha h3 q (by omega)
/-- the sign s comes to the part (a, b) as it is -/
def rA (lt X : Nat → Nat → Nat → Nat) (s a b : Nat) : Prop := asis (onev lt X s a b)
theorem cat_asis {s t a b : Nat} (ha : ok s a) (hb : ok t b) (hs : s ≤ 100) (ht : t ≤ 100) (h : asis (cat a b)) : asis a ∧ asis b := by
  obtain ⟨h1, h2⟩ := h
  obtain ⟨na, nb, e1, e2, e3, e4⟩ := cat_fin ha hb hs ht h1
  exact ⟨⟨na, by omega⟩, ⟨nb, by omega⟩⟩
/-- a row's value at no cost is made of exact signs -/
theorem rowv_asis {L i : Nat} {one : Nat → Nat → Nat → Nat} {sg : Nat → Nat} (ho : okO L one) (hL : L ≤ 100) (hi : i ≤ L) : ∀ {p b : Nat}, (∀ q, q < p → sg q < 10) → i ≤ b → b ≤ L → asis (rowv one sg i p b) → eb L (fun s x y => asis (one s x y)) sg i p b
  | 0, b, _, h1, h2, h => by
    unfold rowv at h
    by_cases e : b = i
    · exact e
    · rw [if_neg e] at h
      exact absurd rfl h.1
  | p + 1, b, hs, h1, h2, h => by
    have hs2 : ∀ q, q < p → sg q < 10 := fun q hq => hs q (by omega)
    rw [rowv] at h
    rcases mnr_att (fun a => cat (rowv one sg i p a) (one (sg p) a b)) i b with z | ⟨a, z1, z2, z3⟩
    · exact absurd z h.1
    · rw [z3] at h
      obtain ⟨y1, y2⟩ := cat_asis (rowv_ok (sg := sg) ho hL hs2 z1 (by omega)) (ho (sg p) a b (hs p (by omega)) z2 h2) (by omega) (by omega) h
      exact ⟨a, rowv_asis ho hL hi hs2 z1 (by omega) y1, z2, h2, y2⟩
theorem rulev_asis {dr L i j len : Nat} {one : Nat → Nat → Nat → Nat} {sg : Nat → Nat} (hd : 1 ≤ dr) (ho : okO L one) (hL : L ≤ 100) (hs : ∀ q, q < len → sg q < 10) (hij : i ≤ j) (hj : j ≤ L) (h : asis (rulev dr one len sg i j)) : eb L (fun s x y => asis (one s x y)) sg i len j := by
  unfold rulev at h
  by_cases e : len = 0
  · rw [if_pos e] at h
    subst e
    have h2 := h.2
    rw [pk_C (by decide) (by decide)] at h2
    rcases Nat.mul_eq_zero.mp h2 with z | z
    · omega
    · show j = i
      omega
  · rw [if_neg e] at h
    exact rowv_asis ho hL (by omega) hs hij hj h
/-- a letter's part at no cost is that letter -/
theorem ltV_asis {wd : Nat → Nat} {dr pu ch s a b : Nat} (hd : 1 ≤ dr) (hp : 1 ≤ pu) (hc : 1 ≤ ch) (hs : s < 4) (hab : a ≤ b) : asis (ltV wd dr pu ch s a b) ↔ b = a + 1 ∧ wd a = s := by
  have e1 := (ltV_fld (wd := wd) (dr := dr) (pu := pu) (ch := ch) (a := a) (b := b) hs).1
  unfold asis
  constructor
  · rintro ⟨h1, h2⟩
    rw [e1] at h2
    unfold lcost at h2
    by_cases e : a = b
    · rw [if_pos e] at h2; omega
    · rw [if_neg e] at h2
      have h3 : (b - a - 1) * dr = 0 := by omega
      have h4 : b - a - 1 = 0 := by
        rcases Nat.mul_eq_zero.mp h3 with z | z
        · exact z
        · omega
      have h5 : b = a + 1 := by omega
      subst h5
      refine ⟨rfl, ?_⟩
      by_cases q : occ wd s a (a + 1) = true
      · rw [occ_s, occ_emp (Nat.le_refl a), Bool.false_or, Bool.and_eq_true, decide_eq_true_eq, decide_eq_true_eq] at q
        exact q.2
      · rw [if_neg q] at h2; omega
  · rintro ⟨h1, h2⟩
    have e2 : lcost wd dr pu ch s a b = 0 := by
      unfold lcost
      rw [if_neg (by omega), h1, occ_s, h2]
      have : a + 1 - a - 1 = 0 := by omega
      rw [this]
      simp
    rw [e2] at e1
    refine ⟨fun z => ?_, e1⟩
    rw [z, C_TT] at e1
    omega
/-- what holds of the exact parts that a rule makes of exact parts holds of all exact parts -/
theorem least_exact {dr L : Nat} {lt X : Nat → Nat → Nat → Nat} {rc : Nat → Nat} {rl : Nat → Nat → Nat} {rs : Nat → Nat → Nat → Nat} (hd : 1 ≤ dr) (hd9 : dr ≤ 9) (hL : L ≤ 100) (hlt : okL L lt) (hG : wfG rc rl rs) (hX : leastT dr L lt rc rl rs X) (Q : Nat → Nat → Nat → Prop)
    (hQ : ∀ n r i j, n < 6 → r < rc n → i ≤ j → j ≤ L → eb L (fun s x y => rA lt X s x y ∧ (4 ≤ s → Q (s - 4) x y)) (rs n r) i (rl n r) j → Q n i j) :
    ∀ n i j, n < 6 → i ≤ j → j ≤ L → asis (X n i j) → Q n i j := by
  have : ∀ n i j, Decidable (asis (X n i j) ∧ ¬ Q n i j) := fun n i j => Classical.propDecidable _
  generalize hY : (fun n i j => if asis (X n i j) ∧ ¬ Q n i j then pk 1 0 0 else X n i j : Nat → Nat → Nat → Nat) = Y
  have e1 : ∀ n i j, asis (X n i j) ∧ ¬ Q n i j → Y n i j = pk 1 0 0 := fun n i j h => by rw [← hY]; exact if_pos h
  have e2 : ∀ n i j, ¬ (asis (X n i j) ∧ ¬ Q n i j) → Y n i j = X n i j := fun n i j h => by rw [← hY]; exact if_neg h
  have c1 : Cv (pk 1 0 0) = 1 ∧ Lv (pk 1 0 0) = 0 ∧ Tv (pk 1 0 0) = 0 := ⟨pk_C (by decide) (by decide), pk_L (by decide) (by decide), pk_T (by decide)⟩
  have oY : okT L Y := fun n i j hn hij hj => by
    by_cases h : asis (X n i j) ∧ ¬ Q n i j
    · rw [e1 n i j h]
      refine Or.inr ⟨by omega, by omega, fun _ => ?_, fun z => by omega⟩
      rw [c1.2.1, c1.2.2]; decide
    · rw [e2 n i j h]; exact hX.1 n i j hn hij hj
  have le : ∀ n i j, n < 6 → i ≤ j → j ≤ L → X n i j ≤ Y n i j := fun n i j hn hij hj => by
    by_cases h : asis (X n i j) ∧ ¬ Q n i j
    · rw [e1 n i j h, v_le]
      have := h.1.2
      omega
    · rw [e2 n i j h]; exact Nat.le_refl _
  have asY : ∀ n i j, asis (Y n i j) → asis (X n i j) ∧ Q n i j := fun n i j h => by
    by_cases h2 : asis (X n i j) ∧ ¬ Q n i j
    · rw [e1 n i j h2] at h
      have := h.2
      omega
    · rw [e2 n i j h2] at h
      exact ⟨h, Classical.byContradiction (fun z => h2 ⟨h, z⟩)⟩
  have o1 : okO L (onev lt X) := onev_ok hlt hX.1
  have o2 : okO L (onev lt Y) := onev_ok hlt oY
  have cY : closedT dr L lt rc rl rs Y := fun n r i j hn hr hij hj => by
    have hs : ∀ q, q < rl n r → rs n r q < 10 := fun q hq => hG n r q hn hr hq
    have hmono := rulev_mono (dr := dr) (sg := rs n r) (len := rl n r) o1 o2 hL (onev_mono (i := i) (fun m a b hm _ hab hb => le m a b hm hab hb)) hs hij hj
    by_cases h : asis (X n i j) ∧ ¬ Q n i j
    · rw [e1 n i j h]
      refine Nat.le_of_not_lt (fun z => ?_)
      have hlt1 : Cv (rulev dr (onev lt Y) (rl n r) (rs n r) i j) = 0 := by
        have h9 : ¬ (pk 1 0 0 ≤ rulev dr (onev lt Y) (rl n r) (rs n r) i j) := Nat.not_le_of_lt z
        rw [v_le] at h9
        omega
      have has : asis (rulev dr (onev lt Y) (rl n r) (rs n r) i j) := ⟨fun y => by rw [y, C_TT] at hlt1; omega, hlt1⟩
      have he := rulev_asis hd o2 hL hs hij hj has
      refine h.2 (hQ n r i j hn hr hij hj (eb_mono (by omega) (fun q x y _ _ _ _ hq => ?_) he))
      have hq2 : asis (onev lt Y (rs n r q) x y) := hq
      show asis (onev lt X (rs n r q) x y) ∧ _
      unfold onev at hq2 ⊢
      by_cases h4 : rs n r q < 4
      · rw [if_pos h4] at hq2 ⊢
        exact ⟨hq2, fun z => by omega⟩
      · rw [if_neg h4] at hq2 ⊢
        exact ⟨(asY _ _ _ hq2).1, fun _ => (asY _ _ _ hq2).2⟩
    · rw [e2 n i j h]
      exact Nat.le_trans (hX.2.1 n r i j hn hr hij hj) hmono
  intro n i j hn hij hj h
  refine Classical.byContradiction (fun z => ?_)
  have h1 := hX.2.2 Y oY cY n i j hn hij hj
  rw [e1 n i j ⟨h, z⟩, v_le] at h1
  have := h.2
  omega
/-- what holds of a name one of whose rules has letters and names of which it holds, holds of all names that come to a word -/
theorem least_names {dr L : Nat} {lt X : Nat → Nat → Nat → Nat} {rc : Nat → Nat} {rl : Nat → Nat → Nat} {rs : Nat → Nat → Nat → Nat} (hL : L ≤ 100) (hlt : okL L lt) (hG : wfG rc rl rs) (hX : leastT dr L lt rc rl rs X) (Q : Nat → Prop)
    (hQ : ∀ n r, n < 6 → r < rc n → (∀ q, q < rl n r → 4 ≤ rs n r q → Q (rs n r q - 4)) → Q n) :
    ∀ n i j, n < 6 → i ≤ j → j ≤ L → X n i j ≠ TT → Q n := by
  have : ∀ n, Decidable (Q n) := fun n => Classical.propDecidable _
  generalize hY : (fun n i j => if Q n then X n i j else TT : Nat → Nat → Nat → Nat) = Y
  have e1 : ∀ n i j, Q n → Y n i j = X n i j := fun n i j h => by rw [← hY]; exact if_pos h
  have e2 : ∀ n i j, ¬ Q n → Y n i j = TT := fun n i j h => by rw [← hY]; exact if_neg h
  have oY : okT L Y := fun n i j hn hij hj => by
    by_cases h : Q n
    · rw [e1 n i j h]; exact hX.1 n i j hn hij hj
    · rw [e2 n i j h]; exact ok_TT _
  have le : ∀ n i j, n < 6 → i ≤ j → j ≤ L → X n i j ≤ Y n i j := fun n i j hn hij hj => by
    by_cases h : Q n
    · rw [e1 n i j h]; exact Nat.le_refl _
    · rw [e2 n i j h]; exact ok_le (hX.1 n i j hn hij hj)
  have o1 : okO L (onev lt X) := onev_ok hlt hX.1
  have o2 : okO L (onev lt Y) := onev_ok hlt oY
  have cY : closedT dr L lt rc rl rs Y := fun n r i j hn hr hij hj => by
    have hs : ∀ q, q < rl n r → rs n r q < 10 := fun q hq => hG n r q hn hr hq
    by_cases h : Q n
    · rw [e1 n i j h]
      exact Nat.le_trans (hX.2.1 n r i j hn hr hij hj) (rulev_mono (dr := dr) (sg := rs n r) (len := rl n r) o1 o2 hL (onev_mono (i := i) (fun m a b hm _ hab hb => le m a b hm hab hb)) hs hij hj)
    · have hex : ∃ q, q < rl n r ∧ 4 ≤ rs n r q ∧ ¬ Q (rs n r q - 4) := Classical.byContradiction (fun z => h (hQ n r hn hr (fun q hq h4 => Classical.byContradiction (fun y => z ⟨q, hq, h4, y⟩))))
      obtain ⟨q, hq, h4, hn2⟩ := hex
      have eT : rowv (onev lt Y) (rs n r) i (rl n r) j = TT := rowv_TT (j := j) (fun a b _ _ _ => by
        unfold onev
        rw [if_neg (by omega)]
        exact e2 _ _ _ hn2) hq (Nat.le_refl _)
      unfold rulev
      rw [if_neg (by omega), eT, e2 n i j h]
      exact Nat.le_refl _
  intro n i j hn hij hj h
  refine Classical.byContradiction (fun z => ?_)
  have h1 := hX.2.2 Y oY cY n i j hn hij hj
  rw [e2 n i j z] at h1
  exact h (Nat.le_antisymm (ok_le (hX.1 n i j hn hij hj)) h1)
/-- the empty part of a rule whose signs all come to a word -/
theorem rowv_fin {B : Nat} {one : Nat → Nat → Nat → Nat} {sg : Nat → Nat} {L : Nat} (ho : okO L one) (hL : L ≤ 100) {p : Nat} (hp : p ≤ 4) (hB : B ≤ 1000000) (hs : ∀ q, q < p → sg q < 10) (h : ∀ q, q < p → Cv (one (sg q) 0 0) ≤ B) : rowv one sg 0 p 0 ≠ TT := by
  have e1 := rowv_ii ho hL (Nat.zero_le L) hs
  have hE : ∀ s, s < 10 → ok 0 (one s 0 0) := fun s hs => ho s 0 0 hs (Nat.le_refl _) (Nat.zero_le _)
  have e2 := Cv_rowE hE hs
  have e3 := sumE_big (F := fun s => Cv (one s 0 0)) (sg := sg) (B := B) (p := p) h
  have e4 : p * B ≤ 4 * 1000000 := Nat.mul_le_mul hp hB
  have hc : CM8 = 100000000 := rfl
  intro z
  rw [e1] at z
  have e5 : Cv (rowE (fun s => one s 0 0) sg p) = 100000000 := by rw [z, C_TT]
  have e6 : Cv (rowE (fun s => one s 0 0) sg p) = min (sumE (fun s => Cv (one s 0 0)) sg p) CM8 := e2
  omega
/-- a name one of whose rules has signs that come to words comes to the empty part -/
theorem rule_nt {dr pu L n r : Nat} {lt X : Nat → Nat → Nat → Nat} {rc : Nat → Nat} {rl : Nat → Nat → Nat} {rs : Nat → Nat → Nat → Nat} (hpu : pu ≤ 9) (hL : L ≤ 100) (hlt : okL L lt) (hlB : ∀ s, s < 4 → Cv (lt s 0 0) ≤ 1000000) (hG : wfG rc rl rs) (hl4 : ∀ n r, n < 6 → r < rc n → rl n r ≤ 4) (hX : leastT dr L lt rc rl rs X) (hB : ∀ n, n < 6 → cB (pu * 4096) (X n 0 0)) (hn : n < 6) (hr : r < rc n) (h : ∀ q, q < rl n r → 4 ≤ rs n r q → X (rs n r q - 4) 0 0 ≠ TT) : X n 0 0 ≠ TT := by
  have hs : ∀ q, q < rl n r → rs n r q < 10 := fun q hq => hG n r q hn hr hq
  have o1 : okO L (onev lt X) := onev_ok hlt hX.1
  have hc := hX.2.1 n r 0 0 hn hr (Nat.le_refl _) (Nat.zero_le _)
  intro z
  rw [z] at hc
  unfold rulev at hc
  by_cases e : rl n r = 0
  · rw [if_pos e, Nat.sub_zero, Nat.mul_zero] at hc
    exact absurd hc (by decide)
  · rw [if_neg e] at hc
    have hk := rowv_ok (sg := rs n r) (i := 0) o1 hL hs (Nat.le_refl _) (Nat.zero_le _)
    refine rowv_fin o1 hL (hl4 n r hn hr) (B := 1000000) (Nat.le_refl _) hs (fun q hq => ?_) (Nat.le_antisymm (ok_le hk) hc)
    unfold onev
    by_cases h4 : rs n r q < 4
    · rw [if_pos h4]; exact hlB _ h4
    · rw [if_neg h4]
      have hq10 := hs q hq
      rcases hB (rs n r q - 4) (by omega) with y | y
      · exact absurd y (h q hq (by omega))
      · omega
/-- a name that comes to a word comes to the empty part -/
theorem least_nt {dr pu L : Nat} {lt X : Nat → Nat → Nat → Nat} {rc : Nat → Nat} {rl : Nat → Nat → Nat} {rs : Nat → Nat → Nat → Nat} (hpu : pu ≤ 9) (hL : L ≤ 100) (hlt : okL L lt) (hlB : ∀ s, s < 4 → Cv (lt s 0 0) ≤ 1000000) (hG : wfG rc rl rs) (hl4 : ∀ n r, n < 6 → r < rc n → rl n r ≤ 4) (hX : leastT dr L lt rc rl rs X) (hB : ∀ n, n < 6 → cB (pu * 4096) (X n 0 0)) :
    ∀ n i j, n < 6 → i ≤ j → j ≤ L → X n i j ≠ TT → X n 0 0 ≠ TT :=
  least_names hL hlt hG hX (fun n => X n 0 0 ≠ TT) (fun _ _ hn hr h => rule_nt hpu hL hlt hlB hG hl4 hX hB hn hr h)
