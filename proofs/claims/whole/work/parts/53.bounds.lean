/-! layer 2, costs of parts: all letters dropped, and the empty part -/
def CM8 : Nat := 100000000
theorem Cv_mono {a b : Nat} (h : a ≤ b) : Cv a ≤ Cv b := Nat.div_le_div_right h
theorem Cv_ok {s v : Nat} (h : ok s v) : Cv v ≤ CM8 := by
  rcases h with h | h
  · rw [h, C_TT]; exact Nat.le_refl _
  · exact Nat.le_of_lt h.1
theorem Cv_cat {s t a b : Nat} (ha : ok s a) (hb : ok t b) (hs : s ≤ 100) (ht : t ≤ 100) : Cv (cat a b) = min (Cv a + Cv b) CM8 := by
  have hc : CM8 = 100000000 := rfl
  by_cases h : cat a b = TT
  · rw [h, C_TT]
    have h2 : 100000000 ≤ Cv a + Cv b := by
      apply Nat.le_of_not_lt
      intro q
      have na : a ≠ TT := fun z => by rw [z, C_TT] at q; omega
      have nb : b ≠ TT := fun z => by rw [z, C_TT] at q; omega
      exact (cat_eq ha hb hs ht na nb q).2 h
    omega
  · obtain ⟨na, nb, e1, e2, e3, e4⟩ := cat_fin ha hb hs ht h
    rw [e1]; omega
theorem eq_TT_of_C {s v : Nat} (h : ok s v) (hc : CM8 ≤ Cv v) : v = TT := by
  rcases h with h | h
  · exact h
  · have : CM8 = 100000000 := rfl
    omega
def rowE (E : Nat → Nat) (sg : Nat → Nat) : Nat → Nat
  | 0 => 0
  | p + 1 => cat (rowE E sg p) (E (sg p))
def sumE (F : Nat → Nat) (sg : Nat → Nat) : Nat → Nat
  | 0 => 0
  | p + 1 => sumE F sg p + F (sg p)
theorem mnr_one {f : Nat → Nat} {i : Nat} (h : f i ≤ TT) : mnr f i i = f i := by
  refine Nat.le_antisymm (mnr_le (Nat.le_refl _) (Nat.le_refl _)) (le_mnr h (fun a h1 h2 => ?_))
  rw [show a = i by omega]
  exact Nat.le_refl _
theorem rowv_ii {L i : Nat} {one : Nat → Nat → Nat → Nat} {sg : Nat → Nat} (ho : okO L one) (hL : L ≤ 100) (hi : i ≤ L) : ∀ {p : Nat}, (∀ q, q < p → sg q < 10) → rowv one sg i p i = rowE (fun s => one s i i) sg p
  | 0, _ => by unfold rowv rowE; rw [if_pos rfl]
  | p + 1, hs => by
    have hs2 : ∀ q, q < p → sg q < 10 := fun q hq => hs q (by omega)
    have e1 := rowv_ok (sg := sg) (i := i) ho hL (p := p) (b := i) hs2 (Nat.le_refl _) hi
    have e2 := cat_ok e1 (ho (sg p) i i (hs p (by omega)) (Nat.le_refl _) hi) (by omega) (by omega)
    unfold rowv rowE
    rw [mnr_one (f := fun a => cat (rowv one sg i p a) (one (sg p) a i)) (ok_le e2), rowv_ii ho hL hi hs2]
theorem rowE_ok {E sg : Nat → Nat} (hE : ∀ s, s < 10 → ok 0 (E s)) : ∀ {p : Nat}, (∀ q, q < p → sg q < 10) → ok 0 (rowE E sg p)
  | 0, _ => ok_0 0
  | p + 1, hs => cat_ok (rowE_ok hE (fun q hq => hs q (by omega))) (hE _ (hs p (by omega))) (by decide) (by decide)
theorem Cv_rowE {E sg : Nat → Nat} (hE : ∀ s, s < 10 → ok 0 (E s)) : ∀ {p : Nat}, (∀ q, q < p → sg q < 10) → Cv (rowE E sg p) = min (sumE (fun s => Cv (E s)) sg p) CM8
  | 0, _ => (by decide : Cv 0 = min 0 CM8)
  | p + 1, hs => by
    have hs2 : ∀ q, q < p → sg q < 10 := fun q hq => hs q (by omega)
    have h1 := Cv_rowE hE hs2
    have h2 := Cv_cat (rowE_ok hE hs2) (hE _ (hs p (by omega))) (by decide) (by decide)
    show Cv (cat (rowE E sg p) (E (sg p))) = min (sumE (fun s => Cv (E s)) sg p + Cv (E (sg p))) CM8
    rw [h2, h1]
    omega
theorem sumE_mono {F Y sg : Nat → Nat} : ∀ {p : Nat}, (∀ q, q < p → F (sg q) ≤ Y (sg q)) → sumE F sg p ≤ sumE Y sg p
  | 0, _ => Nat.le_refl _
  | p + 1, h => Nat.add_le_add (sumE_mono (fun q hq => h q (by omega))) (h p (by omega))
theorem sumE_one {F Y sg : Nat → Nat} : ∀ {p : Nat}, (∀ q, q < p + 1 → F (sg q) ≤ Y (sg q)) → sumE F sg (p + 1) + Y (sg 0) ≤ sumE Y sg (p + 1) + F (sg 0)
  | 0, _ => by unfold sumE sumE; omega
  | p + 1, h => by
    have h1 := sumE_one (p := p) (fun q hq => h q (by omega))
    have h2 := h (p + 1) (by omega)
    show sumE F sg (p + 1) + F (sg (p + 1)) + Y (sg 0) ≤ sumE Y sg (p + 1) + Y (sg (p + 1)) + F (sg 0)
    omega
theorem sumE_big {F sg : Nat → Nat} {B : Nat} : ∀ {p : Nat}, (∀ q, q < p → F (sg q) ≤ B) → sumE F sg p ≤ p * B
  | 0, _ => Nat.zero_le _
  | p + 1, h => by
    have h1 := sumE_big (p := p) (fun q hq => h q (by omega))
    have h2 := h p (by omega)
    rw [Nat.add_mul, Nat.one_mul]
    exact Nat.add_le_add h1 h2
/-- one sign takes the whole part, the others the empty part -/
theorem rowv_split {L i j : Nat} {one : Nat → Nat → Nat → Nat} {sg : Nat → Nat} {F : Nat → Nat} (ho : okO L one) (hL : L ≤ 100) (hij : i ≤ j) (hj : j ≤ L) (hF : ∀ s, s < 10 → Cv (one s i i) ≤ F s ∧ Cv (one s j j) ≤ F s) :
    ∀ {p : Nat}, (∀ q, q < p → sg q < 10) → (Cv (rowv one sg i p i) ≤ sumE F sg p) ∧ (0 < p → Cv (rowv one sg i p j) + F (sg 0) ≤ sumE F sg p + Cv (one (sg 0) i j))
  | 0, _ => by
    refine ⟨?_, fun h => absurd h (Nat.lt_irrefl _)⟩
    unfold rowv
    rw [if_pos rfl]
    have : Cv 0 = 0 := by decide
    omega
  | p + 1, hs => by
    have hs2 : ∀ q, q < p → sg q < 10 := fun q hq => hs q (by omega)
    have hp := hs p (by omega)
    obtain ⟨h1, h2⟩ := rowv_split (sg := sg) (F := F) ho hL hij hj hF (p := p) hs2
    have hF2 := hF (sg p) hp
    have k1 := rowv_ok (sg := sg) (i := i) ho hL (p := p) (b := i) hs2 (Nat.le_refl _) (by omega)
    have k2 := rowv_ok (sg := sg) (i := i) ho hL (p := p) (b := j) hs2 hij hj
    have c1 := Cv_cat k1 (ho (sg p) i i hp (Nat.le_refl _) (by omega)) (by omega) (by omega)
    have c2 := Cv_cat k1 (ho (sg p) i j hp hij hj) (by omega) (by omega)
    have c3 := Cv_cat k2 (ho (sg p) j j hp (Nat.le_refl _) hj) (by omega) (by omega)
    refine ⟨?_, fun _ => ?_⟩
    · have := Cv_mono (mnr_le (f := fun a => cat (rowv one sg i p a) (one (sg p) a i)) (i := i) (a := i) (b := i) (Nat.le_refl _) (Nat.le_refl _))
      show Cv (mnr (fun a => cat (rowv one sg i p a) (one (sg p) a i)) i i) ≤ sumE F sg p + F (sg p)
      omega
    · show Cv (mnr (fun a => cat (rowv one sg i p a) (one (sg p) a j)) i j) + F (sg 0) ≤ sumE F sg p + F (sg p) + Cv (one (sg 0) i j)
      by_cases q : p = 0
      · subst q
        have := Cv_mono (mnr_le (f := fun a => cat (rowv one sg i 0 a) (one (sg 0) a j)) (i := i) (a := i) (b := j) (Nat.le_refl _) hij)
        omega
      · have := Cv_mono (mnr_le (f := fun a => cat (rowv one sg i p a) (one (sg p) a j)) (i := i) (a := j) (b := j) hij (Nat.le_refl _))
        have h3 := h2 (by omega)
        omega
theorem rowv_TT {one : Nat → Nat → Nat → Nat} {sg : Nat → Nat} {i j q : Nat} (h : ∀ a b, i ≤ a → a ≤ b → b ≤ j → one (sg q) a b = TT) : ∀ {p b : Nat}, q < p → b ≤ j → rowv one sg i p b = TT
  | p + 1, b, hq, hb => by
    rw [rowv]
    refine Nat.le_antisymm (mnr_TT _ _ _) (le_mnr (Nat.le_refl _) (fun a h1 h2 => ?_))
    by_cases e : q = p
    · subst e
      rw [h a b h1 h2 hb, cat_TTr]; exact Nat.le_refl _
    · rw [rowv_TT h (p := p) (by omega) (by omega), cat_TTl]; exact Nat.le_refl _
theorem pk_le_C {c w : Nat} (h : c ≤ Cv w) : pk c 0 0 ≤ w := by
  have e1 := pk_C (c := c) (l := 0) (t := 0) (by decide) (by decide)
  have e2 := pk_L (c := c) (l := 0) (t := 0) (by decide) (by decide)
  have e3 := pk_T (c := c) (l := 0) (t := 0) (by decide)
  rw [v_le, e1, e2, e3]
  omega
/-- what is known when a part (i, j) ahead of others is settled: the empty part's values e, the part's values V -/
theorem part_bound2 {dr pu L i j : Nat} {lt X : Nat → Nat → Nat → Nat} {rc : Nat → Nat} {rl : Nat → Nat → Nat} {rs : Nat → Nat → Nat → Nat} {V : Nat → Nat} (hd : dr ≤ 9) (hL : L ≤ 6) (hij : i < j) (hj : j ≤ L) (hlt : okL L lt) (hX : okT L X) (hG : wfG rc rl rs)
    (hl1 : ∀ s a, s < 4 → a ≤ L → Cv (lt s a a) = pu) (hl2 : ∀ s, s < 4 → Cv (lt s i j) ≤ dr * (j - i) + pu)
    (he : ∀ n a, n < 6 → a ≤ L → (a = i ∨ a = j) → X n a a = X n 0 0)
    (hec : ∀ n r, n < 6 → r < rc n → X n 0 0 ≤ rulev dr (onev lt X) (rl n r) (rs n r) 0 0)
    (heg : ∀ y, goodV 0 0 y → (∀ n, n < 6 → y n ≤ RVr dr lt rc rl rs X 0 0 y n) → ∀ n, n < 6 → y n ≤ X n 0 0)
    (hV : goodV i j V) (hVc : ∀ n, n < 6 → V n ≤ RVr dr lt rc rl rs X i j V n) : ∀ n, n < 6 → Cv (V n) ≤ dr * (j - i) + Cv (X n 0 0) := by
  have hC8 : CM8 = 100000000 := rfl
  have hdd : dr * (j - i) ≤ 9 * 6 := Nat.mul_le_mul hd (by omega)
  have hok0 : ∀ n, n < 6 → ok 0 (X n 0 0) := fun n hn => hX n 0 0 hn (Nat.le_refl _) (Nat.zero_le _)
  generalize hy : (fun n => if Cv (X n 0 0) < Cv (V n) - dr * (j - i) then pk (Cv (V n) - dr * (j - i)) 0 0 else X n 0 0) = y
  have hyn : ∀ n, y n = if Cv (X n 0 0) < Cv (V n) - dr * (j - i) then pk (Cv (V n) - dr * (j - i)) 0 0 else X n 0 0 := fun n => by rw [← hy]
  have hyC : ∀ n, n < 6 → Cv (y n) = max (Cv (X n 0 0)) (Cv (V n) - dr * (j - i)) := fun n hn => by
    rw [hyn]
    split
    · rw [pk_C (by decide) (by decide)]; omega
    · omega
  have hyok : goodV 0 0 y := fun n hn => by
    have hv := Cv_ok (hV n hn)
    rw [hyn]
    split
    · by_cases q : Cv (V n) - dr * (j - i) < 100000000
      · refine Or.inr ?_
        rw [pk_C (by decide) (by decide), pk_L (by decide) (by decide), pk_T (by decide)]
        exact ⟨q, Nat.zero_le _, fun _ => by decide, fun _ => rfl⟩
      · left
        rw [show Cv (V n) - dr * (j - i) = 100000000 by omega]
        decide
    · exact hok0 n hn
  have hyX : ∀ n, n < 6 → X n 0 0 ≤ y n := fun n hn => by
    rw [hyn]
    split
    · next q => exact (v_le _ _).mpr (Or.inl (by rw [pk_C (by decide) (by decide)]; exact q))
    · exact Nat.le_refl _
  have o1 : okO L (onev lt X) := onev_ok hlt hX
  have o2 : okO L (onev lt (Xw X 0 0 y)) := onev_ok hlt (Xw_ok hX hyok)
  have o3 : okO L (onev lt (Xw X i j V)) := onev_ok hlt (Xw_ok hX hV)
  have hyc : ∀ n, n < 6 → y n ≤ RVr dr lt rc rl rs X 0 0 y n := fun n hn => by
    refine le_mnk (ok_le (hyok n hn)) (fun r hr => ?_)
    have hsg : ∀ q, q < rl n r → rs n r q < 10 := fun q hq => hG n r q hn hr hq
    by_cases q : Cv (X n 0 0) < Cv (V n) - dr * (j - i)
    · rw [hyn, if_pos q]
      refine pk_le_C ?_
      have hvr : V n ≤ rulev dr (onev lt (Xw X i j V)) (rl n r) (rs n r) i j := Nat.le_trans (hVc n hn) (mnk_le (f := fun r => rulev dr (onev lt (Xw X i j V)) (rl n r) (rs n r) i j) hr)
      have hvr2 := Cv_mono hvr
      by_cases l0 : rl n r = 0
      · unfold rulev at hvr2 ⊢
        rw [if_pos l0] at hvr2 ⊢
        rw [pk_C (by decide) (by decide)] at hvr2 ⊢
        omega
      · unfold rulev at hvr2 ⊢
        rw [if_neg l0] at hvr2 ⊢
        have hoY : ∀ s, s < 10 → ok 0 (onev lt (Xw X 0 0 y) s 0 0) := fun s hs => o2 s 0 0 hs (Nat.le_refl _) (Nat.zero_le _)
        rw [rowv_ii o2 (by omega) (Nat.zero_le _) hsg, Cv_rowE hoY hsg]
        have hv8 := Cv_ok (hV n hn)
        have hFi : ∀ s a, s < 10 → a = i ∨ a = j → Cv (onev lt (Xw X i j V) s a a) ≤ Cv (onev lt X s 0 0) := fun s a hs ha => by
          unfold onev
          split
          · next h4 => rw [hl1 s a h4 (by omega), hl1 s 0 h4 (by omega)]; exact Nat.le_refl _
          · unfold Xw
            rw [if_neg (by omega), he _ a (by omega) (by omega) ha]; exact Nat.le_refl _
        have hsp := (rowv_split (sg := rs n r) (F := fun s => Cv (onev lt X s 0 0)) o3 (by omega) (by omega : i ≤ j) hj (fun s hs => ⟨hFi s i hs (Or.inl rfl), hFi s j hs (Or.inr rfl)⟩) hsg).2 (by omega)
        have hFY : ∀ s, s < 10 → Cv (onev lt X s 0 0) ≤ Cv (onev lt (Xw X 0 0 y) s 0 0) := fun s hs => by
          unfold onev
          split
          · exact Nat.le_refl _
          · unfold Xw
            rw [if_pos ⟨rfl, rfl⟩]; exact Cv_mono (hyX _ (by omega))
        have h0 : rs n r 0 < 10 := hsg 0 (by omega)
        have hone : Cv (onev lt (Xw X i j V) (rs n r 0) i j) ≤ dr * (j - i) + Cv (onev lt (Xw X 0 0 y) (rs n r 0) 0 0) := by
          unfold onev
          by_cases h4 : rs n r 0 < 4
          · rw [if_pos h4, if_pos h4, hl1 _ 0 h4 (by omega)]; exact hl2 _ h4
          · rw [if_neg h4, if_neg h4]
            unfold Xw
            rw [if_pos ⟨rfl, rfl⟩, if_pos ⟨rfl, rfl⟩]
            have := hyC (rs n r 0 - 4) (by omega)
            omega
        obtain ⟨p, hp⟩ : ∃ p, rl n r = p + 1 := ⟨rl n r - 1, by omega⟩
        have hs1 := sumE_one (F := fun s => Cv (onev lt X s 0 0)) (Y := fun s => Cv (onev lt (Xw X 0 0 y) s 0 0)) (sg := rs n r) (p := p) (fun q hq => hFY _ (hsg q (by omega)))
        rw [hp] at hsp hvr2 ⊢
        omega
    · rw [hyn, if_neg q]
      refine Nat.le_trans (hec n r hn hr) ?_
      refine rulev_mono (L := 0) (okO_sub o1 (Nat.zero_le _)) (okO_sub o2 (Nat.zero_le _)) (by omega) (fun s a b hs _ hab hb => ?_) hsg (Nat.le_refl _) (Nat.le_refl _)
      have ea : a = 0 := by omega
      have eb : b = 0 := by omega
      subst ea; subst eb
      unfold onev
      split
      · exact Nat.le_refl _
      · unfold Xw
        rw [if_pos ⟨rfl, rfl⟩]; exact hyX _ (by omega)
  intro n hn
  have h1 := Cv_mono (heg y hyok hyc n hn)
  rw [hyC n hn] at h1
  omega
/-- a name that makes no empty part makes no part at all -/
theorem part_TT {dr pu L i j : Nat} {lt X : Nat → Nat → Nat → Nat} {rc : Nat → Nat} {rl : Nat → Nat → Nat} {rs : Nat → Nat → Nat → Nat} {V : Nat → Nat} (hL : L ≤ 6) (hij : i < j) (hj : j ≤ L) (hlt : okL L lt) (hX : okT L X) (hG : wfG rc rl rs) (hp9 : pu ≤ 9) (hl4 : ∀ n r, n < 6 → r < rc n → rl n r ≤ 4)
    (hl1 : ∀ s a, s < 4 → a ≤ L → Cv (lt s a a) = pu)
    (hec : ∀ n r, n < 6 → r < rc n → X n 0 0 ≤ rulev dr (onev lt X) (rl n r) (rs n r) 0 0)
    (heb : ∀ n, n < 6 → cB (pu * 4096) (X n 0 0))
    (hTT : ∀ n a b, n < 6 → i ≤ a → a ≤ b → b ≤ j → ¬ (a = i ∧ b = j) → X n 0 0 = TT → X n a b = TT)
    (hV : goodV i j V) (hVc : ∀ n, n < 6 → V n ≤ RVr dr lt rc rl rs X i j V n)
    (hVg : ∀ y, goodV i j y → (∀ n, n < 6 → y n ≤ RVr dr lt rc rl rs X i j y n) → ∀ n, n < 6 → y n ≤ V n) : ∀ n, n < 6 → X n 0 0 = TT → V n = TT := by
  have hC8 : CM8 = 100000000 := rfl
  have hok0 : ∀ n, n < 6 → ok 0 (X n 0 0) := fun n hn => hX n 0 0 hn (Nat.le_refl _) (Nat.zero_le _)
  have hyok : goodV i j (fun n => if X n 0 0 = TT then TT else V n) := fun n hn => by
    show ok (j - i) (if X n 0 0 = TT then TT else V n)
    split
    · exact ok_TT _
    · exact hV n hn
  have o1 : okO L (onev lt X) := onev_ok hlt hX
  have o3 : okO L (onev lt (Xw X i j V)) := onev_ok hlt (Xw_ok hX hV)
  have o4 := onev_ok hlt (Xw_ok hX hyok)
  have hle : ∀ n, n < 6 → V n ≤ (if X n 0 0 = TT then TT else V n) := fun n hn => by
    split
    · exact ok_le (hV n hn)
    · exact Nat.le_refl _
  have hyc : ∀ n, n < 6 → (if X n 0 0 = TT then TT else V n) ≤ RVr dr lt rc rl rs X i j (fun n => if X n 0 0 = TT then TT else V n) n := fun n hn => by
    refine le_mnk (ok_le (hyok n hn)) (fun r hr => ?_)
    have hsg : ∀ q, q < rl n r → rs n r q < 10 := fun q hq => hG n r q hn hr hq
    by_cases q : X n 0 0 = TT
    · rw [if_pos q]
      have hec2 := hec n r hn hr
      rw [q] at hec2
      have hbig := Cv_mono hec2
      rw [C_TT] at hbig
      unfold rulev at hbig ⊢
      by_cases l0 : rl n r = 0
      · rw [if_pos l0, pk_C (by decide) (by decide)] at hbig
        omega
      · rw [if_neg l0] at hbig ⊢
        have hoE : ∀ s, s < 10 → ok 0 (onev lt X s 0 0) := fun s hs => o1 s 0 0 hs (Nat.le_refl _) (Nat.zero_le _)
        rw [rowv_ii o1 (by omega) (Nat.zero_le _) hsg, Cv_rowE hoE hsg] at hbig
        have hex : ∃ p, p < rl n r ∧ onev lt X (rs n r p) 0 0 = TT := by
          apply Classical.byContradiction
          intro hno
          have hall : ∀ p, p < rl n r → Cv (onev lt X (rs n r p) 0 0) ≤ 36864 := fun p hp => by
            have hne : onev lt X (rs n r p) 0 0 ≠ TT := fun z => hno ⟨p, hp, z⟩
            have hs := hsg p hp
            by_cases h4 : rs n r p < 4
            · have : onev lt X (rs n r p) 0 0 = lt (rs n r p) 0 0 := if_pos h4
              rw [this, hl1 _ 0 h4 (Nat.zero_le _)]; omega
            · have e : onev lt X (rs n r p) 0 0 = X (rs n r p - 4) 0 0 := if_neg h4
              rw [e] at hne ⊢
              have := (heb (rs n r p - 4) (by omega)).resolve_left hne
              omega
          have h5 := sumE_big (F := fun s => Cv (onev lt X s 0 0)) (sg := rs n r) (B := 36864) (p := rl n r) hall
          have h6 : rl n r * 36864 ≤ 4 * 36864 := Nat.mul_le_mul_right _ (hl4 n r hn hr)
          omega
        obtain ⟨p, hp, hpT⟩ := hex
        have hs := hsg p hp
        have h4 : ¬ rs n r p < 4 := fun z => by
          have e : onev lt X (rs n r p) 0 0 = lt (rs n r p) 0 0 := if_pos z
          rw [e] at hpT
          have := hl1 _ 0 z (Nat.zero_le _)
          rw [hpT, C_TT] at this
          omega
        have e : onev lt X (rs n r p) 0 0 = X (rs n r p - 4) 0 0 := if_neg h4
        rw [e] at hpT
        rw [rowv_TT (q := p) (j := j) (fun a b h1 h2 h3 => ?_) hp (Nat.le_refl _)]
        · exact Nat.le_refl _
        · unfold onev
          rw [if_neg h4]
          unfold Xw
          by_cases z : a = i ∧ b = j
          · rw [if_pos z]; exact if_pos hpT
          · rw [if_neg z]; exact hTT _ a b (by omega) h1 h2 h3 z hpT
    · rw [if_neg q]
      refine Nat.le_trans (Nat.le_trans (hVc n hn) (mnk_le (f := fun r => rulev dr (onev lt (Xw X i j V)) (rl n r) (rs n r) i j) hr)) ?_
      exact rulev_mono (L := L) o3 o4 (by omega) (onev_mono (fun z a c hz _ _ _ => Xw_mono (fun t ht => hle t ht) z a c hz)) hsg (by omega) hj
  intro n hn hT
  have h1 := hVg _ hyok hyc n hn
  rw [if_pos hT] at h1
  exact Nat.le_antisymm (ok_le (hV n hn)) h1
