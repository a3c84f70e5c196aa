/-! layer 2, one part's names while they are settled: what holds all the time -/
def fin (vec : Nat → Nat) : Nat := fb_ct (fun x => decide (vec x ≠ TT)) 6
theorem fin_le (vec : Nat → Nat) : fin vec ≤ 6 := fb_ct_le _ 6
def bnd (dr pu i j f : Nat) : Nat := if i = j then pu * 4 ^ f else dr * (j - i) + pu * 4096 * (1 + 3 * f)
def sbd (dr pu i j f : Nat) : Nat := if i = j then 4 * bnd dr pu i j f else bnd dr pu i j f + 3 * (pu * 4096)
theorem bnd_mono {dr pu i j f g : Nat} (h : f ≤ g) : bnd dr pu i j f ≤ bnd dr pu i j g := by
  unfold bnd
  split
  · exact Nat.mul_le_mul_left _ (Nat.pow_le_pow_right (by decide) h)
  · have : pu * 4096 * (1 + 3 * f) ≤ pu * 4096 * (1 + 3 * g) := Nat.mul_le_mul_left _ (by omega)
    omega
theorem bnd_succ {dr pu i j f : Nat} : sbd dr pu i j f ≤ bnd dr pu i j (f + 1) := by
  unfold sbd bnd
  split
  · have : pu * 4 ^ (f + 1) = 4 * (pu * 4 ^ f) := by rw [Nat.pow_succ, ← Nat.mul_assoc, Nat.mul_comm]
    exact Nat.le_of_eq this.symm
  · have : pu * 4096 * (1 + 3 * (f + 1)) = pu * 4096 * (1 + 3 * f) + 3 * (pu * 4096) := by
      rw [show 1 + 3 * (f + 1) = 1 + 3 * f + 3 by omega, Nat.mul_add]; omega
    omega
theorem sbd_max {dr pu i j f : Nat} (hd : dr ≤ 9) (hj : j ≤ 6) (hf : f ≤ 6) : sbd dr pu i j f ≤ 54 + pu * 90112 := by
  unfold sbd bnd
  have h4 : 4 ^ f ≤ 4 ^ 6 := Nat.pow_le_pow_right (by decide) hf
  split
  · have : pu * 4 ^ f ≤ pu * 4 ^ 6 := Nat.mul_le_mul_left _ h4
    omega
  · have h1 : dr * (j - i) ≤ 9 * 6 := Nat.mul_le_mul hd (by omega)
    have h2 : pu * 4096 * (1 + 3 * f) ≤ pu * 4096 * 19 := Nat.mul_le_mul_left _ (by omega)
    omega
/-- a cost below the bound keeps a length small -/
theorem len_small {pu l c s : Nat} (hp : 1 ≤ pu) (hc : c ≤ 54 + pu * 90112) (hs : s ≤ 6) (h : pu * l ≤ c + pu * s) : l ≤ 100000 := by
  apply Nat.le_of_not_lt
  intro q
  have h1 : pu * 100001 ≤ pu * l := Nat.mul_le_mul_left _ q
  have h2 : pu * s ≤ pu * 6 := Nat.mul_le_mul_left _ hs
  omega
/-- what is given for a part (i, j): letters, rules, the smaller parts -/
def Given (dr pu L : Nat) (lt : Nat → Nat → Nat → Nat) (rc : Nat → Nat) (rl : Nat → Nat → Nat) (rs : Nat → Nat → Nat → Nat) (X : Nat → Nat → Nat → Nat) (i j : Nat) : Prop :=
  dr ≤ 9 ∧ 1 ≤ pu ∧ pu ≤ 9 ∧ L ≤ 6 ∧ i ≤ j ∧ j ≤ L ∧ okL L lt ∧ okT L X ∧ wfG rc rl rs ∧ (∀ n r, n < 6 → r < rc n → rl n r ≤ 4) ∧
  (∀ s a b, s < 4 → a ≤ b → b ≤ L → cB (dr * (b - a) + pu) (lt s a b) ∧ len_ok pu (b - a) (lt s a b)) ∧
  (∀ n a b, n < 6 → i ≤ a → a ≤ b → b ≤ j → ¬ (a = i ∧ b = j) → cB (dr * (b - a) + pu * 4096) (X n a b) ∧ len_ok pu (b - a) (X n a b))
/-- what holds of the part's values all the time -/
def PI (dr pu : Nat) (lt : Nat → Nat → Nat → Nat) (rc : Nat → Nat) (rl : Nat → Nat → Nat) (rs : Nat → Nat → Nat → Nat) (X : Nat → Nat → Nat → Nat) (i j : Nat) (vec : Nat → Nat) : Prop :=
  goodV i j vec ∧ (∀ n, n < 6 → len_ok pu (j - i) (vec n)) ∧ (∀ n, n < 6 → cB (bnd dr pu i j (fin vec)) (vec n)) ∧
  ∀ y, goodV i j y → (∀ n, n < 6 → y n ≤ RVr dr lt rc rl rs X i j y n) → ∀ n, n < 6 → y n ≤ vec n
theorem four_1 (f : Nat) : 1 ≤ 4 ^ f := Nat.pow_pos (by decide)
/-- the values of signs at the part's parts: length and cost -/
theorem one_len {dr pu L i j : Nat} {lt X : Nat → Nat → Nat → Nat} {rc : Nat → Nat} {rl : Nat → Nat → Nat} {rs : Nat → Nat → Nat → Nat} {vec : Nat → Nat} (G : Given dr pu L lt rc rl rs X i j) (hv : ∀ n, n < 6 → len_ok pu (j - i) (vec n)) {s a b : Nat} (hs : s < 10) (h1 : i ≤ a) (h2 : a ≤ b) (h3 : b ≤ j) : len_ok pu (b - a) (onev lt (Xw X i j vec) s a b) := by
  obtain ⟨g1, g2, g3, g4, g5, g6, g7, g8, g9, g10, g11, g12⟩ := G
  unfold onev
  split
  · exact (g11 s a b (by omega) h2 (by omega)).2
  · unfold Xw
    by_cases q : a = i ∧ b = j
    · rw [if_pos q, q.1, q.2]; exact hv _ (by omega)
    · rw [if_neg q]; exact (g12 _ a b (by omega) h1 h2 h3 q).2
theorem one_cost {dr pu L i j : Nat} {lt X : Nat → Nat → Nat → Nat} {rc : Nat → Nat} {rl : Nat → Nat → Nat} {rs : Nat → Nat → Nat → Nat} {vec : Nat → Nat} (G : Given dr pu L lt rc rl rs X i j) {M : Nat} (hv : ∀ n, n < 6 → cB M (vec n)) (hM : dr * (j - i) + pu ≤ M) {s : Nat} (hs : s < 10) : cB M (onev lt (Xw X i j vec) s i j) ∧ ∀ a b, i ≤ a → a ≤ b → b ≤ j → ¬ (a = i ∧ b = j) → cB (dr * (b - a) + pu * 4096) (onev lt (Xw X i j vec) s a b) := by
  obtain ⟨g1, g2, g3, g4, g5, g6, g7, g8, g9, g10, g11, g12⟩ := G
  unfold onev
  refine ⟨?_, fun a b h1 h2 h3 q => ?_⟩
  · split
    · exact cB_up (g11 s i j (by omega) g5 g6).1 hM
    · unfold Xw
      rw [if_pos ⟨rfl, rfl⟩]; exact hv _ (by omega)
  · split
    · exact cB_up (g11 s a b (by omega) h2 (by omega)).1 (by omega)
    · unfold Xw
      rw [if_neg q]; exact (g12 _ a b (by omega) h1 h2 h3 q).1
/-- the sums that a rule's steps make -/
theorem rule_sums {dr pu L i j : Nat} {lt X : Nat → Nat → Nat → Nat} {rc : Nat → Nat} {rl : Nat → Nat → Nat} {rs : Nat → Nat → Nat → Nat} {vec : Nat → Nat} (G : Given dr pu L lt rc rl rs X i j) (hv : PI dr pu lt rc rl rs X i j vec) {sg : Nat → Nat} {p a b : Nat} (hp : p < 4) (hs : ∀ q, q < p + 1 → sg q < 10) (h1 : i ≤ a) (h2 : a ≤ b) (h3 : b ≤ j)
    (n1 : rowv (onev lt (Xw X i j vec)) sg i p a ≠ TT) (n2 : onev lt (Xw X i j vec) (sg p) a b ≠ TT) :
    Cv (rowv (onev lt (Xw X i j vec)) sg i p a) + Cv (onev lt (Xw X i j vec) (sg p) a b) ≤ sbd dr pu i j (fin vec) ∧ Lv (rowv (onev lt (Xw X i j vec)) sg i p a) + Lv (onev lt (Xw X i j vec) (sg p) a b) ≤ 100000 := by
  obtain ⟨v1, v2, v3, v4⟩ := hv
  have G0 := G
  obtain ⟨g1, g2, g3, g4, g5, g6, g7, g8, g9, g10, g11, g12⟩ := G
  have o1 := onev_ok g7 (Xw_ok g8 v1)
  have hsum : Cv (rowv (onev lt (Xw X i j vec)) sg i p a) + Cv (onev lt (Xw X i j vec) (sg p) a b) ≤ sbd dr pu i j (fin vec) := by
    by_cases q : i = j
    · have ea : a = i := by omega
      have eb : b = i := by omega
      subst q
      subst ea
      subst eb
      have hM : dr * (b - b) + pu ≤ bnd dr pu b b (fin vec) := by
        unfold bnd
        rw [if_pos rfl, Nat.sub_self, Nat.mul_zero, Nat.zero_add]
        have := Nat.mul_le_mul_left pu (four_1 (fin vec))
        omega
      have := rowv_sumI (sg := sg) o1 (by omega) g6 (fun s hs => (one_cost G0 v3 hM hs).1) (p := p) hs n1 n2
      unfold sbd
      rw [if_pos rfl]
      have h4 : (p + 1) * bnd dr pu b b (fin vec) ≤ 4 * bnd dr pu b b (fin vec) := Nat.mul_le_mul_right _ (by omega)
      omega
    · have hM2 : dr * (j - i) + pu * 4096 ≤ bnd dr pu i j (fin vec) := by
        unfold bnd
        rw [if_neg q]
        have : pu * 4096 * 1 ≤ pu * 4096 * (1 + 3 * fin vec) := Nat.mul_le_mul_left _ (by omega)
        omega
      have hM : dr * (j - i) + pu ≤ bnd dr pu i j (fin vec) := by omega
      have := rowv_sumJ (sg := sg) o1 (by omega) (by omega : i < j) g6 hM2 (fun s hs => (one_cost G0 v3 hM hs).1) (fun s a b hs => (one_cost G0 v3 hM hs).2 a b) (p := p) hs h1 h2 h3 n1 n2
      unfold sbd
      rw [if_neg q]
      have h5 : p * (pu * 4096) ≤ 3 * (pu * 4096) := Nat.mul_le_mul_right _ (by omega)
      have h6 : (p + 1) * (pu * 4096) ≤ 4 * (pu * 4096) := Nat.mul_le_mul_right _ (by omega)
      have h7 : dr * (b - i) ≤ dr * (j - i) := Nat.mul_le_mul_left _ (by omega)
      split at this <;> omega
  refine ⟨hsum, ?_⟩
  have hl : ∀ s x y, s < 10 → x ≤ y → y ≤ j → len_ok pu (y - x) (onev lt (Xw X i j vec) s x y) ∨ x < i := fun s x y hs hxy hy => by
    by_cases q : i ≤ x
    · exact Or.inl (one_len G0 v2 hs q hxy hy)
    · exact Or.inr (by omega)
  have l2 := (one_len G0 v2 (hs p (by omega)) h1 h2 h3).resolve_left n2
  have l1 : ∀ {p a : Nat}, (∀ q, q < p → sg q < 10) → i ≤ a → a ≤ j → len_ok pu (a - i) (rowv (onev lt (Xw X i j vec)) sg i p a) := by
    intro p
    induction p with
    | zero =>
      intro a _ ha _
      unfold rowv
      split
      · right
        have : Lv 0 = 0 := by decide
        rw [this]; omega
      · exact Or.inl rfl
    | succ p ih =>
      intro a hs ha haj
      rw [rowv]
      rcases mnr_att (fun x => cat (rowv (onev lt (Xw X i j vec)) sg i p x) (onev lt (Xw X i j vec) (sg p) x a)) i a with z | ⟨x, z1, z2, z3⟩
      · exact Or.inl z
      · rw [z3]
        have hs2 : ∀ q, q < p → sg q < 10 := fun q hq => hs q (by omega)
        have := len_cat (rowv_ok (sg := sg) (i := i) o1 (by omega) hs2 z1 (by omega)) (o1 (sg p) x a (hs p (by omega)) z2 (by omega)) (by omega) (by omega) (ih hs2 z1 (by omega)) (one_len G0 v2 (hs p (by omega)) z1 z2 haj)
        have e3 : x - i + (a - x) = a - i := by omega
        rw [e3] at this
        exact this
  have l3 := (l1 (p := p) (a := a) (fun q hq => hs q (by omega)) h1 (by omega)).resolve_left n1
  refine len_small (pu := pu) (c := Cv (rowv (onev lt (Xw X i j vec)) sg i p a) + Cv (onev lt (Xw X i j vec) (sg p) a b)) (s := b - i) g2 (Nat.le_trans hsum (sbd_max g1 (by omega) (fin_le vec))) (by omega) ?_
  have e4 : pu * (b - i) = pu * (a - i) + pu * (b - a) := by rw [← Nat.mul_add]; congr 1; omega
  rw [Nat.mul_add]
  omega
/-- values of rows and rules: cost and length -/
theorem row_bound {dr pu L i j : Nat} {lt X : Nat → Nat → Nat → Nat} {rc : Nat → Nat} {rl : Nat → Nat → Nat} {rs : Nat → Nat → Nat → Nat} {vec : Nat → Nat} (G : Given dr pu L lt rc rl rs X i j) (hv : PI dr pu lt rc rl rs X i j vec) {sg : Nat → Nat} : ∀ {p b : Nat}, p ≤ 4 → (∀ q, q < p → sg q < 10) → i ≤ b → b ≤ j → cB (sbd dr pu i j (fin vec)) (rowv (onev lt (Xw X i j vec)) sg i p b) ∧ len_ok pu (b - i) (rowv (onev lt (Xw X i j vec)) sg i p b)
  | 0, b, _, _, _, _ => by
    unfold rowv
    split
    · refine ⟨Or.inr ?_, Or.inr ?_⟩
      · have : Cv 0 = 0 := by decide
        omega
      · have : Lv 0 = 0 := by decide
        rw [this]; omega
    · exact ⟨Or.inl rfl, Or.inl rfl⟩
  | p + 1, b, hp, hs, h1, h2 => by
    obtain ⟨g1, g2, g3, g4, g5, g6, g7, g8, g9, g10, g11, g12⟩ := id G
    have o1 := onev_ok g7 (Xw_ok g8 hv.1)
    rw [rowv]
    rcases mnr_att (fun x => cat (rowv (onev lt (Xw X i j vec)) sg i p x) (onev lt (Xw X i j vec) (sg p) x b)) i b with z | ⟨x, z1, z2, z3⟩
    · rw [z]; exact ⟨Or.inl rfl, Or.inl rfl⟩
    · rw [z3]
      have hs2 : ∀ q, q < p → sg q < 10 := fun q hq => hs q (by omega)
      have k1 := rowv_ok (sg := sg) (i := i) o1 (by omega : L ≤ 100) (p := p) (b := x) hs2 z1 (by omega)
      have k2 := o1 (sg p) x b (hs p (by omega)) z2 (by omega)
      refine ⟨?_, ?_⟩
      · by_cases h : cat (rowv (onev lt (Xw X i j vec)) sg i p x) (onev lt (Xw X i j vec) (sg p) x b) = TT
        · exact Or.inl h
        · obtain ⟨m1, m2, m3, -, -, -⟩ := cat_fin k1 k2 (by omega) (by omega) h
          right
          rw [m3]
          exact (rule_sums G hv (by omega) hs z1 z2 h2 m1 m2).1
      · have := len_cat k1 k2 (by omega) (by omega) (row_bound G hv (p := p) (b := x) (by omega) hs2 z1 (by omega)).2 (one_len G hv.2.1 (hs p (by omega)) z1 z2 h2)
        have e3 : x - i + (b - x) = b - i := by omega
        rw [e3] at this
        exact this
theorem rule_bound {dr pu L i j : Nat} {lt X : Nat → Nat → Nat → Nat} {rc : Nat → Nat} {rl : Nat → Nat → Nat} {rs : Nat → Nat → Nat → Nat} {vec : Nat → Nat} (G : Given dr pu L lt rc rl rs X i j) (hv : PI dr pu lt rc rl rs X i j vec) {sg : Nat → Nat} {len : Nat} (hl : len ≤ 4) (hs : ∀ q, q < len → sg q < 10) : cB (sbd dr pu i j (fin vec)) (rulev dr (onev lt (Xw X i j vec)) len sg i j) ∧ len_ok pu (j - i) (rulev dr (onev lt (Xw X i j vec)) len sg i j) := by
  obtain ⟨g1, g2, g3, g4, g5, g6, g7, g8, g9, g10, g11, g12⟩ := id G
  unfold rulev
  split
  · have h1 := (drop_ok (dr := dr) (s := j - i) g1 (by omega)).2
    have h2 : Lv (pk (dr * (j - i)) 0 0) = 0 := pk_L (by decide) (by decide)
    refine ⟨Or.inr ?_, Or.inr ?_⟩
    · rw [h1]
      unfold sbd bnd
      split
      · next q => rw [q, Nat.sub_self, Nat.mul_zero]; omega
      · omega
    · rw [h2]; omega
  · exact row_bound G hv hl hs g5 (Nat.le_refl _)
/-- a visit keeps what holds -/
theorem PI_step {dr pu L i j : Nat} {lt X : Nat → Nat → Nat → Nat} {rc : Nat → Nat} {rl : Nat → Nat → Nat} {rs : Nat → Nat → Nat → Nat} {vec : Nat → Nat} (G : Given dr pu L lt rc rl rs X i j) (hv : PI dr pu lt rc rl rs X i j vec) {n : Nat} (hn : n < 6) : PI dr pu lt rc rl rs X i j (uv vec n (min (vec n) (RVr dr lt rc rl rs X i j vec n))) := by
  obtain ⟨g1, g2, g3, g4, g5, g6, g7, g8, g9, g10, g11, g12⟩ := id G
  obtain ⟨v1, v2, v3, v4⟩ := id hv
  have o1 := onev_ok g7 (Xw_ok g8 v1)
  have hR : ok (j - i) (RVr dr lt rc rl rs X i j vec n) ∧ cB (sbd dr pu i j (fin vec)) (RVr dr lt rc rl rs X i j vec n) ∧ len_ok pu (j - i) (RVr dr lt rc rl rs X i j vec n) := by
    rcases mnk_att (fun r => rulev dr (onev lt (Xw X i j vec)) (rl n r) (rs n r) i j) (rc n) with z | ⟨r, z1, z2⟩
    · have e : RVr dr lt rc rl rs X i j vec n = TT := z
      rw [e]; exact ⟨Or.inl rfl, Or.inl rfl, Or.inl rfl⟩
    · have e : RVr dr lt rc rl rs X i j vec n = rulev dr (onev lt (Xw X i j vec)) (rl n r) (rs n r) i j := z2
      have hs : ∀ q, q < rl n r → rs n r q < 10 := fun q hq => g9 n r q hn z1 hq
      have b1 := rule_bound G hv (sg := rs n r) (g10 n r hn z1) hs
      rw [e]
      exact ⟨rulev_ok g1 o1 (by omega) hs g5 g6, b1.1, b1.2⟩
  generalize hw : min (vec n) (RVr dr lt rc rl rs X i j vec n) = w
  have hwl : w ≤ vec n := by omega
  have hwc : w = vec n ∨ w = RVr dr lt rc rl rs X i j vec n := by omega
  have w1 : ok (j - i) w := by
    rcases hwc with e | e
    · rw [e]; exact v1 n hn
    · rw [e]; exact hR.1
  have w2 : len_ok pu (j - i) w := by
    rcases hwc with e | e
    · rw [e]; exact v2 n hn
    · rw [e]; exact hR.2.2
  have hfin : fin vec ≤ fin (uv vec n w) := fb_ct_sub (fun x hx hp => by
    have h1 : vec x ≠ TT := of_decide_eq_true hp
    refine decide_eq_true ?_
    unfold uv
    by_cases q : x = n
    · rw [if_pos q]
      rw [q] at h1
      have := ok_le (v1 n hn)
      omega
    · rw [if_neg q]; exact h1)
  refine ⟨fun x hx => ?_, fun x hx => ?_, fun x hx => ?_, fun y hy hc x hx => ?_⟩
  · unfold uv
    split
    · exact w1
    · exact v1 x hx
  · unfold uv
    split
    · exact w2
    · exact v2 x hx
  · show cB (bnd dr pu i j (fin (uv vec n w))) (if x = n then w else vec x)
    by_cases q : x = n
    · rw [if_pos q]
      by_cases hT : vec n = TT
      · rcases hwc with e | e
        · rw [e, hT]; exact Or.inl rfl
        · by_cases hwT : w = TT
          · exact Or.inl hwT
          · have : fin vec + 1 ≤ fin (uv vec n w) := by
              have a := fb_ct_upd (fun x => decide (vec x ≠ TT)) true hn
              simp only [decide_eq_true_eq, ne_eq, hT, not_true_eq_false, if_false, if_true, Nat.add_zero] at a
              have b : fb_ct (fun k => if k = n then true else decide (¬ vec k = TT)) 6 ≤ fin (uv vec n w) := fb_ct_sub (fun x hx hp => by
                refine decide_eq_true ?_
                unfold uv
                by_cases e : x = n
                · rw [if_pos e]; exact hwT
                · rw [if_neg e] at hp ⊢
                  exact of_decide_eq_true hp)
              unfold fin
              unfold fin at b
              simp only [ne_eq]
              simp only [ne_eq] at b
              omega
            have hb : cB (sbd dr pu i j (fin vec)) w := by rw [e]; exact hR.2.1
            exact cB_up hb (Nat.le_trans bnd_succ (bnd_mono this))
      · exact cB_up (cB_le (v3 n hn) hwl hT) (bnd_mono hfin)
    · rw [if_neg q]
      exact cB_up (v3 x hx) (bnd_mono hfin)
  · unfold uv
    by_cases q : x = n
    · rw [if_pos q, q]
      have h1 := v4 y hy hc
      have h2 : y n ≤ RVr dr lt rc rl rs X i j vec n := by
        refine Nat.le_trans (hc n hn) (le_mnk (mnk_TT _ _) (fun r hr => ?_))
        refine Nat.le_trans (mnk_le (f := fun r => rulev dr (onev lt (Xw X i j y)) (rl n r) (rs n r) i j) hr) ?_
        exact rulev_mono (L := L) (onev_ok g7 (Xw_ok g8 hy)) o1 (by omega) (onev_mono (fun z a c hz _ _ _ => Xw_mono (fun t ht => h1 t ht) z a c hz)) (fun p hp => g9 n r p hn hr hp) g5 g6
      have h3 := h1 n hn
      omega
    · rw [if_neg q]; exact v4 y hy hc x hx
theorem PI_0 {dr pu i j : Nat} {lt X : Nat → Nat → Nat → Nat} {rc : Nat → Nat} {rl : Nat → Nat → Nat} {rs : Nat → Nat → Nat → Nat} : PI dr pu lt rc rl rs X i j (fun _ => TT) :=
  ⟨fun _ _ => Or.inl rfl, fun _ _ => Or.inl rfl, fun _ _ => Or.inl rfl, fun y hy _ n hn => ok_le (hy n hn)⟩
