/-! layer 2, a part's names: RVr: the least of a name's rules, where the part (i, j) has the values vec, the other parts those of X -/
def Xw (X : Nat → Nat → Nat → Nat) (i j : Nat) (vec : Nat → Nat) : Nat → Nat → Nat → Nat := fun n a b => if a = i ∧ b = j then vec n else X n a b
def mnk (f : Nat → Nat) : Nat → Nat
  | 0 => TT
  | r + 1 => min (mnk f r) (f r)
theorem mnk_TT (f : Nat → Nat) : ∀ k, mnk f k ≤ TT
  | 0 => Nat.le_refl _
  | k + 1 => by have := mnk_TT f k; unfold mnk; omega
theorem mnk_le {f : Nat → Nat} {r : Nat} : ∀ {k : Nat}, r < k → mnk f k ≤ f r
  | 0, h => absurd h (Nat.not_lt_zero _)
  | k + 1, h => by
    unfold mnk
    by_cases e : r = k
    · rw [e]; omega
    · have := mnk_le (f := f) (r := r) (k := k) (by omega)
      omega
theorem mnk_att (f : Nat → Nat) : ∀ k, mnk f k = TT ∨ ∃ r, r < k ∧ mnk f k = f r
  | 0 => Or.inl rfl
  | k + 1 => by
    unfold mnk
    by_cases q : f k < mnk f k
    · exact Or.inr ⟨k, by omega, by omega⟩
    · have e : min (mnk f k) (f k) = mnk f k := by omega
      rw [e]
      rcases mnk_att f k with z | ⟨r, z1, z2⟩
      · exact Or.inl z
      · exact Or.inr ⟨r, by omega, z2⟩
theorem le_mnk {f : Nat → Nat} {k v : Nat} (hv : v ≤ TT) (h : ∀ r, r < k → v ≤ f r) : v ≤ mnk f k := by
  rcases mnk_att f k with z | ⟨r, z1, z2⟩
  · omega
  · rw [z2]; exact h r z1
def RVr (dr : Nat) (lt : Nat → Nat → Nat → Nat) (rc : Nat → Nat) (rl : Nat → Nat → Nat) (rs : Nat → Nat → Nat → Nat) (X : Nat → Nat → Nat → Nat) (i j : Nat) (vec : Nat → Nat) (n : Nat) : Nat := mnk (fun r => rulev dr (onev lt (Xw X i j vec)) (rl n r) (rs n r) i j) (rc n)
def usesG (rc : Nat → Nat) (rl : Nat → Nat → Nat) (rs : Nat → Nat → Nat → Nat) (x n : Nat) : Prop := ∃ r, r < rc x ∧ ∃ p, p < rl x r ∧ rs x r p = n + 4
def goodV (i j : Nat) (vec : Nat → Nat) : Prop := ∀ n, n < 6 → ok (j - i) (vec n)
theorem Xw_ok {L i j : Nat} {X : Nat → Nat → Nat → Nat} {vec : Nat → Nat} (hX : okT L X) (hv : goodV i j vec) : okT L (Xw X i j vec) := fun n a b hn hab hb => by
  unfold Xw
  by_cases q : a = i ∧ b = j
  · rw [if_pos q, q.1, q.2]; exact hv n hn
  · rw [if_neg q]; exact hX n a b hn hab hb
theorem Xw_mono {X : Nat → Nat → Nat → Nat} {i j : Nat} {vec vec2 : Nat → Nat} (h : ∀ n, n < 6 → vec n ≤ vec2 n) : ∀ n a b, n < 6 → Xw X i j vec n a b ≤ Xw X i j vec2 n a b := fun n a b hn => by
  unfold Xw
  split
  · exact h n hn
  · exact Nat.le_refl _
theorem rowv_dep {L i j n w : Nat} {lt X : Nat → Nat → Nat → Nat} {vec : Nat → Nat} {sg : Nat → Nat} (hL : L ≤ 100) (hlt : okL L lt) (hX : okT L X) (hv : goodV i j vec) (hv2 : goodV i j (uv vec n w)) (hij : i ≤ j) (hj : j ≤ L) (hn : n < 6) (hw : w ≤ vec n) :
    ∀ {p b : Nat}, (∀ q, q < p → sg q < 10) → i ≤ b → b ≤ j → rowv (onev lt (Xw X i j (uv vec n w))) sg i p b = rowv (onev lt (Xw X i j vec)) sg i p b ∨ w ≤ rowv (onev lt (Xw X i j (uv vec n w))) sg i p b
  | 0, b, _, _, _ => Or.inl rfl
  | p + 1, b, hs, hb, hbj => by
    have o1 := onev_ok hlt (Xw_ok hX hv)
    have o2 := onev_ok hlt (Xw_ok hX hv2)
    have hw2 : w ≤ TT := by
      have := ok_le (hv2 n hn)
      have e : uv vec n w n = w := if_pos rfl
      rw [e] at this
      exact this
    have hs2 : ∀ q, q < p → sg q < 10 := fun q hq => hs q (by omega)
    have hm : rowv (onev lt (Xw X i j (uv vec n w))) sg i (p + 1) b ≤ rowv (onev lt (Xw X i j vec)) sg i (p + 1) b := by
      refine rowv_mono (L := L) o2 o1 hL (onev_mono (fun x a c hx _ _ _ => Xw_mono (fun y hy => ?_) x a c hx)) hs hb (by omega)
      unfold uv
      split
      · next q => rw [q]; exact hw
      · exact Nat.le_refl _
    rcases mnr_att (fun a => cat (rowv (onev lt (Xw X i j (uv vec n w))) sg i p a) (onev lt (Xw X i j (uv vec n w)) (sg p) a b)) i b with z | ⟨a, h1, h2, h3⟩
    · right
      show w ≤ mnr _ i b
      rw [z]; exact hw2
    · have k1 := rowv_ok (sg := sg) (i := i) o2 hL (p := p) (b := a) hs2 h1 (by omega)
      have k2 := o2 (sg p) a b (hs p (by omega)) h2 (by omega)
      rcases rowv_dep (sg := sg) hL hlt hX hv hv2 hij hj hn hw (p := p) (b := a) hs2 h1 (by omega) with e | e
      · by_cases q : onev lt (Xw X i j (uv vec n w)) (sg p) a b = onev lt (Xw X i j vec) (sg p) a b
        · left
          refine Nat.le_antisymm hm ?_
          show rowv (onev lt (Xw X i j vec)) sg i (p + 1) b ≤ mnr _ i b
          rw [h3, e, q]
          exact mnr_le (f := fun a => cat (rowv (onev lt (Xw X i j vec)) sg i p a) (onev lt (Xw X i j vec) (sg p) a b)) h1 h2
        · right
          show w ≤ mnr _ i b
          rw [h3]
          refine Nat.le_trans ?_ (cat_right k1 k2 (by omega) (by omega))
          unfold onev at q ⊢
          by_cases q4 : sg p < 4
          · rw [if_pos q4, if_pos q4] at q; exact absurd rfl q
          · rw [if_neg q4, if_neg q4] at q
            rw [if_neg q4]
            unfold Xw at q ⊢
            by_cases q5 : a = i ∧ b = j
            · rw [if_pos q5, if_pos q5] at q
              rw [if_pos q5]
              unfold uv at q ⊢
              by_cases q6 : sg p - 4 = n
              · rw [if_pos q6]; exact Nat.le_refl _
              · rw [if_neg q6] at q; exact absurd rfl q
            · rw [if_neg q5, if_neg q5] at q; exact absurd rfl q
      · right
        show w ≤ mnr _ i b
        rw [h3]
        exact Nat.le_trans e (cat_left k1 k2 (by omega) (by omega))
theorem rulev_cong {dr len i j : Nat} {one one2 : Nat → Nat → Nat → Nat} {sg sg2 : Nat → Nat} (hs : ∀ q, q < len → sg q = sg2 q) (h : ∀ q a c, q < len → i ≤ a → a ≤ c → c ≤ j → one (sg q) a c = one2 (sg q) a c) : rulev dr one len sg i j = rulev dr one2 len sg2 i j := by
  unfold rulev
  split
  · rfl
  · exact rowv_cong hs h
theorem RVr_dep {dr L i j : Nat} {lt X : Nat → Nat → Nat → Nat} {rc : Nat → Nat} {rl : Nat → Nat → Nat} {rs : Nat → Nat → Nat → Nat} (hL : L ≤ 100) (hlt : okL L lt) (hX : okT L X) (hG : wfG rc rl rs) (hij : i ≤ j) (hj : j ≤ L) : depRV (usesG rc rl rs) (RVr dr lt rc rl rs X i j) (goodV i j) := by
  intro vec n w hv hv2 hn hw x hx
  have o1 := onev_ok hlt (Xw_ok hX hv)
  have o2 := onev_ok hlt (Xw_ok hX hv2)
  have hle : ∀ r, r < rc x → rulev dr (onev lt (Xw X i j (uv vec n w))) (rl x r) (rs x r) i j ≤ rulev dr (onev lt (Xw X i j vec)) (rl x r) (rs x r) i j := fun r hr => by
    refine rulev_mono (L := L) o2 o1 hL (onev_mono (fun y a c hy _ _ _ => Xw_mono (fun z hz => ?_) y a c hy)) (fun q hq => hG x r q hx hr hq) hij hj
    unfold uv
    split
    · next q => rw [q]; exact hw
    · exact Nat.le_refl _
  have hmono : RVr dr lt rc rl rs X i j (uv vec n w) x ≤ RVr dr lt rc rl rs X i j vec x :=
    le_mnk (mnk_TT _ _) (fun r hr => Nat.le_trans (mnk_le (f := fun r => rulev dr (onev lt (Xw X i j (uv vec n w))) (rl x r) (rs x r) i j) hr) (hle r hr))
  rcases mnk_att (fun r => rulev dr (onev lt (Xw X i j (uv vec n w))) (rl x r) (rs x r) i j) (rc x) with z | ⟨r, h1, h2⟩
  · left
    have e : RVr dr lt rc rl rs X i j (uv vec n w) x = TT := z
    have := mnk_TT (fun r => rulev dr (onev lt (Xw X i j vec)) (rl x r) (rs x r) i j) (rc x)
    have e2 : RVr dr lt rc rl rs X i j vec x ≤ TT := this
    omega
  · have e : RVr dr lt rc rl rs X i j (uv vec n w) x = rulev dr (onev lt (Xw X i j (uv vec n w))) (rl x r) (rs x r) i j := h2
    have back : rulev dr (onev lt (Xw X i j (uv vec n w))) (rl x r) (rs x r) i j = rulev dr (onev lt (Xw X i j vec)) (rl x r) (rs x r) i j → RVr dr lt rc rl rs X i j (uv vec n w) x = RVr dr lt rc rl rs X i j vec x := fun q =>
      Nat.le_antisymm hmono (by rw [e, q]; exact mnk_le (f := fun r => rulev dr (onev lt (Xw X i j vec)) (rl x r) (rs x r) i j) h1)
    by_cases hu : ∃ p, p < rl x r ∧ rs x r p = n + 4
    · by_cases hl : rl x r = 0
      · left
        refine back ?_
        unfold rulev
        rw [if_pos hl, if_pos hl]
      · rcases rowv_dep (sg := rs x r) hL hlt hX hv hv2 hij hj hn hw (p := rl x r) (b := j) (fun q hq => hG x r q hx h1 hq) hij (Nat.le_refl _) with q | q
        · left
          refine back ?_
          unfold rulev
          rw [if_neg hl, if_neg hl]
          exact q
        · right
          refine ⟨⟨r, h1, hu⟩, ?_⟩
          rw [e]
          unfold rulev
          rw [if_neg hl]
          exact q
    · left
      refine back (rulev_cong (fun _ _ => rfl) (fun q a c hq _ _ _ => ?_))
      unfold onev
      by_cases q4 : rs x r q < 4
      · rw [if_pos q4, if_pos q4]
      · rw [if_neg q4, if_neg q4]
        unfold Xw
        by_cases q5 : a = i ∧ c = j
        · rw [if_pos q5, if_pos q5]
          unfold uv
          rw [if_neg (fun z => hu ⟨q, hq, by omega⟩)]
        · rw [if_neg q5, if_neg q5]
/-! bounds -/
def len_ok (pu s v : Nat) : Prop := v = TT ∨ pu * Lv v ≤ Cv v + pu * s
theorem len_cat {pu s t a b : Nat} (ha : ok s a) (hb : ok t b) (hs : s ≤ 100) (ht : t ≤ 100) (h1 : len_ok pu s a) (h2 : len_ok pu t b) : len_ok pu (s + t) (cat a b) := by
  by_cases h : cat a b = TT
  · exact Or.inl h
  · obtain ⟨na, nb, e1, e2, e3, e4⟩ := cat_fin ha hb hs ht h
    have a1 := h1.resolve_left na
    have b1 := h2.resolve_left nb
    right
    rw [e1, e2, Nat.mul_add, Nat.mul_add]
    omega
theorem rowv_len {pu L : Nat} {one : Nat → Nat → Nat → Nat} {sg : Nat → Nat} {i : Nat} (ho : okO L one) (hL : L ≤ 100) (hl : ∀ s a b, s < 10 → a ≤ b → b ≤ L → len_ok pu (b - a) (one s a b)) : ∀ {p b : Nat}, (∀ q, q < p → sg q < 10) → i ≤ b → b ≤ L → len_ok pu (b - i) (rowv one sg i p b)
  | 0, b, _, h1, h2 => by
    unfold rowv
    split
    · right
      have : Lv 0 = 0 := by decide
      rw [this]; omega
    · exact Or.inl rfl
  | p + 1, b, hs, h1, h2 => by
    unfold rowv
    rcases mnr_att (fun a => cat (rowv one sg i p a) (one (sg p) a b)) i b with z | ⟨a, z1, z2, z3⟩
    · exact Or.inl z
    · rw [z3]
      have hs2 : ∀ q, q < p → sg q < 10 := fun q hq => hs q (by omega)
      have := len_cat (rowv_ok (sg := sg) (i := i) ho hL hs2 z1 (by omega)) (ho (sg p) a b (hs p (by omega)) z2 h2) (by omega) (by omega) (rowv_len (sg := sg) (i := i) ho hL hl hs2 z1 (by omega)) (hl (sg p) a b (hs p (by omega)) z2 h2)
      have e3 : a - i + (b - a) = b - i := by omega
      rw [e3] at this
      exact this
/-- the cost of a sign's value at a part, below a bound -/
def cB (K v : Nat) : Prop := v = TT ∨ Cv v ≤ K
theorem cB_up {K K2 v : Nat} (h : cB K v) (hK : K ≤ K2) : cB K2 v := by
  rcases h with h | h
  · exact Or.inl h
  · exact Or.inr (by omega)
theorem cB_le {K v w : Nat} (h : cB K v) (hw : w ≤ v) (hn : v ≠ TT) : cB K w := by
  rcases h with h | h
  · exact absurd h hn
  · right
    have := (v_le w v).mp hw
    omega
/-- the sums of a row's steps; the whole part (i, j) of more than no letter costs M at the most, a smaller one dr a letter and B -/
theorem rowv_sumJ {dr B M L i j : Nat} {one : Nat → Nat → Nat → Nat} {sg : Nat → Nat} (ho : okO L one) (hL : L ≤ 100) (hij : i < j) (hj : j ≤ L) (hM : dr * (j - i) + B ≤ M)
    (h1 : ∀ s, s < 10 → cB M (one s i j)) (h2 : ∀ s a b, s < 10 → i ≤ a → a ≤ b → b ≤ j → ¬ (a = i ∧ b = j) → cB (dr * (b - a) + B) (one s a b)) :
    ∀ {p a b : Nat}, (∀ q, q < p + 1 → sg q < 10) → i ≤ a → a ≤ b → b ≤ j → rowv one sg i p a ≠ TT → one (sg p) a b ≠ TT → Cv (rowv one sg i p a) + Cv (one (sg p) a b) ≤ (if b < j then dr * (b - i) + (p + 1) * B else M + p * B)
  | p, a, b, hs, ha, hab, hb, n1, n2 => by
    -- what stands in the row at a
    have hrow : (a < j → Cv (rowv one sg i p a) ≤ dr * (a - i) + p * B) ∧ (a = j → 1 ≤ p ∧ Cv (rowv one sg i p a) ≤ M + (p - 1) * B) ∧ (a = i → Cv (rowv one sg i p a) ≤ p * B) := by
      cases p with
      | zero =>
        by_cases e : a = i
        · have e0 : rowv one sg i 0 a = 0 := by unfold rowv; rw [if_pos e]
          rw [e0]
          exact ⟨fun _ => by have : Cv 0 = 0 := by decide
                             omega, fun z => by omega, fun _ => by have : Cv 0 = 0 := by decide
                                                                   omega⟩
        · have e0 : rowv one sg i 0 a = TT := by unfold rowv; rw [if_neg e]
          exact absurd e0 n1
      | succ p =>
        have e0 : rowv one sg i (p + 1) a = mnr (fun x => cat (rowv one sg i p x) (one (sg p) x a)) i a := by rw [rowv]
        rcases mnr_att (fun x => cat (rowv one sg i p x) (one (sg p) x a)) i a with z | ⟨x, z1, z2, z3⟩
        · exact absurd (e0.trans z) n1
        · have e1 : rowv one sg i (p + 1) a = cat (rowv one sg i p x) (one (sg p) x a) := e0.trans z3
          rw [e1] at n1 ⊢
          have hs2 : ∀ q, q < p + 1 → sg q < 10 := fun q hq => hs q (by omega)
          obtain ⟨m1, m2, m3, -, -, -⟩ := cat_fin (rowv_ok (sg := sg) (i := i) ho hL (fun q hq => hs q (by omega)) z1 (by omega)) (ho (sg p) x a (hs p (by omega)) z2 (by omega)) (by omega) (by omega) n1
          have ih := rowv_sumJ (sg := sg) ho hL hij hj hM h1 h2 (p := p) (a := x) (b := a) hs2 z1 z2 (by omega) m1 m2
          rw [m3]
          refine ⟨fun z => ?_, fun z => ?_, fun z => ?_⟩
          · rw [if_pos z] at ih; exact ih
          · rw [if_neg (by omega)] at ih
            exact ⟨by omega, by simpa using ih⟩
          · rw [if_pos (by omega), z, Nat.sub_self, Nat.mul_zero, Nat.zero_add] at ih; rw [z]; exact ih
    have e2 : (p + 1) * B = p * B + B := by rw [Nat.add_mul, Nat.one_mul]
    have d1 : dr * (b - i) = dr * (a - i) + dr * (b - a) := by rw [← Nat.mul_add]; congr 1; omega
    by_cases q : a = i ∧ b = j
    · have c1 := (h1 (sg p) (hs p (by omega)))
      rw [← q.1, ← q.2] at c1
      have c2 := c1.resolve_left n2
      have r1 := hrow.2.2 q.1
      rw [if_neg (by omega)]
      omega
    · have c2 := (h2 (sg p) a b (hs p (by omega)) ha hab hb q).resolve_left n2
      by_cases q2 : b < j
      · rw [if_pos q2]
        have r1 := hrow.1 (by omega)
        omega
      · rw [if_neg q2]
        have eb : b = j := by omega
        rw [eb] at d1 c2 ⊢
        by_cases q3 : a = j
        · obtain ⟨r1, r2⟩ := hrow.2.1 q3
          have e4 : j - a = 0 := by omega
          rw [e4, Nat.mul_zero] at c2
          have e3 : p * B = (p - 1) * B + B := by
            conv => lhs; rw [show p = p - 1 + 1 by omega, Nat.add_mul, Nat.one_mul]
          omega
        · have r1 := hrow.1 (by omega)
          omega
/-- the same for a part of no letter -/
theorem rowv_sumI {M L i : Nat} {one : Nat → Nat → Nat → Nat} {sg : Nat → Nat} (ho : okO L one) (hL : L ≤ 100) (hi : i ≤ L) (h1 : ∀ s, s < 10 → cB M (one s i i)) :
    ∀ {p : Nat}, (∀ q, q < p + 1 → sg q < 10) → rowv one sg i p i ≠ TT → one (sg p) i i ≠ TT → Cv (rowv one sg i p i) + Cv (one (sg p) i i) ≤ (p + 1) * M
  | p, hs, n1, n2 => by
    have c2 := (h1 (sg p) (hs p (by omega))).resolve_left n2
    have e2 : (p + 1) * M = p * M + M := by rw [Nat.add_mul, Nat.one_mul]
    have hrow : Cv (rowv one sg i p i) ≤ p * M := by
      cases p with
      | zero =>
        have e0 : rowv one sg i 0 i = 0 := by unfold rowv; rw [if_pos rfl]
        have : Cv 0 = 0 := by decide
        rw [e0]; omega
      | succ p =>
        have e0 : rowv one sg i (p + 1) i = mnr (fun x => cat (rowv one sg i p x) (one (sg p) x i)) i i := by rw [rowv]
        rcases mnr_att (fun x => cat (rowv one sg i p x) (one (sg p) x i)) i i with z | ⟨x, z1, z2, z3⟩
        · exact absurd (e0.trans z) n1
        · have ex : x = i := by omega
          subst ex
          have e1 : rowv one sg x (p + 1) x = cat (rowv one sg x p x) (one (sg p) x x) := e0.trans z3
          rw [e1] at n1 ⊢
          obtain ⟨m1, m2, m3, -, -, -⟩ := cat_fin (rowv_ok (sg := sg) (i := x) ho hL (fun q hq => hs q (by omega)) (Nat.le_refl _) hi) (ho (sg p) x x (hs p (by omega)) (Nat.le_refl _) hi) (by omega) (by omega) n1
          rw [m3]
          exact rowv_sumI (sg := sg) ho hL hi h1 (p := p) (fun q hq => hs q (by omega)) m1 m2
    omega
