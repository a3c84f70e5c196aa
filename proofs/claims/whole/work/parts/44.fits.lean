/-! layer 2, the class's fits: a value as one long -/
def enc (v : Nat) : Int := if v = TT then 9223372036854775807 else ((Cv v * 8796093022208 + Lv v * 16777216 + Tv v : Nat) : Int)
def sm (v : Nat) : Prop := v = TT ∨ (Cv v ≤ 1000000 ∧ Lv v ≤ 500000)
theorem enc_TT : enc TT = 9223372036854775807 := if_pos rfl
theorem enc_n {v : Nat} (h : v ≠ TT) : enc v = ((Cv v * 8796093022208 + Lv v * 16777216 + Tv v : Nat) : Int) := if_neg h
theorem enc_rng {v : Nat} (h : sm v) : 0 ≤ enc v ∧ enc v ≤ 9223372036854775807 ∧ (v ≠ TT → enc v < 9223372036854775807) := by
  by_cases q : v = TT
  · rw [q, enc_TT]
    exact ⟨by decide, by decide, fun z => absurd rfl z⟩
  · have h1 := h.resolve_left q
    have h2 := Tv_lt v
    rw [enc_n q]
    exact ⟨by omega, by omega, fun _ => by omega⟩
theorem sm_lt {v : Nat} (h : sm v) (q : v ≠ TT) : v < TT := by
  have h1 := h.resolve_left q
  have := h1.1
  unfold Cv at this
  unfold TT
  omega
theorem sm_le {v : Nat} (h : sm v) : v ≤ TT := by
  by_cases q : v = TT
  · omega
  · exact Nat.le_of_lt (sm_lt h q)
theorem enc_le {a b : Nat} (ha : sm a) (hb : sm b) : enc a ≤ enc b ↔ a ≤ b := by
  have ra := enc_rng ha
  have rb := enc_rng hb
  by_cases qb : b = TT
  · have := sm_le ha
    rw [qb, enc_TT]
    exact ⟨fun _ => this, fun _ => ra.2.1⟩
  · by_cases qa : a = TT
    · have := sm_lt hb qb
      have := rb.2.2 qb
      rw [qa, enc_TT]
      exact ⟨fun z => by omega, fun z => by omega⟩
    · have a1 := ha.resolve_left qa
      have b1 := hb.resolve_left qb
      have ta := Tv_lt a
      have tb := Tv_lt b
      rw [enc_n qa, enc_n qb, v_le]
      omega
theorem enc_lt {a b : Nat} (ha : sm a) (hb : sm b) : enc a < enc b ↔ a < b := by
  have := enc_le hb ha
  omega
theorem enc_inj {a b : Nat} (ha : sm a) (hb : sm b) : enc a = enc b ↔ a = b := by
  have h1 := enc_le ha hb
  have h2 := enc_le hb ha
  omega
theorem enc_min {a b : Nat} (ha : sm a) (hb : sm b) : min (enc a) (enc b) = enc (min a b) := by
  have h1 := enc_le ha hb
  by_cases q : a ≤ b
  · rw [Nat.min_eq_left q]
    have := h1.mpr q
    omega
  · rw [Nat.min_eq_right (by omega)]
    have : ¬ enc a ≤ enc b := fun z => q (h1.mp z)
    omega
theorem sm_min {a b : Nat} (ha : sm a) (hb : sm b) : sm (min a b) := by
  by_cases q : a ≤ b
  · rw [Nat.min_eq_left q]; exact ha
  · rw [Nat.min_eq_right (by omega)]; exact hb
theorem sm_le_of {a b : Nat} (hb : sm b) (hab : a ≤ b) (hl : a ≠ TT → Lv a ≤ 500000) (hn : b ≠ TT) : sm a := by
  by_cases q : a = TT
  · exact Or.inl q
  · have b1 := hb.resolve_left hn
    have := (v_le a b).mp hab
    exact Or.inr ⟨by omega, hl q⟩
/-- Fit.ofOne, Fit.ofNone, Fit.costOf, Fit.lengthOf, Fit.letterAt -/
theorem ofOne_v (c a : Nat) (hc : c ≤ 1000000) (ha : a < 4) : f_X3_ofOne (c : Int) (a : Int) = some (enc (pk c 1 a)) := by
  have hn : pk c 1 a ≠ TT := ok_nTT (by rw [pk_C (by decide) (by omega)]; omega)
  unfold f_X3_ofOne
  rw [i2l_n c (by omega), i2l_n a (by omega), show (43 : Int) = ((43 : Nat) : Int) from rfl, lShl_n c 43 (by decide) (by omega), show (16777216 : Int) = ((16777216 : Nat) : Int) from rfl,
    lOr_n (k := 43) (p := 2 ^ 43) rfl (by decide) (by omega), show c * 2 ^ 43 + 16777216 = (c * 524288 + 1) * 2 ^ 24 by omega, lOr_n (k := 24) (p := 2 ^ 24) rfl (by omega) (by omega),
    enc_n hn, pk_C (by decide) (by omega), pk_L (by decide) (by omega), pk_T (by omega)]
  exact congrArg (fun z : Nat => some (z : Int)) (by omega)
theorem ofNone_v (c : Nat) (hc : c ≤ 1000000) : f_X3_ofNone (c : Int) = some (enc (pk c 0 0)) := by
  have hn : pk c 0 0 ≠ TT := ok_nTT (by rw [pk_C (by decide) (by omega)]; omega)
  unfold f_X3_ofNone
  rw [i2l_n c (by omega), show (43 : Int) = ((43 : Nat) : Int) from rfl, lShl_n c 43 (by decide) (by omega), enc_n hn, pk_C (by decide) (by omega), pk_L (by decide) (by omega), pk_T (by omega)]
  exact congrArg (fun z : Nat => some (z : Int)) (by omega)
theorem costOf_v {v : Nat} (h : sm v) (hn : v ≠ TT) : f_X3_costOf (enc v) = some ((Cv v : Nat) : Int) := by
  have h1 := h.resolve_left hn
  have h2 := Tv_lt v
  unfold f_X3_costOf
  rw [enc_n hn, show (43 : Int) = ((43 : Nat) : Int) from rfl, lShr_n _ 43 (by decide) (by omega), show (Cv v * 8796093022208 + Lv v * 16777216 + Tv v) / 2 ^ 43 = Cv v by omega, l2i_n _ (by omega)]
theorem shr24 {v : Nat} (h : sm v) (hn : v ≠ TT) : lAnd (lShr (enc v) 24) 524287 = ((Lv v : Nat) : Int) := by
  have h1 := h.resolve_left hn
  have h2 := Tv_lt v
  rw [enc_n hn, show (24 : Int) = ((24 : Nat) : Int) from rfl, lShr_n _ 24 (by decide) (by omega), show (Cv v * 8796093022208 + Lv v * 16777216 + Tv v) / 2 ^ 24 = Cv v * 524288 + Lv v by omega,
    show (524287 : Int) = ((524287 : Nat) : Int) from rfl, lAnd_low _ 19 524287 (by decide) (by decide) (by omega)]
  congr 1
  omega
theorem lengthOf_v {v : Nat} (h : sm v) (hn : v ≠ TT) : f_X3_lengthOf (enc v) = some ((Lv v : Nat) : Int) := by
  have h1 := h.resolve_left hn
  unfold f_X3_lengthOf
  rw [shr24 h hn, l2i_n _ (by omega)]
theorem letterAt_v {v j : Nat} (h : sm v) (hn : v ≠ TT) (hl : Lv v ≤ 12) (hj : j < Lv v) : f_X3_letterAt (enc v) (j : Int) = some ((Tv v / 4 ^ (Lv v - 1 - j) % 4 : Nat) : Int) := by
  have h1 := h.resolve_left hn
  have h2 := Tv_lt v
  have e0 : (2 : Int) * (((Lv v : Nat) : Int) - 1 - (j : Int)) = ((2 * (Lv v - 1 - j) : Nat) : Int) := by omega
  have hp : 4 ^ (Lv v - 1 - j) = 2 ^ (2 * (Lv v - 1 - j)) := by rw [Nat.pow_mul]
  unfold f_X3_letterAt
  rw [bV_ok (lengthOf_v h hn), e0, enc_n hn, lShr_n _ _ (by omega) (by omega), ← hp]
  generalize hs : Lv v - 1 - j = s
  have hs12 : s ≤ 11 := by omega
  congr 1
  -- the text's four bits alone are seen
  have key : ∀ w : Nat, w < 9223372036854775808 → iAnd (l2i (w : Int)) 3 = ((w % 4 : Nat) : Int) := by
    intro w hw
    unfold l2i iAnd
    rw [zI_toInt, zL_n, lN_i, show (3 : Int) = ((3 : Nat) : Int) from rfl, zI_n, fa_and, show w &&& 3 = w % 4 from Nat.and_two_pow_sub_one_eq_mod w 2, nI_toInt (by omega)]
  have hlt : (Cv v * 8796093022208 + Lv v * 16777216 + Tv v) / 4 ^ s < 9223372036854775808 := Nat.lt_of_le_of_lt (Nat.div_le_self _ _) (by omega)
  rw [key _ hlt]
  congr 1
  -- 4 ^ s * 4 divides 2 ^ 24
  obtain ⟨k, hk⟩ : ∃ k, 16777216 = 4 ^ s * (4 * k) := by
    refine ⟨4 ^ (11 - s), ?_⟩
    have : 4 * 4 ^ (11 - s) = 4 ^ (12 - s) := by rw [show 12 - s = 11 - s + 1 by omega, Nat.pow_succ, Nat.mul_comm]
    rw [this, ← Nat.pow_add, show s + (12 - s) = 12 by omega]
  have e1 : Cv v * 8796093022208 + Lv v * 16777216 + Tv v = 4 ^ s * (4 * (k * (Cv v * 524288 + Lv v))) + Tv v := by
    have : Cv v * 8796093022208 + Lv v * 16777216 = 16777216 * (Cv v * 524288 + Lv v) := by omega
    rw [this, hk, Nat.mul_assoc, Nat.mul_assoc]
  rw [e1, Nat.mul_add_div (Nat.pow_pos (by decide)), Nat.mul_add_mod]
theorem les_1 {c1 l1 t1 c2 l2 t2 : Nat} (hc : c1 + c2 ≤ 1000000) (hl : l1 + l2 ≤ 500000) (h1 : t1 < 16777216) (h2 : t2 < 16777216) :
    lAnd ((c1 * 8796093022208 + l1 * 16777216 + t1 : Nat) : Int) (-16777216) + lAnd ((c2 * 8796093022208 + l2 * 16777216 + t2 : Nat) : Int) (-16777216) = ((((c1 + c2) * 524288 + (l1 + l2)) * 16777216 : Nat) : Int) := by
  rw [lAnd_high _ (by omega), lAnd_high _ (by omega)]
  omega
theorem les_2 {c l : Nat} (hc : c ≤ 1000000) (hl : l ≤ 500000) : lAnd (lShr (((c * 524288 + l) * 16777216 : Nat) : Int) 24) 524287 = ((l : Nat) : Int) := by
  have h0 : c * 524288 + l ≤ 524288500000 := by omega
  have e3 : c * 524288 + l < 9223372036854775808 := Nat.lt_of_le_of_lt h0 (by decide)
  have e1 : (c * 524288 + l) * 16777216 < 9223372036854775808 := Nat.lt_of_le_of_lt (Nat.mul_le_mul_right _ h0) (by decide)
  have e2 : (c * 524288 + l) * 16777216 / 2 ^ 24 = c * 524288 + l := Nat.mul_div_cancel _ (by decide)
  rw [show (24 : Int) = ((24 : Nat) : Int) from rfl, lShr_n _ 24 (by decide) e1, e2, show (524287 : Int) = ((524287 : Nat) : Int) from rfl, lAnd_low _ 19 524287 (by decide) (by decide) e3]
  have e4 : (c * 524288 + l) % 2 ^ 19 = l := by clear e1 e2 e3; omega
  rw [e4]
theorem les_3 {c l t : Nat} (hc : c ≤ 1000000) (hl : l ≤ 500000) (h1 : t < 16777216) : lAnd ((c * 8796093022208 + l * 16777216 + t : Nat) : Int) 16777215 = ((t : Nat) : Int) := by
  rw [show (16777215 : Int) = ((16777215 : Nat) : Int) from rfl, lAnd_low _ 24 16777215 (by decide) (by decide) (by omega)]
  exact congrArg (fun z : Nat => (z : Int)) (by omega)
theorem les_4 {t1 l2 t2 : Nat} (hl : l2 ≤ 12) (h2 : t2 < 4 ^ l2) (h3 : t1 * 4 ^ l2 + t2 < 16777216) : lOr (lShl ((t1 : Nat) : Int) (l2i ((2 * l2 : Nat) : Int))) ((t2 : Nat) : Int) = ((t1 * 4 ^ l2 + t2 : Nat) : Int) := by
  have hp : 2 ^ (2 * l2) = 4 ^ l2 := by rw [Nat.pow_mul]
  rw [l2i_n _ (by omega), lShl_n _ _ (by omega) (by rw [hp]; omega), hp, lOr_n (k := 2 * l2) (p := 4 ^ l2) hp h2 (by omega)]
theorem les_5 {c l t : Nat} (hc : c ≤ 1000000) (hl : l ≤ 500000) (h : t < 16777216) : lOr (((c * 524288 + l) * 16777216 : Nat) : Int) ((t : Nat) : Int) = (((c * 524288 + l) * 16777216 + t : Nat) : Int) :=
  lOr_n (k := 24) (p := 16777216) (by decide) h (by omega)
theorem lcmp12 (l : Nat) (h : l ≤ 500000) : (zI 0 < zI (lCmp ((l : Nat) : Int) 12)) ↔ 12 < l := by
  rw [lCmp_gt (by omega) (by omega) (by decide) (by decide)]
  omega
theorem les_end {best x : Int} (hb : 0 ≤ best ∧ best ≤ 9223372036854775807) (hx : 0 ≤ x ∧ x ≤ 9223372036854775807) : (if zI 0 ≤ zI (lCmp x best) then some best else some x) = some (min best x) := by
  have h := lCmp_ge (a := x) (b := best) (by omega) (by omega) (by omega) (by omega)
  by_cases q : best ≤ x
  · rw [if_pos (h.mpr q)]
    congr 1; omega
  · rw [if_neg (fun z => q (h.mp z))]
    congr 1; omega
theorem enc_cat {s t a b : Nat} (ha : ok s a) (hb : ok t b) (hs : s ≤ 100) (ht : t ≤ 100) (qa : a ≠ TT) (qb : b ≠ TT) (su : Cv a + Cv b ≤ 1000000) (sl : Lv a + Lv b ≤ 500000) :
    sm (cat a b) ∧ enc (cat a b) = ((((Cv a + Cv b) * 524288 + (Lv a + Lv b)) * 16777216 + ctext a b : Nat) : Int) ∧ ctext a b < 16777216 := by
  obtain ⟨ce, cn⟩ := cat_eq ha hb hs ht qa qb (by omega)
  obtain ⟨-, -, f1, f2, f3, -⟩ := cat_fin ha hb hs ht cn
  refine ⟨Or.inr ⟨by omega, by omega⟩, ?_, (ctext_lt ha hb qa qb).2⟩
  rw [enc_n cn, f1, f2, f3]
  exact congrArg (fun z : Nat => (z : Int)) (by omega)
theorem les_main {B A1 A2 S R : Int} {l : Nat} (hB : 0 ≤ B ∧ B ≤ 9223372036854775807) (h1 : 0 ≤ A1 ∧ A1 < 9223372036854775807) (h2 : 0 ≤ A2 ∧ A2 < 9223372036854775807) (hl : l ≤ 500000)
    (e1 : lAnd A1 (-16777216) + lAnd A2 (-16777216) = S) (e2 : lAnd (lShr S 24) 524287 = (l : Int)) (hS : 0 ≤ S ∧ S ≤ R) (hR : R ≤ 9223372036854775807)
    (e3 : l ≤ 12 → lOr S (lOr (lShl (lAnd A1 16777215) (l2i (2 * lAnd (lShr A2 24) 524287))) (lAnd A2 16777215)) = R) (e4 : 12 < l → S = R) : f_X3_lesser B A1 A2 = some (min B R) := by
  have n1 : ¬ zI (lCmp A1 9223372036854775807) = zI 0 := fun z => by
    have := (lCmp_eq (a := A1) (b := 9223372036854775807) (by omega) (by omega) (by decide) (by decide)).mp z
    omega
  have n2 : ¬ zI (lCmp A2 9223372036854775807) = zI 0 := fun z => by
    have := (lCmp_eq (a := A2) (b := 9223372036854775807) (by omega) (by omega) (by decide) (by decide)).mp z
    omega
  have hcmp := lCmp_le (a := S) (b := B) (by omega) (by omega) (by omega) (by omega)
  have endd := les_end (best := B) (x := R) hB ⟨by omega, hR⟩
  have e6 := lcmp12 l hl
  unfold f_X3_lesser
  simp only [nm]
  rw [if_neg n1, if_neg n2, e1, e2]
  by_cases q1 : S ≤ B
  · rw [if_pos (hcmp.mpr q1)]
    by_cases q3 : l ≤ 12
    · rw [if_neg (fun z => absurd (e6.mp z) (Nat.not_lt.mpr q3)), e3 q3, bV_s]
      exact endd
    · rw [if_pos (e6.mpr (Nat.lt_of_not_le q3)), bV_s, e4 (Nat.lt_of_not_le q3)]
      exact endd
  · rw [if_neg (fun z => q1 (hcmp.mp z)), Int.min_eq_left (by omega)]
theorem lesser_v {s t best a b : Nat} (ha : ok s a) (hb : ok t b) (hs : s ≤ 100) (ht : t ≤ 100) (hbest : sm best) (sa : sm a) (sb : sm b) (hsum : a ≠ TT → b ≠ TT → Cv a + Cv b ≤ 1000000 ∧ Lv a + Lv b ≤ 500000) :
    f_X3_lesser (enc best) (enc a) (enc b) = some (enc (min best (cat a b))) := by
  have rb := enc_rng hbest
  by_cases qa : a = TT
  · unfold f_X3_lesser
    rw [qa, cat_TTl, Nat.min_eq_left (sm_le hbest), enc_TT, if_pos ((lCmp_eq (by decide) (by decide) (by decide) (by decide)).mpr rfl)]
  · have r1 := enc_rng sa
    have r1' := r1.2.2 qa
    by_cases qb : b = TT
    · have n1 : ¬ zI (lCmp (enc a) 9223372036854775807) = zI 0 := fun z => absurd ((lCmp_eq (a := enc a) (b := 9223372036854775807) (Int.le_trans (by decide) r1.1) (Int.lt_trans r1' (by decide)) (by decide) (by decide)).mp z) (Int.ne_of_lt r1')
      unfold f_X3_lesser
      rw [if_neg n1, qb, cat_TTr, Nat.min_eq_left (sm_le hbest), enc_TT, if_pos ((lCmp_eq (by decide) (by decide) (by decide) (by decide)).mpr rfl)]
    · have r2 := enc_rng sb
      obtain ⟨su, sl⟩ := hsum qa qb
      have hca := (ok_lt ha qa).2.2.1
      have hcb := (ok_lt hb qb).2.2.1
      obtain ⟨smc, ec, hct⟩ := enc_cat ha hb hs ht qa qb su sl
      have rc := enc_rng smc
      have ca : Cv a ≤ 1000000 := Nat.le_trans (Nat.le_add_right _ _) su
      have cb : Cv b ≤ 1000000 := Nat.le_trans (Nat.le_add_left _ _) su
      have la : Lv a ≤ 500000 := Nat.le_trans (Nat.le_add_right _ _) sl
      have lb : Lv b ≤ 500000 := Nat.le_trans (Nat.le_add_left _ _) sl
      rw [← enc_min hbest smc]
      refine les_main (S := ((((Cv a + Cv b) * 524288 + (Lv a + Lv b)) * 16777216 : Nat) : Int)) (l := Lv a + Lv b) ⟨rb.1, rb.2.1⟩ ⟨r1.1, r1'⟩ ⟨r2.1, r2.2.2 qb⟩ sl ?_ (les_2 su sl) ⟨Int.natCast_nonneg _, ?_⟩ rc.2.1 (fun q => ?_) (fun q => ?_)
      · rw [enc_n qa, enc_n qb]; exact les_1 su sl (Tv_lt a) (Tv_lt b)
      · rw [ec]; exact Int.ofNat_le.mpr (Nat.le_add_right _ _)
      · have e3 : lAnd (enc a) 16777215 = ((Tv a : Nat) : Int) := by rw [enc_n qa]; exact les_3 ca la (Tv_lt a)
        have e4 : lAnd (enc b) 16777215 = ((Tv b : Nat) : Int) := by rw [enc_n qb]; exact les_3 cb lb (Tv_lt b)
        have htx : ctext a b = Tv a * 4 ^ Lv b + Tv b := if_pos q
        have e9 : (2 : Int) * ((Lv b : Nat) : Int) = ((2 * Lv b : Nat) : Int) := rfl
        have lb12 : Lv b ≤ 12 := Nat.le_trans (Nat.le_add_left _ _) q
        rw [htx] at hct
        rw [shr24 sb qb, e9, e3, e4, les_4 lb12 (hcb lb12) hct, ← htx, ec]
        rw [← htx] at hct
        exact les_5 su sl hct
      · have htx : ctext a b = 0 := if_neg (Nat.not_le.mpr q)
        rw [ec, htx, Nat.add_zero]
