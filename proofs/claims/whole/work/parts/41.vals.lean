/-! layer 2, values: a cost, a length and the letters of a text in one number; the lesser number is the cheaper, then the shorter, then the first by letters; TT: nothing (a cost of 100000000 or more counts as nothing) -/
def TT : Nat := 7205759403792793600000000
def Cv (v : Nat) : Nat := v / 72057594037927936
def Lv (v : Nat) : Nat := v / 16777216 % 4294967296
def Tv (v : Nat) : Nat := v % 16777216
def pk (c l t : Nat) : Nat := c * 72057594037927936 + l * 16777216 + t
theorem pk_C {c l t : Nat} (hl : l < 4294967296) (ht : t < 16777216) : Cv (pk c l t) = c := by unfold Cv pk; omega
theorem pk_L {c l t : Nat} (hl : l < 4294967296) (ht : t < 16777216) : Lv (pk c l t) = l := by unfold Lv pk; omega
theorem pk_T {c l t : Nat} (ht : t < 16777216) : Tv (pk c l t) = t := by unfold Tv pk; omega
theorem pk_eta (v : Nat) : pk (Cv v) (Lv v) (Tv v) = v := by unfold pk Cv Lv Tv; omega
theorem Lv_lt (v : Nat) : Lv v < 4294967296 := Nat.mod_lt _ (by decide)
theorem Tv_lt (v : Nat) : Tv v < 16777216 := Nat.mod_lt _ (by decide)
theorem pq_le {c l t c2 l2 t2 : Nat} (hl : l < 4294967296) (ht : t < 16777216) (hl2 : l2 < 4294967296) (ht2 : t2 < 16777216) : pk c l t ≤ pk c2 l2 t2 ↔ c < c2 ∨ (c = c2 ∧ (l < l2 ∨ (l = l2 ∧ t ≤ t2))) := by unfold pk; omega
theorem v_le (a b : Nat) : a ≤ b ↔ Cv a < Cv b ∨ (Cv a = Cv b ∧ (Lv a < Lv b ∨ (Lv a = Lv b ∧ Tv a ≤ Tv b))) := by
  have h := pq_le (c := Cv a) (c2 := Cv b) (Lv_lt a) (Tv_lt a) (Lv_lt b) (Tv_lt b)
  rw [pk_eta, pk_eta] at h
  exact h
theorem C_TT : Cv TT = 100000000 := by decide
/-- a value of a part of s letters -/
def ok (s v : Nat) : Prop := v = TT ∨ (Cv v < 100000000 ∧ Lv v ≤ Cv v + s ∧ (Lv v ≤ 12 → Tv v < 4 ^ Lv v) ∧ (12 < Lv v → Tv v = 0))
theorem ok_TT (s : Nat) : ok s TT := Or.inl rfl
theorem ok_le {s v : Nat} (h : ok s v) : v ≤ TT := by
  rcases h with h | h
  · omega
  · have := h.1
    unfold Cv at this
    unfold TT
    omega
theorem ok_lt {s v : Nat} (h : ok s v) (hn : v ≠ TT) : Cv v < 100000000 ∧ Lv v ≤ Cv v + s ∧ (Lv v ≤ 12 → Tv v < 4 ^ Lv v) ∧ (12 < Lv v → Tv v = 0) := by
  rcases h with h | h
  · exact absurd h hn
  · exact h
theorem ok_nTT {v : Nat} (h : Cv v < 100000000) : v ≠ TT := fun e => by rw [e, C_TT] at h; omega
theorem ok_wide {s t v : Nat} (h : ok s v) (hs : s ≤ t) : ok t v := by
  rcases h with h | h
  · exact Or.inl h
  · exact Or.inr ⟨h.1, by omega, h.2.2⟩
theorem ok_0 (s : Nat) : ok s 0 := Or.inr ⟨by decide, (have : Lv 0 = 0 := by decide
  by omega), by decide, by decide⟩
theorem four_pow {l : Nat} (h : l ≤ 12) : 4 ^ l ≤ 16777216 := by
  have : 4 ^ l ≤ 4 ^ 12 := Nat.pow_le_pow_right (by decide) h
  omega
theorem text_lt {ta tb la lb : Nat} (ha : ta < 4 ^ la) (hb : tb < 4 ^ lb) : ta * 4 ^ lb + tb < 4 ^ (la + lb) := by
  have h1 : (ta + 1) * 4 ^ lb ≤ 4 ^ la * 4 ^ lb := Nat.mul_le_mul_right _ ha
  rw [Nat.pow_add]
  rw [Nat.add_mul, Nat.one_mul] at h1
  omega
/-- a text behind a text -/
def ctext (a b : Nat) : Nat := if Lv a + Lv b ≤ 12 then Tv a * 4 ^ Lv b + Tv b else 0
def cat (a b : Nat) : Nat := if a = TT ∨ b = TT ∨ 100000000 ≤ Cv a + Cv b then TT else pk (Cv a + Cv b) (Lv a + Lv b) (ctext a b)
theorem ctext_lt {s t a b : Nat} (ha : ok s a) (hb : ok t b) (na : a ≠ TT) (nb : b ≠ TT) : (Lv a + Lv b ≤ 12 → ctext a b < 4 ^ (Lv a + Lv b)) ∧ ctext a b < 16777216 := by
  have a1 := ok_lt ha na
  have b1 := ok_lt hb nb
  unfold ctext
  by_cases h : Lv a + Lv b ≤ 12
  · have h2 := text_lt (a1.2.2.1 (by omega)) (b1.2.2.1 (by omega))
    rw [if_pos h]
    exact ⟨fun _ => h2, Nat.lt_of_lt_of_le h2 (four_pow h)⟩
  · rw [if_neg h]
    exact ⟨fun z => absurd z h, by decide⟩
theorem cat_TTl (b : Nat) : cat TT b = TT := if_pos (Or.inl rfl)
theorem cat_TTr (a : Nat) : cat a TT = TT := if_pos (Or.inr (Or.inl rfl))
theorem cat_fin {s t a b : Nat} (ha : ok s a) (hb : ok t b) (hs : s ≤ 100) (ht : t ≤ 100) (h : cat a b ≠ TT) : a ≠ TT ∧ b ≠ TT ∧ Cv (cat a b) = Cv a + Cv b ∧ Lv (cat a b) = Lv a + Lv b ∧ Tv (cat a b) = ctext a b ∧ Cv a + Cv b < 100000000 := by
  by_cases q : a = TT ∨ b = TT ∨ 100000000 ≤ Cv a + Cv b
  · exact absurd (if_pos q) h
  · have na : a ≠ TT := fun z => q (Or.inl z)
    have nb : b ≠ TT := fun z => q (Or.inr (Or.inl z))
    have nc : Cv a + Cv b < 100000000 := Nat.lt_of_not_le fun z => q (Or.inr (Or.inr z))
    have e : cat a b = pk (Cv a + Cv b) (Lv a + Lv b) (ctext a b) := if_neg q
    have a1 := ok_lt ha na
    have b1 := ok_lt hb nb
    have t1 := (ctext_lt ha hb na nb).2
    rw [e, pk_C (by omega) t1, pk_L (by omega) t1, pk_T t1]
    exact ⟨na, nb, rfl, rfl, rfl, nc⟩
theorem cat_ok {s t a b : Nat} (ha : ok s a) (hb : ok t b) (hs : s ≤ 100) (ht : t ≤ 100) : ok (s + t) (cat a b) := by
  by_cases h : cat a b = TT
  · exact Or.inl h
  · obtain ⟨na, nb, e1, e2, e3, e4⟩ := cat_fin ha hb hs ht h
    have a1 := ok_lt ha na
    have b1 := ok_lt hb nb
    have t1 := ctext_lt ha hb na nb
    refine Or.inr ⟨by omega, by omega, fun z => ?_, fun z => ?_⟩
    · rw [e2] at z ⊢
      rw [e3]
      exact t1.1 z
    · rw [e3]
      unfold ctext
      rw [if_neg (by omega)]
theorem cat_eq {s t a b : Nat} (ha : ok s a) (hb : ok t b) (hs : s ≤ 100) (ht : t ≤ 100) (na : a ≠ TT) (nb : b ≠ TT) (hc : Cv a + Cv b < 100000000) : cat a b = pk (Cv a + Cv b) (Lv a + Lv b) (ctext a b) ∧ cat a b ≠ TT := by
  have e : cat a b = pk (Cv a + Cv b) (Lv a + Lv b) (ctext a b) := if_neg (by omega)
  have a1 := ok_lt ha na
  have b1 := ok_lt hb nb
  refine ⟨e, ok_nTT ?_⟩
  rw [e, pk_C (by omega) (ctext_lt ha hb na nb).2]
  exact hc
theorem cat_mono {s t s2 t2 a b a2 b2 : Nat} (ha : ok s a) (hb : ok t b) (ha2 : ok s2 a2) (hb2 : ok t2 b2) (hs : s ≤ 100) (ht : t ≤ 100) (hs2 : s2 ≤ 100) (ht2 : t2 ≤ 100) (h1 : a ≤ a2) (h2 : b ≤ b2) : cat a b ≤ cat a2 b2 := by
  by_cases h : cat a2 b2 = TT
  · rw [h]
    exact ok_le (cat_ok ha hb hs ht)
  · obtain ⟨na2, nb2, e1, e2, e3, e4⟩ := cat_fin ha2 hb2 hs2 ht2 h
    have la2 := ok_le ha2
    have lb2 := ok_le hb2
    have na : a ≠ TT := by omega
    have nb : b ≠ TT := by omega
    have v1 := (v_le a a2).mp h1
    have v2 := (v_le b b2).mp h2
    obtain ⟨e5, n5⟩ := cat_eq ha hb hs ht na nb (by omega)
    obtain ⟨-, -, f1, f2, f3, -⟩ := cat_fin ha hb hs ht n5
    rw [v_le, e1, e2, e3, f1, f2, f3]
    by_cases q1 : Cv a + Cv b < Cv a2 + Cv b2
    · exact Or.inl q1
    · refine Or.inr ⟨by omega, ?_⟩
      by_cases q2 : Lv a + Lv b < Lv a2 + Lv b2
      · exact Or.inl q2
      · refine Or.inr ⟨by omega, ?_⟩
        have g1 : Lv a = Lv a2 := by omega
        have g2 : Lv b = Lv b2 := by omega
        have g3 : Tv a ≤ Tv a2 := by omega
        have g4 : Tv b ≤ Tv b2 := by omega
        unfold ctext
        rw [g1, g2]
        split
        · exact Nat.add_le_add (Nat.mul_le_mul_right _ g3) g4
        · exact Nat.le_refl _
theorem cat_left {s t a b : Nat} (ha : ok s a) (hb : ok t b) (hs : s ≤ 100) (ht : t ≤ 100) : a ≤ cat a b := by
  by_cases h : cat a b = TT
  · rw [h]; exact ok_le ha
  · obtain ⟨na, nb, e1, e2, e3, e4⟩ := cat_fin ha hb hs ht h
    have a1 := ok_lt ha na
    have b1 := ok_lt hb nb
    rw [v_le, e1, e2, e3]
    by_cases q1 : Cv b = 0
    · by_cases q2 : Lv b = 0
      · refine Or.inr ⟨by omega, Or.inr ⟨by omega, ?_⟩⟩
        unfold ctext
        by_cases q3 : Lv a + Lv b ≤ 12
        · rw [if_pos q3, q2]; omega
        · rw [if_neg q3, a1.2.2.2 (by omega)]; omega
      · exact Or.inr ⟨by omega, Or.inl (by omega)⟩
    · exact Or.inl (by omega)
theorem cat_right {s t a b : Nat} (ha : ok s a) (hb : ok t b) (hs : s ≤ 100) (ht : t ≤ 100) : b ≤ cat a b := by
  by_cases h : cat a b = TT
  · rw [h]; exact ok_le hb
  · obtain ⟨na, nb, e1, e2, e3, e4⟩ := cat_fin ha hb hs ht h
    have a1 := ok_lt ha na
    have b1 := ok_lt hb nb
    rw [v_le, e1, e2, e3]
    by_cases q1 : Cv a = 0
    · by_cases q2 : Lv a = 0
      · refine Or.inr ⟨by omega, Or.inr ⟨by omega, ?_⟩⟩
        unfold ctext
        by_cases q3 : Lv a + Lv b ≤ 12
        · rw [if_pos q3]; omega
        · rw [if_neg q3, b1.2.2.2 (by omega)]; omega
      · exact Or.inr ⟨by omega, Or.inl (by omega)⟩
    · exact Or.inl (by omega)
theorem cat_0 {t b : Nat} (hb : ok t b) (ht : t ≤ 100) : cat 0 b = b := by
  by_cases h : b = TT
  · rw [h, cat_TTr]
  · have b1 := ok_lt hb h
    have e0 : Cv 0 = 0 ∧ Lv 0 = 0 ∧ Tv 0 = 0 := by decide
    have n0 : (0 : Nat) ≠ TT := by decide
    obtain ⟨e, -⟩ := cat_eq (ok_0 0) hb (by omega) ht n0 h (by omega)
    rw [e, e0.1, e0.2.1]
    have : ctext 0 b = Tv b := by
      unfold ctext
      rw [e0.2.1, e0.2.2]
      by_cases q3 : 0 + Lv b ≤ 12
      · rw [if_pos q3]; omega
      · rw [if_neg q3, b1.2.2.2 (by omega)]
    rw [this, Nat.zero_add, Nat.zero_add, pk_eta]
/-! the least over a stretch -/
def mnr (f : Nat → Nat) (i : Nat) : Nat → Nat
  | 0 => if i = 0 then min TT (f 0) else TT
  | b + 1 => if i ≤ b + 1 then min (mnr f i b) (f (b + 1)) else TT
theorem mnr_TT (f : Nat → Nat) (i b : Nat) : mnr f i b ≤ TT := by
  induction b with
  | zero => unfold mnr; split <;> omega
  | succ b ih => unfold mnr; split <;> omega
theorem mnr_le {f : Nat → Nat} {i a : Nat} : ∀ {b : Nat}, i ≤ a → a ≤ b → mnr f i b ≤ f a
  | 0, h1, h2 => by
    have e1 : i = 0 := by omega
    have e2 : a = 0 := by omega
    unfold mnr
    rw [if_pos e1, e2]
    omega
  | b + 1, h1, h2 => by
    unfold mnr
    rw [if_pos (by omega)]
    by_cases h : a = b + 1
    · rw [h]; omega
    · have := mnr_le (f := f) (b := b) h1 (by omega)
      omega
theorem mnr_att (f : Nat → Nat) (i : Nat) : ∀ b, mnr f i b = TT ∨ ∃ a, i ≤ a ∧ a ≤ b ∧ mnr f i b = f a
  | 0 => by
    unfold mnr
    by_cases h : i = 0
    · rw [if_pos h]
      by_cases q : f 0 ≤ TT
      · exact Or.inr ⟨0, by omega, by omega, by omega⟩
      · exact Or.inl (by omega)
    · rw [if_neg h]; exact Or.inl rfl
  | b + 1 => by
    unfold mnr
    by_cases h : i ≤ b + 1
    · rw [if_pos h]
      by_cases q : f (b + 1) < mnr f i b
      · exact Or.inr ⟨b + 1, h, Nat.le_refl _, by omega⟩
      · have e : min (mnr f i b) (f (b + 1)) = mnr f i b := by omega
        rw [e]
        rcases mnr_att f i b with z | ⟨a, z1, z2, z3⟩
        · exact Or.inl z
        · exact Or.inr ⟨a, z1, by omega, z3⟩
    · rw [if_neg h]; exact Or.inl rfl
theorem le_mnr {f : Nat → Nat} {i b v : Nat} (hv : v ≤ TT) (h : ∀ a, i ≤ a → a ≤ b → v ≤ f a) : v ≤ mnr f i b := by
  rcases mnr_att f i b with z | ⟨a, z1, z2, z3⟩
  · omega
  · rw [z3]; exact h a z1 z2
theorem mnr_mono {f g : Nat → Nat} {i b : Nat} (h : ∀ a, i ≤ a → a ≤ b → f a ≤ g a) : mnr f i b ≤ mnr g i b :=
  le_mnr (mnr_TT f i b) (fun a h1 h2 => Nat.le_trans (mnr_le h1 h2) (h a h1 h2))
theorem mnr_cong {f g : Nat → Nat} {i b : Nat} (h : ∀ a, i ≤ a → a ≤ b → f a = g a) : mnr f i b = mnr g i b :=
  Nat.le_antisymm (mnr_mono (fun a h1 h2 => Nat.le_of_eq (h a h1 h2))) (mnr_mono (fun a h1 h2 => Nat.le_of_eq (h a h1 h2).symm))
theorem mnr_ok {f : Nat → Nat} {i b s : Nat} (h : ∀ a, i ≤ a → a ≤ b → ok s (f a)) : ok s (mnr f i b) := by
  rcases mnr_att f i b with z | ⟨a, z1, z2, z3⟩
  · exact Or.inl z
  · rw [z3]; exact h a z1 z2
/-! rows: the least values of a rule's first p signs for the parts from i on; one: a sign's values -/
def rowv (one : Nat → Nat → Nat → Nat) (sg : Nat → Nat) (i : Nat) : Nat → Nat → Nat
  | 0, b => if b = i then 0 else TT
  | p + 1, b => mnr (fun a => cat (rowv one sg i p a) (one (sg p) a b)) i b
def okO (L : Nat) (one : Nat → Nat → Nat → Nat) : Prop := ∀ s a b, s < 10 → a ≤ b → b ≤ L → ok (b - a) (one s a b)
theorem rowv_ok {one : Nat → Nat → Nat → Nat} {sg : Nat → Nat} {i L : Nat} (ho : okO L one) (hL : L ≤ 100) : ∀ {p : Nat} {b : Nat}, (∀ q, q < p → sg q < 10) → i ≤ b → b ≤ L → ok (b - i) (rowv one sg i p b)
  | 0, b, _, h1, h2 => by
    unfold rowv
    split
    · exact ok_0 _
    · exact ok_TT _
  | p + 1, b, hs, h1, h2 => by
    unfold rowv
    refine mnr_ok (fun a h3 h4 => ?_)
    have e1 := rowv_ok (sg := sg) (i := i) ho hL (p := p) (b := a) (fun q hq => hs q (by omega)) h3 (by omega)
    have e2 := cat_ok e1 (ho (sg p) a b (hs p (by omega)) h4 h2) (by omega) (by omega)
    have e3 : a - i + (b - a) = b - i := by omega
    rw [e3] at e2
    exact e2
theorem rowv_mono {one one2 : Nat → Nat → Nat → Nat} {sg : Nat → Nat} {i L : Nat} (ho : okO L one) (ho2 : okO L one2) (hL : L ≤ 100) (hle : ∀ s a b, s < 10 → i ≤ a → a ≤ b → b ≤ L → one s a b ≤ one2 s a b) : ∀ {p : Nat} {b : Nat}, (∀ q, q < p → sg q < 10) → i ≤ b → b ≤ L → rowv one sg i p b ≤ rowv one2 sg i p b
  | 0, b, _, h1, h2 => Nat.le_refl _
  | p + 1, b, hs, h1, h2 => by
    unfold rowv
    refine mnr_mono (fun a h3 h4 => ?_)
    have hs2 : ∀ q, q < p → sg q < 10 := fun q hq => hs q (by omega)
    exact cat_mono (rowv_ok ho hL hs2 h3 (by omega)) (ho (sg p) a b (hs p (by omega)) h4 h2) (rowv_ok ho2 hL hs2 h3 (by omega)) (ho2 (sg p) a b (hs p (by omega)) h4 h2) (by omega) (by omega) (by omega) (by omega) (rowv_mono ho ho2 hL hle hs2 h3 (by omega)) (hle (sg p) a b (hs p (by omega)) h3 h4 h2)
theorem rowv_cong {one one2 : Nat → Nat → Nat → Nat} {sg sg2 : Nat → Nat} {i : Nat} : ∀ {p : Nat} {b : Nat}, (∀ q, q < p → sg q = sg2 q) → (∀ q a c, q < p → i ≤ a → a ≤ c → c ≤ b → one (sg q) a c = one2 (sg q) a c) → rowv one sg i p b = rowv one2 sg2 i p b
  | 0, b, _, _ => rfl
  | p + 1, b, hs, h => by
    unfold rowv
    refine mnr_cong (fun a h3 h4 => ?_)
    rw [rowv_cong (p := p) (b := a) (fun q hq => hs q (by omega)) (fun q x c hq hx hxc hc => h q x c (by omega) hx hxc (by omega)), h p a b (by omega) h3 h4 (Nat.le_refl _), hs p (by omega)]
/-- a rule's value for a part -/
def rulev (dr : Nat) (one : Nat → Nat → Nat → Nat) (len : Nat) (sg : Nat → Nat) (i j : Nat) : Nat := if len = 0 then pk (dr * (j - i)) 0 0 else rowv one sg i len j
theorem drop_ok {dr s : Nat} (hd : dr ≤ 9) (hs : s ≤ 100) : ok s (pk (dr * s) 0 0) ∧ Cv (pk (dr * s) 0 0) = dr * s := by
  have h1 : dr * s ≤ 9 * 100 := Nat.mul_le_mul hd hs
  have e1 := pk_C (c := dr * s) (l := 0) (t := 0) (by decide) (by decide)
  have e2 := pk_L (c := dr * s) (l := 0) (t := 0) (by decide) (by decide)
  have e3 := pk_T (c := dr * s) (l := 0) (t := 0) (by decide)
  refine ⟨Or.inr ⟨by omega, by omega, fun _ => ?_, fun z => ?_⟩, e1⟩
  · rw [e2, e3]; decide
  · omega
theorem rulev_ok {dr L len : Nat} {one : Nat → Nat → Nat → Nat} {sg : Nat → Nat} {i j : Nat} (hd : dr ≤ 9) (ho : okO L one) (hL : L ≤ 100) (hs : ∀ q, q < len → sg q < 10) (h1 : i ≤ j) (h2 : j ≤ L) : ok (j - i) (rulev dr one len sg i j) := by
  unfold rulev
  split
  · exact (drop_ok hd (by omega)).1
  · exact rowv_ok ho hL hs h1 h2
theorem rulev_mono {dr L len : Nat} {one one2 : Nat → Nat → Nat → Nat} {sg : Nat → Nat} {i j : Nat} (ho : okO L one) (ho2 : okO L one2) (hL : L ≤ 100) (hle : ∀ s a b, s < 10 → i ≤ a → a ≤ b → b ≤ L → one s a b ≤ one2 s a b) (hs : ∀ q, q < len → sg q < 10) (h1 : i ≤ j) (h2 : j ≤ L) : rulev dr one len sg i j ≤ rulev dr one2 len sg i j := by
  unfold rulev
  split
  · exact Nat.le_refl _
  · exact rowv_mono ho ho2 hL hle hs h1 h2
/-! tables of names' values -/
def onev (lt X : Nat → Nat → Nat → Nat) (s a b : Nat) : Nat := if s < 4 then lt s a b else X (s - 4) a b
def okT (L : Nat) (X : Nat → Nat → Nat → Nat) : Prop := ∀ n i j, n < 6 → i ≤ j → j ≤ L → ok (j - i) (X n i j)
def okL (L : Nat) (lt : Nat → Nat → Nat → Nat) : Prop := ∀ s i j, s < 4 → i ≤ j → j ≤ L → ok (j - i) (lt s i j)
theorem onev_ok {L : Nat} {lt X : Nat → Nat → Nat → Nat} (h1 : okL L lt) (h2 : okT L X) : okO L (onev lt X) := fun s a b hs hab hb => by
  unfold onev
  split
  · exact h1 s a b (by omega) hab hb
  · exact h2 (s - 4) a b (by omega) hab hb
theorem onev_mono {L i : Nat} {lt X Y : Nat → Nat → Nat → Nat} (h : ∀ n a b, n < 6 → i ≤ a → a ≤ b → b ≤ L → X n a b ≤ Y n a b) : ∀ s a b, s < 10 → i ≤ a → a ≤ b → b ≤ L → onev lt X s a b ≤ onev lt Y s a b := fun s a b hs h1 hab hb => by
  unfold onev
  split
  · exact Nat.le_refl _
  · exact h (s - 4) a b (by omega) h1 hab hb
/-- a grammar: rc n: rules of the name n; rl n r: signs of a rule; rs n r p: its p-th sign (0 to 3 letters, 4 to 9 names) -/
def wfG (rc : Nat → Nat) (rl : Nat → Nat → Nat) (rs : Nat → Nat → Nat → Nat) : Prop := ∀ n r p, n < 6 → r < rc n → p < rl n r → rs n r p < 10
def closedT (dr L : Nat) (lt : Nat → Nat → Nat → Nat) (rc : Nat → Nat) (rl : Nat → Nat → Nat) (rs : Nat → Nat → Nat → Nat) (X : Nat → Nat → Nat → Nat) : Prop := ∀ n r i j, n < 6 → r < rc n → i ≤ j → j ≤ L → X n i j ≤ rulev dr (onev lt X) (rl n r) (rs n r) i j
def leastT (dr L : Nat) (lt : Nat → Nat → Nat → Nat) (rc : Nat → Nat) (rl : Nat → Nat → Nat) (rs : Nat → Nat → Nat → Nat) (X : Nat → Nat → Nat → Nat) : Prop := okT L X ∧ closedT dr L lt rc rl rs X ∧ ∀ Y, okT L Y → closedT dr L lt rc rl rs Y → ∀ n i j, n < 6 → i ≤ j → j ≤ L → Y n i j ≤ X n i j
theorem leastT_uniq {dr L : Nat} {lt : Nat → Nat → Nat → Nat} {rc : Nat → Nat} {rl : Nat → Nat → Nat} {rs : Nat → Nat → Nat → Nat} {X Y : Nat → Nat → Nat → Nat} (hX : leastT dr L lt rc rl rs X) (hY : leastT dr L lt rc rl rs Y) : ∀ n i j, n < 6 → i ≤ j → j ≤ L → X n i j = Y n i j := fun n i j h1 h2 h3 =>
  Nat.le_antisymm (hY.2.2 X hX.1 hX.2.1 n i j h1 h2 h3) (hX.2.2 Y hY.1 hY.2.1 n i j h1 h2 h3)
