/-! layer 2, the class's Rows.fill -/
/-- the least cost with how many rows have it, of numbers of rows by cost -/
def Rp (B : Nat) (f : Nat → Nat) (big m c : Int) : Prop := ((∀ k, f k = 0) ∧ m = big ∧ c = 0) ∨ ∃ a : Nat, a ≤ B ∧ m = (a : Int) ∧ c = (f a : Int) ∧ 0 < f a ∧ ∀ k, k < a → f k = 0
def Rq (B : Nat) (f : Nat → Nat) (m c : Int) : Prop := ∃ a : Nat, a ≤ B ∧ m = (a : Int) ∧ c = (f a : Int) ∧ 0 < f a ∧ ∀ k, k < a → f k = 0
theorem Rq_p {B : Nat} {f : Nat → Nat} {big m c : Int} (h : Rq B f m c) : Rp B f big m c := Or.inr h
theorem Rq_uniq {B B2 : Nat} {f : Nat → Nat} {m c m2 c2 : Int} (h : Rq B f m c) (h2 : Rq B2 f m2 c2) : m = m2 ∧ c = c2 := by
  obtain ⟨a, a1, a2, a3, a4, a5⟩ := h
  obtain ⟨b, b1, b2, b3, b4, b5⟩ := h2
  have e : a = b := by
    rcases Nat.lt_trichotomy a b with z | z | z
    · have := b5 a z; omega
    · exact z
    · have := a5 b z; omega
  subst e
  exact ⟨by omega, by omega⟩
theorem Rq_wide {B B2 : Nat} {f : Nat → Nat} {m c : Int} (h : Rq B f m c) (hB : B ≤ B2) : Rq B2 f m c := by
  obtain ⟨a, a1, a2⟩ := h
  exact ⟨a, by omega, a2⟩
/-- one way more to come to a cell -/
theorem Rp_add {B B1 B2 w : Nat} {f g : Nat → Nat} {big m c m2 c2 : Int} (hb : (20000 : Int) ≤ big) (hB2 : B2 ≤ 1000) (hw : w ≤ 9) (h1 : Rp B1 f big m c) (h2 : Rq B2 g m2 c2) (hB1 : B1 ≤ B) (hBw : B2 + w ≤ B) :
    Rq B (fun k => f k + sh w g k) (if m2 + w < m then m2 + w else m) (if m2 + w < m then c2 else if m2 + w = m then c + c2 else c) := by
  obtain ⟨b, b1, b2, b3, b4, b5⟩ := h2
  have s1 : ∀ k, k < b + w → sh w g k = 0 := fun k hk => by
    unfold sh
    by_cases q : w ≤ k
    · rw [if_pos q]; exact b5 _ (by omega)
    · rw [if_neg q]
  have s2 : sh w g (b + w) = g b := by
    unfold sh
    rw [if_pos (by omega), Nat.add_sub_cancel]
  rcases h1 with ⟨a1, a2, a3⟩ | ⟨a, a1, a2, a3, a4, a5⟩
  · have q : m2 + (w : Int) < m := by omega
    rw [if_pos q, if_pos q]
    refine ⟨b + w, by omega, by omega, ?_, ?_, fun k hk => ?_⟩
    · show c2 = ((f (b + w) + sh w g (b + w) : Nat) : Int)
      rw [a1, s2, Nat.zero_add]; exact b3
    · show 0 < f (b + w) + sh w g (b + w)
      rw [s2]; omega
    · show f k + sh w g k = 0
      rw [a1, s1 k hk]
  · by_cases q : m2 + (w : Int) < m
    · rw [if_pos q, if_pos q]
      refine ⟨b + w, by omega, by omega, ?_, ?_, fun k hk => ?_⟩
      · show c2 = ((f (b + w) + sh w g (b + w) : Nat) : Int)
        rw [a5 _ (by omega), s2, Nat.zero_add]; exact b3
      · show 0 < f (b + w) + sh w g (b + w)
        rw [s2]; omega
      · show f k + sh w g k = 0
        rw [a5 k (by omega), s1 k hk]
    · rw [if_neg q, if_neg q]
      by_cases q2 : m2 + (w : Int) = m
      · rw [if_pos q2]
        have e : a = b + w := by omega
        refine ⟨a, by omega, a2, ?_, ?_, fun k hk => ?_⟩
        · show c + c2 = ((f a + sh w g a : Nat) : Int)
          rw [e, s2, ← e]; omega
        · show 0 < f a + sh w g a
          omega
        · show f k + sh w g k = 0
          rw [a5 k hk, s1 k (by omega)]
      · rw [if_neg q2]
        refine ⟨a, by omega, a2, ?_, ?_, fun k hk => ?_⟩
        · show c = ((f a + sh w g a : Nat) : Int)
          rw [s1 a (by omega)]; exact a3
        · show 0 < f a + sh w g a
          omega
        · show f k + sh w g k = 0
          rw [a5 k hk, s1 k (by omega)]
/-- a cell's two numbers written -/
def w2 (σ : Mem) (r x : Nat) (m c : Int) : Mem := st (st σ (r + 1) x m) (r + 2) x c
theorem w2_1 {σ : Mem} {r x y : Nat} {m c : Int} : w2 σ r x m c (r + 1) y = if y = x then m else σ (r + 1) y := by
  unfold w2
  rw [st_other _ _ (by omega : r + 1 ≠ r + 2), st_row]
theorem w2_2 {σ : Mem} {r x y : Nat} {m c : Int} : w2 σ r x m c (r + 2) y = if y = x then c else σ (r + 2) y := by
  unfold w2
  rw [st_row, st_other _ _ (by omega : r + 2 ≠ r + 1)]
theorem w2_o {σ : Mem} {r x k : Nat} {m c : Int} (h1 : k ≠ r + 1) (h2 : k ≠ r + 2) : w2 σ r x m c k = σ k := by
  unfold w2
  rw [st_other _ _ h2, st_other _ _ h1]
theorem w2_id {σ : Mem} {r x : Nat} {m c : Int} (h1 : m = σ (r + 1) x) (h2 : c = σ (r + 2) x) : w2 σ r x m c = σ := by
  funext k y
  unfold w2 st
  by_cases q : k = r + 2 ∧ y = x
  · rw [if_pos q, q.1, q.2, h2]
  · rw [if_neg q]
    by_cases q2 : k = r + 1 ∧ y = x
    · rw [if_pos q2, q2.1, q2.2, h1]
    · rw [if_neg q2]
theorem X7_clear_m {σ : Mem} {r x : Nat} (hx : x < 91) : f_X7_clear r (x : Int) σ = some (w2 σ r x (if x = 0 then 0 else 1073741824) (if x = 0 then 1 else 0)) := by
  unfold f_X7_clear
  rw [ifl_f (by omega) (by omega) (by omega), ifle_f (by omega) (by omega) (by omega), ifle_f (by omega) (by omega) (by omega)]
  by_cases e : x = 0
  · rw [ife_t (by omega), bV_s, gd_pos ⟨by omega, by omega⟩, nm_s, ife_t (by omega), nm_s, if_pos e, if_pos e, Int.toNat_natCast]
    rfl
  · rw [ife_f (by omega) (by omega) (by omega) (by omega) (by omega), bV_s, gd_pos ⟨by omega, by omega⟩, nm_s, ife_f (by omega) (by omega) (by omega) (by omega) (by omega), nm_s, if_neg e, if_neg e, Int.toNat_natCast]
    rfl
theorem offer_m {σ : Mem} {r x b w : Nat} {e : Int} (hx : x < 91) (he : e = (b : Int)) (hb : b < x) (h1 : 0 ≤ σ (r + 1) x ∧ σ (r + 1) x ≤ 1073741824) (h2 : 0 ≤ σ (r + 1) b ∧ σ (r + 1) b ≤ 1000) (hw : w ≤ 9) :
    f_X7_offer r (x : Int) e (w : Int) σ = some (w2 σ r x (if σ (r + 1) b + w < σ (r + 1) x then σ (r + 1) b + w else σ (r + 1) x) (if σ (r + 1) b + w < σ (r + 1) x then σ (r + 2) b else if σ (r + 1) b + w = σ (r + 1) x then σ (r + 2) x + σ (r + 2) b else σ (r + 2) x)) := by
  subst he
  unfold f_X7_offer
  rw [ifl_f (by omega) (by omega) (by omega), ifle_f (by omega) (by omega) (by omega), ifle_f (by omega) (by omega) (by omega), ifl_t (by omega) (by omega) (by omega), gd_pos ⟨by omega, by omega⟩, nm_s, gd_pos ⟨by omega, by omega⟩, Int.toNat_natCast, Int.toNat_natCast]
  by_cases q : σ (r + 1) b + (w : Int) < σ (r + 1) x
  · rw [ifle_f q (by omega) (by omega), nm_s, nm_s, bV_s, if_pos q, if_pos q]
    rw [show (st (st σ (r + 1) x (σ (r + 1) b + (w : Int))) (r + 2) x 0) = w2 σ r x (σ (r + 1) b + (w : Int)) 0 from rfl, w2_1, if_pos rfl, ife_t rfl, nm_s, w2_2, if_pos rfl, w2_2, if_neg (by omega), Int.zero_add]
    congr 1
    unfold w2
    funext k y
    unfold st
    by_cases q3 : k = r + 2 ∧ y = x
    · rw [if_pos q3, if_pos q3]
    · rw [if_neg q3, if_neg q3, if_neg q3]
  · rw [ifle_t (by omega) (by omega) (by omega), bV_s, if_neg q, if_neg q]
    by_cases q2 : σ (r + 1) b + (w : Int) = σ (r + 1) x
    · rw [ife_t q2, nm_s, if_pos q2]
      congr 1
      unfold w2
      funext k y
      unfold st
      by_cases q3 : k = r + 2 ∧ y = x
      · rw [if_pos q3, if_pos q3]
      · rw [if_neg q3, if_neg q3]
        by_cases q4 : k = r + 1 ∧ y = x
        · rw [if_pos q4, q4.1, q4.2]
        · rw [if_neg q4]
    · rw [ife_f q2 (by omega) (by omega) (by omega) (by omega), if_neg q2, w2_id rfl rfl]
/-- a word of up to 12 letters in the memory -/
def WL (σ : Mem) (w L : Nat) (wd : Nat → Nat) : Prop := isW w ∧ σ w 1 = (L : Int) ∧ L ≤ lenW w ∧ ∀ k, k < L → σ (w + 1) k = (wd k : Int) ∧ wd k < 4
theorem lenW_12 (w : Nat) : lenW w ≤ 12 := by unfold lenW; split; decide; split <;> decide
theorem WL_of {σ : Mem} {w L : Nat} {wd : Nat → Nat} (h : WD σ w L wd) : WL σ w L wd := ⟨h.1, h.2.1, h.2.2.2.1, h.2.2.2.2⟩
theorem WL_eq {σ τ : Mem} {w L : Nat} {wd : Nat → Nat} (h : WL σ w L wd) (h1 : τ w = σ w) (h2 : τ (w + 1) = σ (w + 1)) : WL τ w L wd := by
  unfold WL
  rw [h1, h2]
  exact h
theorem letterAt_L {σ : Mem} {w L k : Nat} {wd : Nat → Nat} {e : Int} (h : WL σ w L wd) (hk : k < L) (he : e = (k : Int)) : f_X10_letterAt w e σ = some (wd k : Int) := by
  obtain ⟨h1, h2, h3, h4⟩ := h
  have := lenW_12 w
  unfold f_X10_letterAt
  rw [he, h2, ifl_f (by omega) (by omega) (by omega), ifle_f (by omega) (by omega) (by omega), ifle_f (by omega) (by omega) (by omega), gd_pos ⟨by omega, by omega⟩, Int.toNat_natCast, (h4 k hk).1]
/-- which letters are paired: from the left (0) or from the right end -/
def pcc (a b : Nat → Nat) (ch : Nat) (i j : Nat) : Nat := if a i = b j then 0 else ch
def pcd (a b : Nat → Nat) (ch L1 L2 : Nat) (bk : Int) : Nat → Nat → Nat := if bk = 0 then pcc a b ch else pbk (pcc a b ch) L1 L2
theorem X7_letter_m {σ : Mem} {w L i : Nat} {wd : Nat → Nat} {bk : Int} (hb : bk = 0 ∨ bk = 1) (h : WL σ w L wd) (h0 : 0 < i) (hi : i ≤ L) : f_X7_letter w (i : Int) bk σ = some (wd (if bk = 0 then i - 1 else L - i) : Int) := by
  have hl := h.2.1
  have := lenW_12 w
  have := h.2.2.1
  unfold f_X7_letter
  rcases hb with rfl | rfl
  · rw [if_pos rfl, bV_s, bV_ok (letterAt_L h (k := i - 1) (by omega) (by omega)), if_pos rfl]
  · rw [if_neg (by decide), bV_s, hl, bV_ok (letterAt_L h (k := L - i) (by omega) (by omega)), if_neg (by decide)]
