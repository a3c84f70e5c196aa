/-! layer 2, reading a grammar: the reader's state. p 0: 0 the state, 1 the names told, 2 the first, 3 the last; p 1: rules of names; p 2: lengths of slots; p 3: signs of slots -/
abbrev PSt : Type := Nat → Nat → Nat
def pst (p : PSt) (r i v : Nat) : PSt := fun r2 i2 => if r2 = r ∧ i2 = i then v else p r2 i2
theorem pst_eq (p : PSt) (r i v : Nat) : pst p r i v r i = v := if_pos ⟨rfl, rfl⟩
theorem pst_ne (p : PSt) {r i v j : Nat} (h : j ≠ i) : pst p r i v r j = p r j := if_neg (fun z => h z.2)
theorem pst_other (p : PSt) {r i v r2 : Nat} (h : r2 ≠ r) : pst p r i v r2 = p r2 := by
  funext j
  exact if_neg (fun z => h z.1)
theorem pst_row (p : PSt) (r i v j : Nat) : pst p r i v r j = if j = i then v else p r j := by
  unfold pst
  by_cases e : j = i
  · rw [if_pos ⟨rfl, e⟩, if_pos e]
  · rw [if_neg (fun z => e z.2), if_neg e]
def isSg (s : Nat) : Prop := (97 ≤ s ∧ s ≤ 100) ∨ (65 ≤ s ∧ s ≤ 70)
def cod (s : Nat) : Nat := if 97 ≤ s then s - 97 else 4 + (s - 65)
theorem cod_lt {s : Nat} (h : isSg s) : cod s < 10 := by
  unfold cod
  unfold isSg at h
  split <;> omega
/-- the slot of the rule that was begun last -/
def cur (p : PSt) : Nat := p 0 3 * 4 + p 1 (p 0 3) - 1
def addP (p : PSt) (s : Nat) : PSt := pst (pst (pst p 3 (cur p * 4 + p 2 (cur p)) (cod s)) 2 (cur p) (p 2 (cur p) + 1)) 0 0 3
def begP (p : PSt) : PSt := pst (pst p 2 (p 0 3 * 4 + p 1 (p 0 3)) 0) 1 (p 0 3) (p 1 (p 0 3) + 1)
/-- what holds of the reader's state while there is no fault -/
def WP (p : PSt) : Prop := p 0 0 ≤ 4 ∧ p 0 1 < 64 ∧ p 0 2 < 6 ∧ p 0 3 < 6 ∧ (∀ n, n < 6 → p 1 n ≤ 4) ∧ (∀ s, s < 25 → p 2 s ≤ 4) ∧ (∀ q, q < 100 → p 3 q < 10) ∧
  (∀ n, n < 6 → 0 < p 1 n → (p 0 1).testBit n = true) ∧ (p 0 0 ≠ 0 → (p 0 1).testBit (p 0 3) = true) ∧ (∀ n, n < 6 → (p 0 1).testBit n = true → 0 < p 1 n ∨ (n = p 0 3 ∧ (p 0 0 = 1 ∨ p 0 0 = 2))) ∧ (p 0 0 = 1 → p 1 (p 0 3) = 0) ∧ (p 0 0 = 2 → p 1 (p 0 3) < 4) ∧ (3 ≤ p 0 0 → 0 < p 1 (p 0 3)) ∧ (p 0 0 = 3 → 1 ≤ p 2 (cur p))
theorem cur_lt {p : PSt} (h : WP p) (h3 : 3 ≤ p 0 0) : cur p < 24 ∧ cur p = p 0 3 * 4 + (p 1 (p 0 3) - 1) := by
  obtain ⟨h1, h2, h4, h5, h6, -, -, -, -, -, -, -, h13, -⟩ := h
  have a1 := h6 _ h5
  have a2 := h13 h3
  unfold cur
  omega
/-- the draft in the class's memory -/
def CD (σ : Mem) (p : PSt) : Prop := σ 7 3 = (p 0 1 : Int) ∧ σ 7 4 = (p 0 2 : Int) ∧ σ 7 5 = (p 0 3 : Int) ∧ σ 7 6 = -1 ∧ (∀ n, n < 6 → σ 8 n = (p 1 n : Int)) ∧ (∀ s, s < 25 → σ 9 s = (p 2 s : Int)) ∧ ∀ q, q < 100 → σ 10 q = (p 3 q : Int)
theorem CD_Dra {σ : Mem} {p : PSt} (h : CD σ p) (hw : WP p) : DraS σ := by
  obtain ⟨h1, h2, h3, h4, h5, h6, h7⟩ := h
  obtain ⟨w1, w2, w3, w4, w5, w6, w7, -⟩ := hw
  exact ⟨h4, fun s hs => by rw [h6 s hs]; have := w6 s hs; omega, fun q hq => by rw [h7 q hq]; have := w7 q hq; omega⟩
def off710 (σ σ2 : Mem) : Prop := ∀ k, k ≠ 7 → k ≠ 8 → k ≠ 9 → k ≠ 10 → σ2 k = σ k
theorem off710_trans {σ τ ω : Mem} (h : off710 σ τ) (h2 : off710 τ ω) : off710 σ ω := fun k a b c d => (h2 k a b c d).trans (h k a b c d)
theorem count7_m {σ : Mem} {p : PSt} (h : CD σ p) (hl : p 0 3 < 6) : f_X4_countOf 7 (σ 7 5) σ = some (p 1 (p 0 3) : Int) := by
  obtain ⟨h1, h2, h3, h4, h5, h6, h7⟩ := h
  unfold f_X4_countOf
  rw [h3, bV_ok (isName_v _ hl), if_neg z10, gd_pos ⟨by omega, by omega⟩, h4, ife_f (by omega) (by omega) (by omega) (by omega) (by omega), Int.toNat_natCast, h5 _ hl, Int.add_zero]
theorem room7_m {σ : Mem} {p : PSt} (h : CD σ p) (hw : WP p) : f_X4_hasRoomForRule σ = some (if p 1 (p 0 3) < 4 then 1 else 0) := by
  have hl := hw.2.2.2.1
  have hc := hw.2.2.2.2.1 _ hl
  unfold f_X4_hasRoomForRule
  rw [bV_ok (count7_m h hl)]
  by_cases q : p 1 (p 0 3) < 4
  · rw [ifle_f (by omega) (by omega) (by omega), if_pos q]
  · rw [ifle_t (by omega) (by omega) (by omega), if_neg q]
theorem isSign_m {s : Nat} (hs : s < 1000) : ∃ v : Int, f_X8_isSign (s : Int) = some v ∧ ((v = 1 ∧ isSg s) ∨ (v = 0 ∧ ¬ isSg s)) := by
  unfold f_X8_isSign isSg
  by_cases q1 : 97 ≤ s ∧ s ≤ 100
  · exact ⟨1, by rw [ifl_f (a := (s : Int)) (b := 97) (by omega) (by omega) (by omega), ifl_t (a := (s : Int)) (b := 101) (by omega) (by omega) (by omega), bV_s, if_neg (by decide)], Or.inl ⟨rfl, Or.inl q1⟩⟩
  · have e : (if zI (s : Int) < zI 97 then some 0 else if zI (s : Int) < zI 101 then some 1 else some 0 : Option Nat) = some 0 := by
      by_cases q : s < 97
      · rw [ifl_t (by omega) (by omega) (by omega)]
      · rw [ifl_f (by omega) (by omega) (by omega), ifl_f (by omega) (by omega) (by omega)]
    rw [e, bV_s, if_pos rfl]
    by_cases q2 : 65 ≤ s ∧ s ≤ 70
    · exact ⟨1, by rw [ifl_f (a := (s : Int)) (b := 65) (by omega) (by omega) (by omega), ifle_f (by omega) (by omega) (by omega)], Or.inl ⟨rfl, Or.inr q2⟩⟩
    · refine ⟨0, ?_, Or.inr ⟨rfl, fun z => z.elim q1 q2⟩⟩
      by_cases q : s < 65
      · rw [ifl_t (by omega) (by omega) (by omega)]
      · rw [ifl_f (by omega) (by omega) (by omega), ifle_t (by omega) (by omega) (by omega)]
/-- Grammar.beginRule -/
theorem beginRule_m {σ : Mem} {p : PSt} (h : CD σ p) (hw : WP p) (h2 : p 0 0 = 2) : ∃ σ2, f_X4_beginRule σ = some σ2 ∧ off710 σ σ2 ∧ CD σ2 (begP p) := by
  have hroom := room7_m h hw
  obtain ⟨c1, c2, c3, c4, c5, c6, c7⟩ := id h
  have hl := hw.2.2.2.1
  have hc := hw.2.2.2.2.2.2.2.2.2.2.2.1 h2
  rw [if_pos hc] at hroom
  have e : ((p 0 3 : Int) * 4) + (p 1 (p 0 3) : Int) = ((p 0 3 * 4 + p 1 (p 0 3) : Nat) : Int) := by omega
  have hes : f_X4_emptySlot 7 ((p 0 3 * 4 + p 1 (p 0 3) : Nat) : Int) σ = some (st σ (7 + 2) (p 0 3 * 4 + p 1 (p 0 3)) 0) := emptySlot_m (by omega)
  have en : (p 1 (p 0 3) : Int) + 1 = ((p 1 (p 0 3) + 1 : Nat) : Int) := by omega
  have e9 : (st σ 9 (p 0 3 * 4 + p 1 (p 0 3)) 0) 7 = σ 7 := st_other _ _ (by decide)
  have e98 : (st σ 9 (p 0 3 * 4 + p 1 (p 0 3)) 0) 8 = σ 8 := st_other _ _ (by decide)
  refine ⟨st (st σ 9 (p 0 3 * 4 + p 1 (p 0 3)) 0) 8 (p 0 3) ((p 1 (p 0 3) + 1 : Nat) : Int), ?_, fun k a b c d => by rw [st_other _ _ b, st_other _ _ c], ?_⟩
  · have hes' : f_X4_emptySlot 7 ((p 0 3 * 4 + p 1 (p 0 3) : Nat) : Int) σ = some (st σ 9 (p 0 3 * 4 + p 1 (p 0 3)) 0) := hes
    unfold f_X4_beginRule
    rw [c3, bV_ok (isName_v _ hl), if_neg z10, bV_ok hroom, if_neg z10, gd_pos ⟨by omega, by omega⟩, Int.toNat_natCast, c5 _ hl, e, bV_ok hes', e9, c3, gd_pos ⟨by omega, by omega⟩, Int.toNat_natCast, e98, c5 _ hl, en, nm_s]
  · unfold CD begP
    rw [pst_other _ (by decide : 0 ≠ 1), pst_other _ (by decide : 0 ≠ 2), pst_other _ (by decide : 2 ≠ 1), pst_other _ (by decide : 3 ≠ 1), pst_other _ (by decide : 3 ≠ 2)]
    refine ⟨?_, ?_, ?_, ?_, fun n hn => ?_, fun s hs => ?_, fun q hq => ?_⟩
    · rw [st_other _ _ (by decide), e9]; exact c1
    · rw [st_other _ _ (by decide), e9]; exact c2
    · rw [st_other _ _ (by decide), e9]; exact c3
    · rw [st_other _ _ (by decide), e9]; exact c4
    · rw [st_row, pst_row, e98, pst_other _ (by decide : 1 ≠ 2)]
      split
      · rfl
      · exact c5 n hn
    · rw [st_other _ _ (by decide), st_row, pst_row]
      split
      · rfl
      · exact c6 s hs
    · rw [st_other _ _ (by decide), st_other _ _ (by decide)]; exact c7 q hq
theorem cod_z {s : Nat} (h : isSg s) : (if zI (s : Int) < zI 97 then some ((4 + (s : Int)) - 65) else some ((s : Int) - 97)) = some ((cod s : Nat) : Int) := by
  unfold isSg at h
  unfold cod
  by_cases q : 97 ≤ s
  · rw [ifl_f (by omega) (by omega) (by omega), if_pos q]
    congr 1
    omega
  · rw [ifl_t (by omega) (by omega) (by omega), if_neg q]
    congr 1
    omega
/-- Scan.addSign -/
theorem addSign8_m {σ : Mem} {p : PSt} {s : Nat} (h : CD σ p) (hl : p 0 3 < 6) (hc : 0 < p 1 (p 0 3)) (hc4 : p 1 (p 0 3) ≤ 4) (hln : p 2 (cur p) ≤ 4) (hs : isSg s) :
    ∃ σ2, f_X8_addSign (s : Int) σ = some (if p 2 (cur p) < 4 then 3 else 5, σ2) ∧ off710 σ σ2 ∧ (p 2 (cur p) < 4 → CD σ2 (addP p s)) ∧ (¬ p 2 (cur p) < 4 → σ2 = σ) := by
  obtain ⟨c1, c2, c3, c4, c5, c6, c7⟩ := id h
  have hcur : cur p = p 0 3 * 4 + (p 1 (p 0 3) - 1) := by unfold cur; omega
  have hcl : cur p < 24 := by omega
  have e : (((p 0 3 : Int) * 4) + (p 1 (p 0 3) : Int)) - 1 = ((cur p : Nat) : Int) := by omega
  unfold f_X8_addSign f_X4_addSign
  rw [cod_z hs, bV_s, bV_ok (count7_m h hl), c3, e]
  by_cases q : p 2 (cur p) < 4
  · have ha : f_X4_addTo 7 ((cur p : Nat) : Int) ((cod s : Nat) : Int) σ = some (1, st (st σ (7 + 3) (cur p * 4 + p 2 (cur p)) ((cod s : Nat) : Int)) (7 + 2) (cur p) ((p 2 (cur p) + 1 : Nat) : Int)) := addTo_m (by omega) (c6 _ (by omega)) q
    refine ⟨st (st σ 10 (cur p * 4 + p 2 (cur p)) ((cod s : Nat) : Int)) 9 (cur p) ((p 2 (cur p) + 1 : Nat) : Int), ?_, fun k a b c d => by rw [st_other _ _ c, st_other _ _ d], fun _ => ?_, fun z => absurd q z⟩
    · have ha' : f_X4_addTo 7 ((cur p : Nat) : Int) ((cod s : Nat) : Int) σ = some (1, st (st σ 10 (cur p * 4 + p 2 (cur p)) ((cod s : Nat) : Int)) 9 (cur p) ((p 2 (cur p) + 1 : Nat) : Int)) := ha
      rw [bL1_ok ha', gd_pos (Or.inr rfl), bL1_s, if_neg z10, if_pos q]
    · have p0 : ∀ j, j ≠ 0 → addP p s 0 j = p 0 j := fun j hj => by
        unfold addP
        rw [pst_ne _ hj, pst_other _ (by decide), pst_other _ (by decide)]
      have p1 : addP p s 1 = p 1 := by
        unfold addP
        rw [pst_other _ (by decide), pst_other _ (by decide), pst_other _ (by decide)]
      have p2 : ∀ j, addP p s 2 j = if j = cur p then p 2 (cur p) + 1 else p 2 j := fun j => by
        unfold addP
        rw [pst_other _ (by decide), pst_row, pst_other _ (by decide)]
      have p3 : ∀ j, addP p s 3 j = if j = cur p * 4 + p 2 (cur p) then cod s else p 3 j := fun j => by
        unfold addP
        rw [pst_other _ (by decide), pst_other _ (by decide), pst_row]
      refine ⟨?_, ?_, ?_, ?_, fun n hn => ?_, fun t ht => ?_, fun t ht => ?_⟩
      · rw [st_other _ _ (by decide), st_other _ _ (by decide), p0 1 (by decide)]; exact c1
      · rw [st_other _ _ (by decide), st_other _ _ (by decide), p0 2 (by decide)]; exact c2
      · rw [st_other _ _ (by decide), st_other _ _ (by decide), p0 3 (by decide)]; exact c3
      · rw [st_other _ _ (by decide), st_other _ _ (by decide)]; exact c4
      · rw [st_other _ _ (by decide), st_other _ _ (by decide), p1]; exact c5 n hn
      · rw [st_row, p2, st_other _ _ (by decide)]
        split
        · rfl
        · exact c6 t ht
      · rw [st_other _ _ (by decide), st_row, p3]
        split
        · rfl
        · exact c7 t ht
  · have ha : f_X4_addTo 7 ((cur p : Nat) : Int) ((cod s : Nat) : Int) σ = some (0, σ) := addTo_full (by omega) (c6 _ (by omega)) (by omega)
    refine ⟨σ, ?_, fun _ _ _ _ _ => rfl, fun z => absurd z q, fun _ => rfl⟩
    rw [bL1_ok ha, gd_pos (Or.inl rfl), bL1_s, if_pos z00, if_neg q]
