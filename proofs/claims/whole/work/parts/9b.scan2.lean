/-! layer 2, reading a grammar: one sign -/
def clsP (p : PSt) (s : Nat) : PSt := if s = 124 ∧ p 1 (p 0 3) < 4 then pst p 0 0 2 else if s = 59 ∧ p 0 1 ≠ 63 then pst p 0 0 0 else pst p 0 0 5
def namP (p : PSt) (s : Nat) : PSt := pst (pst (pst (pst p 0 2 (if p 0 1 = 0 then s - 65 else p 0 2)) 0 1 (p 0 1 ||| 2 ^ (s - 65))) 0 3 (s - 65)) 0 0 1
noncomputable def stepP (p : PSt) (s : Nat) : PSt :=
  if p 0 0 = 0 then @ite _ (65 ≤ s ∧ s ≤ 70 ∧ ¬ (p 0 1).testBit (s - 65) = true) (Classical.propDecidable _) (namP p s) (pst p 0 0 5)
  else if p 0 0 = 1 then (if s = 61 then pst p 0 0 2 else pst p 0 0 5)
  else if p 0 0 = 2 then (if s = 95 then pst (begP p) 0 0 4 else @ite _ (isSg s) (Classical.propDecidable _) (addP (begP p) s) (pst p 0 0 5))
  else @ite _ (p 0 0 = 3 ∧ isSg s) (Classical.propDecidable _) (if p 2 (cur p) < 4 then addP p s else pst p 0 0 5) (clsP p s)
/-- what holds behind a rule's first sign -/
def WB (p : PSt) : Prop := p 0 1 < 64 ∧ p 0 2 < 6 ∧ p 0 3 < 6 ∧ (∀ n, n < 6 → p 1 n ≤ 4) ∧ (∀ s, s < 25 → p 2 s ≤ 4) ∧ (∀ q, q < 100 → p 3 q < 10) ∧ (∀ n, n < 6 → 0 < p 1 n → (p 0 1).testBit n = true) ∧ (∀ n, n < 6 → (p 0 1).testBit n = true → 0 < p 1 n) ∧ 0 < p 1 (p 0 3)
theorem WB_of {p : PSt} (h : WP p) (h3 : 3 ≤ p 0 0) : WB p := by
  obtain ⟨h1, h2, h4, h5, h6, h7, h8, h9, h10, h11, h12, h13, h14, h15⟩ := h
  exact ⟨h2, h4, h5, h6, h7, h8, h9, fun n hn hb => (h11 n hn hb).elim id (fun z => by omega), h14 h3⟩
theorem p00 {p : PSt} {v j : Nat} (h : j ≠ 0) : pst p 0 0 v 0 j = p 0 j := pst_ne p h
theorem pr0 {p : PSt} {v r : Nat} (h : r ≠ 0) : pst p 0 0 v r = p r := pst_other p h
theorem cur_0 {p : PSt} {v : Nat} : cur (pst p 0 0 v) = cur p := by
  unfold cur
  rw [p00 (by decide), pr0 (by decide)]
theorem WB_0 {p : PSt} {v : Nat} (h : WB p) : WB (pst p 0 0 v) := by
  unfold WB
  rw [p00 (by decide), p00 (by decide), p00 (by decide), pr0 (by decide), pr0 (by decide), pr0 (by decide)]
  exact h
theorem WP_WB {p : PSt} (h : WB p) (h0 : p 0 0 = 0 ∨ (p 0 0 = 2 ∧ p 1 (p 0 3) < 4) ∨ (p 0 0 = 3 ∧ 1 ≤ p 2 (cur p)) ∨ p 0 0 = 4) : WP p := by
  obtain ⟨h1, h2, h3, h4, h5, h6, h7, h8, h9⟩ := h
  refine ⟨by omega, h1, h2, h3, h4, h5, h6, h7, fun _ => h7 _ h3 h9, fun n hn hb => Or.inl (h8 n hn hb), fun z => by omega, fun z => by omega, fun _ => h9, fun z => by omega⟩
theorem WB_beg {p : PSt} (h : WP p) (h2 : p 0 0 = 2) : WB (begP p) ∧ cur (begP p) = p 0 3 * 4 + p 1 (p 0 3) ∧ begP p 2 (cur (begP p)) = 0 ∧ (∀ j, begP p 0 j = p 0 j) ∧ begP p 1 (p 0 3) = p 1 (p 0 3) + 1 := by
  obtain ⟨w1, w2, w3, w4, w5, w6, w7, w8, w9, w10, w11, w12, w13, w14⟩ := h
  have e0 : begP p 0 = p 0 := by unfold begP; rw [pst_other _ (by decide), pst_other _ (by decide)]
  have e1 : ∀ n, begP p 1 n = if n = p 0 3 then p 1 (p 0 3) + 1 else p 1 n := fun n => by unfold begP; rw [pst_row, pst_other _ (by decide : 1 ≠ 2)]
  have e2 : ∀ s, begP p 2 s = if s = p 0 3 * 4 + p 1 (p 0 3) then 0 else p 2 s := fun s => by unfold begP; rw [pst_other _ (by decide), pst_row]
  have e3 : begP p 3 = p 3 := by unfold begP; rw [pst_other _ (by decide), pst_other _ (by decide)]
  have ecur : cur (begP p) = p 0 3 * 4 + p 1 (p 0 3) := by
    unfold cur
    rw [e0, e1, if_pos rfl]; omega
  have hc := w12 h2
  have hb := w9 (by omega)
  refine ⟨⟨by rw [e0]; exact w2, by rw [e0]; exact w3, by rw [e0]; exact w4, fun n hn => ?_, fun s hs => ?_, by rw [e3]; exact w7, fun n hn hp => ?_, fun n hn hp => ?_, ?_⟩, ecur, ?_, fun j => by rw [e0], by rw [e1, if_pos rfl]⟩
  · rw [e1]
    have := w5 n hn
    split <;> omega
  · rw [e2]
    have := w6 s hs
    split <;> omega
  · rw [e0]
    rw [e1] at hp
    by_cases e : n = p 0 3
    · rw [e]; exact hb
    · rw [if_neg e] at hp; exact w8 n hn hp
  · rw [e0] at hp
    rw [e1]
    by_cases e : n = p 0 3
    · rw [if_pos e]; omega
    · rw [if_neg e]
      rcases w10 n hn hp with z | z
      · exact z
      · exact absurd z.1 e
  · rw [e0, e1, if_pos rfl]; omega
  · rw [e2, ecur, if_pos rfl]
theorem WB_add {p : PSt} {s : Nat} (h : WB p) (hl : p 2 (cur p) < 4) (hs : isSg s) : WP (addP p s) ∧ (∀ j, j ≠ 0 → addP p s 0 j = p 0 j) ∧ addP p s 0 0 = 3 ∧ addP p s 1 = p 1 ∧ cur (addP p s) = cur p ∧ (∀ j, addP p s 2 j = if j = cur p then p 2 (cur p) + 1 else p 2 j) ∧ ∀ j, addP p s 3 j = if j = cur p * 4 + p 2 (cur p) then cod s else p 3 j := by
  have q0 : ∀ j, j ≠ 0 → addP p s 0 j = p 0 j := fun j hj => by
    unfold addP
    rw [pst_ne _ hj, pst_other _ (by decide), pst_other _ (by decide)]
  have q00 : addP p s 0 0 = 3 := by unfold addP; rw [pst_eq]
  have q1 : addP p s 1 = p 1 := by
    unfold addP
    rw [pst_other _ (by decide), pst_other _ (by decide), pst_other _ (by decide)]
  have q2 : ∀ j, addP p s 2 j = if j = cur p then p 2 (cur p) + 1 else p 2 j := fun j => by
    unfold addP
    rw [pst_other _ (by decide), pst_row, pst_other _ (by decide)]
  have q3 : ∀ j, addP p s 3 j = if j = cur p * 4 + p 2 (cur p) then cod s else p 3 j := fun j => by
    unfold addP
    rw [pst_other _ (by decide), pst_other _ (by decide), pst_row]
  have qc : cur (addP p s) = cur p := by
    unfold cur
    rw [q0 3 (by decide), q1]
  obtain ⟨h1, h2, h3, h4, h5, h6, h7, h8, h9⟩ := h
  refine ⟨WP_WB ⟨by rw [q0 1 (by decide)]; exact h1, by rw [q0 2 (by decide)]; exact h2, by rw [q0 3 (by decide)]; exact h3, by rw [q1]; exact h4, fun t ht => ?_, fun t ht => ?_, by rw [q1, q0 1 (by decide)]; exact h7, by rw [q1, q0 1 (by decide)]; exact h8, by rw [q1, q0 3 (by decide)]; exact h9⟩ (Or.inr (Or.inr (Or.inl ⟨q00, ?_⟩))), q0, q00, q1, qc, q2, q3⟩
  · rw [q2]
    have := h5 t ht
    split <;> omega
  · rw [q3]
    have := h6 t ht
    have := cod_lt hs
    split <;> omega
  · rw [qc, q2, if_pos rfl]; omega
/-- a sign read: what held holds on, or a fault is there -/
theorem WP_step {p : PSt} {s : Nat} (h : WP p) (h5 : stepP p s 0 0 ≠ 5) : WP (stepP p s) := by
  unfold stepP at h5 ⊢
  by_cases q0 : p 0 0 = 0
  · rw [if_pos q0] at h5 ⊢
    by_cases q : 65 ≤ s ∧ s ≤ 70 ∧ ¬ (p 0 1).testBit (s - 65) = true
    · rw [if_pos q]
      obtain ⟨w1, w2, w3, w4, w5, w6, w7, w8, w9, w10, w11, w12, w13, w14⟩ := h
      have e1 : namP p s 0 1 = p 0 1 ||| 2 ^ (s - 65) := by unfold namP; rw [pst_ne _ (by decide), pst_ne _ (by decide), pst_eq]
      have e2 : namP p s 0 2 = if p 0 1 = 0 then s - 65 else p 0 2 := by unfold namP; rw [pst_ne _ (by decide), pst_ne _ (by decide), pst_ne _ (by decide), pst_eq]
      have e3 : namP p s 0 3 = s - 65 := by unfold namP; rw [pst_ne _ (by decide), pst_eq]
      have e0 : namP p s 0 0 = 1 := by unfold namP; rw [pst_eq]
      have er : ∀ r, r ≠ 0 → namP p s r = p r := fun r hr => by unfold namP; rw [pst_other _ hr, pst_other _ hr, pst_other _ hr, pst_other _ hr]
      have hm := (mask6 (p 0 1) w2 (s - 65) (by omega)).2
      have hbit := mask7_bit (p 0 1) (by omega) (s - 65) (by omega)
      have hz : p 1 (s - 65) = 0 := by
        refine Nat.eq_zero_of_not_pos (fun z => q.2.2 (w8 (s - 65) (by omega) z))
      refine ⟨by omega, by rw [e1]; exact hm, ?_, by rw [e3]; omega, by rw [er 1 (by decide)]; exact w5, by rw [er 2 (by decide)]; exact w6, by rw [er 3 (by decide)]; exact w7, fun n hn hp => ?_, fun _ => ?_, fun n hn hp => ?_, fun _ => by rw [e3, er 1 (by decide)]; exact hz, fun z => by omega, fun z => by omega, fun z => by omega⟩
      · rw [e2]
        split <;> omega
      · rw [er 1 (by decide)] at hp
        rw [e1, hbit n (by omega), w8 n hn hp]
        rfl
      · rw [e1, e3, hbit _ (by omega), decide_eq_true rfl, Bool.or_true]
      · rw [e1, hbit n (by omega), Bool.or_eq_true, decide_eq_true_eq] at hp
        rw [er 1 (by decide), e3, e0]
        rcases hp with hp | hp
        · rcases w10 n hn hp with z | z
          · exact Or.inl z
          · omega
        · exact Or.inr ⟨hp.symm, Or.inl rfl⟩
    · rw [if_neg q, pst_eq] at h5
      exact absurd rfl h5
  · rw [if_neg q0] at h5 ⊢
    by_cases q1 : p 0 0 = 1
    · rw [if_pos q1] at h5 ⊢
      by_cases q : s = 61
      · rw [if_pos q]
        obtain ⟨w1, w2, w3, w4, w5, w6, w7, w8, w9, w10, w11, w12, w13, w14⟩ := h
        have hc := w11 q1
        unfold WP
        rw [pst_eq, p00 (by decide), p00 (by decide), p00 (by decide), pr0 (by decide), pr0 (by decide), pr0 (by decide)]
        refine ⟨by decide, w2, w3, w4, w5, w6, w7, w8, fun _ => w9 q0, fun n hn hp => ?_, fun z => by omega, fun _ => by omega, fun z => by omega, fun z => by omega⟩
        rcases w10 n hn hp with z | z
        · exact Or.inl z
        · exact Or.inr ⟨z.1, Or.inr rfl⟩
      · rw [if_neg q, pst_eq] at h5
        exact absurd rfl h5
    · rw [if_neg q1] at h5 ⊢
      by_cases q2 : p 0 0 = 2
      · rw [if_pos q2] at h5 ⊢
        obtain ⟨b1, b2, b3, b4, b5⟩ := WB_beg h q2
        by_cases q : s = 95
        · rw [if_pos q]
          exact WP_WB (WB_0 b1) (Or.inr (Or.inr (Or.inr (pst_eq _ _ _ _))))
        · rw [if_neg q] at h5 ⊢
          by_cases q3 : isSg s
          · rw [if_pos q3]
            exact (WB_add b1 (by rw [b3]; decide) q3).1
          · rw [if_neg q3, pst_eq] at h5
            exact absurd rfl h5
      · rw [if_neg q2] at h5 ⊢
        have hB := WB_of h (by omega)
        by_cases q : p 0 0 = 3 ∧ isSg s
        · rw [if_pos q] at h5 ⊢
          by_cases q3 : p 2 (cur p) < 4
          · rw [if_pos q3]
            exact (WB_add hB q3 q.2).1
          · rw [if_neg q3, pst_eq] at h5
            exact absurd rfl h5
        · rw [if_neg q] at h5 ⊢
          unfold clsP at h5 ⊢
          by_cases q3 : s = 124 ∧ p 1 (p 0 3) < 4
          · rw [if_pos q3]
            exact WP_WB (WB_0 hB) (Or.inr (Or.inl ⟨pst_eq _ _ _ _, by rw [p00 (by decide), pr0 (by decide)]; exact q3.2⟩))
          · rw [if_neg q3] at h5 ⊢
            by_cases q4 : s = 59 ∧ p 0 1 ≠ 63
            · rw [if_pos q4]
              exact WP_WB (WB_0 hB) (Or.inl (pst_eq _ _ _ _))
            · rw [if_neg q4, pst_eq] at h5
              exact absurd rfl h5
theorem CD_0 {σ : Mem} {p : PSt} {v : Nat} (h : CD σ p) : CD σ (pst p 0 0 v) := by
  unfold CD
  rw [p00 (by decide), p00 (by decide), p00 (by decide), pr0 (by decide), pr0 (by decide), pr0 (by decide)]
  exact h
theorem closeRule_m {σ : Mem} {p : PSt} {s : Nat} (h : CD σ p) (hw : WP p) (hs : s < 1000) : f_X8_closeRule (s : Int) σ = some ((clsP p s 0 0 : Nat) : Int) ∧ (clsP p s 0 0 ≠ 5 → CD σ (clsP p s)) := by
  have hroom := room7_m h hw
  have h63 := h.1
  have hb := hw.2.1
  unfold f_X8_closeRule clsP
  by_cases q1 : s = 124
  · rw [ife_t (a := (s : Int)) (b := 124) (by omega), hroom]
    by_cases q2 : p 1 (p 0 3) < 4
    · rw [if_pos q2, bV_s, if_neg z10, bV_s, if_neg (by decide), if_pos ⟨q1, q2⟩, pst_eq]
      exact ⟨rfl, fun _ => CD_0 h⟩
    · rw [if_neg q2, bV_s, if_pos z00, bV_s, if_pos rfl, ife_f (a := (s : Int)) (b := 59) (by omega) (by omega) (by omega) (by omega) (by omega), if_neg (fun z => q2 z.2), if_neg (fun z => by omega), pst_eq]
      exact ⟨rfl, fun z => absurd rfl z⟩
  · rw [ife_f (a := (s : Int)) (b := 124) (by omega) (by omega) (by omega) (by omega) (by omega), bV_s, if_pos rfl, if_neg (c := s = 124 ∧ p 1 (p 0 3) < 4) (fun z => q1 z.1)]
    by_cases q3 : s = 59
    · unfold f_X4_hasRoomForName
      rw [ife_t (a := (s : Int)) (b := 59) (by omega), h63]
      by_cases q4 : p 0 1 = 63
      · rw [ife_t (by omega), bV_s, if_pos z00, if_neg (fun z => z.2 q4), pst_eq]
        exact ⟨rfl, fun z => absurd rfl z⟩
      · rw [ife_f (by omega) (by omega) (by omega) (by omega) (by omega), bV_s, if_neg z10, if_pos ⟨q3, q4⟩, pst_eq]
        exact ⟨rfl, fun _ => CD_0 h⟩
    · rw [ife_f (a := (s : Int)) (b := 59) (by omega) (by omega) (by omega) (by omega) (by omega), if_neg (fun z => q3 z.1), pst_eq]
      exact ⟨rfl, fun z => absurd rfl z⟩
/-- Scan.next -/
theorem next_m {σ : Mem} {p : PSt} {s : Nat} (h : CD σ p) (hw : WP p) (hs : s < 1000) : ∃ σ2, f_X8_next ((p 0 0 : Nat) : Int) (s : Int) σ = some (((stepP p s 0 0 : Nat) : Int), σ2) ∧ off710 σ σ2 ∧ (stepP p s 0 0 ≠ 5 → CD σ2 (stepP p s)) ∧ (stepP p s 0 0 = 5 → DraS σ2) := by
  have hst := hw.1
  obtain ⟨c1, c2, c3, c4, c5, c6, c7⟩ := id h
  have hD := CD_Dra h hw
  unfold f_X8_next stepP
  by_cases q0 : p 0 0 = 0
  · rw [if_pos q0, ife_t (by omega)]
    unfold f_X4_tellName
    have hb := hw.2.1
    by_cases q : 65 ≤ s ∧ s ≤ 70 ∧ ¬ (p 0 1).testBit (s - 65) = true
    · have hbit := bit_test (p 0 1) (s - 65) (by omega) (by omega)
      have e65 : (s : Int) - 65 = ((s - 65 : Nat) : Int) := by omega
      have qf : (p 0 1).testBit (s - 65) = false := by
        cases z : (p 0 1).testBit (s - 65) with
        | true => exact absurd z q.2.2
        | false => rfl
      have e1 : namP p s 0 1 = p 0 1 ||| 2 ^ (s - 65) := by unfold namP; rw [pst_ne _ (by decide), pst_ne _ (by decide), pst_eq]
      have e2 : namP p s 0 2 = if p 0 1 = 0 then s - 65 else p 0 2 := by unfold namP; rw [pst_ne _ (by decide), pst_ne _ (by decide), pst_ne _ (by decide), pst_eq]
      have e3 : namP p s 0 3 = s - 65 := by unfold namP; rw [pst_ne _ (by decide), pst_eq]
      have e0 : namP p s 0 0 = 1 := by unfold namP; rw [pst_eq]
      have er : ∀ r, r ≠ 0 → namP p s r = p r := fun r hr => by unfold namP; rw [pst_other _ hr, pst_other _ hr, pst_other _ hr, pst_other _ hr]
      obtain ⟨m1, m2⟩ := mask6 (p 0 1) hb (s - 65) (by omega)
      rw [if_pos q, e0, e65, bV_ok (isName_v _ (by omega)), if_neg z10, c1, if_pos (hbit.mpr qf)]
      by_cases q2 : p 0 1 = 0
      · rw [if_pos q2] at e2
        refine ⟨st (st (st σ 7 4 ((s - 65 : Nat) : Int)) 7 3 ((p 0 1 ||| 2 ^ (s - 65) : Nat) : Int)) 7 5 ((s - 65 : Nat) : Int), ?_, fun k a _ _ _ => by rw [st_other _ _ a, st_other _ _ a, st_other _ _ a], fun _ => ⟨?_, ?_, ?_, ?_, ?_, ?_, ?_⟩, fun z => absurd z (by decide)⟩
        · rw [ife_t (by omega), nm_s, bV_s, st_ne _ _ (by decide), c1, m1, nm_s, nm_s, bL1_s, if_neg z10]
          rfl
        · rw [st_ne _ _ (by decide), st_eq, e1]
        · rw [st_ne _ _ (by decide), st_ne _ _ (by decide), st_eq, e2]
        · rw [st_eq, e3]
        · rw [st_ne _ _ (by decide), st_ne _ _ (by decide), st_ne _ _ (by decide)]; exact c4
        · rw [st_other _ _ (by decide), st_other _ _ (by decide), st_other _ _ (by decide), er 1 (by decide)]; exact c5
        · rw [st_other _ _ (by decide), st_other _ _ (by decide), st_other _ _ (by decide), er 2 (by decide)]; exact c6
        · rw [st_other _ _ (by decide), st_other _ _ (by decide), st_other _ _ (by decide), er 3 (by decide)]; exact c7
      · rw [if_neg q2] at e2
        refine ⟨st (st σ 7 3 ((p 0 1 ||| 2 ^ (s - 65) : Nat) : Int)) 7 5 ((s - 65 : Nat) : Int), ?_, fun k a _ _ _ => by rw [st_other _ _ a, st_other _ _ a], fun _ => ⟨?_, ?_, ?_, ?_, ?_, ?_, ?_⟩, fun z => absurd z (by decide)⟩
        · rw [ife_f (by omega) (by omega) (by omega) (by omega) (by omega), bV_s, c1, m1, nm_s, nm_s, bL1_s, if_neg z10]
          rfl
        · rw [st_ne _ _ (by decide), st_eq, e1]
        · rw [st_ne _ _ (by decide), st_ne _ _ (by decide), e2]; exact c2
        · rw [st_eq, e3]
        · rw [st_ne _ _ (by decide), st_ne _ _ (by decide)]; exact c4
        · rw [st_other _ _ (by decide), st_other _ _ (by decide), er 1 (by decide)]; exact c5
        · rw [st_other _ _ (by decide), st_other _ _ (by decide), er 2 (by decide)]; exact c6
        · rw [st_other _ _ (by decide), st_other _ _ (by decide), er 3 (by decide)]; exact c7
    · rw [if_neg q, pst_eq]
      refine ⟨σ, ?_, fun _ _ _ _ _ => rfl, fun z => absurd rfl z, fun _ => hD⟩
      by_cases q2 : 65 ≤ s ∧ s ≤ 70
      · have hbit := bit_test (p 0 1) (s - 65) (by omega) (by omega)
        have e65 : (s : Int) - 65 = ((s - 65 : Nat) : Int) := by omega
        have qt : (p 0 1).testBit (s - 65) = true := Classical.byContradiction (fun z => q ⟨q2.1, q2.2, z⟩)
        rw [e65, bV_ok (isName_v _ (by omega)), if_neg z10, c1, if_neg (fun z => by rw [hbit.mp z] at qt; cases qt), bL1_s, if_pos z00]
        rfl
      · rw [bV_ok (isName_f (by omega) (by omega) (by omega)), if_pos z00, bL1_s, if_pos z00]
        rfl
  · rw [if_neg q0, ife_f (a := ((p 0 0 : Nat) : Int)) (b := 0) (by omega) (by omega) (by omega) (by omega) (by omega)]
    by_cases q1 : p 0 0 = 1
    · rw [if_pos q1, ife_t (a := ((p 0 0 : Nat) : Int)) (b := 1) (by omega)]
      by_cases q : s = 61
      · rw [if_pos q, pst_eq]
        exact ⟨σ, by rw [ife_t (by omega)]; rfl, fun _ _ _ _ _ => rfl, fun _ => CD_0 h, fun z => absurd z (by decide)⟩
      · rw [if_neg q, pst_eq]
        exact ⟨σ, by rw [ife_f (by omega) (by omega) (by omega) (by omega) (by omega)]; rfl, fun _ _ _ _ _ => rfl, fun z => absurd rfl z, fun _ => hD⟩
    · rw [if_neg q1, ife_f (a := ((p 0 0 : Nat) : Int)) (b := 1) (by omega) (by omega) (by omega) (by omega) (by omega)]
      by_cases q2 : p 0 0 = 2
      · obtain ⟨b1, b2, b3, b4, b5⟩ := WB_beg hw q2
        obtain ⟨σ2, t1, t2, t3⟩ := beginRule_m h hw q2
        unfold f_X8_openRule
        rw [if_pos q2, ife_t (a := ((p 0 0 : Nat) : Int)) (b := 2) (by omega)]
        by_cases q : s = 95
        · rw [if_pos q, pst_eq]
          refine ⟨σ2, ?_, t2, fun _ => CD_0 t3, fun z => absurd z (by decide)⟩
          rw [ife_t (a := (s : Int)) (b := 95) (by omega), bV_ok t1, bL1_s]
          rfl
        · rw [if_neg q, ife_f (a := (s : Int)) (b := 95) (by omega) (by omega) (by omega) (by omega) (by omega)]
          obtain ⟨v, v1, v2⟩ := isSign_m hs
          by_cases q3 : isSg s
          · have ev : v = 1 := by
              rcases v2 with z | z
              · exact z.1
              · exact absurd q3 z.2
            have hl3 : begP p 0 3 < 6 := b1.2.2.1
            obtain ⟨σ3, u1, u2, u3, u4⟩ := addSign8_m t3 hl3 b1.2.2.2.2.2.2.2.2 (b1.2.2.2.1 _ hl3) (by rw [b3]; decide) q3
            have ha := WB_add b1 (by rw [b3]; decide) q3
            rw [if_pos q3]
            refine ⟨σ3, ?_, off710_trans t2 u2, fun _ => u3 (by rw [b3]; decide), fun z => ?_⟩
            · rw [bV_ok v1, ev, if_neg z10, bV_ok t1, bL1_ok u1, bL1_s, if_pos (by rw [b3]; decide), ha.2.2.1]
              rfl
            · rw [ha.2.2.1] at z; exact absurd z (by decide)
          · have ev : v = 0 := by
              rcases v2 with z | z
              · exact absurd z.2 q3
              · exact z.1
            rw [if_neg q3, pst_eq]
            exact ⟨σ, by rw [bV_ok v1, ev, if_pos z00, bL1_s]; rfl, fun _ _ _ _ _ => rfl, fun z => absurd rfl z, fun _ => hD⟩
      · rw [if_neg q2, ife_f (a := ((p 0 0 : Nat) : Int)) (b := 2) (by omega) (by omega) (by omega) (by omega) (by omega)]
        obtain ⟨k1, k2⟩ := closeRule_m h hw hs
        have hcl5 : clsP p s 0 0 = 5 → DraS σ := fun _ => hD
        by_cases q3 : p 0 0 = 3
        · have hB := WB_of hw (by omega)
          obtain ⟨v, v1, v2⟩ := isSign_m hs
          rw [ife_t (a := ((p 0 0 : Nat) : Int)) (b := 3) (by omega)]
          by_cases q4 : isSg s
          · have ev : v = 1 := by
              rcases v2 with z | z
              · exact z.1
              · exact absurd q4 z.2
            have hcl := (cur_lt hw (by omega)).1
            obtain ⟨σ3, u1, u2, u3, u4⟩ := addSign8_m h hB.2.2.1 hB.2.2.2.2.2.2.2.2 (hB.2.2.2.1 _ hB.2.2.1) (hB.2.2.2.2.1 _ (by omega)) q4
            rw [if_pos ⟨q3, q4⟩, bV_ok v1, ev, if_neg z10]
            by_cases q5 : p 2 (cur p) < 4
            · have ha := WB_add hB q5 q4
              rw [if_pos q5] at u1 ⊢
              refine ⟨σ3, ?_, u2, fun _ => u3 q5, fun z => ?_⟩
              · rw [bL1_ok u1, ha.2.2.1]; rfl
              · rw [ha.2.2.1] at z; exact absurd z (by decide)
            · rw [if_neg q5] at u1 ⊢
              rw [pst_eq]
              refine ⟨σ3, by rw [bL1_ok u1]; rfl, u2, fun z => absurd rfl z, fun _ => by rw [u4 q5]; exact hD⟩
          · have ev : v = 0 := by
              rcases v2 with z | z
              · exact absurd z.2 q4
              · exact z.1
            rw [if_neg (fun z => q4 z.2), bV_ok v1, ev, if_pos z00]
            exact ⟨σ, by rw [bV_ok k1], fun _ _ _ _ _ => rfl, k2, hcl5⟩
        · rw [if_neg (c := p 0 0 = 3 ∧ isSg s) (fun z => q3 z.1), ife_f (a := ((p 0 0 : Nat) : Int)) (b := 3) (by omega) (by omega) (by omega) (by omega) (by omega)]
          exact ⟨σ, by rw [bV_ok k1], fun _ _ _ _ _ => rfl, k2, hcl5⟩
