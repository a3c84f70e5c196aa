/-! layer 2, fault: both readers side by side -/
/-- one sign in the reference's reader; pt: whether it is a letter or a name -/
def nxR (pt x1 x2 x3 x4 s : Int) : Option (Int × Int × Int × Int) :=
  if zI x1 = zI 0 then
    (bV (f_X12_in s 65 70) (fun (y : Int) =>
      if zI y = zI 0 then some (x2, x3, x4, -6)
      else (if zI (iAnd (iShr x2 (s - 65)) 1) = zI 0 then
        (nm (iOr x2 (iShl 1 (s - 65))) (fun (x39 : Int) => some (x39, x3, x4, 1)))
      else some (x2, x3, x4, -6))))
  else (if zI x1 = zI 1 then
    (bV (if zI s = zI 61 then (some 2) else (some (-6))) (fun (v : Int) => some (x2, 1, x4, v)))
  else (if zI x1 = zI 2 then
    (bV (if zI s = zI 95 then (some 4) else (if zI pt = zI 0 then (some (-6)) else (some 3))) (fun (v : Int) => some (x2, x3, 1, v)))
  else (bV (if zI x1 = zI 3 then (if zI pt = zI 0 then (some 0) else (if zI 4 ≤ zI x4 then (some 0) else (some 1))) else (some 0)) (fun (t19 : Nat) =>
      if t19 = 0 then
        (bV (if zI s = zI 124 then (if zI 4 ≤ zI x3 then (some 0) else (some 1)) else (some 0)) (fun (t23 : Nat) =>
          if t23 = 0 then
            (if zI s = zI 59 then (if zI x2 = zI 63 then (some (x2, x3, x4, -6)) else (some (x2, x3, x4, 0))) else (some (x2, x3, x4, -6)))
          else (nm (x3 + 1) (fun (x28 : Int) => some (x2, x28, x4, 2)))))
      else (nm (x4 + 1) (fun (x29 : Int) => some (x2, x3, x29, 3)))))))
def RVq (p : PSt) (x3 x4 : Int) : Prop := (p 0 0 = 2 → x3 = (p 1 (p 0 3) : Int) + 1) ∧ (3 ≤ p 0 0 → x3 = (p 1 (p 0 3) : Int)) ∧ (p 0 0 = 3 → x4 = (p 2 (cur p) : Int))
theorem nxR_m {p : PSt} {x3 x4 pt : Int} {s : Nat} (h : WP p) (hr : RVq p x3 x4) (hs : s < 1000) (hpt : (pt = 1 ∧ isSg s) ∨ (pt = 0 ∧ ¬ isSg s)) : ∃ y2 y3 y4 v : Int, nxR pt ((p 0 0 : Nat) : Int) ((p 0 1 : Nat) : Int) x3 x4 (s : Int) = some (y2, y3, y4, v) ∧
    ((stepP p s 0 0 = 5 ∧ v = -6) ∨ (stepP p s 0 0 ≠ 5 ∧ v = ((stepP p s 0 0 : Nat) : Int) ∧ y2 = ((stepP p s 0 1 : Nat) : Int) ∧ RVq (stepP p s) y3 y4)) := by
  have hst := h.1
  have hb := h.2.1
  have hW := h
  obtain ⟨r1, r2, r3⟩ := hr
  unfold nxR stepP
  by_cases q0 : p 0 0 = 0
  · rw [if_pos q0, ife_t (a := ((p 0 0 : Nat) : Int)) (b := 0) (by omega), in_v (by omega) (by omega) (by decide) (by decide) (by decide) (by decide), bV_s]
    by_cases q : 65 ≤ s ∧ s ≤ 70
    · have hbit := bit_test (p 0 1) (s - 65) (by omega) (by omega)
      have e65 : (s : Int) - 65 = ((s - 65 : Nat) : Int) := by omega
      rw [if_pos (c := (65 : Int) ≤ (s : Int) ∧ (s : Int) ≤ 70) (by omega), if_neg z10, e65]
      by_cases qf : (p 0 1).testBit (s - 65) = false
      · have q' : 65 ≤ s ∧ s ≤ 70 ∧ ¬ (p 0 1).testBit (s - 65) = true := ⟨q.1, q.2, fun z => by rw [qf] at z; cases z⟩
        obtain ⟨m1, m2⟩ := mask6 (p 0 1) hb (s - 65) (by omega)
        have e1 : namP p s 0 1 = p 0 1 ||| 2 ^ (s - 65) := by unfold namP; rw [pst_ne _ (by decide), pst_ne _ (by decide), pst_eq]
        have e0 : namP p s 0 0 = 1 := by unfold namP; rw [pst_eq]
        rw [if_pos (hbit.mpr qf), if_pos q', nm_s, m1, e0, e1]
        exact ⟨_, _, _, _, rfl, Or.inr ⟨by decide, rfl, rfl, fun z => by omega, fun z => by omega, fun z => by omega⟩⟩
      · have q' : ¬ (65 ≤ s ∧ s ≤ 70 ∧ ¬ (p 0 1).testBit (s - 65) = true) := fun z => qf (by
          cases y : (p 0 1).testBit (s - 65) with
          | true => exact absurd y z.2.2
          | false => rfl)
        rw [if_neg (fun z => qf (hbit.mp z)), if_neg q', pst_eq]
        exact ⟨_, _, _, _, rfl, Or.inl ⟨rfl, rfl⟩⟩
    · rw [if_neg (c := (65 : Int) ≤ (s : Int) ∧ (s : Int) ≤ 70) (by omega), if_pos z00, if_neg (c := 65 ≤ s ∧ s ≤ 70 ∧ ¬ (p 0 1).testBit (s - 65) = true) (fun z => q ⟨z.1, z.2.1⟩), pst_eq]
      exact ⟨_, _, _, _, rfl, Or.inl ⟨rfl, rfl⟩⟩
  · rw [if_neg q0, ife_f (a := ((p 0 0 : Nat) : Int)) (b := 0) (by omega) (by omega) (by omega) (by omega) (by omega)]
    by_cases q1 : p 0 0 = 1
    · rw [if_pos q1, ife_t (a := ((p 0 0 : Nat) : Int)) (b := 1) (by omega)]
      by_cases q : s = 61
      · have hc := h.2.2.2.2.2.2.2.2.2.2.1 q1
        rw [if_pos q, ife_t (by omega), bV_s, pst_eq, p00 (by decide)]
        refine ⟨_, _, _, _, rfl, Or.inr ⟨by decide, rfl, rfl, fun _ => ?_, fun z => ?_, fun z => ?_⟩⟩
        · rw [p00 (by decide), pr0 (by decide), hc]; rfl
        · rw [pst_eq] at z; omega
        · rw [pst_eq] at z; omega
      · rw [if_neg q, ife_f (by omega) (by omega) (by omega) (by omega) (by omega), bV_s, pst_eq]
        exact ⟨_, _, _, _, rfl, Or.inl ⟨rfl, rfl⟩⟩
    · rw [if_neg q1, ife_f (a := ((p 0 0 : Nat) : Int)) (b := 1) (by omega) (by omega) (by omega) (by omega) (by omega)]
      by_cases q2 : p 0 0 = 2
      · obtain ⟨b1, b2, b3, b4, b5⟩ := WB_beg h q2
        have hx3 := r1 q2
        rw [if_pos q2, ife_t (a := ((p 0 0 : Nat) : Int)) (b := 2) (by omega)]
        by_cases q : s = 95
        · rw [if_pos q, ife_t (by omega), bV_s, pst_eq, p00 (by decide), b4]
          refine ⟨_, _, _, _, rfl, Or.inr ⟨by decide, rfl, rfl, fun z => ?_, fun _ => ?_, fun z => ?_⟩⟩
          · rw [pst_eq] at z; omega
          · rw [p00 (by decide), pr0 (by decide), b4, b5, hx3]; rfl
          · rw [pst_eq] at z; omega
        · rw [if_neg q, ife_f (by omega) (by omega) (by omega) (by omega) (by omega)]
          by_cases q3 : isSg s
          · have ep : pt = 1 := by
              rcases hpt with z | z
              · exact z.1
              · exact absurd q3 z.2
            have ha := WB_add b1 (by rw [b3]; decide) q3
            rw [if_pos q3, ep, if_neg z10, bV_s, ha.2.2.1, ha.2.1 1 (by decide), b4]
            refine ⟨_, _, _, _, rfl, Or.inr ⟨by decide, rfl, rfl, fun z => ?_, fun _ => ?_, fun _ => ?_⟩⟩
            · rw [ha.2.2.1] at z; omega
            · rw [ha.2.1 3 (by decide), ha.2.2.2.1, b4, b5, hx3]; rfl
            · rw [ha.2.2.2.2.1, ha.2.2.2.2.2.1, if_pos rfl, b3]; rfl
          · have ep : pt = 0 := by
              rcases hpt with z | z
              · exact absurd z.2 q3
              · exact z.1
            rw [if_neg q3, ep, if_pos z00, bV_s, pst_eq]
            exact ⟨_, _, _, _, rfl, Or.inl ⟨rfl, rfl⟩⟩
      · rw [if_neg q2, ife_f (a := ((p 0 0 : Nat) : Int)) (b := 2) (by omega) (by omega) (by omega) (by omega) (by omega)]
        have hx3 := r2 (by omega)
        have hB := WB_of h (by omega)
        have hc4 := hB.2.2.2.1 _ hB.2.2.1
        -- behind a rule's sign: what closes it
        have cls : ∃ y2 y3 y4 v : Int, (bV (if zI (s : Int) = zI 124 then (if zI 4 ≤ zI x3 then (some 0) else (some 1)) else (some 0)) (fun (t23 : Nat) => if t23 = 0 then (if zI (s : Int) = zI 59 then (if zI ((p 0 1 : Nat) : Int) = zI 63 then (some (((p 0 1 : Nat) : Int), x3, x4, -6)) else (some (((p 0 1 : Nat) : Int), x3, x4, 0))) else (some (((p 0 1 : Nat) : Int), x3, x4, -6))) else (nm (x3 + 1) (fun (x28 : Int) => some (((p 0 1 : Nat) : Int), x28, x4, (2 : Int)))))) = some (y2, y3, y4, v) ∧
            ((clsP p s 0 0 = 5 ∧ v = -6) ∨ (clsP p s 0 0 ≠ 5 ∧ v = ((clsP p s 0 0 : Nat) : Int) ∧ y2 = ((clsP p s 0 1 : Nat) : Int) ∧ RVq (clsP p s) y3 y4)) := by
          unfold clsP
          by_cases q3 : s = 124
          · rw [ife_t (a := (s : Int)) (b := 124) (by omega)]
            by_cases q4 : p 1 (p 0 3) < 4
            · rw [ifle_f (by omega) (by omega) (by omega), bV_s, if_neg (by decide), nm_s, if_pos ⟨q3, q4⟩, pst_eq, p00 (by decide)]
              refine ⟨_, _, _, _, rfl, Or.inr ⟨by decide, rfl, rfl, fun _ => ?_, fun z => ?_, fun z => ?_⟩⟩
              · rw [p00 (by decide), pr0 (by decide), hx3]
              · rw [pst_eq] at z; omega
              · rw [pst_eq] at z; omega
            · rw [ifle_t (by omega) (by omega) (by omega), bV_s, if_pos rfl, ife_f (a := (s : Int)) (b := 59) (by omega) (by omega) (by omega) (by omega) (by omega), if_neg (c := s = 124 ∧ p 1 (p 0 3) < 4) (fun z => q4 z.2), if_neg (c := s = 59 ∧ p 0 1 ≠ 63) (fun z => by omega), pst_eq]
              exact ⟨_, _, _, _, rfl, Or.inl ⟨rfl, rfl⟩⟩
          · rw [ife_f (a := (s : Int)) (b := 124) (by omega) (by omega) (by omega) (by omega) (by omega), bV_s, if_pos rfl, if_neg (c := s = 124 ∧ p 1 (p 0 3) < 4) (fun z => q3 z.1)]
            by_cases q4 : s = 59
            · rw [ife_t (a := (s : Int)) (b := 59) (by omega)]
              by_cases q5 : p 0 1 = 63
              · rw [ife_t (by omega), if_neg (c := s = 59 ∧ p 0 1 ≠ 63) (fun z => z.2 q5), pst_eq]
                exact ⟨_, _, _, _, rfl, Or.inl ⟨rfl, rfl⟩⟩
              · rw [ife_f (by omega) (by omega) (by omega) (by omega) (by omega), if_pos (c := s = 59 ∧ p 0 1 ≠ 63) ⟨q4, q5⟩, pst_eq, p00 (by decide)]
                refine ⟨_, _, _, _, rfl, Or.inr ⟨by decide, rfl, rfl, fun z => ?_, fun z => ?_, fun z => ?_⟩⟩
                · rw [pst_eq] at z; omega
                · rw [pst_eq] at z; omega
                · rw [pst_eq] at z; omega
            · rw [ife_f (a := (s : Int)) (b := 59) (by omega) (by omega) (by omega) (by omega) (by omega), if_neg (c := s = 59 ∧ p 0 1 ≠ 63) (fun z => q4 z.1), pst_eq]
              exact ⟨_, _, _, _, rfl, Or.inl ⟨rfl, rfl⟩⟩
        by_cases q3 : p 0 0 = 3
        · have hx4 := r3 q3
          have hcl := (cur_lt hW (by omega)).1
          have hln := hB.2.2.2.2.1 _ (by omega : cur p < 25)
          rw [ife_t (a := ((p 0 0 : Nat) : Int)) (b := 3) (by omega)]
          by_cases q4 : isSg s
          · have ep : pt = 1 := by
              rcases hpt with z | z
              · exact z.1
              · exact absurd q4 z.2
            rw [ep, if_neg z10, if_pos (c := p 0 0 = 3 ∧ isSg s) ⟨q3, q4⟩]
            by_cases q5 : p 2 (cur p) < 4
            · have ha := WB_add hB q5 q4
              rw [ifle_f (by omega) (by omega) (by omega), bV_s, if_neg (by decide), nm_s, if_pos q5, ha.2.2.1, ha.2.1 1 (by decide)]
              refine ⟨_, _, _, _, rfl, Or.inr ⟨by decide, rfl, rfl, fun z => ?_, fun _ => ?_, fun _ => ?_⟩⟩
              · rw [ha.2.2.1] at z; omega
              · rw [ha.2.1 3 (by decide), ha.2.2.2.1, hx3]
              · rw [ha.2.2.2.2.1, ha.2.2.2.2.2.1, if_pos rfl, hx4]; rfl
            · have hns : s ≠ 124 ∧ s ≠ 59 := by unfold isSg at q4; omega
              rw [ifle_t (by omega) (by omega) (by omega), bV_s, if_pos rfl, if_neg q5, pst_eq, ife_f (a := (s : Int)) (b := 124) (by omega) (by omega) (by omega) (by omega) (by omega), bV_s, if_pos rfl, ife_f (a := (s : Int)) (b := 59) (by omega) (by omega) (by omega) (by omega) (by omega)]
              exact ⟨_, _, _, _, rfl, Or.inl ⟨rfl, rfl⟩⟩
          · have ep : pt = 0 := by
              rcases hpt with z | z
              · exact absurd z.2 q4
              · exact z.1
            rw [ep, if_pos z00, bV_s, if_pos rfl, if_neg (c := p 0 0 = 3 ∧ isSg s) (fun z => q4 z.2)]
            exact cls
        · rw [ife_f (a := ((p 0 0 : Nat) : Int)) (b := 3) (by omega) (by omega) (by omega) (by omega) (by omega), bV_s, if_pos rfl, if_neg (c := p 0 0 = 3 ∧ isSg s) (fun z => q3 z.1)]
          exact cls
/-- the reader's states along the pad -/
noncomputable def PP (p0 : PSt) (pd : Nat → Nat) : Nat → PSt
  | 0 => p0
  | k + 1 => stepP (PP p0 pd k) (pd k)
theorem L12_step {τ : Mem} {N f k s c : Nat} {x1 x2 x3 x4 : Int} (h0 : τ 0 0 = (c : Int)) (hc : c ≤ 60) (hk : k < c) (hs : τ 1 k = (s : Int)) (hs2 : s < 1000) : ∃ pt : Int, ((pt = 1 ∧ isSg s) ∨ (pt = 0 ∧ ¬ isSg s)) ∧
    f_X12_faultOf_L12 N τ (f + 1) x1 x2 x3 x4 (k : Int) = bL3 (nxR pt x1 x2 x3 x4 (s : Int)) (fun (y2 y3 y4 v : Int) => if zI 0 ≤ zI v then f_X12_faultOf_L12 N τ f v y2 y3 y4 ((k + 1 : Nat) : Int) else some (0, 0, (k : Int))) := by
  have e97 := in_v (a := (s : Int)) (lo := 97) (hi := 100) (by omega) (by omega) (by decide) (by decide) (by decide) (by decide)
  have e65 := in_v (a := (s : Int)) (lo := 65) (hi := 70) (by omega) (by omega) (by decide) (by decide) (by decide) (by decide)
  by_cases q1 : 97 ≤ s ∧ s ≤ 100
  · rw [if_pos (by omega)] at e97
    refine ⟨1, Or.inl ⟨rfl, Or.inl q1⟩, ?_⟩
    rw [f_X12_faultOf_L12, h0, ifle_f (by omega) (by omega) (by omega), gd_pos ⟨by omega, by omega⟩, Int.toNat_natCast, hs, nm_s]
    refine (bV_ok e97).trans ?_
    refine (bV_ok (show (if zI 1 = zI 0 then bV (f_X12_in (s : Int) 65 70) (fun (y9 : Int) => if zI y9 = zI 0 then (some 1 : Option Nat) else some 0) else some 0) = some 0 from if_neg z10)).trans ?_
    refine (if_pos rfl).trans ?_
    rfl
  · rw [if_neg (by omega)] at e97
    by_cases q2 : 65 ≤ s ∧ s ≤ 70
    · rw [if_pos (by omega)] at e65
      refine ⟨1, Or.inl ⟨rfl, Or.inr q2⟩, ?_⟩
      rw [f_X12_faultOf_L12, h0, ifle_f (by omega) (by omega) (by omega), gd_pos ⟨by omega, by omega⟩, Int.toNat_natCast, hs, nm_s]
      refine (bV_ok e97).trans ?_
      refine (bV_ok (show (if zI 0 = zI 0 then bV (f_X12_in (s : Int) 65 70) (fun (y9 : Int) => if zI y9 = zI 0 then (some 1 : Option Nat) else some 0) else some 0) = some 0 from by rw [if_pos z00, bV_ok e65, if_neg z10])).trans ?_
      refine (if_pos rfl).trans ?_
      rfl
    · rw [if_neg (by omega)] at e65
      refine ⟨0, Or.inr ⟨rfl, fun z => z.elim q1 q2⟩, ?_⟩
      rw [f_X12_faultOf_L12, h0, ifle_f (by omega) (by omega) (by omega), gd_pos ⟨by omega, by omega⟩, Int.toNat_natCast, hs, nm_s]
      refine (bV_ok e97).trans ?_
      refine (bV_ok (show (if zI 0 = zI 0 then bV (f_X12_in (s : Int) 65 70) (fun (y9 : Int) => if zI y9 = zI 0 then (some 1 : Option Nat) else some 0) else some 0) = some 1 from by rw [if_pos z00, bV_ok e65, if_pos z00])).trans ?_
      refine (if_neg (by decide)).trans ?_
      rfl
theorem bL3_ok {A B C D β : Type} {o : Option (A × B × C × D)} {g : A → B → C → D → Option β} {a : A} {b : B} {c : C} {d : D} (h : o = some (a, b, c, d)) : bL3 o g = g a b c d := by rw [h]; rfl
theorem PadS_off {σ τ σ2 : Mem} {A : AS} (h : PadS σ τ A) (ho : off710 σ σ2) : PadS σ2 τ A := PadS_eq h (ho 1 (by decide) (by decide) (by decide) (by decide)) (ho 2 (by decide) (by decide) (by decide) (by decide)) rfl rfl
theorem fault_both {τ : Mem} {A : AS} {p0 : PSt} {N : Nat} : ∀ (m k fuel : Nat) (σ : Mem) (x3 x4 : Int), k + m = aC A → m < fuel → PadS σ τ A → CD σ (PP p0 (aP A) k) → WP (PP p0 (aP A) k) → RVq (PP p0 (aP A) k) x3 x4 →
    (∃ (i : Nat) (σ2 : Mem), i < aC A ∧ f_X8_read_L8 N fuel ((PP p0 (aP A) k 0 0 : Nat) : Int) (k : Int) σ = some (0, 0, (i : Int), σ2) ∧ f_X12_faultOf_L12 N τ fuel ((PP p0 (aP A) k 0 0 : Nat) : Int) ((PP p0 (aP A) k 0 1 : Nat) : Int) x3 x4 (k : Int) = some (0, 0, (i : Int)) ∧ off710 σ σ2 ∧ DraS σ2) ∨
    (∃ σ2 : Mem, f_X8_read_L8 N fuel ((PP p0 (aP A) k 0 0 : Nat) : Int) (k : Int) σ = some (1, ((PP p0 (aP A) (aC A) 0 0 : Nat) : Int), 0, σ2) ∧ f_X12_faultOf_L12 N τ fuel ((PP p0 (aP A) k 0 0 : Nat) : Int) ((PP p0 (aP A) k 0 1 : Nat) : Int) x3 x4 (k : Int) = some (1, ((PP p0 (aP A) (aC A) 0 0 : Nat) : Int), 0) ∧ off710 σ σ2 ∧ CD σ2 (PP p0 (aP A) (aC A)) ∧ ∀ j, k ≤ j → j ≤ aC A → WP (PP p0 (aP A) j)) := by
  intro m
  induction m with
  | zero =>
    intro k fuel σ x3 x4 hk hf hp hc hw hr
    obtain ⟨f, rfl⟩ : ∃ f, fuel = f + 1 := ⟨fuel - 1, by omega⟩
    have e : k = aC A := by omega
    have h60 := hp.1
    subst e
    refine Or.inr ⟨σ, ?_, ?_, fun _ _ _ _ _ => rfl, hc, fun j h1 h2 => by rw [show j = aC A by omega]; exact hw⟩
    · rw [f_X8_read_L8, hp.2.1, ifle_t (by omega) (by omega) (by omega)]
    · rw [f_X12_faultOf_L12, hp.2.2.1, ifle_t (by omega) (by omega) (by omega)]
  | succ m ih =>
    intro k fuel σ x3 x4 hk hf hp hc hw hr
    obtain ⟨f, rfl⟩ : ∃ f, fuel = f + 1 := ⟨fuel - 1, by omega⟩
    have h60 := hp.1
    have hs := hp.2.2.2 k (by omega)
    obtain ⟨σ2, t1, t2, t3, t4⟩ := next_m hc hw (by omega : aP A k < 1000)
    obtain ⟨pt, u1, u2⟩ := L12_step (N := N) (f := f) (x1 := ((PP p0 (aP A) k 0 0 : Nat) : Int)) (x2 := ((PP p0 (aP A) k 0 1 : Nat) : Int)) (x3 := x3) (x4 := x4) hp.2.2.1 h60 (by omega : k < aC A) hs.2.1 (by omega)
    obtain ⟨y2, y3, y4, v, v1, v2⟩ := nxR_m hw hr (by omega : aP A k < 1000) u1
    have hcl : f_X8_read_L8 N (f + 1) ((PP p0 (aP A) k 0 0 : Nat) : Int) (k : Int) σ = (if zI ((stepP (PP p0 (aP A) k) (aP A k) 0 0 : Nat) : Int) = zI 5 then some (0, 0, (k : Int), σ2) else f_X8_read_L8 N f ((stepP (PP p0 (aP A) k) (aP A k) 0 0 : Nat) : Int) ((k + 1 : Nat) : Int) σ2) := by
      rw [f_X8_read_L8, hp.2.1, ifle_f (by omega) (by omega) (by omega), bV_ok (signAt5_m hp (by omega)), bL1_ok t1, nm_s]
      rfl
    have hp2 := PadS_off hp t2
    rcases v2 with ⟨e5, ev⟩ | ⟨e5, ev, ey, er⟩
    · refine Or.inl ⟨k, σ2, by omega, ?_, ?_, t2, t4 e5⟩
      · rw [hcl, e5, ife_t (show ((5 : Nat) : Int) = 5 from rfl)]
      · rw [u2, bL3_ok v1, ev, ifle_f (by decide) (by decide) (by decide)]
    · have hw2 := WP_step hw e5
      have h5 := hw2.1
      have hcl2 : f_X8_read_L8 N (f + 1) ((PP p0 (aP A) k 0 0 : Nat) : Int) (k : Int) σ = f_X8_read_L8 N f ((PP p0 (aP A) (k + 1) 0 0 : Nat) : Int) ((k + 1 : Nat) : Int) σ2 := by
        rw [hcl, ife_f (by omega) (by omega) (by omega) (by omega) (by omega)]
        rfl
      have hrf2 : f_X12_faultOf_L12 N τ (f + 1) ((PP p0 (aP A) k 0 0 : Nat) : Int) ((PP p0 (aP A) k 0 1 : Nat) : Int) x3 x4 (k : Int) = f_X12_faultOf_L12 N τ f ((PP p0 (aP A) (k + 1) 0 0 : Nat) : Int) ((PP p0 (aP A) (k + 1) 0 1 : Nat) : Int) y3 y4 ((k + 1 : Nat) : Int) := by
        rw [u2, bL3_ok v1, ev, ey, ifle_t (by omega) (by omega) (by omega)]
        rfl
      rcases ih (k + 1) f σ2 y3 y4 (by omega) (by omega) hp2 (t3 e5) hw2 er with ⟨i, σ3, i1, i2, i3, i4, i5⟩ | ⟨σ3, i1, i2, i3, i4, i5⟩
      · exact Or.inl ⟨i, σ3, i1, by rw [hcl2]; exact i2, by rw [hrf2]; exact i3, off710_trans t2 i4, i5⟩
      · refine Or.inr ⟨σ3, by rw [hcl2]; exact i1, by rw [hrf2]; exact i2, off710_trans t2 i3, i4, fun j h1 h2 => ?_⟩
        by_cases e : j = k
        · rw [e]; exact hw
        · exact i5 j (by omega) h2
/-- the reader's first state: the draft's old lengths and signs lie there still -/
def p0C (σ : Mem) : PSt := fun r i => if r = 2 then (σ 9 i).toNat else if r = 3 then (σ 10 i).toNat else 0
/-- what a whole reading finds -/
def ReadO (σ σ2 : Mem) (A : AS) (v : Int) : Prop := off710 σ σ2 ∧ DraS σ2 ∧ (0 ≤ v ∨ (v = -6 ∧ 3 ≤ PP (p0C σ) (aP A) (aC A) 0 0 ∧ CD σ2 (PP (p0C σ) (aP A) (aC A)) ∧ ∀ j, j ≤ aC A → WP (PP (p0C σ) (aP A) j)))
theorem read_both {σ τ : Mem} {A : AS} {N : Nat} (hN : 100 ≤ N) (hp : PadS σ τ A) (hD : DraS σ) : ∃ (v : Int) (σ2 : Mem), f_X8_read N σ = some (v, σ2) ∧ f_X12_faultOf N τ = some v ∧ ReadO σ σ2 A v ∧ v ≤ 60 := by
  have h60 := hp.1
  generalize hs1 : st (st (st (fil σ 8 6 0) 7 3 0) 7 4 0) 7 5 0 = σ1
  have o1 : ∀ k, k ≠ 7 → k ≠ 8 → σ1 k = σ k := fun k a b => by
    rw [← hs1, st_other _ _ a, st_other _ _ a, st_other _ _ a]
    funext j
    unfold fil
    rw [if_neg (fun z => b z.1)]
  have e7 : ∀ j, σ1 7 j = if j = 5 then 0 else if j = 4 then 0 else if j = 3 then 0 else σ 7 j := fun j => by
    rw [← hs1, st_row, st_row, st_row]
    unfold fil
    rw [if_neg (c := 7 = 8 ∧ j < 6) (fun z => absurd z.1 (by decide))]
  have e8 : ∀ j, j < 6 → σ1 8 j = 0 := fun j hj => by
    rw [← hs1, st_other _ _ (by decide), st_other _ _ (by decide), st_other _ _ (by decide)]
    unfold fil
    rw [if_pos ⟨rfl, hj⟩]
  have hclr : f_X4_clear σ = some σ1 := by
    unfold f_X4_clear
    rw [nm_s, nm_s, nm_s, nm_s, hs1]
  obtain ⟨d1, d2, d3⟩ := hD
  have hoff1 : off710 σ σ1 := fun k a b _ _ => o1 k a b
  have hCD : CD σ1 (p0C σ) := by
    refine ⟨by rw [e7]; rfl, by rw [e7]; rfl, by rw [e7]; rfl, by rw [e7]; exact d1, fun n hn => by rw [e8 n hn]; rfl, fun s hs => ?_, fun q hq => ?_⟩
    · rw [o1 9 (by decide) (by decide)]
      show σ 9 s = (((σ 9 s).toNat : Nat) : Int)
      have := d2 s hs
      omega
    · rw [o1 10 (by decide) (by decide)]
      show σ 10 q = (((σ 10 q).toNat : Nat) : Int)
      have := d3 q hq
      omega
  have hWP : WP (p0C σ) := by
    refine ⟨Nat.zero_le _, by show 0 < 64; decide, by show 0 < 6; decide, by show 0 < 6; decide, fun n _ => Nat.zero_le _, fun s hs => ?_, fun q hq => ?_, fun n _ h => absurd h (Nat.lt_irrefl 0), fun h => absurd rfl h, fun n _ h => ?_, fun h => rfl, fun h => by show 0 < 4; decide, fun h => absurd h (by show ¬ 3 ≤ 0; decide), fun h => absurd h (by show ¬ 0 = 3; decide)⟩
    · show (σ 9 s).toNat ≤ 4
      have := d2 s hs
      omega
    · show (σ 10 q).toNat < 10
      have := d3 q hq
      omega
    · have h' : (0 : Nat).testBit n = true := h
      rw [Nat.zero_testBit] at h'
      cases h'
  have hRV : RVq (p0C σ) 0 0 := ⟨fun h => absurd h (by show ¬ 0 = 2; decide), fun h => absurd h (by show ¬ 3 ≤ 0; decide), fun h => absurd h (by show ¬ 0 = 3; decide)⟩
  rcases fault_both (N := N) (p0 := p0C σ) (aC A) 0 N σ1 0 0 (by omega) (by omega) (PadS_off hp hoff1) hCD hWP hRV with ⟨i, σ2, i1, i2, i3, i4, i5⟩ | ⟨σ2, i1, i2, i3, i4, i5⟩
  · have i2' : f_X8_read_L8 N N 0 0 σ1 = some (0, 0, (i : Int), σ2) := i2
    have i3' : f_X12_faultOf_L12 N τ N 0 0 0 0 0 = some (0, 0, (i : Int)) := i3
    refine ⟨(i : Int), σ2, ?_, ?_, ⟨off710_trans hoff1 i4, i5, Or.inl (by omega)⟩, by omega⟩
    · unfold f_X8_read
      rw [bV_ok hclr, bL3_ok i2', if_pos rfl]
    · unfold f_X12_faultOf
      rw [i3', bL2_s, if_pos rfl]
  · have i1' : f_X8_read_L8 N N 0 0 σ1 = some (1, ((PP (p0C σ) (aP A) (aC A) 0 0 : Nat) : Int), 0, σ2) := i1
    have i2' : f_X12_faultOf_L12 N τ N 0 0 0 0 0 = some (1, ((PP (p0C σ) (aP A) (aC A) 0 0 : Nat) : Int), 0) := i2
    have hwC := i5 (aC A) (Nat.zero_le _) (Nat.le_refl _)
    have h4 := hwC.1
    have hDra := CD_Dra i4 hwC
    have hc2 : σ2 1 1 = (aC A : Int) := (PadS_off hp (off710_trans hoff1 i3)).2.1
    by_cases q : 3 ≤ PP (p0C σ) (aP A) (aC A) 0 0
    · refine ⟨-6, σ2, ?_, ?_, ⟨off710_trans hoff1 i3, hDra, Or.inr ⟨rfl, q, i4, fun j hj => i5 j (Nat.zero_le _) hj⟩⟩, by decide⟩
      · unfold f_X8_read
        rw [bV_ok hclr, bL3_ok i1', if_neg (by decide)]
        by_cases q3 : PP (p0C σ) (aP A) (aC A) 0 0 = 3
        · rw [ife_t (b := 3) (by omega)]
        · rw [ife_f (b := 3) (by omega) (by omega) (by omega) (by omega) (by omega), ife_t (b := 4) (by omega)]
      · unfold f_X12_faultOf
        rw [i2', bL2_s, if_neg (by decide), ifle_f (by omega) (by omega) (by omega)]
    · refine ⟨(aC A : Int), σ2, ?_, ?_, ⟨off710_trans hoff1 i3, hDra, Or.inl (by omega)⟩, by omega⟩
      · unfold f_X8_read
        rw [bV_ok hclr, bL3_ok i1', if_neg (by decide), ife_f (b := 3) (by omega) (by omega) (by omega) (by omega) (by omega), ife_f (b := 4) (by omega) (by omega) (by omega) (by omega) (by omega), hc2]
      · unfold f_X12_faultOf
        rw [i2', bL2_s, if_neg (by decide), ifle_t (by omega) (by omega) (by omega), hp.2.2.1]
theorem Inv_710 {σ τ σ2 : Mem} {A : AS} (h : Inv σ τ A) (ho : off710 σ σ2) (hD : DraS σ2) : Inv σ2 τ A := by
  obtain ⟨g1, g2, g3, g4, g5, g6, g7, g8, g9⟩ := h
  have c : ∀ k, k < 7 ∨ 10 < k → σ2 k = σ k := fun k a => ho k (by omega) (by omega) (by omega) (by omega)
  exact ⟨PadS_off g1 ho, GraS_eq g2 (c 3 (by decide)) (c 4 (by decide)) (c 5 (by decide)) (c 6 (by decide)) (c 12 (by decide)) rfl rfl rfl rfl, WrdS_eq g3 (c 13 (by decide)) (c 14 (by decide)) rfl rfl, CosS_eq g4 (c 12 (by decide)) rfl, ExaS_eq g5 (fun k a b => c k (by omega)) rfl rfl rfl, hD, ChaS_eq g7 (c 0 (by decide)) (c 27 (by decide)) (c 28 (by decide)), ClaS_eq g8 (c 38 (by decide)) (c 5 (by decide)) (c 6 (by decide)), g9⟩
/-- MendTexts.fault -/
theorem fault_m {σ τ : Mem} {A : AS} {N : Nat} (hN : 100 ≤ N) (h : Inv σ τ A) : ∃ (v : Int) (σ2 : Mem), f_X11_fault N σ = some (v, σ2) ∧ f_X12_fault N τ = some v ∧ Inv σ2 τ A := by
  obtain ⟨v, σ2, t1, t2, t3, -⟩ := read_both (N := N) hN h.1 h.2.2.2.2.2.1
  refine ⟨v, σ2, ?_, ?_, Inv_710 h t3.1 t3.2.1⟩
  · unfold f_X11_fault
    rw [bL1_ok t1]
  · unfold f_X12_fault
    rw [bV_ok t2]
