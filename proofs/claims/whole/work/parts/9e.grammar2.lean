/-! layer 2, grammar: whole -/
theorem gr75 {p0 : PSt} {pd : Nat → Nat} {c n N : Nat} {x1 : Int} (hG : GPad p0 pd c) (hN : 100 ≤ N) : ∀ (m k fuel : Nat) (τ : Mem), c ≤ k + m → k ≤ c → m + 1 < fuel → RPad τ pd c → PP p0 pd k 0 0 = 2 → PP p0 pd k 0 3 = n → GP τ (PP p0 pd k) (PP p0 pd k 1) →
    ∃ (k2 : Nat) (τ2 : Mem), f_X12_grammar_L75 N x1 (n : Int) fuel (k : Int) 1 τ = some ((k2 : Int), τ2) ∧ k < k2 ∧ offG τ τ2 ∧
      ((k2 = c + 1 ∧ GP τ2 (PP p0 pd c) (PP p0 pd c 1) ∧ PP p0 pd c 0 1 = PP p0 pd k 0 1) ∨ (k2 ≤ c ∧ PP p0 pd k2 0 0 = 0 ∧ GP τ2 (PP p0 pd k2) (PP p0 pd k2 1) ∧ PP p0 pd k2 0 1 = PP p0 pd k 0 1)) := by
  have h60 := hG.1
  intro m
  induction m with
  | zero =>
    intro k fuel τ hm hk hf hP h2 hn hg
    have e : k = c := by omega
    have := hG.2.2.1
    rw [← e] at this
    omega
  | succ m ih =>
    intro k fuel τ hm hk hf hP h2 hn hg
    obtain ⟨f, rfl⟩ : ∃ f, fuel = f + 1 := ⟨fuel - 1, by omega⟩
    have hW := hG.2.1 k hk
    have hl := hW.2.2.2.1
    have hc4 := hW.2.2.2.2.2.2.2.2.2.2.2.1 h2
    rw [hn] at hl hc4
    have e2n := hg.1 n hl
    have e5 : (5 * (n : Int)) + (PP p0 pd k 1 n : Int) = ((5 * n + PP p0 pd k 1 n : Nat) : Int) := by omega
    have hoff5 : offG τ (st τ 3 (5 * n + PP p0 pd k 1 n) 0) := fun j a b d => st_other _ _ b
    have hg5 : GP (st τ 3 (5 * n + PP p0 pd k 1 n) 0) (PP p0 pd k) (PP p0 pd k 1) := by
      obtain ⟨g1, g2, g3⟩ := hg
      refine ⟨?_, fun j r hj hr => ?_, ?_⟩
      · rw [st_other _ _ (by decide)]; exact g1
      · have hj4 := hW.2.2.2.2.1 j hj
        have hne : 5 * j + r ≠ 5 * n + PP p0 pd k 1 n := fun e => by
          have e2 : j = n := by omega
          rw [e2] at e hr
          omega
        rw [st_ne _ _ hne]; exact g2 j r hj hr
      · rw [st_other _ _ (by decide)]; exact g3
    obtain ⟨ki, τi, t1, t2, t3, t4, t5, t6, t7, t8, t9⟩ := gr100_2 (x1 := x1) hG hN hk (RPad_off hP hoff5) h2 hn hg5 (st_eq _ _ _ _)
    have hWi := hG.2.1 ki t3
    have hBi := WB_of hWi t5
    have hni := hBi.2.2.2.2.2.2.2.2
    rw [t6] at hni
    have ei2 : τi 2 n = ((PP p0 pd ki 1 n - 1 : Nat) : Int) := by
      have := t8.1 n hl
      unfold cnI at this
      rw [if_pos rfl] at this
      exact this
    have esum : ((PP p0 pd ki 1 n - 1 : Nat) : Int) + 1 = (PP p0 pd ki 1 n : Int) := by omega
    have hoff8 : offG τi (st τi 2 n (PP p0 pd ki 1 n : Int)) := fun j a b d => st_other _ _ a
    have hg8 : GP (st τi 2 n (PP p0 pd ki 1 n : Int)) (PP p0 pd ki) (PP p0 pd ki 1) := by
      obtain ⟨g1, g2, g3⟩ := t8
      refine ⟨fun j hj => ?_, ?_, ?_⟩
      · rw [st_row]
        by_cases e : j = n
        · rw [if_pos e, e]
        · have := g1 j hj
          unfold cnI at this
          rw [if_neg e] at this
          rw [if_neg e]; exact this
      · rw [st_other _ _ (by decide)]; exact g2
      · rw [st_other _ _ (by decide)]; exact g3
    have hoffA := offG_trans hoff5 (offG_trans t4 hoff8)
    have hP8 := RPad_off hP hoffA
    have en : (ki : Int) + 1 = ((ki + 1 : Nat) : Int) := by omega
    -- one rule read
    have hbody : f_X12_grammar_L75 N x1 (n : Int) (f + 1) (k : Int) 1 τ = bV (if zI (c : Int) ≤ zI (ki : Int) then some 0 else gd (0 ≤ (ki : Int) ∧ (ki : Int) < ((60 : Nat) : Int)) (if zI ((st τi 2 n (PP p0 pd ki 1 n : Int)) 1 (ki : Int).toNat) = zI 124 then some 1 else some 0)) (fun (t9 : Nat) => if t9 = 0 then (nm ((ki : Int) + 1) (fun (x13 : Int) => f_X12_grammar_L75 N x1 (n : Int) f x13 0 (st τi 2 n (PP p0 pd ki 1 n : Int)))) else (nm ((ki : Int) + 1) (fun (x14 : Int) => f_X12_grammar_L75 N x1 (n : Int) f x14 1 (st τi 2 n (PP p0 pd ki 1 n : Int))))) := by
      rw [f_X12_grammar_L75, if_neg z10, gd_pos ⟨by omega, by omega⟩, Int.toNat_natCast, e2n, e5, nm_s, gd_pos ⟨by omega, by omega⟩, Int.toNat_natCast, nm_s, bL1_ok t1, ei2, esum, nm_s, hP8.1]
    have hend : ∀ g τ', f_X12_grammar_L75 N x1 (n : Int) (g + 1) ((ki + 1 : Nat) : Int) 0 τ' = some (((ki + 1 : Nat) : Int), τ') := fun g τ' => by
      rw [f_X12_grammar_L75, if_pos z00]
    obtain ⟨g, rfl⟩ : ∃ g, f = g + 1 := ⟨f - 1, by omega⟩
    by_cases qc : ki = c
    · refine ⟨ki + 1, st τi 2 n (PP p0 pd ki 1 n : Int), ?_, by omega, hoffA, Or.inl ⟨by omega, by rw [← qc]; exact hg8, by rw [← qc]; exact t7⟩⟩
      rw [hbody, ifle_t (by omega) (by omega) (by omega), bV_s, if_pos rfl, nm_s, en]
      exact hend g _
    · have hkc : ki < c := by omega
      have h5 := GPad_5 hG hkc
      have h1i := hP8.2 ki hkc
      have hpd := hG.2.2.2 ki hkc
      rcases t9 with z | z | z
      · exact absurd z qc
      · have eP : PP p0 pd (ki + 1) = pst (PP p0 pd ki) 0 0 2 := by
          rcases step3 t5 h5 with ⟨y1, y2, y3, y4⟩ | ⟨y1, y4⟩ | ⟨y1, y4⟩
          · unfold isSg at y2; omega
          · exact y4
          · omega
        obtain ⟨k2, τ2, s1, s2, s3, s4⟩ := ih (ki + 1) (g + 1) (st τi 2 n (PP p0 pd ki 1 n : Int)) (by omega) (by omega) (by omega) hP8 (by rw [eP, pst_eq]) (by rw [eP, p00 (by decide)]; exact t6) (by rw [eP, pr0 (by decide)]; exact GP_0 hg8)
        refine ⟨k2, τ2, ?_, by omega, offG_trans hoffA s3, ?_⟩
        · rw [hbody, ifle_f (by omega) (by omega) (by omega), gd_pos ⟨by omega, by omega⟩, Int.toNat_natCast, h1i, z, ife_t (show ((124 : Nat) : Int) = 124 from rfl), bV_s, if_neg (by decide), nm_s, en]
          exact s1
        · rcases s4 with ⟨y1, y2, y3⟩ | ⟨y1, y2, y3, y4⟩
          · exact Or.inl ⟨y1, y2, by rw [y3, eP, p00 (by decide), t7]⟩
          · exact Or.inr ⟨y1, y2, y3, by rw [y4, eP, p00 (by decide), t7]⟩
      · have eP : PP p0 pd (ki + 1) = pst (PP p0 pd ki) 0 0 0 := by
          rcases step3 t5 h5 with ⟨y1, y2, y3, y4⟩ | ⟨y1, y4⟩ | ⟨y1, y4⟩
          · unfold isSg at y2; omega
          · omega
          · exact y4
        refine ⟨ki + 1, st τi 2 n (PP p0 pd ki 1 n : Int), ?_, by omega, hoffA, Or.inr ⟨by omega, by rw [eP, pst_eq], by rw [eP, pr0 (by decide)]; exact GP_0 hg8, by rw [eP, p00 (by decide)]; exact t7⟩⟩
        rw [hbody, ifle_f (by omega) (by omega) (by omega), gd_pos ⟨by omega, by omega⟩, Int.toNat_natCast, h1i, z, ife_f (by decide) (by decide) (by decide) (by decide) (by decide), bV_s, if_pos rfl, nm_s, en]
        exact hend g _
theorem namP_f {p : PSt} {s : Nat} : namP p s 0 0 = 1 ∧ namP p s 0 1 = p 0 1 ||| 2 ^ (s - 65) ∧ namP p s 0 2 = (if p 0 1 = 0 then s - 65 else p 0 2) ∧ namP p s 0 3 = s - 65 ∧ ∀ r, r ≠ 0 → namP p s r = p r := by
  refine ⟨?_, ?_, ?_, ?_, fun r hr => ?_⟩ <;> unfold namP
  · rw [pst_eq]
  · rw [pst_ne _ (by decide), pst_ne _ (by decide), pst_eq]
  · rw [pst_ne _ (by decide), pst_ne _ (by decide), pst_ne _ (by decide), pst_eq]
  · rw [pst_ne _ (by decide), pst_eq]
  · rw [pst_other _ hr, pst_other _ hr, pst_other _ hr, pst_other _ hr]
theorem gr48 {p0 : PSt} {pd : Nat → Nat} {c N : Nat} (hG : GPad p0 pd c) (hN : 100 ≤ N) : ∀ (m k fuel : Nat) (τ : Mem), c ≤ k + m → k ≤ c → m + 1 < fuel → RPad τ pd c → PP p0 pd k 0 0 = 0 → GP τ (PP p0 pd k) (PP p0 pd k 1) →
    ∃ τ2 : Mem, f_X12_grammar_L48 N fuel ((cbt (PP p0 pd k 0 1) : Nat) : Int) (k : Int) τ = some (((cbt (PP p0 pd c 0 1) : Nat) : Int), τ2) ∧ offG τ τ2 ∧ GP τ2 (PP p0 pd c) (PP p0 pd c 1) := by
  have h60 := hG.1
  have h3 := hG.2.2.1
  intro m
  induction m with
  | zero =>
    intro k fuel τ hm hk hf hP h0 hg
    have e : k = c := by omega
    rw [← e] at h3
    omega
  | succ m ih =>
    intro k fuel τ hm hk hf hP h0 hg
    obtain ⟨f, rfl⟩ : ∃ f, fuel = f + 1 := ⟨fuel - 1, by omega⟩
    have hkc : k < c := by
      rcases Nat.lt_or_ge k c with z | z
      · exact z
      · have e : k = c := by omega
        rw [← e] at h3
        omega
    obtain ⟨y1, y2, y3, y4⟩ := step0 h0 (GPad_5 hG hkc)
    obtain ⟨n0, n1, n2, n3, nr⟩ := namP_f (p := PP p0 pd k) (s := pd k)
    have eP1 : PP p0 pd (k + 1) = namP (PP p0 pd k) (pd k) := y4
    have hkc1 : k + 1 < c := by
      rcases Nat.lt_or_ge (k + 1) c with z | z
      · exact z
      · have e : k + 1 = c := by omega
        rw [← e, eP1, n0] at h3
        omega
    obtain ⟨w1, w2⟩ := step1 (p := PP p0 pd (k + 1)) (s := pd (k + 1)) (by rw [eP1, n0]) (GPad_5 hG hkc1)
    have eP2 : PP p0 pd (k + 2) = pst (namP (PP p0 pd k) (pd k)) 0 0 2 := by
      have : PP p0 pd (k + 2) = stepP (PP p0 pd (k + 1)) (pd (k + 1)) := rfl
      rw [this, w2, eP1]
    have hW := hG.2.1 k hk
    have hb := hW.2.1
    have ecb : cbt (PP p0 pd (k + 2) 0 1) = cbt (PP p0 pd k 0 1) + 1 := by
      rw [eP2, p00 (by decide), n1]
      exact cbt_add _ hb _ (by omega) y3
    obtain ⟨k2, τ2, t1, t2, t3, t4⟩ := gr75 (x1 := ((cbt (PP p0 pd k 0 1) + 1 : Nat) : Int)) (n := pd k - 65) hG hN (c - (k + 2)) (k + 2) N τ (by omega) (by omega) (by omega) hP (by rw [eP2, pst_eq]) (by rw [eP2, p00 (by decide), n3]) (by
      rw [eP2, pr0 (by decide), nr 1 (by decide)]
      obtain ⟨g1, g2, g3⟩ := hg
      refine ⟨g1, ?_, ?_⟩
      · rw [pr0 (by decide), pr0 (by decide), nr 1 (by decide), nr 2 (by decide)]; exact g2
      · rw [pr0 (by decide), pr0 (by decide), pr0 (by decide), nr 1 (by decide), nr 2 (by decide), nr 3 (by decide)]; exact g3)
    have hP2 := RPad_off hP t3
    have h1 := hP.2 k hkc
    have e65 : (pd k : Int) - 65 = ((pd k - 65 : Nat) : Int) := by omega
    have ecn : ((cbt (PP p0 pd k 0 1) : Nat) : Int) + 1 = ((cbt (PP p0 pd k 0 1) + 1 : Nat) : Int) := by omega
    have ek2 : (k : Int) + 2 = ((k + 2 : Nat) : Int) := by omega
    have hbody : f_X12_grammar_L48 N (f + 1) ((cbt (PP p0 pd k 0 1) : Nat) : Int) (k : Int) τ = f_X12_grammar_L48 N f ((cbt (PP p0 pd k 0 1) + 1 : Nat) : Int) (k2 : Int) τ2 := by
      rw [f_X12_grammar_L48, hP.1, ifle_f (by omega) (by omega) (by omega), gd_pos ⟨by omega, by omega⟩, Int.toNat_natCast, h1, e65, nm_s, ecn, nm_s, ek2, nm_s, bL1_ok t1]
    rcases t4 with ⟨z1, z2, z3⟩ | ⟨z1, z2, z3, z4⟩
    · obtain ⟨g, rfl⟩ : ∃ g, f = g + 1 := ⟨f - 1, by omega⟩
      refine ⟨τ2, ?_, t3, z2⟩
      rw [hbody, f_X12_grammar_L48, hP2.1, ifle_t (by omega) (by omega) (by omega), z3, ecb]
    · obtain ⟨τ3, s1, s2, s3⟩ := ih k2 f τ2 (by omega) z1 (by omega) hP2 z2 z3
      refine ⟨τ3, ?_, offG_trans t3 s2, s3⟩
      rw [hbody]
      rw [z4, ecb] at s1
      exact s1
/-- the first name told stays the first one -/
theorem first_told {p0 : PSt} {pd : Nat → Nat} {c : Nat} (hG : GPad p0 pd c) (h00 : p0 0 0 = 0) (h01 : p0 0 1 = 0) : ∀ j, j + 1 ≤ c → PP p0 pd (j + 1) 0 2 = pd 0 - 65 ∧ PP p0 pd (j + 1) 0 1 ≠ 0
  | 0, hj => by
    obtain ⟨y1, y2, y3, y4⟩ := step0 (p := PP p0 pd 0) (s := pd 0) h00 (GPad_5 hG (by omega))
    obtain ⟨n0, n1, n2, n3, nr⟩ := namP_f (p := PP p0 pd 0) (s := pd 0)
    have eP1 : PP p0 pd (0 + 1) = namP (PP p0 pd 0) (pd 0) := y4
    have e01 : PP p0 pd 0 0 1 = 0 := h01
    rw [eP1, n2, n1, e01, if_pos rfl]
    refine ⟨rfl, ?_⟩
    rw [Nat.zero_or]
    exact Nat.pos_iff_ne_zero.mp (Nat.pow_pos (by decide))
  | j + 1, hj => by
    obtain ⟨i1, i2⟩ := first_told hG h00 h01 j (by omega)
    have h5 := GPad_5 hG (by omega : j + 1 < c)
    have hW := hG.2.1 (j + 1) (by omega)
    have hst := hW.1
    have eP : PP p0 pd (j + 1 + 1) = stepP (PP p0 pd (j + 1)) (pd (j + 1)) := rfl
    rw [eP]
    have hz : PP p0 pd (j + 1) 0 0 = 0 ∨ PP p0 pd (j + 1) 0 0 = 1 ∨ PP p0 pd (j + 1) 0 0 = 2 ∨ 3 ≤ PP p0 pd (j + 1) 0 0 := by omega
    rcases hz with z | z | z | z
    · obtain ⟨y1, y2, y3, y4⟩ := step0 z h5
      obtain ⟨n0, n1, n2, n3, nr⟩ := namP_f (p := PP p0 pd (j + 1)) (s := pd (j + 1))
      rw [y4, n2, n1, if_neg i2]
      refine ⟨i1, fun e => i2 ?_⟩
      exact (Nat.or_eq_zero_iff.mp e).1
    · obtain ⟨y1, y2⟩ := step1 z h5
      rw [y2, p00 (by decide), p00 (by decide)]
      exact ⟨i1, i2⟩
    · obtain ⟨b1, b2, b3, b4, b5⟩ := WB_beg hW z
      rcases step2 z h5 with ⟨y1, y2⟩ | ⟨y1, y2⟩
      · rw [y2, p00 (by decide), p00 (by decide), b4, b4]
        exact ⟨i1, i2⟩
      · obtain ⟨a1, a2, -⟩ := WB_add b1 (by rw [b3]; decide) y1
        rw [y2, a2 2 (by decide), a2 1 (by decide), b4, b4]
        exact ⟨i1, i2⟩
    · have hB := WB_of hW z
      rcases step3 z h5 with ⟨y1, y2, y3, y4⟩ | ⟨y1, y4⟩ | ⟨y1, y4⟩
      · obtain ⟨a1, a2, -⟩ := WB_add hB y3 y2
        rw [y4, a2 2 (by decide), a2 1 (by decide)]
        exact ⟨i1, i2⟩
      · rw [y4, p00 (by decide), p00 (by decide)]
        exact ⟨i1, i2⟩
      · rw [y4, p00 (by decide), p00 (by decide)]
        exact ⟨i1, i2⟩
theorem gr12 {N : Nat} : ∀ (m y fuel : Nat) (τ : Mem), y + m = 6 → m < fuel → (∀ z, z < y → τ 2 z = 0) →
    ∃ τ2, f_X12_grammar_L12 N fuel (y : Int) τ = some τ2 ∧ (∀ k, k ≠ 2 → τ2 k = τ k) ∧ ∀ z, z < 6 → τ2 2 z = 0 := by
  intro m
  induction m with
  | zero =>
    intro y fuel τ hb hf h
    obtain ⟨k, rfl⟩ : ∃ k, fuel = k + 1 := ⟨fuel - 1, by omega⟩
    refine ⟨τ, ?_, fun _ _ => rfl, fun z hz => h z (by omega)⟩
    rw [f_X12_grammar_L12, ifle_t (by omega) (by omega) (by omega)]
  | succ m ih =>
    intro y fuel τ hb hf h
    obtain ⟨k, rfl⟩ : ∃ k, fuel = k + 1 := ⟨fuel - 1, by omega⟩
    obtain ⟨τ2, t1, t2, t3⟩ := ih (y + 1) k (st τ 2 y 0) (by omega) (by omega) (fun z hz => by
      by_cases e : z = y
      · rw [e, st_eq]
      · rw [st_ne _ _ e]; exact h z (by omega))
    refine ⟨τ2, ?_, fun q hq => by rw [t2 q hq]; exact st_other _ _ hq, t3⟩
    rw [f_X12_grammar_L12, ifle_f (by omega) (by omega) (by omega), gd_pos (by omega), Int.toNat_natCast, nm_s, nm_s]
    exact t1
def aGra (A : AS) (p : PSt) : AS := fun k x y z => if k = 0 then 0 else if k = 2 then p 1 x else if k = 3 then p 2 (x * 4 + y) else if k = 4 then p 3 ((x * 4 + y) * 4 + z) else if k = 5 then p 0 2 else A k x y z
/-- MendTexts.grammar -/
theorem grammar_m {σ τ : Mem} {A : AS} {N : Nat} (hN : 100 ≤ N) (h : Inv σ τ A) : SameI (f_X11_grammar N σ) (f_X12_grammar N τ) := by
  obtain ⟨v, σ2, t1, t2, ⟨t3, t4, t5⟩, t6⟩ := read_both (N := N) hN h.1 h.2.2.2.2.2.1
  obtain ⟨g1, g2, g3, g4, g5, g6, g7, g8, g9⟩ := id h
  rcases t5 with hv | ⟨hv, h3, hCD, hWP⟩
  · refine ⟨-5, σ2, τ, A, ?_, ?_, Inv_710 h t3 t4⟩
    · unfold f_X11_grammar
      rw [bL1_ok t1, ife_f (by omega) (by omega) (by omega) (by omega) (by omega)]
    · unfold f_X12_grammar
      rw [bV_ok t2, ifl_f (by omega) (by omega) (by omega)]
  · have h60 := g1.1
    have hG : GPad (p0C σ) (aP A) (aC A) := ⟨h60, hWP, h3, fun k hk => (g1.2.2.2 k hk).2.2⟩
    have hWC := hWP (aC A) (Nat.le_refl _)
    have hB := WB_of hWC h3
    have hc0 : 0 < aC A := by
      rcases Nat.eq_zero_or_pos (aC A) with z | z
      · rw [z] at h3
        exact absurd h3 (by show ¬ 3 ≤ 0; decide)
      · exact z
    obtain ⟨hf1, hf2⟩ := first_told hG rfl rfl (aC A - 1) (by omega)
    rw [show aC A - 1 + 1 = aC A by omega] at hf1 hf2
    have h0step := step0 (p := PP (p0C σ) (aP A) 0) (s := aP A 0) rfl (GPad_5 hG hc0)
    -- the reference
    obtain ⟨τ4, u1, u2, u3⟩ := gr12 (N := N) 6 0 N τ rfl (by omega) (fun z hz => absurd hz (Nat.not_lt_zero z))
    have u1' : f_X12_grammar_L12 N N 0 τ = some τ4 := u1
    have hp1 : τ4 1 (0 : Int).toNat = (aP A 0 : Int) := by
      rw [u2 1 (by decide)]
      exact (g1.2.2.2 0 hc0).2.1
    have e65 : (aP A 0 : Int) - 65 = ((aP A 0 - 65 : Nat) : Int) := by omega
    have hRP : RPad (st τ4 0 5 ((aP A 0 - 65 : Nat) : Int)) (aP A) (aC A) := by
      refine ⟨?_, fun k hk => ?_⟩
      · rw [st_ne _ _ (by decide), u2 0 (by decide)]; exact g1.2.2.1
      · rw [st_other _ _ (by decide), u2 1 (by decide)]; exact (g1.2.2.2 k hk).2.1
    have hGP0 : GP (st τ4 0 5 ((aP A 0 - 65 : Nat) : Int)) (PP (p0C σ) (aP A) 0) (PP (p0C σ) (aP A) 0 1) := by
      have e10 : ∀ m, PP (p0C σ) (aP A) 0 1 m = 0 := fun _ => rfl
      refine ⟨fun m hm => ?_, fun m r hm hr => ?_, fun m r q hm hr hq => ?_⟩
      · rw [st_other _ _ (by decide), e10]; exact u3 m hm
      · rw [e10] at hr; exact absurd hr (Nat.not_lt_zero r)
      · rw [e10] at hr; exact absurd hr (Nat.not_lt_zero r)
    obtain ⟨τ8, w1, w2, w3⟩ := gr48 (N := N) hG hN (aC A) 0 N _ (by omega) (by omega) (by omega) hRP rfl hGP0
    have ecb0 : cbt (PP (p0C σ) (aP A) 0 0 1) = 0 := by
      show cbt 0 = 0
      decide
    rw [ecb0] at w1
    have w1' : f_X12_grammar_L48 N N 0 0 (st τ4 0 5 ((aP A 0 - 65 : Nat) : Int)) = some (((cbt (PP (p0C σ) (aP A) (aC A) 0 1) : Nat) : Int), τ8) := w1
    obtain ⟨τ2, x1, x2, x3⟩ := turn_m (N := N) (τ := st τ8 0 0 0) (by omega)
    generalize hpp : PP (p0C σ) (aP A) (aC A) = p at *
    have r : ∀ k, k ≠ 0 → k ≠ 2 → k ≠ 3 → k ≠ 4 → k ≠ 23 → τ2 k = τ k := fun k a b c d e => by rw [x2 k e, st_other _ _ a, w2 k b c d, st_other _ _ a, u2 k b]
    have r0 : ∀ j, j ≠ 0 → j ≠ 5 → τ2 0 j = τ 0 j := fun j a b => by rw [x2 0 (by decide), st_ne _ _ a, w2 0 (by decide) (by decide) (by decide), st_ne _ _ b, u2 0 (by decide)]
    have r05 : τ2 0 5 = ((aP A 0 - 65 : Nat) : Int) := by rw [x2 0 (by decide), st_ne _ _ (by decide), w2 0 (by decide) (by decide) (by decide), st_eq]
    have r00 : τ2 0 0 = 0 := by rw [x2 0 (by decide), st_eq]
    have r234 : ∀ k, k = 2 ∨ k = 3 ∨ k = 4 → τ2 k = τ8 k := fun k hk => by rw [x2 k (by omega), st_other _ _ (by omega)]
    -- the class
    obtain ⟨c1, c2, c3, c4, c5, c6, c7⟩ := hCD
    obtain ⟨b1, b2, b3, b4, b5, b6, b7, b8, b9⟩ := hB
    generalize hs3 : cpy (cpy (cpy σ2 8 4 6) 9 5 25) 10 6 100 = σ3
    have q3 : ∀ k, k ≠ 4 → k ≠ 5 → k ≠ 6 → σ3 k = σ2 k := fun k a b c => by
      rw [← hs3]
      funext j
      unfold cpy
      rw [if_neg (fun z => c z.1), if_neg (fun z => b z.1), if_neg (fun z => a z.1)]
    have q4 : ∀ n, n < 6 → σ3 4 n = (p 1 n : Int) := fun n hn => by
      rw [← hs3, ← c5 n hn]
      unfold cpy
      rw [if_neg (fun z => absurd z.1 (by decide)), if_neg (fun z => absurd z.1 (by decide)), if_pos ⟨rfl, hn⟩]
    have q5 : ∀ s, s < 25 → σ3 5 s = (p 2 s : Int) := fun s hs => by
      rw [← hs3, ← c6 s hs]
      unfold cpy
      rw [if_neg (fun z => absurd z.1 (by decide)), if_pos ⟨rfl, hs⟩, if_neg (fun z => absurd z.1 (by decide))]
    have q6 : ∀ t, t < 100 → σ3 6 t = (p 3 t : Int) := fun t ht => by
      rw [← hs3, ← c7 t ht]
      unfold cpy
      rw [if_pos ⟨rfl, ht⟩, if_neg (fun z => absurd z.1 (by decide)), if_neg (fun z => absurd z.1 (by decide))]
    generalize hs9 : st (st (st (st (st σ3 3 3 (p 0 1 : Int)) 3 4 (p 0 2 : Int)) 1 1 0) 0 12 0) 38 3 (-1) = ρ
    have o : ∀ k, k ≠ 0 → k ≠ 1 → k ≠ 3 → k ≠ 38 → ρ k = σ3 k := fun k a b c d => by rw [← hs9, st_other _ _ d, st_other _ _ a, st_other _ _ b, st_other _ _ c, st_other _ _ c]
    have oo : ∀ k, k ≠ 0 → k ≠ 1 → k ≠ 3 → k ≠ 38 → k ≠ 4 → k ≠ 5 → k ≠ 6 → k ≠ 7 → k ≠ 8 → k ≠ 9 → k ≠ 10 → ρ k = σ k := fun k a b c d e f g i j l m => by rw [o k a b c d, q3 k e f g, t3 k i j l m]
    have o3 : ∀ j, ρ 3 j = if j = 4 then (p 0 2 : Int) else if j = 3 then (p 0 1 : Int) else σ 3 j := fun j => by
      rw [← hs9, st_other _ _ (by decide), st_other _ _ (by decide), st_other _ _ (by decide), st_row, st_row, q3 3 (by decide) (by decide) (by decide), t3 3 (by decide) (by decide) (by decide) (by decide)]
    have o11 : ρ 1 1 = 0 := by rw [← hs9, st_other _ _ (by decide), st_other _ _ (by decide), st_eq]
    have o012 : ρ 0 12 = 0 := by rw [← hs9, st_other _ _ (by decide), st_eq]
    have o383 : ρ 38 3 = -1 := by rw [← hs9, st_eq]
    have e37 : σ3 7 = σ2 7 := q3 7 (by decide) (by decide) (by decide)
    refine ⟨((cbt (p 0 1) : Nat) : Int), ρ, τ2, aGra A p, ?_, ?_, ⟨Nat.zero_le _, o11, r00, fun k hk => absurd hk (Nat.not_lt_zero k)⟩, ?_, ?_, ?_, ?_, ?_, Or.inl o012, Or.inl o383, fun n hn => Or.inl (x3 n hn)⟩
    · have hcp : f_X4_copy σ2 = some (st (st σ3 3 3 (p 0 1 : Int)) 3 4 (p 0 2 : Int)) := by
        unfold f_X4_copy
        rw [nm_s, nm_s, nm_s, show (6 : Int).toNat = 6 from rfl, show (25 : Int).toNat = 25 from rfl, show (100 : Int).toNat = 100 from rfl, hs3, e37, c1, nm_s, st_other _ _ (by decide : 7 ≠ 3), e37, c2, nm_s]
      unfold f_X11_grammar
      rw [bL1_ok t1, hv, if_pos rfl, bV_ok hcp, nm_s, bV_ok forgetAnswers_m, hs9, o3 3, if_neg (by decide), if_pos rfl, bV_ok (bitCount_m _ b1)]
    · unfold f_X12_grammar
      rw [bV_ok t2, hv, ifl_t (by decide) (by decide) (by decide), bV_ok u1', gd_pos ⟨by omega, by omega⟩, hp1, e65, nm_s, bL1_ok w1', nm_s, bV_ok x1]
    · have hwf : wfM ρ := by
        refine ⟨fun n hn => ?_, fun s hs => ?_, fun t ht => ?_, ?_, ?_⟩
        · rw [o 4 (by decide) (by decide) (by decide) (by decide), q4 n hn]
          have := b4 n hn
          omega
        · rw [o 5 (by decide) (by decide) (by decide) (by decide), q5 s hs]
          have := b5 s hs
          omega
        · rw [o 6 (by decide) (by decide) (by decide) (by decide), q6 t ht]
          have := b6 t ht
          omega
        · rw [o3, if_neg (by decide), if_neg (by decide), g2.2.1]; decide
        · rw [oo 12 (by decide) (by decide) (by decide) (by decide) (by decide) (by decide) (by decide) (by decide) (by decide) (by decide) (by decide)]
          exact g2.1.2.2.2.2
      have h36 : ρ 3 6 = -1 := by rw [o3, if_neg (by decide), if_neg (by decide)]; exact g2.2.1
      have hr4 : ∀ n, n < 6 → ρ 4 n = (p 1 n : Int) := fun n hn => by rw [o 4 (by decide) (by decide) (by decide) (by decide)]; exact q4 n hn
      have esl : ∀ n r, n < 6 → r < p 1 n → slC ρ n r = n * 4 + r := fun n r hn hr => by
        unfold slC
        rw [if_pos (by rw [hr4 n hn]; omega)]
      have hrc : ∀ n, n < 6 → rcC ρ n = p 1 n := fun n hn => by
        unfold rcC
        rw [hr4 n hn, h36, if_neg (by omega)]; omega
      have hrl : ∀ n r, n < 6 → r < p 1 n → rlC ρ n r = p 2 (n * 4 + r) := fun n r hn hr => by
        have := b4 n hn
        unfold rlC
        rw [esl n r hn hr, o 5 (by decide) (by decide) (by decide) (by decide), q5 _ (by omega)]; omega
      obtain ⟨k1, k2, k3⟩ := w3
      refine ⟨hwf, h36, ⟨hrc, fun n r hn hr => hrl n r hn (by rw [← hrc n hn]; exact hr), fun n r q hn hr hq => ?_⟩, ⟨fun n hn => ?_, fun n r hn hr => ?_, fun n r q hn hr hq => ?_⟩, b4, ?_, ?_, ?_, p 0 1, b1, ?_, fun n hn => ⟨fun z => b8 n hn z, fun z => b7 n hn z⟩⟩
      · have hr2 : r < p 1 n := by rw [← hrc n hn]; exact hr
        rw [hrl n r hn hr2] at hq
        have := b4 n hn
        have := b5 (n * 4 + r) (by omega)
        unfold rsC sgC
        rw [esl n r hn hr2, o 6 (by decide) (by decide) (by decide) (by decide), q6 _ (by omega)]
        show _ = p 3 ((n * 4 + r) * 4 + q)
        omega
      · have := b4 n hn
        rw [r234 2 (Or.inl rfl)]
        exact ⟨k1 n hn, by show p 1 n ≤ 5; omega⟩
      · have hr2 : r < p 1 n := hr
        have := b4 n hn
        rw [r234 3 (Or.inr (Or.inl rfl))]
        exact ⟨k2 n r hn hr2, b5 (n * 4 + r) (by omega)⟩
      · have hr2 : r < p 1 n := hr
        have hq2 : q < p 2 (n * 4 + r) := hq
        have := b4 n hn
        have := b5 (n * 4 + r) (by omega)
        rw [r234 4 (Or.inr (Or.inr rfl))]
        exact ⟨k3 n r q hn hr2 hq2, b6 _ (by omega)⟩
      · exact b2
      · rw [o3, if_pos rfl]; rfl
      · rw [r05, ← hf1]; rfl
      · rw [o3, if_neg (by decide), if_pos rfl]
    · exact (WrdS_eq g3 (oo 13 (by decide) (by decide) (by decide) (by decide) (by decide) (by decide) (by decide) (by decide) (by decide) (by decide) (by decide)) (oo 14 (by decide) (by decide) (by decide) (by decide) (by decide) (by decide) (by decide) (by decide) (by decide) (by decide) (by decide)) (r0 6 (by decide) (by decide)) (r 5 (by decide) (by decide) (by decide) (by decide) (by decide)) : WrdS _ _ A)
    · exact (CosS_eq g4 (oo 12 (by decide) (by decide) (by decide) (by decide) (by decide) (by decide) (by decide) (by decide) (by decide) (by decide) (by decide)) (r 8 (by decide) (by decide) (by decide) (by decide) (by decide)) : CosS _ _ A)
    · exact (ExaS_eq g5 (fun k x y => oo k (by omega) (by omega) (by omega) (by omega) (by omega) (by omega) (by omega) (by omega) (by omega) (by omega) (by omega)) (r0 8 (by decide) (by decide)) (r 6 (by decide) (by decide) (by decide) (by decide) (by decide)) (r 7 (by decide) (by decide) (by decide) (by decide) (by decide)) : ExaS _ _ A)
    · refine DraS_eq t4 ?_ ?_ ?_
      · rw [o 7 (by decide) (by decide) (by decide) (by decide), q3 7 (by decide) (by decide) (by decide)]
      · rw [o 9 (by decide) (by decide) (by decide) (by decide), q3 9 (by decide) (by decide) (by decide)]
      · rw [o 10 (by decide) (by decide) (by decide) (by decide), q3 10 (by decide) (by decide) (by decide)]
