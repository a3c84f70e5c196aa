/-! layer 2, the reference's better: one rule's rows -/
theorem iCat {l1 l2 t1 t2 : Nat} (hl : l1 + l2 ≤ 12) (h1 : t1 < 4 ^ l1) (h2 : t2 < 4 ^ l2) : iOr (iShl (t1 : Int) (2 * (l2 : Int))) (t2 : Int) = ((t1 * 4 ^ l2 + t2 : Nat) : Int) := by
  have e4 : (4 : Nat) ^ l2 = 2 ^ (2 * l2) := by rw [Nat.pow_mul]
  have h3 := text_lt h1 h2
  have h4 := four_pow hl
  rw [e4] at h2 h3 ⊢
  rw [show (2 * (l2 : Int)) = ((2 * l2 : Nat) : Int) by omega, iShl_n t1 (2 * l2) (by omega) (by omega), iOr_n _ _ (by omega) (by omega), Nat.mul_comm t1, Nat.two_pow_add_eq_or_of_lt h2]
def Rw (σ : Mem) (p i j : Nat) (f : Nat → Nat) : Prop := ∀ b, i ≤ b → b ≤ j → R3 (σ 13 (7 * p + b)) (σ 14 (7 * p + b)) (σ 15 (7 * p + b)) (f b)
def eqR (σ τ : Mem) : Prop := (∀ k, k ≠ 0 → k ≠ 13 → k ≠ 14 → k ≠ 15 → τ k = σ k) ∧ ∀ j, j ≠ 20 → j ≠ 21 → j ≠ 22 → τ 0 j = σ 0 j
theorem eqR_rfl (σ : Mem) : eqR σ σ := ⟨fun _ _ _ _ _ => rfl, fun _ _ _ _ => rfl⟩
theorem eqR_trans {σ τ ρ : Mem} (h : eqR σ τ) (h2 : eqR τ ρ) : eqR σ ρ := ⟨fun k a b c d => (h2.1 k a b c d).trans (h.1 k a b c d), fun j a b c => (h2.2 j a b c).trans (h.2 j a b c)⟩
theorem eqR_0 {σ τ : Mem} (h : eq0 σ τ) : eqR σ τ := ⟨fun k a _ _ _ => h.1 k a, h.2⟩
theorem eqR_st {σ : Mem} {k j : Nat} {v : Int} (h : k = 13 ∨ k = 14 ∨ k = 15) : eqR σ (st σ k j v) := ⟨fun q a b c d => st_other σ _ (by omega), fun i _ _ _ => by rw [st_other σ _ (by omega : 0 ≠ k)]⟩
theorem RB_R {σ τ : Mem} {L dr pu ch : Nat} {wd : Nat → Nat} (h : RB σ L dr pu ch wd) (hr : eqR σ τ) : RB τ L dr pu ch wd := RB_eq h (hr.2 12 (by decide) (by decide) (by decide)) (hr.1 9 (by decide) (by decide) (by decide) (by decide)) (hr.1 8 (by decide) (by decide) (by decide) (by decide))
theorem TB_R {σ τ : Mem} {L : Nat} {Y : Nat → Nat → Nat → Nat} (h : TB σ L Y) (hr : eqR σ τ) : TB τ L Y := fun n a b hn hab hb => by
  rw [hr.1 10 (by decide) (by decide) (by decide) (by decide), hr.1 11 (by decide) (by decide) (by decide) (by decide), hr.1 12 (by decide) (by decide) (by decide) (by decide)]
  exact h n a b hn hab hb
/-- one value laid behind another, and kept if it is better -/
theorem put3 {σ : Mem} {x : Nat} {c1 l1 t1 c2 l2 t2 : Int} {u v w s s2 s3 : Nat} (hu : R3 c1 l1 t1 u) (hv : R3 c2 l2 t2 v) (hw : R3 (σ 13 x) (σ 14 x) (σ 15 x) w) (ou : ok s u) (ov : ok s2 v) (ow : ok s3 w) (hs : s ≤ 50) (hs2 : s2 ≤ 50) (hs3 : s3 ≤ 100) (nu : u ≠ TT) (hx : x < 35) :
    ∃ τ, (nm (c1 + c2) (fun (x8 : Int) => nm (l1 + l2) (fun (x9 : Int) => bV (if zI x9 ≤ zI 12 then (some (iOr (iShl t1 (2 * l2)) t2)) else (some 0)) (fun (v10 : Int) => bV (if zI 100000000 ≤ zI c2 then (some σ) else (gd (0 ≤ (x : Int) ∧ (x : Int) < ((35 : Nat) : Int)) (bV (if zI (σ 13 (x : Int).toNat) = zI 100000000 then (some 0) else (bV (f_X12_isBetter x8 x9 v10 (σ 13 (x : Int).toNat) (σ 14 (x : Int).toNat) (σ 15 (x : Int).toNat)) (fun (y18 : Int) => if zI y18 = zI 0 then (some 1) else (some 0)))) (fun (t15 : Nat) => if t15 = 0 then (nm (st σ 13 (x : Int).toNat x8) (fun (σ20 : Mem) => nm (st σ20 14 (x : Int).toNat x9) (fun (σ21 : Mem) => nm (st σ21 15 (x : Int).toNat v10) (fun (σ22 : Mem) => some σ22)))) else (some σ))))) (fun (σ12 : Mem) => some σ12))))) = some τ ∧ eqR σ τ ∧ (∀ y, y ≠ x → τ 13 y = σ 13 y ∧ τ 14 y = σ 14 y ∧ τ 15 y = σ 15 y) ∧ R3 (τ 13 x) (τ 14 x) (τ 15 x) (min w (cat u v)) := by
  rw [nm_s, nm_s]
  have r2 := R3_rng hv
  have rw3 := R3_rng hw
  obtain ⟨z, hz⟩ : ∃ z : Int, (if zI (l1 + l2) ≤ zI 12 then (some (iOr (iShl t1 (2 * l2)) t2)) else (some 0)) = some z := by
    split
    · exact ⟨_, rfl⟩
    · exact ⟨_, rfl⟩
  rw [hz, bV_s]
  have hwle := ok_le ow
  by_cases q : v = TT
  · refine ⟨σ, ?_, eqR_rfl σ, fun _ _ => ⟨rfl, rfl, rfl⟩, ?_⟩
    · rw [ifle_t ((R3_TT hv).mpr q) (by omega) (by omega), bV_s]
    · rw [q, cat_TTr, Nat.min_eq_left hwle]; exact hw
  · have hc2 : c2 < 100000000 := Int.lt_of_not_ge (fun z => q ((R3_TT hv).mp z))
    have hu2 := hu.resolve_left (fun z => nu z.1)
    have hv2 := hv.resolve_left (fun z => q z.1)
    obtain ⟨-, u1, u2, u3, u4⟩ := hu2
    obtain ⟨-, v1, v2, v3, v4⟩ := hv2
    have au := ok_lt ou nu
    have av := ok_lt ov q
    have hcv : R3 (c1 + c2) (l1 + l2) z (cat u v) := by
      by_cases hb : Cv u + Cv v < 100000000
      · obtain ⟨e1, e2⟩ := cat_eq ou ov (by omega) (by omega) nu q hb
        have ct := ctext_lt ou ov nu q
        refine Or.inr ⟨e2, ?_, ?_, ?_, ?_⟩
        · rw [e1, pk_C (by omega) ct.2]; exact hb
        · rw [e1, pk_C (by omega) ct.2]; omega
        · rw [e1, pk_L (by omega) ct.2]; omega
        · rw [e1, pk_T ct.2]
          unfold ctext
          subst u3; subst u4; subst v3; subst v4
          by_cases h12 : Lv u + Lv v ≤ 12
          · rw [ifle_t (by omega) (by omega) (by omega), iCat h12 (au.2.2.1 (by omega)) (av.2.2.1 (by omega))] at hz
            rw [if_pos h12]
            exact (Option.some.inj hz).symm
          · rw [ifle_f (by omega) (by omega) (by omega)] at hz
            rw [if_neg h12]
            exact (Option.some.inj hz).symm
      · refine Or.inl ⟨if_pos (Or.inr (Or.inr (Nat.le_of_not_lt hb))), by omega, by omega⟩
    have ocv := cat_ok ou ov (by omega : s ≤ 100) (by omega : s2 ≤ 100)
    have hcvle := ok_le ocv
    have hput : ∃ t : Nat, (if zI (σ 13 x) = zI 100000000 then (some 0) else (bV (f_X12_isBetter (c1 + c2) (l1 + l2) z (σ 13 x) (σ 14 x) (σ 15 x)) (fun (y18 : Int) => if zI y18 = zI 0 then (some 1) else (some 0)))) = some t ∧ (t = 0 → min w (cat u v) = cat u v) ∧ (t ≠ 0 → min w (cat u v) = w) := by
      by_cases h8 : σ 13 x = 100000000
      · have hwT := (R3_TT hw).mp (by omega)
        refine ⟨0, by rw [ife_t h8], fun _ => ?_, fun z => absurd rfl z⟩
        rw [hwT]; exact Nat.min_eq_right hcvle
      · rw [ife_f h8 (by omega) (by omega) (by omega) (by omega)]
        obtain ⟨b, b1, b2, b3, b4⟩ := isBetter_m hcv hw ocv ow (by omega) hs3
        rw [b1, bV_s]
        rcases b2 with b2 | b2
        · refine ⟨1, by rw [b2, if_pos rfl], fun z => absurd z (by decide), fun _ => ?_⟩
          by_cases hT : cat u v = TT
          · rw [hT]; exact Nat.min_eq_left hwle
          · have := b3 hT
            omega
        · refine ⟨0, by rw [b2, if_neg (by decide)], fun _ => ?_, fun z => absurd rfl z⟩
          by_cases hT : cat u v = TT
          · by_cases hwT : w = TT
            · rw [hT, hwT]; exact Nat.min_self _
            · have := b4 hT hwT
              omega
          · have := b3 hT
            omega
    obtain ⟨t, p1, p2, p3⟩ := hput
    rw [ifle_f (by omega) (by omega) (by omega), gd_pos (by omega), Int.toNat_natCast, p1, bV_s]
    by_cases h0 : t = 0
    · refine ⟨st (st (st σ 13 x (c1 + c2)) 14 x (l1 + l2)) 15 x z, ?_, ?_, fun y hy => ⟨?_, ?_, ?_⟩, ?_⟩
      · rw [if_pos h0, nm_s, nm_s, nm_s, bV_s]
      · exact eqR_trans (eqR_st (Or.inl rfl)) (eqR_trans (eqR_st (Or.inr (Or.inl rfl))) (eqR_st (Or.inr (Or.inr rfl))))
      · rw [st_other _ _ (by decide), st_other _ _ (by decide), st_ne _ _ hy]
      · rw [st_other _ _ (by decide), st_ne _ _ hy, st_other _ _ (by decide)]
      · rw [st_ne _ _ hy, st_other _ _ (by decide), st_other _ _ (by decide)]
      · rw [p2 h0, st_other _ _ (by decide : 13 ≠ 15), st_other _ _ (by decide : 13 ≠ 14), st_eq, st_other _ _ (by decide : 14 ≠ 15), st_eq, st_eq]
        exact hcv
    · refine ⟨σ, by rw [if_neg h0, bV_s], eqR_rfl σ, fun _ _ => ⟨rfl, rfl, rfl⟩, ?_⟩
      rw [p3 h0]; exact hw
