/-! layer 2, the reference's better: its loops -/
theorem mnx_TT {f : Nat → Nat} {i : Nat} : ∀ k, mnx f i k ≤ TT
  | 0 => Nat.le_refl _
  | k + 1 => Nat.le_trans (Nat.min_le_left _ _) (mnx_TT k)
theorem mnx_ok {f : Nat → Nat} {i s : Nat} : ∀ {k : Nat}, (∀ a, i ≤ a → a < i + k → ok s (f a)) → ok s (mnx f i k)
  | 0, _ => ok_TT s
  | k + 1, h => by
    have h1 := mnx_ok (k := k) (fun a h1 h2 => h a h1 (by omega))
    have h2 := h (i + k) (by omega) (by omega)
    show ok s (min (mnx f i k) (f (i + k)))
    rcases Nat.le_total (mnx f i k) (f (i + k)) with q | q
    · rw [Nat.min_eq_left q]; exact h1
    · rw [Nat.min_eq_right q]; exact h2
theorem mnx_step {f : Nat → Nat} {i a : Nat} (h : i ≤ a) : mnx f i (a + 1 - i) = min (mnx f i (a - i)) (f a) := by
  rw [show a + 1 - i = a - i + 1 by omega]
  show min (mnx f i (a - i)) (f (i + (a - i))) = _
  rw [show i + (a - i) = a by omega]
def acc (f : Nat → Nat) (g : Nat → Nat → Nat) (i a b0 b : Nat) : Nat := mnx (fun x => cat (f x) (g x b)) i (min (if b < b0 then a + 1 else a) (b + 1) - i)
theorem acc_lo {f : Nat → Nat} {g : Nat → Nat → Nat} {i a b0 b : Nat} (h1 : a ≤ b) (h2 : b0 ≤ b) : acc f g i a b0 b = mnx (fun x => cat (f x) (g x b)) i (a - i) := by
  unfold acc
  rw [if_neg (by omega), Nat.min_eq_left (by omega)]
theorem acc_hi {f : Nat → Nat} {g : Nat → Nat → Nat} {i a b0 b : Nat} (h1 : a ≤ b) (h2 : b < b0) : acc f g i a b0 b = mnx (fun x => cat (f x) (g x b)) i (a + 1 - i) := by
  unfold acc
  rw [if_pos h2, Nat.min_eq_left (by omega)]
theorem acc_all {f : Nat → Nat} {g : Nat → Nat → Nat} {i a b0 b : Nat} (h1 : b < a) : acc f g i a b0 b = mnx (fun x => cat (f x) (g x b)) i (b + 1 - i) := by
  unfold acc
  rw [Nat.min_eq_right (by split <;> omega)]
theorem nm_k {α β : Type} {v : α} {g : α → Option β} {h : β → Option β} : nm v (fun x => bV (g x) h) = bV (nm v g) h := rfl
theorem bV_k {α β γ : Type} {o : Option α} {g : α → Option β} {h : β → Option γ} : bV (bV o g) h = bV o (fun x => bV (g x) h) := by cases o <;> rfl
theorem bV_id {α : Type} {o : Option α} : bV o (fun x => some x) = o := by cases o <;> rfl
theorem put3_k {τ : Mem} {c l : Int} {O : Int → Option Int} {B : Int → Int → Int → Option Mem} {K : Mem → Option Mem} {r : Option Mem}
    (h : (nm c (fun (x8 : Int) => nm l (fun (x9 : Int) => bV (O x9) (fun (v10 : Int) => bV (B x8 x9 v10) (fun (σ12 : Mem) => some σ12))))) = some τ) (hk : K τ = r) :
    (nm c (fun (x8 : Int) => nm l (fun (x9 : Int) => bV (O x9) (fun (v10 : Int) => bV (B x8 x9 v10) K)))) = r := by
  simp only [nm, bV_id] at h ⊢
  generalize O l = o1 at h ⊢
  cases o1 with
  | none => cases h
  | some v =>
    rw [bV_s] at h ⊢
    rw [h, bV_s]
    exact hk
theorem b91 {L dr pu ch i j a p s xs N : Nat} {wd : Nat → Nat} {Y : Nat → Nat → Nat → Nat} {f : Nat → Nat} {x1 x6 : Int} (hN : 10 ≤ N) (hia : i ≤ a) (haj : a ≤ j) (hj : j ≤ L) (hp : p < 4) (hs : s < 10) (hxs : xs < 30) (ho : okO L (onev (ltV wd dr pu ch) Y)) (hf : ∀ b, i ≤ b → b ≤ j → ok (b - i) (f b)) :
    ∀ (m b0 fuel : Nat) (σ : Mem), b0 + m = j + 1 → a ≤ b0 → m < fuel → RB σ L dr pu ch wd → TB σ L Y → σ 4 (4 * xs + p) = ((sgx s : Nat) : Int) → Rw σ p i j f → Rw σ (p + 1) i j (acc f (onev (ltV wd dr pu ch) Y s) i a b0) →
    ∃ τ, f_X12_better_L91 N x1 (i : Int) (j : Int) (xs : Int) x6 (p : Int) (a : Int) fuel (b0 : Int) σ = some τ ∧ eqR σ τ ∧ Rw τ p i j f ∧ Rw τ (p + 1) i j (acc f (onev (ltV wd dr pu ch) Y s) i a (j + 1)) ∧ ∀ y, 7 * (p + 2) ≤ y → τ 13 y = σ 13 y := by
  intro m
  induction m with
  | zero =>
    intro b0 fuel σ hb hab hfu hR hT h4 hr1 hr2
    obtain ⟨k, rfl⟩ : ∃ k, fuel = k + 1 := ⟨fuel - 1, by omega⟩
    have hL := hR.1
    have e : b0 = j + 1 := by omega
    subst e
    refine ⟨σ, ?_, eqR_rfl σ, hr1, hr2, fun _ _ => rfl⟩
    rw [f_X12_better_L91, ifl_t (by omega) (by omega) (by omega)]
  | succ m ih =>
    intro b0 fuel σ hb hab hfu hR hT h4 hr1 hr2
    obtain ⟨k, rfl⟩ : ∃ k, fuel = k + 1 := ⟨fuel - 1, by omega⟩
    have hL := hR.1
    have ha := hr1 a hia haj
    have hrng := R3_rng ha
    have i1 : 7 * (p : Int) + (a : Int) = ((7 * p + a : Nat) : Int) := by omega
    have i2 : 4 * (xs : Int) + (p : Int) = ((4 * xs + p : Nat) : Int) := by omega
    have i3 : 7 * ((p : Int) + 1) + (b0 : Int) = ((7 * (p + 1) + b0 : Nat) : Int) := by omega
    by_cases q : 100000000 ≤ σ 13 (7 * p + a)
    · have hTT := (R3_TT ha).mp q
      refine ⟨σ, ?_, eqR_rfl σ, hr1, fun b h1 h2 => ?_, fun _ _ => rfl⟩
      · rw [f_X12_better_L91, ifl_f (by omega) (by omega) (by omega), i1, gd_pos (by omega), Int.toNat_natCast, ifle_t q (by omega) (by omega)]
      · have e : acc f (onev (ltV wd dr pu ch) Y s) i a (j + 1) b = acc f (onev (ltV wd dr pu ch) Y s) i a b0 b := by
          by_cases z : b < a
          · rw [acc_all z, acc_all z]
          · by_cases z2 : b < b0
            · rw [acc_hi (by omega) z2, acc_hi (by omega) (by omega)]
            · rw [acc_hi (by omega) (by omega), acc_lo (by omega) (by omega), mnx_step hia]
              rw [hTT, cat_TTl, Nat.min_eq_left (mnx_TT _)]
        rw [e]; exact hr2 b h1 h2
    · have hne : f a ≠ TT := fun z => q ((R3_TT ha).mpr z)
      obtain ⟨ρ, o1, o2, o3⟩ := one_m (N := N) (s := s) (a := a) (b := b0) hN hab (by omega) hs hR hT
      have hR2 := eqR_0 o2
      have ev := ho s a b0 hs hab (by omega)
      have r13 : ρ 13 = σ 13 := o2.1 13 (by decide)
      have r14 : ρ 14 = σ 14 := o2.1 14 (by decide)
      have r15 : ρ 15 = σ 15 := o2.1 15 (by decide)
      have hcell := hr2 b0 (by omega) (by omega)
      rw [acc_lo hab (Nat.le_refl _)] at hcell
      have hcok : ok (b0 - i) (mnx (fun x => cat (f x) (onev (ltV wd dr pu ch) Y s x b0)) i (a - i)) := mnx_ok (fun x h1 h2 => by
        have := cat_ok (hf x h1 (by omega)) (ho s x b0 hs (by omega) (by omega)) (by omega) (by omega)
        rw [show x - i + (b0 - x) = b0 - i by omega] at this
        exact this)
      rw [← r13, ← r14, ← r15] at hcell ha
      obtain ⟨τ, t1, t2, t3, t4⟩ := put3 (x := 7 * (p + 1) + b0) ha o3 hcell (hf a hia haj) ev hcok (by omega) (by omega) (by omega) hne (by omega)
      have hall := eqR_trans hR2 t2
      have hq : Rw τ p i j f := fun b h1 h2 => by
        obtain ⟨y1, y2, y3⟩ := t3 (7 * p + b) (by omega)
        rw [y1, y2, y3, r13, r14, r15]
        exact hr1 b h1 h2
      have hq2 : Rw τ (p + 1) i j (acc f (onev (ltV wd dr pu ch) Y s) i a (b0 + 1)) := fun b h1 h2 => by
        by_cases z : b = b0
        · subst z
          rw [acc_hi hab (by omega), mnx_step hia]
          exact t4
        · obtain ⟨y1, y2, y3⟩ := t3 (7 * (p + 1) + b) (by omega)
          have e : acc f (onev (ltV wd dr pu ch) Y s) i a (b0 + 1) b = acc f (onev (ltV wd dr pu ch) Y s) i a b0 b := by
            by_cases z : b < a
            · rw [acc_all z, acc_all z]
            · by_cases z2 : b < b0
              · rw [acc_hi (by omega) z2, acc_hi (by omega) (by omega)]
              · rw [acc_lo (by omega) (by omega), acc_lo (by omega) (by omega)]
          rw [y1, y2, y3, r13, r14, r15, e]
          exact hr2 b h1 h2
      obtain ⟨ω, v1, v2, v3, v4, v5⟩ := ih (b0 + 1) k τ (by omega) (by omega) (by omega) (RB_R hR hall) (TB_R hT hall)
        (by rw [hall.1 4 (by decide) (by decide) (by decide) (by decide)]; exact h4) hq hq2
      refine ⟨ω, ?_, eqR_trans hall v2, v3, v4, fun y hy => by rw [v5 y hy, (t3 y (by omega)).1, r13]⟩
      rw [f_X12_better_L91, ifl_f (by omega) (by omega) (by omega), i1, gd_pos (by omega), Int.toNat_natCast, ifle_f (by omega) (by omega) (by omega), i2, gd_pos (by omega), Int.toNat_natCast, h4, bV_ok o1, nm_s, i3]
      exact put3_k (O := fun x9 => if zI x9 ≤ zI 12 then some (iOr (iShl (ρ 15 (7 * p + a)) (2 * ρ 0 21)) (ρ 0 22)) else some 0) (B := fun x8 x9 v10 => if zI 100000000 ≤ zI (ρ 0 20) then (some ρ) else (gd (0 ≤ ((7 * (p + 1) + b0 : Nat) : Int) ∧ ((7 * (p + 1) + b0 : Nat) : Int) < ((35 : Nat) : Int)) (bV (if zI (ρ 13 ((7 * (p + 1) + b0 : Nat) : Int).toNat) = zI 100000000 then (some 0) else (bV (f_X12_isBetter x8 x9 v10 (ρ 13 ((7 * (p + 1) + b0 : Nat) : Int).toNat) (ρ 14 ((7 * (p + 1) + b0 : Nat) : Int).toNat) (ρ 15 ((7 * (p + 1) + b0 : Nat) : Int).toNat)) (fun (y18 : Int) => if zI y18 = zI 0 then (some 1) else (some 0)))) (fun (t15 : Nat) => if t15 = 0 then (nm (st ρ 13 ((7 * (p + 1) + b0 : Nat) : Int).toNat x8) (fun (σ20 : Mem) => nm (st σ20 14 ((7 * (p + 1) + b0 : Nat) : Int).toNat x9) (fun (σ21 : Mem) => nm (st σ21 15 ((7 * (p + 1) + b0 : Nat) : Int).toNat v10) (fun (σ22 : Mem) => some σ22)))) else (some ρ))))) t1 v1
