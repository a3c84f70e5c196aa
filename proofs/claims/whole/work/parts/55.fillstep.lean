/-! layer 2, Chart.fill: one part more -/
theorem FI_step {σ0 σ : Mem} {dr pu L i j N : Nat} {lt X : Nat → Nat → Nat → Nat} {D D2 : Nat → Nat → Prop} (hN : 10 ≤ N) (hw : wfM σ0) (hd : σ0 12 0 = (dr : Int)) (hl : LT dr pu L lt) (hF : FI σ0 σ dr pu L lt X D) (hij : i ≤ j) (hj : j ≤ L)
    (hDD : ∀ a b, D a b → a ≤ b ∧ b ≤ L) (hD : ∀ a b c d, D a b → a ≤ c → c ≤ d → d ≤ b → D c d) (hnd : ¬ D i j) (hsub : ∀ a b, i ≤ a → a ≤ b → b ≤ j → ¬ (a = i ∧ b = j) → D a b) (h00 : ¬ (i = 0 ∧ j = 0) → D 0 0) (hem : i = 0 ∧ j = 0 → ∀ a b, ¬ D a b)
    (hD2 : ∀ a b, D2 a b ↔ (D a b ∨ (a = i ∧ b = j))) :
    ∃ τ X2, f_X0_settle N (i : Int) (j : Int) σ = some τ ∧ (∀ k, k ≠ 28 → τ k = σ k) ∧ FI σ0 τ dr pu L lt X2 D2 := by
  have G := Given_of hw hl hF hij hj hsub
  have hP := PreT_of hF hij hj hsub
  have hG := wfC_G hw
  obtain ⟨l1, l2, l3, l4, l5, l6, l7, l8⟩ := id hl
  obtain ⟨f1, f2, f3, f4, f5, f6, f7, f8, f9, f10, f11, f12⟩ := id hF
  obtain ⟨τ, V, t1, ⟨t2, t3⟩, ⟨p1, p2, p3, p4⟩, c1, v1, d1, u1⟩ := settle_m hN hw hd G hP
  refine ⟨τ, Xw X i j V, t1, t2, ?_⟩
  have hoff : ∀ n a b, D a b → Xw X i j V n a b = X n a b := fun n a b h => Xw_off (fun z => hnd (by rw [← z.1, ← z.2]; exact h))
  have hoffs : ∀ n a b c d, D a b → a ≤ c → c ≤ d → d ≤ b → Xw X i j V n c d = X n c d := fun n a b c d h h1 h2 h3 => hoff n c d (hD a b c d h h1 h2 h3)
  have hX2 : okT L (Xw X i j V) := Xw_ok f3 p1
  have o1 : okO L (onev lt X) := onev_ok l5 f3
  have o2 : okO L (onev lt (Xw X i j V)) := onev_ok l5 hX2
  have hcell : ∀ s a b, a ≤ b → b ≤ L → ¬ (a = i ∧ b = j) → τ 28 (s * 49 + a * 7 + b) = σ 28 (s * 49 + a * 7 + b) := fun s a b h1 h2 h3 => t3 _ (fun s2 _ _ => by omega)
  have hV00 : ¬ (i = 0 ∧ j = 0) → ∀ n, Xw X i j V n 0 0 = X n 0 0 := fun h n => hoff n 0 0 (h00 h)
  -- the empty part
  have hdiag : i = j → ∀ n, n < 6 → Xw X i j V n i j = Xw X i j V n 0 0 := fun e n hn => by
    subst e
    by_cases z : i = 0
    · subst z; rfl
    · have hz : ¬ (i = 0 ∧ i = 0) := fun q => z q.1
      rw [hV00 hz, Xw_at]
      have hV0 : goodV 0 0 V := fun m hm => by
        have := p1 m hm
        rw [Nat.sub_self] at this ⊢
        exact this
      have hX0 : goodV 0 0 (fun m => X m 0 0) := fun m hm => f3 m 0 0 hm (Nat.le_refl _) (Nat.zero_le _)
      have hX0i : goodV i i (fun m => X m 0 0) := fun m hm => by
        have := hX0 m hm
        rw [Nat.sub_self] at this ⊢
        exact this
      refine Nat.le_antisymm (f10 (h00 hz) V hV0 (fun m hm => ?_) n hn) (p4 (fun m => X m 0 0) hX0i (fun m hm => ?_) n hn)
      · rw [← RVr_diag hl f3 f3 hG hj hV0 hm]; exact v1 m hm
      · rw [RVr_diag hl f3 f3 hG hj hX0 hm]
        refine le_mnk (ok_le (hX0 m hm)) (fun r hr => ?_)
        refine Nat.le_trans (f8 m r 0 0 hm hr (h00 hz)) (Nat.le_of_eq (rulev_cong (fun _ _ => rfl) (fun q a c hq h1 h2 h3 => onev_cong (fun _ => ?_))))
        have ea : a = 0 := by omega
        have ec : c = 0 := by omega
        subst ea; subst ec
        rw [Xw_at]
  have hV9 : ∀ n, n < 6 → V n ≠ TT → Cv (V n) ≤ dr * (j - i) + pu * 4096 := fun n hn hne => by
    by_cases e : i = j
    · have h1 := (p3 n hn).resolve_left hne
      unfold bnd at h1
      rw [if_pos e] at h1
      have h2 : pu * 4 ^ fin V ≤ pu * 4 ^ 6 := Nat.mul_le_mul_left _ (Nat.pow_le_pow_right (by decide) (fin_le V))
      omega
    · have hz : ¬ (i = 0 ∧ j = 0) := by omega
      have h0 := h00 hz
      have hb0 : ∀ m, m < 6 → cB (pu * 4096) (X m 0 0) := fun m hm => by
        have := (f7 m 0 0 hm h0).1
        rw [Nat.sub_self, Nat.mul_zero, Nat.zero_add] at this
        exact this
      have hda : ∀ m a, m < 6 → a ≤ L → (a = i ∨ a = j) → X m a a = X m 0 0 := fun m a hm ha hc => f11 m a hm (hsub a a (by omega) (Nat.le_refl _) (by omega) (by omega))
      have hpb := part_bound2 (pu := pu) l1 l4 (by omega : i < j) hj l5 f3 hG (fun s a hs ha => (l7 s a hs ha).2) (fun s hs => l8 s i j hs hij hj) hda (fun m r hm hr => f8 m r 0 0 hm hr h0) (f10 h0) p1 v1 n hn
      have hptt := part_TT (pu := pu) l4 (by omega : i < j) hj l5 f3 hG l3 (fun m r hm _ => rlC_le hw hm) (fun s a hs ha => (l7 s a hs ha).2) (fun m r hm hr => f8 m r 0 0 hm hr h0) hb0 (fun m a b hm h1 h2 h3 h4 => f12 m a b hm (hsub a b h1 h2 h3 h4)) p1 v1 p4 n hn
      have := (hb0 n hn).resolve_left (fun z => hne (hptt z))
      omega
  refine ⟨c1.1, u1, hX2, fun s a b hs h1 h2 => ?_, fun n a b hn h => ?_, fun n r q a b hn hr h1 h2 h => ?_, fun n a b hn h => ?_, fun n r a b hn hr h => ?_, fun Y hY hYc n a b hn h => ?_, fun h0 y hy hyc n hn => ?_, fun n a hn h => ?_, fun n a b hn h hT => ?_⟩
  · rw [t3 _ (fun s2 _ _ => by omega)]; exact f4 s a b hs h1 h2
  · rcases (hD2 a b).mp h with h | ⟨e1, e2⟩
    · have hh := hDD a b h
      rw [hcell _ a b hh.1 hh.2 (fun z => hnd (by rw [← z.1, ← z.2]; exact h)), f5 n a b hn h, hoff n a b h]
    · subst e1; subst e2
      have := c1.2.1 (4 + n) a b (by omega) (Nat.le_refl _) hij (Nat.le_refl _)
      rw [this, onev_name, Xw_at]
  · rcases (hD2 a b).mp h with h | ⟨e1, e2⟩
    · have hh := hDD a b h
      rw [hcell _ a b hh.1 hh.2 (fun z => hnd (by rw [← z.1, ← z.2]; exact h)), f6 n r q a b hn hr h1 h2 h]
      congr 1
      exact rowv_cong (fun _ _ => rfl) (fun p c d _ hc hcd hd2 => onev_cong (fun _ => (hoffs _ a b c d h hc hcd hd2).symm))
    · subst e1; subst e2
      exact d1 n hn r q hr h1 h2
  · rcases (hD2 a b).mp h with h | ⟨e1, e2⟩
    · rw [hoff n a b h]; exact f7 n a b hn h
    · subst e1; subst e2
      rw [Xw_at]
      refine ⟨?_, p2 n hn⟩
      by_cases q : V n = TT
      · exact Or.inl q
      · exact Or.inr (hV9 n hn q)
  · rcases (hD2 a b).mp h with h | ⟨e1, e2⟩
    · rw [hoff n a b h]
      refine Nat.le_trans (f8 n r a b hn hr h) (Nat.le_of_eq (rulev_cong (fun _ _ => rfl) (fun p c d _ hc hcd hd2 => onev_cong (fun _ => (hoffs _ a b c d h hc hcd hd2).symm))))
    · subst e1; subst e2
      rw [Xw_at]
      exact Nat.le_trans (v1 n hn) (mnk_le (f := fun r => rulev dr (onev lt (Xw X a b V)) (rlC σ0 n r) (rsC σ0 n r) a b) hr)
  · rcases (hD2 a b).mp h with h | ⟨e1, e2⟩
    · rw [hoff n a b h]; exact f9 Y hY hYc n a b hn h
    · subst e1; subst e2
      rw [Xw_at]
      have hyg : goodV a b (fun m => Y m a b) := fun m hm => hY m a b hm hij hj
      refine p4 (fun m => Y m a b) hyg (fun m hm => ?_) n hn
      refine le_mnk (ok_le (hyg m hm)) (fun r hr => Nat.le_trans (hYc m r a b hm hr hij hj) ?_)
      refine rulev_mono (L := b) (okO_sub (onev_ok l5 hY) hj) (okO_sub (onev_ok l5 (Xw_ok f3 hyg)) hj) (by omega) (onev_mono (fun m2 c d hm2 hc hcd hd2 => ?_)) (fun q hq => hG m r q hm hr hq) hij (Nat.le_refl _)
      by_cases z : c = a ∧ d = b
      · rw [z.1, z.2, Xw_at]; exact Nat.le_refl _
      · rw [Xw_off z]; exact f9 Y hY hYc m2 c d hm2 (hsub c d hc hcd hd2 z)
  · by_cases z : i = 0 ∧ j = 0
    · obtain ⟨z1, z2⟩ := z
      subst z1; subst z2
      rw [Xw_at]
      refine p4 y hy (fun m hm => ?_) n hn
      have := hyc m hm
      unfold RVr at this ⊢
      rw [Xw_Xw] at this
      exact this
    · rw [hV00 z]
      refine f10 (h00 z) y hy (fun m hm => ?_) n hn
      refine Nat.le_trans (hyc m hm) (Nat.le_of_eq ?_)
      exact RVr_diag hl hX2 f3 hG (Nat.zero_le _) hy hm
  · rcases (hD2 a a).mp h with h | ⟨e1, e2⟩
    · rw [hoff n a a h, f11 n a hn h]
      exact (hoff n 0 0 (h00 (fun z => hem z a a h))).symm
    · have := hdiag (by omega) n hn
      rw [← e2, ← e1] at this
      rw [← e2, ← e1]
      exact this
  · rcases (hD2 a b).mp h with h | ⟨e1, e2⟩
    · have hz : ¬ (i = 0 ∧ j = 0) := fun z => hem z a b h
      rw [hV00 hz] at hT
      rw [hoff n a b h]; exact f12 n a b hn h hT
    · subst e1; subst e2
      by_cases e : a = b
      · rw [hdiag e n hn]; exact hT
      · have hz : ¬ (a = 0 ∧ b = 0) := by omega
        have h0 := h00 hz
        rw [hV00 hz] at hT
        have hb0 : ∀ m, m < 6 → cB (pu * 4096) (X m 0 0) := fun m hm => by
          have := (f7 m 0 0 hm h0).1
          rw [Nat.sub_self, Nat.mul_zero, Nat.zero_add] at this
          exact this
        rw [Xw_at]
        exact part_TT (pu := pu) l4 (by omega : a < b) hj l5 f3 hG l3 (fun m r hm _ => rlC_le hw hm) (fun s c hs hc => (l7 s c hs hc).2) (fun m r hm hr => f8 m r 0 0 hm hr h0) hb0 (fun m c d hm h1 h2 h3 h4 => f12 m c d hm (hsub c d h1 h2 h3 h4)) p1 v1 p4 n hn hT
