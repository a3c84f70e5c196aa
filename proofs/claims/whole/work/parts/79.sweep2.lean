/-! layer 2, Reach.sweep: all names, in rounds -/
def grow (g0 : Nat → Nat → Nat) (L p : Nat) (vec : Nat → Nat) : Nat → Nat → Nat := fun m c => if c = p then L + 1 - vec m else g0 m c
noncomputable def nvC (σ0 : Mem) (L : Nat) (wd : Nat → Nat) (F : Nat → Nat → Nat → Nat) (g : Nat → Nat → Nat) (n p : Nat) : Nat := mxc (fun _ => True) (fun r => rvC σ0 L wd F g n r p) (rcC σ0 n)
noncomputable def RVn (σ0 : Mem) (L : Nat) (wd : Nat → Nat) (F : Nat → Nat → Nat → Nat) (g0 : Nat → Nat → Nat) (p : Nat) (vec : Nat → Nat) (n : Nat) : Nat := L + 1 - nvC σ0 L wd F (grow g0 L p vec) n p
def gdV (L : Nat) (vec : Nat → Nat) : Prop := ∀ m, vec m ≤ L + 1
theorem grow_at {g0 : Nat → Nat → Nat} {L p m : Nat} {vec : Nat → Nat} : grow g0 L p vec m p = L + 1 - vec m := if_pos rfl
theorem grow_off {g0 : Nat → Nat → Nat} {L p m c : Nat} {vec : Nat → Nat} (h : c ≠ p) : grow g0 L p vec m c = g0 m c := if_neg h
theorem grow_uv {g0 : Nat → Nat → Nat} {L p n v : Nat} {vec : Nat → Nat} (hv : v ≤ L + 1) : grow g0 L p (uv vec n (L + 1 - v)) = ug (grow g0 L p vec) n p v := by
  funext m c
  unfold grow uv ug
  by_cases e : c = p
  · by_cases e2 : m = n
    · rw [if_pos e, if_pos e2, if_pos ⟨e2, e⟩]; omega
    · rw [if_pos e, if_neg e2, if_neg (fun z => e2 z.1)]
      show L + 1 - vec m = if c = p then L + 1 - vec m else g0 m c
      rw [if_pos e]
  · rw [if_neg e, if_neg (fun z => e z.2)]
    show g0 m c = if c = p then L + 1 - vec m else g0 m c
    rw [if_neg e]
theorem grow_rng {g0 : Nat → Nat → Nat} {L p : Nat} {vec : Nat → Nat} (hg : ∀ m c, g0 m c ≤ L + 1) : ∀ m c, grow g0 L p vec m c ≤ L + 1 := fun m c => by
  unfold grow
  split
  · omega
  · exact hg m c
theorem nvC_rng {σ0 : Mem} {L n p : Nat} {wd : Nat → Nat} {F : Nat → Nat → Nat → Nat} {g : Nat → Nat → Nat} (hp : p ≤ L) (hg : ∀ m c, g m c ≤ L + 1) : nvC σ0 L wd F g n p ≤ L + 1 := mxc_lub (fun _ _ _ => rvR_rng hp hg)
theorem RVn_dep {σ0 : Mem} {L p : Nat} {wd : Nat → Nat} {F : Nat → Nat → Nat → Nat} {g0 : Nat → Nat → Nat} (hp : p ≤ L) (hg : ∀ m c, g0 m c ≤ L + 1) : depRV (fun _ _ => True) (RVn σ0 L wd F g0 p) (gdV L) := fun vec n w h1 h2 hn hw x hx => by
  have hwn : w ≤ L + 1 := by
    have := h1 n
    omega
  have e : grow g0 L p (uv vec n w) = ug (grow g0 L p vec) n p (L + 1 - w) := by
    have := grow_uv (g0 := g0) (p := p) (n := n) (vec := vec) (by omega : L + 1 - w ≤ L + 1)
    rw [show L + 1 - (L + 1 - w) = w by omega] at this
    exact this
  have r1 := nvC_rng (σ0 := σ0) (n := x) (wd := wd) (F := F) hp (grow_rng (p := p) (vec := uv vec n w) hg)
  have r2 := nvC_rng (σ0 := σ0) (n := x) (wd := wd) (F := F) hp (grow_rng (p := p) (vec := vec) hg)
  have hv := h1 n
  have up : nvC σ0 L wd F (grow g0 L p (uv vec n w)) x p ≤ max (nvC σ0 L wd F (grow g0 L p vec) x p) (L + 1 - w) := by
    refine mxc_lub (fun r hr _ => ?_)
    have a1 : rvC σ0 L wd F (grow g0 L p (uv vec n w)) x r p ≤ max (rvC σ0 L wd F (grow g0 L p vec) x r p) (L + 1 - w) := by rw [e]; exact rvR_up
    have a2 : rvC σ0 L wd F (grow g0 L p vec) x r p ≤ nvC σ0 L wd F (grow g0 L p vec) x p := mxc_le (P := fun _ => True) (f := fun r => rvC σ0 L wd F (grow g0 L p vec) x r p) trivial hr
    show rvC σ0 L wd F (grow g0 L p (uv vec n w)) x r p ≤ _
    omega
  have mo : nvC σ0 L wd F (grow g0 L p vec) x p ≤ nvC σ0 L wd F (grow g0 L p (uv vec n w)) x p := by
    refine mxc_lub (fun r hr _ => ?_)
    have a1 : rvC σ0 L wd F (grow g0 L p vec) x r p ≤ rvC σ0 L wd F (grow g0 L p (uv vec n w)) x r p := by
      rw [e]
      exact rvR_mono hp (fun m c _ => ug_le (by rw [grow_at]; omega) m c)
    have a2 : rvC σ0 L wd F (grow g0 L p (uv vec n w)) x r p ≤ nvC σ0 L wd F (grow g0 L p (uv vec n w)) x p := mxc_le (P := fun _ => True) (f := fun r => rvC σ0 L wd F (grow g0 L p (uv vec n w)) x r p) trivial hr
    exact Nat.le_trans a1 a2
  unfold RVn
  by_cases q : nvC σ0 L wd F (grow g0 L p (uv vec n w)) x p ≤ L + 1 - w
  · exact Or.inr ⟨trivial, by omega⟩
  · left; omega
theorem sweep4 {σ0 : Mem} {w L p N k : Nat} {wd : Nat → Nat} {F : Nat → Nat → Nat → Nat} {g0 : Nat → Nat → Nat} (hN : 20 ≤ N) (K : RC σ0 w L wd F) (hp : p ≤ L) (hg0 : ∀ m c, g0 m c ≤ L + 1) : ∀ (m fuel : Nat) (σ : Mem) (vec : Nat → Nat) (x : Int), m ≤ 6 → m < fuel → off31 σ0 σ → FA σ L (grow g0 L p vec) → gdV L vec → SB (LBC σ0 L wd F) L (grow g0 L p vec) →
    InvS (fun _ _ => True) (RVn σ0 L wd F g0 p) k (fun x => m ≤ x) (fun _ => True) vec →
    ∃ (τ : Mem) (vec2 : Nat → Nat) (y : Int), f_X6_sweep_L4 N (p : Int) fuel x ((m : Int) - 1) σ = some (y, τ) ∧ off31 σ0 τ ∧ FA τ L (grow g0 L p vec2) ∧ gdV L vec2 ∧ SB (LBC σ0 L wd F) L (grow g0 L p vec2) ∧
      InvS (fun _ _ => True) (RVn σ0 L wd F g0 p) k (fun _ => True) (fun _ => True) vec2 ∧ (y = 1 ∨ (y = x ∧ vec2 = vec ∧ ∀ n, n < m → vec n ≤ RVn σ0 L wd F g0 p vec n)) := by
  have hL := K.2.2.2.1
  intro m
  induction m with
  | zero =>
    intro fuel σ vec x hm hf h31 hF hv hS hI
    obtain ⟨f, rfl⟩ : ∃ f, fuel = f + 1 := ⟨fuel - 1, by omega⟩
    refine ⟨σ, vec, x, ?_, h31, hF, hv, hS, ?_, Or.inr ⟨rfl, rfl, fun n hn => absurd hn (Nat.not_lt_zero n)⟩⟩
    · rw [f_X6_sweep_L4, ifl_t (by omega) (by omega) (by omega)]
    · exact fun n hn => (hI n hn).imp id (fun ⟨z1, z2, z3⟩ => ⟨z1, fun y => absurd trivial y, fun _ => z3 (Nat.zero_le _)⟩)
  | succ m ih =>
    intro fuel σ vec x hm hf h31 hF hv hS hI
    obtain ⟨f, rfl⟩ : ∃ f, fuel = f + 1 := ⟨fuel - 1, by omega⟩
    have hgr := grow_rng (p := p) (vec := vec) hg0
    obtain ⟨τ, v, y, t1, t2, t3, t4, t5, t6, t7, t8, t9⟩ := sweep19 (n := m) hN K (by omega) hp (rcC σ0 m) 0 N σ (grow g0 L p vec) x (by omega) (by have := rcC_le K.1 (by omega : m < 6); omega) h31 hF hgr hS
    rw [← grow_uv t4] at t3 t5
    have hvm := hv m
    rw [grow_at] at t6 t8 t9
    have hmx : max (L + 1 - vec m) (nvC σ0 L wd F (grow g0 L p vec) m p) = v := by
      have a1 : nvC σ0 L wd F (grow g0 L p vec) m p ≤ v := mxc_lub (fun r hr _ => t7 r (Nat.zero_le _) hr)
      rcases t8 with z | ⟨q, z1, z2, z3⟩
      · omega
      · have a2 : rvC σ0 L wd F (grow g0 L p vec) m q p ≤ nvC σ0 L wd F (grow g0 L p vec) m p := mxc_le (P := fun _ => True) (f := fun r => rvC σ0 L wd F (grow g0 L p vec) m r p) trivial z2
        omega
    clear t8
    have hnr := nvC_rng (σ0 := σ0) (n := m) (wd := wd) (F := F) hp hgr
    have hmin : L + 1 - v = min (vec m) (RVn σ0 L wd F g0 p vec m) := by
      unfold RVn
      omega
    have hv2 : gdV L (uv vec m (L + 1 - v)) := fun z => by
      unfold uv
      split
      · omega
      · exact hv z
    have hI2 := InvS_visit (vis2 := fun x => m ≤ x) (stale2 := fun _ => True) (RVn_dep hp hg0) hI hv hv2 (by omega : m < 6) (by omega) trivial hmin (fun x hx => ⟨fun z => by omega, fun z => by omega⟩) (fun _ _ _ => trivial)
    obtain ⟨τ2, vec2, y2, u1, u2, u3, u4, u5, u6, u7⟩ := ih f τ (uv vec m (L + 1 - v)) y (by omega) (by omega) t2 t3 hv2 t5 hI2
    refine ⟨τ2, vec2, y2, ?_, u2, u3, u4, u5, u6, ?_⟩
    · have e1 : ((m + 1 : Nat) : Int) - 1 = (m : Int) := by omega
      have e2 : ((m : Int) * 7) + (p : Int) = ((m * 7 + p : Nat) : Int) := by omega
      have e3 : (m : Int) + (-1) = (m : Int) - 1 := by omega
      rw [e1, f_X6_sweep_L4, ifl_f (by omega) (by omega) (by omega), nm_s, e2]
      have t1' : f_X6_sweep_L19 N (p : Int) (m : Int) ((m * 7 + p : Nat) : Int) N x 0 σ = some (y, τ) := t1
      rw [bL1_ok t1', nm_s, e3]
      exact u1
    · rcases u7 with z | ⟨z1, z2, z3⟩
      · exact Or.inl z
      · rcases t9 with y1 | ⟨y1, y2⟩
        · exact Or.inl (by rw [z1, y1])
        · have e : uv vec m (L + 1 - v) = vec := uv_same (by omega)
          rw [e] at z2 z3
          refine Or.inr ⟨by rw [z1, y1], z2, fun n hn => ?_⟩
          by_cases q : n = m
          · rw [q]
            omega
          · exact z3 n (by omega)
theorem sweep_m {σ0 : Mem} {w L p N k : Nat} {wd : Nat → Nat} {F : Nat → Nat → Nat → Nat} {g0 : Nat → Nat → Nat} (hN : 20 ≤ N) (K : RC σ0 w L wd F) (hp : p ≤ L) (hg0 : ∀ m c, g0 m c ≤ L + 1) {σ : Mem} {vec : Nat → Nat} (h31 : off31 σ0 σ) (hF : FA σ L (grow g0 L p vec)) (hv : gdV L vec) (hS : SB (LBC σ0 L wd F) L (grow g0 L p vec))
    (hI : InvS (fun _ _ => True) (RVn σ0 L wd F g0 p) k (fun _ => False) (fun _ => True) vec) :
    ∃ (τ : Mem) (vec2 : Nat → Nat) (y : Int), f_X6_sweep N (p : Int) σ = some (y, τ) ∧ off31 σ0 τ ∧ FA τ L (grow g0 L p vec2) ∧ gdV L vec2 ∧ SB (LBC σ0 L wd F) L (grow g0 L p vec2) ∧
      InvS (fun _ _ => True) (RVn σ0 L wd F g0 p) (k + 1) (fun _ => False) (fun _ => True) vec2 ∧ (y = 1 ∨ (y = 0 ∧ ∀ n, n < 6 → vec2 n ≤ RVn σ0 L wd F g0 p vec2 n)) := by
  have hI0 : InvS (fun _ _ => True) (RVn σ0 L wd F g0 p) k (fun x => 6 ≤ x) (fun _ => True) vec := fun n hn => by
    rcases hI n hn with z | ⟨z1, z2, z3⟩
    · exact Or.inl z
    · exact Or.inr ⟨z1, fun _ => z2 id, fun y => by have : 6 ≤ n := y; omega⟩
  obtain ⟨τ, vec2, y, t1, t2, t3, t4, t5, t6, t7⟩ := sweep4 hN K hp hg0 6 N σ vec 0 (by decide) (by omega) h31 hF hv hS hI0
  have t1' : f_X6_sweep_L4 N (p : Int) N 0 5 σ = some (y, τ) := t1
  refine ⟨τ, vec2, y, ?_, t2, t3, t4, t5, InvS_round t6 (fun _ _ => trivial), ?_⟩
  · unfold f_X6_sweep
    rw [bL1_ok t1', gd_pos]
    rcases t7 with z | z
    · exact Or.inr z
    · exact Or.inl z.1
  · rcases t7 with z | ⟨z1, z2, z3⟩
    · exact Or.inl z
    · rw [z2]
      exact Or.inr ⟨z1, z3⟩
theorem rounds25 {σ0 : Mem} {w L p N : Nat} {x1 : Int} {wd : Nat → Nat} {F : Nat → Nat → Nat → Nat} {g0 : Nat → Nat → Nat} (hN : 20 ≤ N) (K : RC σ0 w L wd F) (hp : p ≤ L) (hg0 : ∀ m c, g0 m c ≤ L + 1) : ∀ (m k fuel : Nat) (σ : Mem) (vec : Nat → Nat) (x : Int), k + m = 6 → m < fuel → off31 σ0 σ → FA σ L (grow g0 L p vec) → gdV L vec → SB (LBC σ0 L wd F) L (grow g0 L p vec) →
    ((x = 1 ∧ InvS (fun _ _ => True) (RVn σ0 L wd F g0 p) k (fun _ => False) (fun _ => True) vec) ∨ (x = 0 ∧ ∀ n, n < 6 → vec n ≤ RVn σ0 L wd F g0 p vec n)) →
    ∃ (τ : Mem) (vec2 : Nat → Nat), f_X6_farthest_L25 N x1 (p : Int) fuel x (k : Int) σ = some τ ∧ off31 σ0 τ ∧ FA τ L (grow g0 L p vec2) ∧ gdV L vec2 ∧ SB (LBC σ0 L wd F) L (grow g0 L p vec2) ∧ ∀ n, n < 6 → vec2 n ≤ RVn σ0 L wd F g0 p vec2 n := by
  intro m
  induction m with
  | zero =>
    intro k fuel σ vec x hk hf h31 hF hv hS hI
    obtain ⟨f, rfl⟩ : ∃ f, fuel = f + 1 := ⟨fuel - 1, by omega⟩
    rw [f_X6_farthest_L25]
    rcases hI with ⟨e, hI⟩ | ⟨e, hI⟩
    · refine ⟨σ, vec, ?_, h31, hF, hv, hS, InvS_6 hI (by omega)⟩
      rw [e, ife_f (by decide) (by decide) (by decide) (by decide) (by decide), ifle_t (by omega) (by omega) (by omega)]
    · refine ⟨σ, vec, ?_, h31, hF, hv, hS, hI⟩
      rw [e, ife_t rfl]
  | succ m ih =>
    intro k fuel σ vec x hk hf h31 hF hv hS hI
    obtain ⟨f, rfl⟩ : ∃ f, fuel = f + 1 := ⟨fuel - 1, by omega⟩
    rw [f_X6_farthest_L25]
    rcases hI with ⟨e, hI⟩ | ⟨e, hI⟩
    · obtain ⟨τ, vec2, y, t1, t2, t3, t4, t5, t6, t7⟩ := sweep_m (N := N) hN K hp hg0 h31 hF hv hS hI
      obtain ⟨τ2, vec3, u1, u2⟩ := ih (k + 1) f τ vec2 y (by omega) (by omega) t2 t3 t4 t5 (by
        rcases t7 with z | z
        · exact Or.inl ⟨z, t6⟩
        · exact Or.inr z)
      refine ⟨τ2, vec3, ?_, u2⟩
      rw [e, ife_f (by decide) (by decide) (by decide) (by decide) (by decide), ifle_f (by omega) (by omega) (by omega), bL1_ok t1, nm_s]
      exact u1
    · refine ⟨σ, vec, ?_, h31, hF, hv, hS, hI⟩
      rw [e, ife_t rfl]
/-- what is settled at the places from c on -/
def CLc (σ0 : Mem) (L : Nat) (wd : Nat → Nat) (F : Nat → Nat → Nat → Nat) (g : Nat → Nat → Nat) (c : Nat) : Prop := ∀ n r p, n < 6 → r < rcC σ0 n → c ≤ p → p ≤ L → rvC σ0 L wd F g n r p ≤ g n p
theorem places16 {σ0 : Mem} {w L N : Nat} {x1 : Int} {wd : Nat → Nat} {F : Nat → Nat → Nat → Nat} (hN : 20 ≤ N) (K : RC σ0 w L wd F) : ∀ (m fuel : Nat) (σ : Mem) (g : Nat → Nat → Nat), m ≤ L + 1 → m < fuel → off31 σ0 σ → FA σ L g → (∀ m c, g m c ≤ L + 1) → SB (LBC σ0 L wd F) L g → CLc σ0 L wd F g m →
    ∃ (τ : Mem) (g2 : Nat → Nat → Nat), f_X6_farthest_L16 N x1 fuel ((m : Int) - 1) σ = some τ ∧ off31 σ0 τ ∧ FA τ L g2 ∧ (∀ m c, g2 m c ≤ L + 1) ∧ SB (LBC σ0 L wd F) L g2 ∧ CLc σ0 L wd F g2 0 := by
  have hL := K.2.2.2.1
  intro m
  induction m with
  | zero =>
    intro fuel σ g hm hf h31 hF hg hS hc
    obtain ⟨f, rfl⟩ : ∃ f, fuel = f + 1 := ⟨fuel - 1, by omega⟩
    refine ⟨σ, g, ?_, h31, hF, hg, hS, hc⟩
    rw [f_X6_farthest_L16, ifl_t (by omega) (by omega) (by omega)]
  | succ m ih =>
    intro fuel σ g hm hf h31 hF hg hS hc
    obtain ⟨f, rfl⟩ : ∃ f, fuel = f + 1 := ⟨fuel - 1, by omega⟩
    have eg : grow g L m (fun n => L + 1 - g n m) = g := by
      funext n c
      unfold grow
      by_cases e : c = m
      · rw [if_pos e, e]
        have := hg n m
        show L + 1 - (L + 1 - g n m) = g n m
        omega
      · rw [if_neg e]
    obtain ⟨τ, vec2, t1, t2, t3, t4, t5, t6⟩ := rounds25 (x1 := x1) (g0 := g) hN K (by omega : m ≤ L) hg 6 0 N σ (fun n => L + 1 - g n m) 1 (by decide) (by omega) h31 (by rw [eg]; exact hF) (fun n => by show L + 1 - g n m ≤ L + 1; omega) (by rw [eg]; exact hS) (Or.inl ⟨rfl, InvS_0 (fun _ _ => trivial)⟩)
    have hg2 := grow_rng (p := m) (vec := vec2) hg
    obtain ⟨τ2, g2, u1, u2⟩ := ih f τ (grow g L m vec2) (by omega) (by omega) t2 t3 hg2 t5 (fun n r p hn hr h1 h2 => by
      by_cases e : p = m
      · subst e
        have a1 := t6 n hn
        have a2 : rvC σ0 L wd F (grow g L p vec2) n r p ≤ nvC σ0 L wd F (grow g L p vec2) n p := mxc_le (P := fun _ => True) (f := fun r => rvC σ0 L wd F (grow g L p vec2) n r p) trivial hr
        have a3 := nvC_rng (σ0 := σ0) (n := n) (wd := wd) (F := F) (by omega : p ≤ L) hg2
        have a4 := t4 n
        unfold RVn at a1
        rw [grow_at]
        omega
      · have a1 : rvC σ0 L wd F (grow g L m vec2) n r p ≤ rvC σ0 L wd F g n r p := rvR_mono h2 (fun x c hx => by rw [grow_off (by omega)]; exact Nat.le_refl _)
        have a2 := hc n r p hn hr (by omega) h2
        rw [grow_off e]
        omega)
    refine ⟨τ2, g2, ?_, u2⟩
    have e1 : ((m + 1 : Nat) : Int) - 1 = (m : Int) := by omega
    have e3 : (m : Int) + (-1) = (m : Int) - 1 := by omega
    have t1' : f_X6_farthest_L25 N x1 (m : Int) N 1 0 σ = some τ := t1
    rw [e1, f_X6_farthest_L16, ifl_f (by omega) (by omega) (by omega), bV_ok t1', nm_s, e3]
    exact u1
/-- Reach.farthest: up to which place a word of the name goes along -/
theorem farthest_m {σ : Mem} {w L N n : Nat} {wd : Nat → Nat} {F : Nat → Nat → Nat → Nat} (hN : 20 ≤ N) (K : RC σ w L wd F) (hn : n < 6) :
    ∃ (τ : Mem) (v : Nat), f_X6_farthest N (n : Int) σ = some ((v : Int) - 1, τ) ∧ off31 σ τ ∧ v ≤ L + 1 ∧ ∀ x, x ≤ L → (LBC σ L wd F n 0 x ↔ x + 1 ≤ v) := by
  have hL := K.2.2.2.1
  have h31 : off31 σ (fil σ 31 42 (-1)) := fun k hk => by
    funext j
    unfold fil
    rw [if_neg (fun z => hk z.1)]
  have hF0 : FA (fil σ 31 42 (-1)) L (fun _ _ => 0) := fun m c hm hc => by
    unfold fil
    rw [if_pos ⟨rfl, by omega⟩]
    rfl
  obtain ⟨τ, g, t1, t2, t3, t4, t5, t6⟩ := places16 (x1 := (n : Int)) hN K (L + 1) N (fil σ 31 42 (-1)) (fun _ _ => 0) (Nat.le_refl _) (by omega) h31 hF0 (fun _ _ => Nat.zero_le _) (fun m c x _ _ _ h => absurd h (Nat.not_succ_le_zero x)) (fun m r p _ _ h1 h2 => by omega)
  refine ⟨τ, g n 0, ?_, t2, t4 n 0, fun x hx => ⟨fun h => ?_, fun h => t5 n 0 x hn (Nat.zero_le _) hx h⟩⟩
  · have e1 : ((L + 1 : Nat) : Int) - 1 = (L : Int) := by omega
    rw [e1] at t1
    have hf := farOfSign_m (off31_WC t2 K.2.1) t3 (by omega : n + 4 < 10) (Nat.zero_le L)
    have e2 : fo wd L g (n + 4) 0 = g n 0 := by
      unfold fo
      rw [if_neg (by omega), Nat.add_sub_cancel]
    rw [e2] at hf
    have e4 : (4 : Int) + (n : Int) = ((n + 4 : Nat) : Int) := by omega
    unfold f_X6_farthest
    rw [nm_s, bV_ok (X0_length_m (off31_WC h31 K.2.1)), bV_ok t1, e4]
    have hf' : f_X6_farOfSign ((n + 4 : Nat) : Int) 0 τ = some ((g n 0 : Int) - 1) := hf
    rw [bV_ok hf']
  · exact rule_complete K.2.2.2 (fun m r p hm hr hp => t6 m r p hm hr (Nat.zero_le _) hp) hn (Nat.zero_le _) hx h
