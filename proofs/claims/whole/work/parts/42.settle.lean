/-! layer 2, settling: names that are visited in rounds, each time their rules can have become less, are settled after six rounds (the rows fb_ct.. are pasted from kit/laws) -/
def fb_ct (p : Nat → Bool) : Nat → Nat
  | 0 => 0
  | n + 1 => fb_ct p n + (if p n then 1 else 0)
theorem fb_ct_succ (p : Nat → Bool) (n : Nat) : fb_ct p (n + 1) = fb_ct p n + (if p n then 1 else 0) := rfl
theorem fb_ct_le (p : Nat → Bool) : ∀ n, fb_ct p n ≤ n
  | 0 => Nat.le_refl _
  | n + 1 => by
    have h := fb_ct_le p n
    rw [fb_ct_succ]
    split <;> omega
theorem fb_ct_cong {p q : Nat → Bool} : ∀ {n : Nat}, (∀ k, k < n → p k = q k) → fb_ct p n = fb_ct q n
  | 0, _ => rfl
  | n + 1, h => by
    rw [fb_ct_succ, fb_ct_succ, fb_ct_cong (fun k hk => h k (by omega)), h n (by omega)]
theorem fb_ct_out (p : Nat → Bool) (b : Bool) {i n : Nat} (h : n ≤ i) : fb_ct (fun k => if k = i then b else p k) n = fb_ct p n :=
  fb_ct_cong fun k hk => if_neg (by omega)
theorem fb_ct_upd (p : Nat → Bool) (b : Bool) {i : Nat} : ∀ {n : Nat}, i < n → fb_ct (fun k => if k = i then b else p k) n + (if p i then 1 else 0) = fb_ct p n + (if b then 1 else 0)
  | 0, h => absurd h (Nat.not_lt_zero i)
  | n + 1, h => by
    rw [fb_ct_succ, fb_ct_succ]
    rcases Nat.lt_or_ge i n with q | q
    · have := fb_ct_upd p b q
      have e : (if n = i then b else p n) = p n := if_neg (by omega)
      rw [e]
      omega
    · have e : i = n := by omega
      subst e
      rw [fb_ct_out p b (Nat.le_refl _)]
      simp only [if_true]
      omega
theorem fb_ct_sub {p q : Nat → Bool} : ∀ {n : Nat}, (∀ k, k < n → p k = true → q k = true) → fb_ct p n ≤ fb_ct q n
  | 0, _ => Nat.le_refl _
  | n + 1, h => by
    have h1 := fb_ct_sub (n := n) (p := p) (q := q) (fun k hk => h k (by omega))
    have h2 := h n (by omega)
    rw [fb_ct_succ, fb_ct_succ]
    cases hp : p n <;> cases hq : q n <;> simp_all <;> omega
/-- how many names have a value of at most v -/
def cnt (vec : Nat → Nat) (v : Nat) : Nat := fb_ct (fun x => decide (vec x ≤ v)) 6
def uv (vec : Nat → Nat) (n w : Nat) : Nat → Nat := fun x => if x = n then w else vec x
theorem cnt_le (vec : Nat → Nat) (v : Nat) : cnt vec v ≤ 6 := fb_ct_le _ 6
theorem cnt_all {p : Nat → Bool} : ∀ {n : Nat}, n ≤ fb_ct p n → ∀ k, k < n → p k = true
  | 0, _, k, hk => absurd hk (Nat.not_lt_zero _)
  | n + 1, h, k, hk => by
    rw [fb_ct_succ] at h
    have h1 := fb_ct_le p n
    by_cases q : p n = true
    · rw [if_pos q] at h
      by_cases e : k = n
      · rw [e]; exact q
      · exact cnt_all (n := n) (by omega) k (by omega)
    · rw [if_neg q] at h
      omega
theorem cnt_sub {vec vec2 : Nat → Nat} {v v2 : Nat} (h : ∀ x, x < 6 → vec x ≤ v → vec2 x ≤ v2) : cnt vec v ≤ cnt vec2 v2 :=
  fb_ct_sub (fun x hx hp => decide_eq_true (h x hx (of_decide_eq_true hp)))
theorem cnt_more {vec vec2 : Nat → Nat} {v v2 n : Nat} (hn : n < 6) (h : ∀ x, x < 6 → vec x ≤ v → vec2 x ≤ v2) (h1 : ¬ vec n ≤ v) (h2 : vec2 n ≤ v2) : cnt vec v + 1 ≤ cnt vec2 v2 := by
  have a := fb_ct_upd (fun x => decide (vec x ≤ v)) true hn
  simp only [decide_eq_true_eq, if_neg h1, if_true, Nat.add_zero] at a
  have b : fb_ct (fun k => if k = n then true else decide (vec k ≤ v)) 6 ≤ fb_ct (fun x => decide (vec2 x ≤ v2)) 6 := fb_ct_sub (fun x hx hp => by
    by_cases e : x = n
    · rw [e]; exact decide_eq_true h2
    · rw [if_neg e] at hp
      exact decide_eq_true (h x hx (of_decide_eq_true hp)))
  unfold cnt
  omega
/-- RV vec n: the least that the rules of n give, where the names have the values vec; uses n m: n has m in a rule -/
def depRV (uses : Nat → Nat → Prop) (RV : (Nat → Nat) → Nat → Nat) (good : (Nat → Nat) → Prop) : Prop := ∀ vec n w, good vec → good (uv vec n w) → n < 6 → w ≤ vec n → ∀ x, x < 6 → RV (uv vec n w) x = RV vec x ∨ (uses x n ∧ w ≤ RV (uv vec n w) x)
def Wt (uses : Nat → Nat → Prop) (RV : (Nat → Nat) → Nat → Nat) (k : Nat) (vec : Nat → Nat) (n : Nat) : Prop := k = 0 ∨ ∃ m, m < 6 ∧ vec m ≤ RV vec n ∧ k ≤ cnt vec (vec m)
/-- after k rounds and the visits vis: who isn't settled is stale, and hangs on one with k names (or more) at most as high -/
def InvS (uses : Nat → Nat → Prop) (RV : (Nat → Nat) → Nat → Nat) (k : Nat) (vis stale : Nat → Prop) (vec : Nat → Nat) : Prop := ∀ n, n < 6 → vec n ≤ RV vec n ∨ (stale n ∧ (¬ vis n → Wt uses RV k vec n) ∧ (vis n → Wt uses RV (k + 1) vec n))
theorem InvS_skip {uses : Nat → Nat → Prop} {RV : (Nat → Nat) → Nat → Nat} {k n : Nat} {vis vis2 stale : Nat → Prop} {vec : Nat → Nat} (h : InvS uses RV k vis stale vec) (hn : ¬ stale n) (hv : ∀ x, x ≠ n → (vis2 x ↔ vis x)) : InvS uses RV k vis2 stale vec := by
  intro x hx
  rcases h x hx with a | ⟨a, b, c⟩
  · exact Or.inl a
  · have hne : x ≠ n := fun e => hn (e ▸ a)
    exact Or.inr ⟨a, fun z => b (fun y => z ((hv x hne).mpr y)), fun z => c ((hv x hne).mp z)⟩
theorem Wt_less {uses : Nat → Nat → Prop} {RV : (Nat → Nat) → Nat → Nat} {k n w x : Nat} {vec : Nat → Nat} (hn : n < 6) (hw : w ≤ vec n) (hk : k ≤ cnt (uv vec n w) w) (hR : RV (uv vec n w) x = RV vec x) (h : Wt uses RV k vec x) : Wt uses RV k (uv vec n w) x := by
  rcases h with h | ⟨m, h1, h2, h3⟩
  · exact Or.inl h
  · refine Or.inr ⟨m, h1, ?_, ?_⟩
    · rw [hR]
      unfold uv
      by_cases e : m = n
      · rw [if_pos e]; rw [e] at h2; omega
      · rw [if_neg e]; exact h2
    · by_cases e : m = n
      · have e2 : uv vec n w m = w := if_pos e
        rw [e2]; exact hk
      · have e2 : uv vec n w m = vec m := if_neg e
        rw [e2]
        refine Nat.le_trans h3 (cnt_sub (fun y hy hle => ?_))
        unfold uv
        by_cases q : y = n
        · rw [if_pos q]; rw [q] at hle; omega
        · rw [if_neg q]; exact hle
theorem InvS_visit {uses : Nat → Nat → Prop} {RV : (Nat → Nat) → Nat → Nat} {good : (Nat → Nat) → Prop} (hd : depRV uses RV good) {k n w : Nat} {vis vis2 stale stale2 : Nat → Prop} {vec : Nat → Nat} (h : InvS uses RV k vis stale vec) (hg : good vec) (hg2 : good (uv vec n w)) (hn : n < 6) (hnv : ¬ vis n) (hs : stale n) (hw : w = min (vec n) (RV vec n)) (hv : ∀ x, x ≠ n → (vis2 x ↔ vis x)) (hst : ∀ x, x < 6 → (stale x ∧ x ≠ n) ∨ (w < vec n ∧ uses x n) → stale2 x) : InvS uses RV k vis2 stale2 (uv vec n w) := by
  have hwl : w ≤ vec n := by omega
  have key := hd vec n w hg hg2 hn hwl
  -- those at most as high as n, behind the visit
  have hcnt : w < vec n → k + 1 ≤ cnt (uv vec n w) w := by
    intro hlt
    have en : uv vec n w n = w := if_pos rfl
    rcases h n hn with a | ⟨a, b, c⟩
    · omega
    · rcases b hnv with z | ⟨m, m1, m2, m3⟩
      · have := cnt_more (vec := fun _ => 1) (v := 0) (vec2 := uv vec n w) (v2 := w) hn (fun y _ hy => absurd hy (by decide)) (by decide) (by omega)
        omega
      · have := cnt_more (vec := vec) (v := vec m) (vec2 := uv vec n w) (v2 := w) hn (fun y _ hy => by
          unfold uv
          by_cases q : y = n
          · rw [if_pos q]; omega
          · rw [if_neg q]; omega) (by omega) (by omega)
        omega
  intro x hx
  by_cases e : x = n
  · subst e
    left
    have en : uv vec x w x = w := if_pos rfl
    rw [en]
    rcases key x hx with a | ⟨a, b⟩
    · rw [a]; omega
    · exact b
  · have ex : uv vec n w x = vec x := if_neg e
    rcases key x hx with a | ⟨a, b⟩
    · rw [ex, a]
      rcases h x hx with c | ⟨c1, c2, c3⟩
      · exact Or.inl c
      · by_cases hlt : w < vec n
        · have hk := hcnt hlt
          exact Or.inr ⟨hst x hx (Or.inl ⟨c1, e⟩), fun z => Wt_less hn hwl (by omega) a (c2 (fun y => z ((hv x e).mpr y))), fun z => Wt_less hn hwl hk a (c3 ((hv x e).mp z))⟩
        · have ew : w = vec n := by omega
          have eu : uv vec n w = vec := by
            funext y
            unfold uv
            by_cases q : y = n
            · rw [if_pos q, q]; exact ew
            · rw [if_neg q]
          rw [eu]
          exact Or.inr ⟨hst x hx (Or.inl ⟨c1, e⟩), fun z => c2 (fun y => z ((hv x e).mpr y)), fun z => c3 ((hv x e).mp z)⟩
    · by_cases hlt : w < vec n
      · have hk := hcnt hlt
        have en : uv vec n w n = w := if_pos rfl
        refine Or.inr ⟨hst x hx (Or.inr ⟨hlt, a⟩), fun _ => Or.inr ⟨n, hn, by rw [en]; exact b, by rw [en]; omega⟩, fun _ => Or.inr ⟨n, hn, by rw [en]; exact b, by rw [en]; omega⟩⟩
      · have ew : w = vec n := by omega
        have eu : uv vec n w = vec := by
          funext y
          unfold uv
          by_cases q : y = n
          · rw [if_pos q, q]; exact ew
          · rw [if_neg q]
        rw [eu]
        rcases h x hx with c | ⟨c1, c2, c3⟩
        · exact Or.inl c
        · exact Or.inr ⟨hst x hx (Or.inl ⟨c1, e⟩), fun z => c2 (fun y => z ((hv x e).mpr y)), fun z => c3 ((hv x e).mp z)⟩
theorem InvS_round {uses : Nat → Nat → Prop} {RV : (Nat → Nat) → Nat → Nat} {k : Nat} {vis stale : Nat → Prop} {vec : Nat → Nat} (h : InvS uses RV k vis stale vec) (hv : ∀ x, x < 6 → vis x) : InvS uses RV (k + 1) (fun _ => False) stale vec := by
  intro n hn
  rcases h n hn with a | ⟨a, b, c⟩
  · exact Or.inl a
  · exact Or.inr ⟨a, fun _ => c (hv n hn), fun z => absurd z id⟩
theorem InvS_0 {uses : Nat → Nat → Prop} {RV : (Nat → Nat) → Nat → Nat} {stale : Nat → Prop} {vec : Nat → Nat} (h : ∀ n, n < 6 → stale n) : InvS uses RV 0 (fun _ => False) stale vec :=
  fun n hn => Or.inr ⟨h n hn, fun _ => Or.inl rfl, fun z => absurd z id⟩
/-- six rounds are enough -/
theorem InvS_6 {uses : Nat → Nat → Prop} {RV : (Nat → Nat) → Nat → Nat} {k : Nat} {vis stale : Nat → Prop} {vec : Nat → Nat} (h : InvS uses RV k vis stale vec) (hk : 6 ≤ k) : ∀ n, n < 6 → vec n ≤ RV vec n := by
  intro n hn
  rcases h n hn with a | ⟨a, b, c⟩
  · exact a
  · have key : ∀ j, 6 ≤ j → Wt uses RV j vec n → vec n ≤ RV vec n := by
      intro j hj z
      rcases z with z | ⟨m, m1, m2, m3⟩
      · omega
      · have := cnt_all (p := fun x => decide (vec x ≤ vec m)) (n := 6) (by unfold cnt at m3; omega) n hn
        have := of_decide_eq_true this
        omega
    by_cases q : vis n
    · exact key (k + 1) (by omega) (c q)
    · exact key k hk (b q)
/-- nobody stale: all settled -/
theorem InvS_end {uses : Nat → Nat → Prop} {RV : (Nat → Nat) → Nat → Nat} {k : Nat} {vis stale : Nat → Prop} {vec : Nat → Nat} (h : InvS uses RV k vis stale vec) (hs : ∀ n, n < 6 → ¬ stale n) : ∀ n, n < 6 → vec n ≤ RV vec n := by
  intro n hn
  rcases h n hn with a | ⟨a, -, -⟩
  · exact a
  · exact absurd a (hs n hn)
