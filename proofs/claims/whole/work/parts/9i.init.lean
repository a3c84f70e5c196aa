/-! the worlds that the constructors leave; the first memories -/
def wv0C (cy : Nat → ClassId) (h0 : Nat) (u : Nat → Nat) : va_W := [(h0, .inr (9, [.ref (u 0), .ref (u 2), .ref (u 6), .ref (u 10), .ref (u 12), .ref (u 14), .ref (u 16), .ref (u 26), .ref (u 29), .ref (u 31), .ref (u 34), .ref (u 37), .int (zI 0)])), ((u 0), .inr (4, [.ref (u 1), .int (zI 0)])), ((u 1), cI cy 60 (fun _ => 0)), ((u 2), .inr (3, [.ref (u 3), .ref (u 4), .ref (u 5), .int (zI 0), .int (zI 0), .int (zI 0), .int (zI (-1))])), ((u 3), cI cy 6 (fun _ => 0)), ((u 4), cI cy 25 (fun _ => 0)), ((u 5), cI cy 100 (fun _ => 0)), ((u 6), .inr (3, [.ref (u 7), .ref (u 8), .ref (u 9), .int (zI 0), .int (zI 0), .int (zI 0), .int (zI (-1))])), ((u 7), cI cy 6 (fun _ => 0)), ((u 8), cI cy 25 (fun _ => 0)), ((u 9), cI cy 100 (fun _ => 0)), ((u 10), .inr (1, [.ref (u 11)])), ((u 11), cI cy 3 (upZ (upZ (upZ (fun _ => 0) 0 1) 1 1) 2 1)), ((u 12), .inr (8, [.ref (u 13), .int (zI 0)])), ((u 13), cI cy 6 (fun _ => 0)), ((u 14), .inr (8, [.ref (u 15), .int (zI 0)])), ((u 15), cI cy 12 (fun _ => 0)), ((u 16), .inr (2, [.ref (u 17), .ref (u 18), .int (zI 0)])), ((u 17), .inl (cy 3, 3, .inr (.inr (.inr (.inr (va_up (va_up (va_up (fun _ => none) (zI 0).toNatClampNeg (some (u 20))) (zI 1).toNatClampNeg (some (u 22))) (zI 2).toNatClampNeg (some (u 24)))))))), ((u 18), .inr (8, [.ref (u 19), .int (zI 0)])), ((u 19), cI cy 0 (fun _ => 0)), ((u 20), .inr (8, [.ref (u 21), .int (zI 0)])), ((u 21), cI cy 6 (fun _ => 0)), ((u 22), .inr (8, [.ref (u 23), .int (zI 0)])), ((u 23), cI cy 6 (fun _ => 0)), ((u 24), .inr (8, [.ref (u 25), .int (zI 0)])), ((u 25), cI cy 6 (fun _ => 0)), ((u 26), .inr (0, [.ref (u 2), .ref (u 10), .ref (u 12), .ref (u 27), .ref (u 28)])), ((u 27), cJ cy 2940 (fun _ => 0)), ((u 28), cI cy 6 (fun _ => 0)), ((u 29), .inr (5, [.ref (u 26), .ref (u 30)])), ((u 30), cI cy 42 (fun _ => 0)), ((u 31), .inr (6, [.ref (u 10), .ref (u 32), .ref (u 33)])), ((u 32), cI cy 91 (fun _ => 0)), ((u 33), cI cy 91 (fun _ => 0)), ((u 34), .inr (6, [.ref (u 10), .ref (u 35), .ref (u 36)])), ((u 35), cI cy 91 (fun _ => 0)), ((u 36), cI cy 91 (fun _ => 0)), ((u 37), .inr (7, [.ref (u 2), .ref (u 26), .ref (u 16), .int (zI (-1)), .int (zI 1073741824), .int (zI 0)]))]
def wv0M (cy : Nat → ClassId) (h0 : Nat) (u : Nat → Nat) : va_W := [(h0, .inr (10, [.int (zI 0), .ref (u 0), .ref (u 1), .ref (u 2), .ref (u 3), .int (zI 0), .int (zI 0), .ref (u 4), .int (zI 0), .ref (u 5), .ref (u 6), .ref (u 7), .int (zI 0), .ref (u 8), .ref (u 9), .ref (u 10), .ref (u 11), .ref (u 12), .ref (u 13), .ref (u 14), .int (zI 0), .int (zI 0), .int (zI 0), .ref (u 15), .ref (u 16), .int (zI 0), .ref (u 17), .ref (u 18), .ref (u 19), .ref (u 20), .ref (u 21), .ref (u 22), .ref (u 23), .ref (u 24), .ref (u 25), .ref (u 26)])), ((u 0), cI cy 60 (fun _ => 0)), ((u 1), cI cy 6 (fun _ => 0)), ((u 2), cI cy 30 (fun _ => 0)), ((u 3), cI cy 120 (fun _ => 0)), ((u 4), cI cy 6 (fun _ => 0)), ((u 5), cI cy 3 (fun _ => 0)), ((u 6), cI cy 18 (fun _ => 0)), ((u 7), cI cy 3 (upZ (upZ (upZ (fun _ => 0) 0 1) 1 1) 2 1)), ((u 8), cI cy 6 (fun _ => 0)), ((u 9), cI cy 294 (fun _ => 0)), ((u 10), cI cy 294 (fun _ => 0)), ((u 11), cI cy 294 (fun _ => 0)), ((u 12), cI cy 35 (fun _ => 0)), ((u 13), cI cy 35 (fun _ => 0)), ((u 14), cI cy 35 (fun _ => 0)), ((u 15), cZ cy 294 (fun _ => 0)), ((u 16), cZ cy 35 (fun _ => 0)), ((u 17), cI cy 12 (fun _ => 0)), ((u 18), cI cy 91 (fun _ => 0)), ((u 19), cI cy 91 (fun _ => 0)), ((u 20), cJ cy 91 (fun _ => 0)), ((u 21), cJ cy 91 (fun _ => 0)), ((u 22), cZ cy 6 (fun _ => 0)), ((u 23), cI cy 6 (fun _ => 0)), ((u 24), cI cy 6 (fun _ => 0)), ((u 25), cI cy 6 (fun _ => 0)), ((u 26), cI cy 6 (fun _ => 0))]
def adC (h0 : Nat) (u : Nat → Nat) (k : Nat) : Nat := ([h0, u 0, u 1, u 2, u 3, u 4, u 5, u 6, u 7, u 8, u 9, u 10, u 11, u 12, u 13, u 14, u 15, u 20, u 21, u 22, u 23, u 24, u 25, u 18, u 19, u 16, u 17, u 26, u 27, u 28, u 29, u 30, u 31, u 32, u 33, u 34, u 35, u 36, u 37] : List Nat).getD k 0
def adM (h0 : Nat) (u : Nat → Nat) (k : Nat) : Nat := ([h0, u 0, u 1, u 2, u 3, u 4, u 5, u 6, u 7, u 8, u 9, u 10, u 11, u 12, u 13, u 14, u 15, u 16, u 17, u 18, u 19, u 20, u 21, u 22, u 23, u 24, u 25, u 26] : List Nat).getD k 0
def gpC (k : Nat) : Nat := ([0, 1, 2, 3, 4, 5, 6, 7, 8, 9, 10, 11, 12, 13, 14, 15, 16, 21, 22, 23, 24, 25, 26, 19, 20, 17, 18, 27, 28, 29, 30, 31, 32, 33, 34, 35, 36, 37, 38] : List Nat).getD k k
def mem0C (k : Nat) : Nat → Int := match k with
  | 3 => fun j => match j with
    | 6 => -1
    | _ => 0
  | 7 => fun j => match j with
    | 6 => -1
    | _ => 0
  | 12 => upZ (upZ (upZ (fun _ => 0) 0 1) 1 1) 2 1
  | 26 => fun j => ((17 + 2 * j : Nat) : Int)
  | 27 => fun j => match j with
    | 2 => 13
    | _ => 0
  | 38 => fun j => match j with
    | 3 => -1
    | 4 => 1073741824
    | _ => 0
  | _ => fun _ => 0
def mem0M (k : Nat) : Nat → Int := match k with
  | 8 => upZ (upZ (upZ (fun _ => 0) 0 1) 1 1) 2 1
  | _ => fun _ => 0
def as0 : AS := fun t i _ _ => match t, i with
  | 8, 0 => 1
  | 8, 1 => 1
  | 8, 2 => 1
  | _, _ => 0
theorem va_P_WW {D : va_G} {N : Nat} {cell : Nat → (Nat → Int) → va_E} {ad : Nat → Nat} {σ : Mem} {ws : va_W} {H : Heap} (g : Nat → Nat) (hg : ∀ k, k < N → ∃ e, ws[g k]? = some (ad k, e) ∧ (va_at D vwCl (ad k, e) H → va_at D vwCl (ad k, cell k (σ k)) H)) (h : va_P D vwCl ws H) : va_P D vwCl (WW N cell ad σ) H := by
  intro k q hq
  by_cases hN : k < N
  · obtain ⟨e, h1, h2⟩ := hg k hN
    have hq2 : q = (ad k, cell k (σ k)) := by
      simp [WW, hN] at hq
      exact hq.symm
    subst hq2
    exact h2 (h _ _ h1)
  · simp [WW, hN] at hq
theorem adOK_of {N : Nat} {ad : Nat → Nat} {ws : va_W} {A : Nat → Prop} (g : Nat → Nat) (hg : ∀ k, k < N → ∃ e, ws[g k]? = some (ad k, e)) (hi : ∀ i, i < N → ∀ j, j < N → g i = g j → i = j) (h : va_D A ws) : adOK N ad ∧ ∀ k, k < N → A (ad k) := by
  refine ⟨fun i j hi1 hj1 e => ?_, fun k hk => ?_⟩
  · obtain ⟨e1, h1⟩ := hg i hi1
    obtain ⟨e2, h2⟩ := hg j hj1
    exact hi i hi1 j hj1 (h.1 _ _ _ _ h1 h2 e)
  · obtain ⟨e1, h1⟩ := hg k hk
    exact h.2 _ _ h1
theorem arrV_cong {c : ClassId} {N : Nat} {f g : Nat → Value} (h : ∀ j, j < N → f j = g j) : arrV c N f = arrV c N g := by
  unfold arrV
  congr 2
  funext j
  exact h j.1 j.2
set_option maxRecDepth 100000 in
theorem wv0C_at (D : va_G) (cy : Nat → ClassId) (h0 : Nat) (u : Nat → Nat) (H : Heap) : ∀ k, k < 39 → ∃ e, (wv0C cy h0 u)[gpC k]? = some (adC h0 u k, e) ∧ (va_at D vwCl (adC h0 u k, e) H → va_at D vwCl (adC h0 u k, cellC cy (adC h0 u) k (mem0C k)) H) := by
  intro k hk
  match k, hk with
  | 0, _ => exact ⟨_, rfl, fun h => h⟩
  | 1, _ => exact ⟨_, rfl, fun h => h⟩
  | 2, _ => exact ⟨_, rfl, fun h => h⟩
  | 3, _ => exact ⟨_, rfl, fun h => h⟩
  | 4, _ => exact ⟨_, rfl, fun h => h⟩
  | 5, _ => exact ⟨_, rfl, fun h => h⟩
  | 6, _ => exact ⟨_, rfl, fun h => h⟩
  | 7, _ => exact ⟨_, rfl, fun h => h⟩
  | 8, _ => exact ⟨_, rfl, fun h => h⟩
  | 9, _ => exact ⟨_, rfl, fun h => h⟩
  | 10, _ => exact ⟨_, rfl, fun h => h⟩
  | 11, _ => exact ⟨_, rfl, fun h => h⟩
  | 12, _ => exact ⟨_, rfl, fun h => h⟩
  | 13, _ => exact ⟨_, rfl, fun h => h⟩
  | 14, _ => exact ⟨_, rfl, fun h => h⟩
  | 15, _ => exact ⟨_, rfl, fun h => h⟩
  | 16, _ => exact ⟨_, rfl, fun h => h⟩
  | 17, _ => exact ⟨_, rfl, fun h => h⟩
  | 18, _ => exact ⟨_, rfl, fun h => h⟩
  | 19, _ => exact ⟨_, rfl, fun h => h⟩
  | 20, _ => exact ⟨_, rfl, fun h => h⟩
  | 21, _ => exact ⟨_, rfl, fun h => h⟩
  | 22, _ => exact ⟨_, rfl, fun h => h⟩
  | 23, _ => exact ⟨_, rfl, fun h => h⟩
  | 24, _ => exact ⟨_, rfl, fun h => h⟩
  | 25, _ => exact ⟨_, rfl, fun h => h⟩
  | 26, _ =>
    refine ⟨_, rfl, fun h => ?_⟩
    refine Eq.trans (show H[adC h0 u 26]? = some _ from h) ?_
    show some (vp_cell (cy 3) (3, _)) = some (vp_cell (cy 3) (3, _))
    rw [vp_cell_q, vp_cell_q]
    refine congrArg some (arrV_cong (fun j hj => ?_))
    rcases (show j = 0 ∨ j = 1 ∨ j = 2 by omega) with rfl | rfl | rfl <;> rfl
  | 27, _ => exact ⟨_, rfl, fun h => h⟩
  | 28, _ => exact ⟨_, rfl, fun h => h⟩
  | 29, _ => exact ⟨_, rfl, fun h => h⟩
  | 30, _ => exact ⟨_, rfl, fun h => h⟩
  | 31, _ => exact ⟨_, rfl, fun h => h⟩
  | 32, _ => exact ⟨_, rfl, fun h => h⟩
  | 33, _ => exact ⟨_, rfl, fun h => h⟩
  | 34, _ => exact ⟨_, rfl, fun h => h⟩
  | 35, _ => exact ⟨_, rfl, fun h => h⟩
  | 36, _ => exact ⟨_, rfl, fun h => h⟩
  | 37, _ => exact ⟨_, rfl, fun h => h⟩
  | 38, _ => exact ⟨_, rfl, fun h => h⟩
  | k + 39, h => exact absurd h (by omega)
set_option maxRecDepth 100000 in
theorem wv0M_at (D : va_G) (cy : Nat → ClassId) (h0 : Nat) (u : Nat → Nat) (H : Heap) : ∀ k, k < 28 → ∃ e, (wv0M cy h0 u)[k]? = some (adM h0 u k, e) ∧ (va_at D vwCl (adM h0 u k, e) H → va_at D vwCl (adM h0 u k, cellM cy (adM h0 u) k (mem0M k)) H) := by
  intro k hk
  match k, hk with
  | 0, _ => exact ⟨_, rfl, fun h => h⟩
  | 1, _ => exact ⟨_, rfl, fun h => h⟩
  | 2, _ => exact ⟨_, rfl, fun h => h⟩
  | 3, _ => exact ⟨_, rfl, fun h => h⟩
  | 4, _ => exact ⟨_, rfl, fun h => h⟩
  | 5, _ => exact ⟨_, rfl, fun h => h⟩
  | 6, _ => exact ⟨_, rfl, fun h => h⟩
  | 7, _ => exact ⟨_, rfl, fun h => h⟩
  | 8, _ => exact ⟨_, rfl, fun h => h⟩
  | 9, _ => exact ⟨_, rfl, fun h => h⟩
  | 10, _ => exact ⟨_, rfl, fun h => h⟩
  | 11, _ => exact ⟨_, rfl, fun h => h⟩
  | 12, _ => exact ⟨_, rfl, fun h => h⟩
  | 13, _ => exact ⟨_, rfl, fun h => h⟩
  | 14, _ => exact ⟨_, rfl, fun h => h⟩
  | 15, _ => exact ⟨_, rfl, fun h => h⟩
  | 16, _ => exact ⟨_, rfl, fun h => h⟩
  | 17, _ => exact ⟨_, rfl, fun h => h⟩
  | 18, _ => exact ⟨_, rfl, fun h => h⟩
  | 19, _ => exact ⟨_, rfl, fun h => h⟩
  | 20, _ => exact ⟨_, rfl, fun h => h⟩
  | 21, _ => exact ⟨_, rfl, fun h => h⟩
  | 22, _ => exact ⟨_, rfl, fun h => h⟩
  | 23, _ => exact ⟨_, rfl, fun h => h⟩
  | 24, _ => exact ⟨_, rfl, fun h => h⟩
  | 25, _ => exact ⟨_, rfl, fun h => h⟩
  | 26, _ => exact ⟨_, rfl, fun h => h⟩
  | 27, _ => exact ⟨_, rfl, fun h => h⟩
  | k + 28, h => exact absurd h (by omega)
theorem gpC_inj : ∀ i, i < 39 → ∀ j, j < 39 → gpC i = gpC j → i = j := by decide +kernel
/-- what the class's constructor leaves -/
theorem left0C {D : va_G} {cy : Nat → ClassId} {h0 : Nat} {u : Nat → Nat} {H : Heap} {A : Nat → Prop} (hP : va_P D vwCl (wv0C cy h0 u) H) (hD : va_D A (wv0C cy h0 u)) : va_P D vwCl (WW 39 (cellC cy (adC h0 u)) (adC h0 u) mem0C) H ∧ adOK 39 (adC h0 u) ∧ ∀ k, k < 39 → A (adC h0 u k) :=
  ⟨va_P_WW gpC (wv0C_at D cy h0 u H) hP, adOK_of gpC (fun k hk => (wv0C_at D cy h0 u H k hk).imp fun _ h => h.1) gpC_inj hD⟩
/-- what the reference's constructor leaves -/
theorem left0M {D : va_G} {cy : Nat → ClassId} {h0 : Nat} {u : Nat → Nat} {H : Heap} {A : Nat → Prop} (hP : va_P D vwCl (wv0M cy h0 u) H) (hD : va_D A (wv0M cy h0 u)) : va_P D vwCl (WW 28 (cellM cy (adM h0 u)) (adM h0 u) mem0M) H ∧ adOK 28 (adM h0 u) ∧ ∀ k, k < 28 → A (adM h0 u k) :=
  ⟨va_P_WW (fun k => k) (wv0M_at D cy h0 u H) hP, adOK_of (fun k => k) (fun k hk => (wv0M_at D cy h0 u H k hk).imp fun _ h => h.1) (fun _ _ _ _ h => h) hD⟩
theorem m12_0 : ∀ k, k < 3 → mem0C 12 k = 1 := by decide
/-- the first memories agree -/
theorem Inv_0 : Inv mem0C mem0M as0 := by
  have z4 : (0 : Int) ≤ 0 ∧ (0 : Int) ≤ 4 := by decide
  have z10s : (0 : Int) ≤ 0 ∧ (0 : Int) < 10 := by decide
  refine ⟨⟨by decide, rfl, rfl, fun k hk => absurd hk (Nat.not_lt_zero k)⟩, ⟨⟨fun n _ => z4, fun s _ => z4, fun q _ => z10s, ⟨by decide, by decide⟩, fun k hk => by rw [m12_0 k hk]; decide⟩, rfl, ?_, ?_, fun n _ => by show (0 : Nat) ≤ 4; decide, by decide, rfl, rfl, 0, by decide, rfl, fun n _ => ?_⟩, ⟨⟨Or.inl rfl, rfl, by decide, by decide, fun k hk => absurd hk (Nat.not_lt_zero k)⟩, rfl, fun k hk => absurd hk (Nat.not_lt_zero k)⟩, ⟨⟨by decide, by decide, by decide, by decide, by decide, by decide, by decide, by decide, by decide⟩, by decide, by decide, by decide⟩, ⟨by decide, rfl, rfl, fun i _ => rfl, fun i hi => absurd hi (Nat.not_lt_zero i)⟩, ⟨rfl, fun s _ => z4, fun q _ => z10s⟩, Or.inl rfl, Or.inl rfl, fun n _ => Or.inl rfl⟩
  · have e : ∀ n, rcC mem0C n = 0 := fun n => by
      unfold rcC
      rw [if_neg (show ¬ mem0C 3 6 = (n : Int) from fun h => by have h2 : (-1 : Int) = (n : Int) := h; omega)]
      rfl
    exact ⟨fun n _ => e n, fun n r _ hr => absurd hr (by rw [e n]; exact Nat.not_lt_zero r), fun n r p _ hr => absurd hr (by rw [e n]; exact Nat.not_lt_zero r)⟩
  · exact ⟨fun n _ => ⟨rfl, Nat.zero_le 5⟩, fun n r _ hr => absurd hr (Nat.not_lt_zero r), fun n r p _ hr => absurd hr (Nat.not_lt_zero r)⟩
  · exact ⟨fun h => absurd (h.symm.trans (Nat.zero_testBit n)) (by decide), fun h => absurd h (Nat.not_lt_zero 0)⟩
