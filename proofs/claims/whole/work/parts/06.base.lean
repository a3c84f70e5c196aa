abbrev vwCl : List vw_C := [(RX0, TX0, 5), (RX1, TX1, 1), (RX2, TX2, 3), (RX4, TX4, 7), (RX5, TX5, 2), (RX6, TX6, 2), (RX7, TX7, 3), (RX9, TX9, 6), (RX10, TX10, 2), (RX11, TX11, 13), (RX12, TX12, 36)]
/-! numbers: what int and long cells hold, as whole numbers -/
abbrev Mem : Type := Nat → Nat → Int
def zI (a : Int) : Int32 := Int32.ofInt a
def zL (a : Int) : Int64 := Int64.ofInt a
theorem zI_add (a b : Int) : zI a + zI b = zI (a + b) := (Int32.ofInt_add a b).symm
theorem zI_sub (a b : Int) : zI a - zI b = zI (a - b) := (Int32.ofInt_sub a b).symm
theorem zI_mul (a b : Int) : zI a * zI b = zI (a * b) := (Int32.ofInt_mul a b).symm
theorem zI_toInt (x : Int32) : zI x.toInt = x := Int32.ofInt_toInt x
theorem zI_to {a : Int} (h1 : -2147483648 ≤ a) (h2 : a < 2147483648) : (zI a).toInt = a := Int32.toInt_ofInt_of_le h1 h2
theorem zL_add (a b : Int) : zL a + zL b = zL (a + b) := (Int64.ofInt_add a b).symm
theorem zL_mul (a b : Int) : zL a * zL b = zL (a * b) := (Int64.ofInt_mul a b).symm
theorem zL_toInt (x : Int64) : zL x.toInt = x := Int64.ofInt_toInt x
theorem zL_to {a : Int} (h1 : -9223372036854775808 ≤ a) (h2 : a < 9223372036854775808) : (zL a).toInt = a := Int64.toInt_ofInt_of_le h1 h2
/-- the machine's operations that are not sums, read as whole numbers -/
def iAnd (a b : Int) : Int := (zI a &&& zI b).toInt
def iOr (a b : Int) : Int := (zI a ||| zI b).toInt
def iXor (a b : Int) : Int := (zI a ^^^ zI b).toInt
def iShl (a b : Int) : Int := (zI a <<< (zI b &&& 31)).toInt
def iShr (a b : Int) : Int := (zI a >>> (zI b &&& 31)).toInt
def iUshr (a b : Int) : Int := (((zI a).toUInt32 >>> ((zI b).toUInt32 &&& Int32.toUInt32 31)).toInt32).toInt
def iDiv (a b : Int) : Int := (zI a / zI b).toInt
def iRem (a b : Int) : Int := (zI a - zI a / zI b * zI b).toInt
def iMax (a b : Int) : Int := if zI a < zI b then b else a
def iMin (a b : Int) : Int := if zI b < zI a then b else a
def i2l (a : Int) : Int := ((zI a).toInt64).toInt
def l2i (a : Int) : Int := ((zL a).toInt32).toInt
def lAnd (a b : Int) : Int := (zL a &&& zL b).toInt
def lOr (a b : Int) : Int := (zL a ||| zL b).toInt
def lShl (a b : Int) : Int := (zL a <<< ((zI b).toInt64 &&& 63)).toInt
def lShr (a b : Int) : Int := (zL a >>> ((zI b).toInt64 &&& 63)).toInt
def lCmp (a b : Int) : Int := (lg_cmp (zL a) (zL b)).toInt
def lMin (a b : Int) : Int := if zL b < zL a then b else a
/-! steps of the mirrored programs -/
def gd {β : Type} (c : Prop) [Decidable c] (k : Option β) : Option β := if c then k else none
theorem gd_some {β : Type} {c : Prop} [Decidable c] {k : Option β} {r : β} (h : gd c k = some r) : c ∧ k = some r := by
  unfold gd at h
  by_cases hc : c
  · rw [if_pos hc] at h
    exact ⟨hc, h⟩
  · rw [if_neg hc] at h
    cases h
def nm {α β : Type} (e : α) (g : α → Option β) : Option β := g e
theorem nm_some {α β : Type} {e : α} {g : α → Option β} {r : β} (h : nm e g = some r) : ∃ x, e = x ∧ g x = some r := ⟨e, rfl, h⟩
def bV {α β : Type} (o : Option α) (g : α → Option β) : Option β := match o with
  | none => none
  | some a => g a
theorem bV_some {α β : Type} {o : Option α} {g : α → Option β} {r : β} (h : bV o g = some r) : ∃ a, o = some a ∧ g a = some r := by
  cases o with
  | none => cases h
  | some a => exact ⟨a, rfl, h⟩
def bL1 {A B β : Type} (o : Option (A × B)) (g : A → B → Option β) : Option β := match o with
  | none => none
  | some (v0, v1) => g v0 v1
theorem bL1_some {A B β : Type} {o : Option (A × B)} {g : A → B → Option β} {r : β} (h : bL1 o g = some r) : ∃ v0 v1, o = some (v0, v1) ∧ g v0 v1 = some r := by
  cases o with
  | none => cases h
  | some a => exact ⟨a.1, a.2, rfl, h⟩
def bL2 {A B C β : Type} (o : Option (A × B × C)) (g : A → B → C → Option β) : Option β := match o with
  | none => none
  | some (v0, v1, v2) => g v0 v1 v2
theorem bL2_some {A B C β : Type} {o : Option (A × B × C)} {g : A → B → C → Option β} {r : β} (h : bL2 o g = some r) : ∃ v0 v1 v2, o = some (v0, v1, v2) ∧ g v0 v1 v2 = some r := by
  cases o with
  | none => cases h
  | some a => exact ⟨a.1, a.2.1, a.2.2, rfl, h⟩
def bL3 {A B C D β : Type} (o : Option (A × B × C × D)) (g : A → B → C → D → Option β) : Option β := match o with
  | none => none
  | some (v0, v1, v2, v3) => g v0 v1 v2 v3
theorem bL3_some {A B C D β : Type} {o : Option (A × B × C × D)} {g : A → B → C → D → Option β} {r : β} (h : bL3 o g = some r) : ∃ v0 v1 v2 v3, o = some (v0, v1, v2, v3) ∧ g v0 v1 v2 v3 = some r := by
  cases o with
  | none => cases h
  | some a => exact ⟨a.1, a.2.1, a.2.2.1, a.2.2.2, rfl, h⟩
def bL4 {A B C D E β : Type} (o : Option (A × B × C × D × E)) (g : A → B → C → D → E → Option β) : Option β := match o with
  | none => none
  | some (v0, v1, v2, v3, v4) => g v0 v1 v2 v3 v4
theorem bL4_some {A B C D E β : Type} {o : Option (A × B × C × D × E)} {g : A → B → C → D → E → Option β} {r : β} (h : bL4 o g = some r) : ∃ v0 v1 v2 v3 v4, o = some (v0, v1, v2, v3, v4) ∧ g v0 v1 v2 v3 v4 = some r := by
  cases o with
  | none => cases h
  | some a => exact ⟨a.1, a.2.1, a.2.2.1, a.2.2.2.1, a.2.2.2.2, rfl, h⟩
def bL5 {A B C D E F β : Type} (o : Option (A × B × C × D × E × F)) (g : A → B → C → D → E → F → Option β) : Option β := match o with
  | none => none
  | some (v0, v1, v2, v3, v4, v5) => g v0 v1 v2 v3 v4 v5
theorem bL5_some {A B C D E F β : Type} {o : Option (A × B × C × D × E × F)} {g : A → B → C → D → E → F → Option β} {r : β} (h : bL5 o g = some r) : ∃ v0 v1 v2 v3 v4 v5, o = some (v0, v1, v2, v3, v4, v5) ∧ g v0 v1 v2 v3 v4 v5 = some r := by
  cases o with
  | none => cases h
  | some a => exact ⟨a.1, a.2.1, a.2.2.1, a.2.2.2.1, a.2.2.2.2.1, a.2.2.2.2.2, rfl, h⟩
def bL6 {A B C D E F G β : Type} (o : Option (A × B × C × D × E × F × G)) (g : A → B → C → D → E → F → G → Option β) : Option β := match o with
  | none => none
  | some (v0, v1, v2, v3, v4, v5, v6) => g v0 v1 v2 v3 v4 v5 v6
theorem bL6_some {A B C D E F G β : Type} {o : Option (A × B × C × D × E × F × G)} {g : A → B → C → D → E → F → G → Option β} {r : β} (h : bL6 o g = some r) : ∃ v0 v1 v2 v3 v4 v5 v6, o = some (v0, v1, v2, v3, v4, v5, v6) ∧ g v0 v1 v2 v3 v4 v5 v6 = some r := by
  cases o with
  | none => cases h
  | some a => exact ⟨a.1, a.2.1, a.2.2.1, a.2.2.2.1, a.2.2.2.2.1, a.2.2.2.2.2.1, a.2.2.2.2.2.2, rfl, h⟩
def bL7 {A B C D E F G H β : Type} (o : Option (A × B × C × D × E × F × G × H)) (g : A → B → C → D → E → F → G → H → Option β) : Option β := match o with
  | none => none
  | some (v0, v1, v2, v3, v4, v5, v6, v7) => g v0 v1 v2 v3 v4 v5 v6 v7
theorem bL7_some {A B C D E F G H β : Type} {o : Option (A × B × C × D × E × F × G × H)} {g : A → B → C → D → E → F → G → H → Option β} {r : β} (h : bL7 o g = some r) : ∃ v0 v1 v2 v3 v4 v5 v6 v7, o = some (v0, v1, v2, v3, v4, v5, v6, v7) ∧ g v0 v1 v2 v3 v4 v5 v6 v7 = some r := by
  cases o with
  | none => cases h
  | some a => exact ⟨a.1, a.2.1, a.2.2.1, a.2.2.2.1, a.2.2.2.2.1, a.2.2.2.2.2.1, a.2.2.2.2.2.2.1, a.2.2.2.2.2.2.2, rfl, h⟩
def bL8 {A B C D E F G H I β : Type} (o : Option (A × B × C × D × E × F × G × H × I)) (g : A → B → C → D → E → F → G → H → I → Option β) : Option β := match o with
  | none => none
  | some (v0, v1, v2, v3, v4, v5, v6, v7, v8) => g v0 v1 v2 v3 v4 v5 v6 v7 v8
theorem bL8_some {A B C D E F G H I β : Type} {o : Option (A × B × C × D × E × F × G × H × I)} {g : A → B → C → D → E → F → G → H → I → Option β} {r : β} (h : bL8 o g = some r) : ∃ v0 v1 v2 v3 v4 v5 v6 v7 v8, o = some (v0, v1, v2, v3, v4, v5, v6, v7, v8) ∧ g v0 v1 v2 v3 v4 v5 v6 v7 v8 = some r := by
  cases o with
  | none => cases h
  | some a => exact ⟨a.1, a.2.1, a.2.2.1, a.2.2.2.1, a.2.2.2.2.1, a.2.2.2.2.2.1, a.2.2.2.2.2.2.1, a.2.2.2.2.2.2.2.1, a.2.2.2.2.2.2.2.2, rfl, h⟩
theorem inj2 {A B : Type} {a0 b0 : A} {a1 b1 : B} (h : some (a0, a1) = some (b0, b1)) : a0 = b0 ∧ a1 = b1 := by
  cases h
  exact ⟨rfl, rfl⟩
theorem inj3 {A B C : Type} {a0 b0 : A} {a1 b1 : B} {a2 b2 : C} (h : some (a0, a1, a2) = some (b0, b1, b2)) : a0 = b0 ∧ a1 = b1 ∧ a2 = b2 := by
  cases h
  exact ⟨rfl, rfl, rfl⟩
theorem inj4 {A B C D : Type} {a0 b0 : A} {a1 b1 : B} {a2 b2 : C} {a3 b3 : D} (h : some (a0, a1, a2, a3) = some (b0, b1, b2, b3)) : a0 = b0 ∧ a1 = b1 ∧ a2 = b2 ∧ a3 = b3 := by
  cases h
  exact ⟨rfl, rfl, rfl, rfl⟩
theorem inj5 {A B C D E : Type} {a0 b0 : A} {a1 b1 : B} {a2 b2 : C} {a3 b3 : D} {a4 b4 : E} (h : some (a0, a1, a2, a3, a4) = some (b0, b1, b2, b3, b4)) : a0 = b0 ∧ a1 = b1 ∧ a2 = b2 ∧ a3 = b3 ∧ a4 = b4 := by
  cases h
  exact ⟨rfl, rfl, rfl, rfl, rfl⟩
theorem inj6 {A B C D E F : Type} {a0 b0 : A} {a1 b1 : B} {a2 b2 : C} {a3 b3 : D} {a4 b4 : E} {a5 b5 : F} (h : some (a0, a1, a2, a3, a4, a5) = some (b0, b1, b2, b3, b4, b5)) : a0 = b0 ∧ a1 = b1 ∧ a2 = b2 ∧ a3 = b3 ∧ a4 = b4 ∧ a5 = b5 := by
  cases h
  exact ⟨rfl, rfl, rfl, rfl, rfl, rfl⟩
theorem inj7 {A B C D E F G : Type} {a0 b0 : A} {a1 b1 : B} {a2 b2 : C} {a3 b3 : D} {a4 b4 : E} {a5 b5 : F} {a6 b6 : G} (h : some (a0, a1, a2, a3, a4, a5, a6) = some (b0, b1, b2, b3, b4, b5, b6)) : a0 = b0 ∧ a1 = b1 ∧ a2 = b2 ∧ a3 = b3 ∧ a4 = b4 ∧ a5 = b5 ∧ a6 = b6 := by
  cases h
  exact ⟨rfl, rfl, rfl, rfl, rfl, rfl, rfl⟩
theorem inj8 {A B C D E F G H : Type} {a0 b0 : A} {a1 b1 : B} {a2 b2 : C} {a3 b3 : D} {a4 b4 : E} {a5 b5 : F} {a6 b6 : G} {a7 b7 : H} (h : some (a0, a1, a2, a3, a4, a5, a6, a7) = some (b0, b1, b2, b3, b4, b5, b6, b7)) : a0 = b0 ∧ a1 = b1 ∧ a2 = b2 ∧ a3 = b3 ∧ a4 = b4 ∧ a5 = b5 ∧ a6 = b6 ∧ a7 = b7 := by
  cases h
  exact ⟨rfl, rfl, rfl, rfl, rfl, rfl, rfl, rfl⟩
/-! memory -/
def st (σ : Mem) (k i : Nat) (v : Int) : Mem := fun k2 i2 => if k2 = k ∧ i2 = i then v else σ k2 i2
def fil (σ : Mem) (k n : Nat) (v : Int) : Mem := fun k2 i => if k2 = k ∧ i < n then v else σ k2 i
def cpy (σ : Mem) (a b n : Nat) : Mem := fun k i => if k = b ∧ i < n then σ a i else σ k i
theorem st_row (σ : Mem) (k i : Nat) (v : Int) (j : Nat) : st σ k i v k j = if j = i then v else σ k j := by simp [st]
theorem st_other (σ : Mem) {k i k2 : Nat} (v : Int) (h : k2 ≠ k) : st σ k i v k2 = σ k2 := by
  funext j
  simp [st, h]
/-! worlds: N cells at the addresses ad 0, ad 1 ..; what cell k holds is read off row k of the memory -/
def WW (N : Nat) (cell : Nat → (Nat → Int) → va_E) (ad : Nat → Nat) (σ : Mem) : va_W := (List.range N).map (fun k => (ad k, cell k (σ k)))
def AC (N : Nat) (ad : Nat → Nat) : Nat → Prop := fun q => ∃ k, k < N ∧ q = ad k
def adOK (N : Nat) (ad : Nat → Nat) : Prop := ∀ i j : Nat, i < N → j < N → ad i = ad j → i = j
theorem WW_get {N : Nat} {cell : Nat → (Nat → Int) → va_E} {ad : Nat → Nat} {σ : Mem} {k : Nat} (h : k < N) {e : va_E} (he : cell k (σ k) = e) : (WW N cell ad σ)[k]? = some (ad k, e) := by
  subst he
  simp [WW, h]
theorem WW_set {N : Nat} {cell : Nat → (Nat → Int) → va_E} {ad : Nat → Nat} {σ τ : Mem} {k : Nat} {e : va_E} (he : cell k (τ k) = e) (ho : ∀ j, j ≠ k → τ j = σ j) : (WW N cell ad σ).set k (ad k, e) = WW N cell ad τ := by
  subst he
  apply List.ext_getElem?
  intro j
  rw [List.getElem?_set]
  by_cases hj : k = j
  · subst hj
    by_cases hN : k < N
    · simp [WW, hN]
    · simp [WW, hN]
  · rw [if_neg hj]
    by_cases hN : j < N
    · simp [WW, hN, ho j (Ne.symm hj)]
    · simp [WW, hN]
theorem WW_D {N : Nat} {cell : Nat → (Nat → Int) → va_E} {ad : Nat → Nat} (σ : Mem) (h : adOK N ad) : va_D (AC N ad) (WW N cell ad σ) := by
  have look : ∀ (i : Nat) (p : Nat × va_E), (WW N cell ad σ)[i]? = some p → i < N ∧ p.1 = ad i := by
    intro i p hp
    by_cases hN : i < N
    · simp [WW, hN] at hp
      exact ⟨hN, by rw [← hp]⟩
    · simp [WW, hN] at hp
  refine ⟨fun i j p q hp hq e => ?_, fun i p hp => ?_⟩
  · obtain ⟨a1, a2⟩ := look i p hp
    obtain ⟨b1, b2⟩ := look j q hq
    exact h i j a1 b1 (by rw [← a2, ← b2, e])
  · obtain ⟨a1, a2⟩ := look i p hp
    exact ⟨i, a1, a2⟩
/-- the kinds of arrays -/
def tyC (cy : Nat → ClassId) : List (ClassId × FieldType) := [(cy 0, .int), (cy 1, .long), (cy 2, .boolean), (cy 3, .object "MendTexts$Word")]
def cI (cy : Nat → ClassId) (n : Nat) (r : Nat → Int) : va_E := .inl (cy 0, n, .inl (fun j => zI (r j)))
def cJ (cy : Nat → ClassId) (n : Nat) (r : Nat → Int) : va_E := .inl (cy 1, n, .inr (.inl (fun j => zL (r j))))
def cZ (cy : Nat → ClassId) (n : Nat) (r : Nat → Int) : va_E := .inl (cy 2, n, .inl (fun j => zI (r j)))
def cO (cy : Nat → ClassId) (ad : Nat → Nat) (n : Nat) (r : Nat → Int) : va_E := .inl (cy 3, n, .inr (.inr (.inr (.inr (fun j => some (ad (r j).toNat))))))
/-- the one link between nest mates that a call needs -/
def nestW : Cond := .methodLinkNest RX4 46 yX11_isName "MendTexts"
def KK (D : va_G) (cy : Nat → ClassId) (s : State) : Prop := va_K D vwCl (tyC cy) s ∧ va_Nw nestW s
/-! what a method is entered with, and what it leaves -/
def PreW (D : va_G) (cy : Nat → ClassId) (N : Nat) (cell : Nat → (Nat → Int) → va_E) (ad : Nat → Nat) (σ : Mem) : State → Prop := fun U => va_P D vwCl (WW N cell ad σ) U.heap ∧ KK D cy U
def QI (D : va_G) (N : Nat) (cell : Nat → (Nat → Int) → va_E) (ad : Nat → Nat) (v : Int) (σ : Mem) : Array Value → State → Outcome → State → Prop := va_Qi (fun r (_ : Unit) => r = zI v) (fun _ t => va_P D vwCl (WW N cell ad σ) t.heap) (AC N ad)
def QL (D : va_G) (N : Nat) (cell : Nat → (Nat → Int) → va_E) (ad : Nat → Nat) (v : Int) (σ : Mem) : Array Value → State → Outcome → State → Prop := va_Ql (fun r (_ : Unit) => r = zL v) (fun _ t => va_P D vwCl (WW N cell ad σ) t.heap) (AC N ad)
def QV (D : va_G) (N : Nat) (cell : Nat → (Nat → Int) → va_E) (ad : Nat → Nat) (σ : Mem) : Array Value → State → Outcome → State → Prop := va_Qv (fun (_ : Unit) => True) (fun _ t => va_P D vwCl (WW N cell ad σ) t.heap) (AC N ad)
def QR (D : va_G) (N : Nat) (cell : Nat → (Nat → Int) → va_E) (ad : Nat → Nat) (k : Nat) (σ : Mem) : Array Value → State → Outcome → State → Prop := va_Qr (fun (_ : Unit) => True) (fun _ a t => a = ad k ∧ va_P D vwCl (WW N cell ad σ) t.heap) (AC N ad)
/-- an index in an array of n -/
theorem zI_in {e : Int} {n : Nat} (h : 0 ≤ e ∧ e < (n : Int)) (hn : n < 2147483648) : vp_in (zI e) n ∧ (zI e).toNatClampNeg = e.toNat := by
  have h1 : (zI e).toInt = e := zI_to (by omega) (by omega)
  refine ⟨vp_in_iff.mpr (by rw [h1]; exact h), ?_⟩
  show (zI e).toInt.toNat = _
  rw [h1]
theorem zI_bool {v : Int} (h : v = 0 ∨ v = 1) : narrow .boolean (.int (zI v)) = .int (zI v) ∧ fits .boolean (.int (zI v)) = true ∧ vp_nar .boolean (zI v) = zI v := by
  rcases h with rfl | rfl <;> exact ⟨by decide, by decide, by decide⟩
theorem cI_st (cy : Nat → ClassId) {cell : Nat → (Nat → Int) → va_E} {k n i : Nat} {σ : Mem} {v : Int} (hc : ∀ r, cell k r = cI cy n r) : cell k (st σ k i v k) = .inl (cy 0, n, .inl (upd (fun j => zI (σ k j)) i (zI v))) := by
  rw [hc]
  show (_ : va_E) = _
  unfold cI
  congr 4
  funext j
  rw [st_row]
  unfold upd
  split <;> rfl
theorem cZ_st (cy : Nat → ClassId) {cell : Nat → (Nat → Int) → va_E} {k n i : Nat} {σ : Mem} {v : Int} (hc : ∀ r, cell k r = cZ cy n r) : cell k (st σ k i v k) = .inl (cy 2, n, .inl (upd (fun j => zI (σ k j)) i (zI v))) := by
  rw [hc]
  unfold cZ
  congr 4
  funext j
  rw [st_row]
  unfold upd
  split <;> rfl
theorem cJ_st (cy : Nat → ClassId) {cell : Nat → (Nat → Int) → va_E} {k n i : Nat} {σ : Mem} {v : Int} (hc : ∀ r, cell k r = cJ cy n r) : cell k (st σ k i v k) = .inl (cy 1, n, .inr (.inl (vp_updL (fun j => zL (σ k j)) i (zL v)))) := by
  rw [hc]
  unfold cJ
  congr 5
  funext j
  rw [st_row]
  unfold vp_updL
  split <;> rfl
