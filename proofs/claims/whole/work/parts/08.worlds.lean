/-- the cells of a MendTexts: 0 itself, 1 pad, 3 rules, 7 draft, 11 costs, 13 typed, 15 mended, 17 19 21 the examples, 23 the empty word, 25 examples, 27 chart, 30 reach, 32 ahead, 35 behind, 38 search; an array stands behind its owner -/
def cellC (cy : Nat → ClassId) (ad : Nat → Nat) (k : Nat) (r : Nat → Int) : va_E := match k with
  | 0 => .inr (9, [.ref (ad 1), .ref (ad 3), .ref (ad 7), .ref (ad 11), .ref (ad 13), .ref (ad 15), .ref (ad 25), .ref (ad 27), .ref (ad 30), .ref (ad 32), .ref (ad 35), .ref (ad 38), .int (zI (r 12))])
  | 1 => .inr (4, [.ref (ad 2), .int (zI (r 1))])
  | 2 => cI cy 60 r
  | 3 => .inr (3, [.ref (ad 4), .ref (ad 5), .ref (ad 6), .int (zI (r 3)), .int (zI (r 4)), .int (zI (r 5)), .int (zI (r 6))])
  | 4 => cI cy 6 r
  | 5 => cI cy 25 r
  | 6 => cI cy 100 r
  | 7 => .inr (3, [.ref (ad 8), .ref (ad 9), .ref (ad 10), .int (zI (r 3)), .int (zI (r 4)), .int (zI (r 5)), .int (zI (r 6))])
  | 8 => cI cy 6 r
  | 9 => cI cy 25 r
  | 10 => cI cy 100 r
  | 11 => .inr (1, [.ref (ad 12)])
  | 12 => cI cy 3 r
  | 13 => .inr (8, [.ref (ad 14), .int (zI (r 1))])
  | 14 => cI cy 6 r
  | 15 => .inr (8, [.ref (ad 16), .int (zI (r 1))])
  | 16 => cI cy 12 r
  | 17 => .inr (8, [.ref (ad 18), .int (zI (r 1))])
  | 18 => cI cy 6 r
  | 19 => .inr (8, [.ref (ad 20), .int (zI (r 1))])
  | 20 => cI cy 6 r
  | 21 => .inr (8, [.ref (ad 22), .int (zI (r 1))])
  | 22 => cI cy 6 r
  | 23 => .inr (8, [.ref (ad 24), .int (zI (r 1))])
  | 24 => cI cy 0 r
  | 25 => .inr (2, [.ref (ad 26), .ref (ad 23), .int (zI (r 2))])
  | 26 => cO cy ad 3 r
  | 27 => .inr (0, [.ref (ad 3), .ref (ad 11), .ref (ad (r 2).toNat), .ref (ad 28), .ref (ad 29)])
  | 28 => cJ cy 2940 r
  | 29 => cI cy 6 r
  | 30 => .inr (5, [.ref (ad 27), .ref (ad 31)])
  | 31 => cI cy 42 r
  | 32 => .inr (6, [.ref (ad 11), .ref (ad 33), .ref (ad 34)])
  | 33 => cI cy 91 r
  | 34 => cI cy 91 r
  | 35 => .inr (6, [.ref (ad 11), .ref (ad 36), .ref (ad 37)])
  | 36 => cI cy 91 r
  | 37 => cI cy 91 r
  | 38 => .inr (7, [.ref (ad 3), .ref (ad 27), .ref (ad 25), .int (zI (r 3)), .int (zI (r 4)), .int (zI (r 5))])
  | _ => cI cy 0 r
/-- the cells of a MendTextsModel: 0 itself, then its arrays in the order of the fields -/
def cellM (cy : Nat → ClassId) (ad : Nat → Nat) (k : Nat) (r : Nat → Int) : va_E := match k with
  | 0 => .inr (10, [.int (zI (r 0)), .ref (ad 1), .ref (ad 2), .ref (ad 3), .ref (ad 4), .int (zI (r 5)), .int (zI (r 6)), .ref (ad 5), .int (zI (r 8)), .ref (ad 6), .ref (ad 7), .ref (ad 8), .int (zI (r 12)), .ref (ad 9), .ref (ad 10), .ref (ad 11), .ref (ad 12), .ref (ad 13), .ref (ad 14), .ref (ad 15), .int (zI (r 20)), .int (zI (r 21)), .int (zI (r 22)), .ref (ad 16), .ref (ad 17), .int (zI (r 25)), .ref (ad 18), .ref (ad 19), .ref (ad 20), .ref (ad 21), .ref (ad 22), .ref (ad 23), .ref (ad 24), .ref (ad 25), .ref (ad 26), .ref (ad 27)])
  | 1 => cI cy 60 r
  | 2 => cI cy 6 r
  | 3 => cI cy 30 r
  | 4 => cI cy 120 r
  | 5 => cI cy 6 r
  | 6 => cI cy 3 r
  | 7 => cI cy 18 r
  | 8 => cI cy 3 r
  | 9 => cI cy 6 r
  | 10 => cI cy 294 r
  | 11 => cI cy 294 r
  | 12 => cI cy 294 r
  | 13 => cI cy 35 r
  | 14 => cI cy 35 r
  | 15 => cI cy 35 r
  | 16 => cZ cy 294 r
  | 17 => cZ cy 35 r
  | 18 => cI cy 12 r
  | 19 => cI cy 91 r
  | 20 => cI cy 91 r
  | 21 => cJ cy 91 r
  | 22 => cJ cy 91 r
  | 23 => cZ cy 6 r
  | 24 => cI cy 6 r
  | 25 => cI cy 6 r
  | 26 => cI cy 6 r
  | 27 => cI cy 6 r
  | _ => cI cy 0 r
abbrev isW (w : Nat) : Prop := w = 13 ∨ w = 15 ∨ w = 17 ∨ w = 19 ∨ w = 21 ∨ w = 23
abbrev isG (g : Nat) : Prop := g = 3 ∨ g = 7
abbrev isR (r : Nat) : Prop := r = 32 ∨ r = 35
def lenW (w : Nat) : Nat := if w = 15 then 12 else if w = 23 then 0 else 6
theorem lenW_lt (w : Nat) : lenW w < 2147483648 := by unfold lenW; split; decide; split <;> decide
theorem ltW {w : Nat} (h : isW w) : w < 39 := by rcases h with rfl | rfl | rfl | rfl | rfl | rfl <;> decide
theorem ltW1 {w : Nat} (h : isW w) : w + 1 < 39 := by rcases h with rfl | rfl | rfl | rfl | rfl | rfl <;> decide
theorem ltG {g : Nat} (h : isG g) : g < 39 := by rcases h with rfl | rfl <;> decide
theorem ltG1 {g : Nat} (h : isG g) : g + 1 < 39 := by rcases h with rfl | rfl <;> decide
theorem ltG2 {g : Nat} (h : isG g) : g + 2 < 39 := by rcases h with rfl | rfl <;> decide
theorem ltG3 {g : Nat} (h : isG g) : g + 3 < 39 := by rcases h with rfl | rfl <;> decide
theorem ltR {r : Nat} (h : isR r) : r < 39 := by rcases h with rfl | rfl <;> decide
theorem ltR1 {r : Nat} (h : isR r) : r + 1 < 39 := by rcases h with rfl | rfl <;> decide
theorem ltR2 {r : Nat} (h : isR r) : r + 2 < 39 := by rcases h with rfl | rfl <;> decide
theorem cellW (cy : Nat → ClassId) (ad : Nat → Nat) {w : Nat} (h : isW w) (r : Nat → Int) : cellC cy ad w r = .inr (8, [.ref (ad (w + 1)), .int (zI (r 1))]) := by rcases h with rfl | rfl | rfl | rfl | rfl | rfl <;> rfl
theorem cellWA (cy : Nat → ClassId) (ad : Nat → Nat) {w : Nat} (h : isW w) : ∀ r : Nat → Int, cellC cy ad (w + 1) r = cI cy (lenW w) r := by rcases h with rfl | rfl | rfl | rfl | rfl | rfl <;> exact fun _ => rfl
theorem cellG (cy : Nat → ClassId) (ad : Nat → Nat) {g : Nat} (h : isG g) (r : Nat → Int) : cellC cy ad g r = .inr (3, [.ref (ad (g + 1)), .ref (ad (g + 2)), .ref (ad (g + 3)), .int (zI (r 3)), .int (zI (r 4)), .int (zI (r 5)), .int (zI (r 6))]) := by rcases h with rfl | rfl <;> rfl
theorem cellG1 (cy : Nat → ClassId) (ad : Nat → Nat) {g : Nat} (h : isG g) : ∀ r : Nat → Int, cellC cy ad (g + 1) r = cI cy 6 r := by rcases h with rfl | rfl <;> exact fun _ => rfl
theorem cellG2 (cy : Nat → ClassId) (ad : Nat → Nat) {g : Nat} (h : isG g) : ∀ r : Nat → Int, cellC cy ad (g + 2) r = cI cy 25 r := by rcases h with rfl | rfl <;> exact fun _ => rfl
theorem cellG3 (cy : Nat → ClassId) (ad : Nat → Nat) {g : Nat} (h : isG g) : ∀ r : Nat → Int, cellC cy ad (g + 3) r = cI cy 100 r := by rcases h with rfl | rfl <;> exact fun _ => rfl
theorem cellR (cy : Nat → ClassId) (ad : Nat → Nat) {r : Nat} (h : isR r) (ρ : Nat → Int) : cellC cy ad r ρ = .inr (6, [.ref (ad 11), .ref (ad (r + 1)), .ref (ad (r + 2))]) := by rcases h with rfl | rfl <;> rfl
theorem cellR1 (cy : Nat → ClassId) (ad : Nat → Nat) {r : Nat} (h : isR r) : ∀ ρ : Nat → Int, cellC cy ad (r + 1) ρ = cI cy 91 ρ := by rcases h with rfl | rfl <;> exact fun _ => rfl
theorem cellR2 (cy : Nat → ClassId) (ad : Nat → Nat) {r : Nat} (h : isR r) : ∀ ρ : Nat → Int, cellC cy ad (r + 2) ρ = cI cy 91 ρ := by rcases h with rfl | rfl <;> exact fun _ => rfl
theorem putX10_1 (cy : Nat → ClassId) (ad : Nat → Nat) {w : Nat} (h : isW w) {σ : Mem} {x : Int} : cellC cy ad w (st σ w 1 x w) = .inr (8, List.set [.ref (ad (w + 1)), .int (zI (σ w 1))] 1 (.int (zI x))) := by rcases h with rfl | rfl | rfl | rfl | rfl | rfl <;> rfl
theorem putX4_3 (cy : Nat → ClassId) (ad : Nat → Nat) {g : Nat} (h : isG g) {σ : Mem} {x : Int} : cellC cy ad g (st σ g 3 x g) = .inr (3, List.set [.ref (ad (g + 1)), .ref (ad (g + 2)), .ref (ad (g + 3)), .int (zI (σ g 3)), .int (zI (σ g 4)), .int (zI (σ g 5)), .int (zI (σ g 6))] 3 (.int (zI x))) := by rcases h with rfl | rfl <;> rfl
theorem putX4_4 (cy : Nat → ClassId) (ad : Nat → Nat) {g : Nat} (h : isG g) {σ : Mem} {x : Int} : cellC cy ad g (st σ g 4 x g) = .inr (3, List.set [.ref (ad (g + 1)), .ref (ad (g + 2)), .ref (ad (g + 3)), .int (zI (σ g 3)), .int (zI (σ g 4)), .int (zI (σ g 5)), .int (zI (σ g 6))] 4 (.int (zI x))) := by rcases h with rfl | rfl <;> rfl
theorem putX4_5 (cy : Nat → ClassId) (ad : Nat → Nat) {g : Nat} (h : isG g) {σ : Mem} {x : Int} : cellC cy ad g (st σ g 5 x g) = .inr (3, List.set [.ref (ad (g + 1)), .ref (ad (g + 2)), .ref (ad (g + 3)), .int (zI (σ g 3)), .int (zI (σ g 4)), .int (zI (σ g 5)), .int (zI (σ g 6))] 5 (.int (zI x))) := by rcases h with rfl | rfl <;> rfl
theorem putX4_6 (cy : Nat → ClassId) (ad : Nat → Nat) {g : Nat} (h : isG g) {σ : Mem} {x : Int} : cellC cy ad g (st σ g 6 x g) = .inr (3, List.set [.ref (ad (g + 1)), .ref (ad (g + 2)), .ref (ad (g + 3)), .int (zI (σ g 3)), .int (zI (σ g 4)), .int (zI (σ g 5)), .int (zI (σ g 6))] 6 (.int (zI x))) := by rcases h with rfl | rfl <;> rfl
theorem tab_out4 {a : Int} (h0 : ¬ zI a = zI 0) (h1 : ¬ zI a = zI 1) (h2 : ¬ zI a = zI 2) (h3 : ¬ zI a = zI 3) : (zI a).toInt < 0 ∨ 3 < (zI a).toInt := by
  have key : ∀ k : Int, ¬ zI a = zI k → (zI k).toInt = k → ¬ (zI a).toInt = k := fun k h e q => h (Int32.toInt_inj.mp (q.trans e.symm))
  have k0 := key 0 h0 (by decide)
  have k1 := key 1 h1 (by decide)
  have k2 := key 2 h2 (by decide)
  have k3 := key 3 h3 (by decide)
  omega
theorem tab_out5 {a : Int} (h0 : ¬ zI a = zI 0) (h1 : ¬ zI a = zI 1) (h2 : ¬ zI a = zI 2) (h3 : ¬ zI a = zI 3) (h4 : ¬ zI a = zI 4) : (zI a).toInt < 0 ∨ 4 < (zI a).toInt := by
  have key : ∀ k : Int, ¬ zI a = zI k → (zI k).toInt = k → ¬ (zI a).toInt = k := fun k h e q => h (Int32.toInt_inj.mp (q.trans e.symm))
  have k0 := key 0 h0 (by decide)
  have k1 := key 1 h1 (by decide)
  have k2 := key 2 h2 (by decide)
  have k3 := key 3 h3 (by decide)
  have k4 := key 4 h4 (by decide)
  omega
def rm_J7_fill : Room := { frames := 0, cells := 0, slots := 0, locals := 0 }
def fill_to (σ : Mem) (k i : Nat) (v : Int) : Mem := fil σ k i v
theorem fil_step (σ : Mem) (k i : Nat) (v : Int) : st (fil σ k i v) k i v = fil σ k (i + 1) v := by
  funext k2 i2
  unfold st fil
  by_cases h1 : k2 = k
  · by_cases h2 : i2 = i
    · rw [if_pos ⟨h1, h2⟩, if_pos ⟨h1, by omega⟩]
    · by_cases h3 : i2 < i
      · rw [if_neg (fun q => h2 q.2), if_pos ⟨h1, h3⟩, if_pos ⟨h1, by omega⟩]
      · rw [if_neg (fun q => h2 q.2), if_neg (fun q => h3 q.2), if_neg (fun q => by have := q.2; omega)]
  · rw [if_neg (fun q => h1 q.1), if_neg (fun q => h1 q.1), if_neg (fun q => h1 q.1)]
theorem fil_0 (σ : Mem) (k : Nat) (v : Int) : fil σ k 0 v = σ := by
  funext k2 i2
  unfold fil
  rw [if_neg (fun q => absurd q.2 (Nat.not_lt_zero _))]
set_option maxHeartbeats 4000000 in
set_option maxRecDepth 100000 in
theorem w_J7_fill {p : Program} {l : Launch} {e : Env} {s : State} {m : MethodId} {args : Array Value} {below : List Frame} {meth : Method} {c : Code} {Q : State → Prop} {D : va_G} {cy : Nat → ClassId} {N : Nat} {cell : Nat → (Nat → Int) → va_E} {ad : Nat → Nat} {H0 : Heap} (hO : adOK N ad) (S : CallFix p m c cJ7_fill_53178 4 s args wsJ7_fill_53178 RJ7) (hK : KK D cy s) (k len : Nat) (hk : k < N) (hc : ∀ r, cell k r = cI cy len r) (hn : len < 2147483648) (v : Int) (σ : Mem)
    (k0 : ∀ (H2 : Heap) (locs2 : List Loc) (ls2 : Array Slot), va_P D vwCl (WW N cell ad (fil σ k len v)) H2 → va_S (AC N ad) H0 H2 locs2 → lv_has ls2 4 [(0, .ref (ad k))] → W p l e rm_J7_fill s m args below meth c H2 locs2 0 0 Q (F0 m 20 ls2 [])) :
    ∀ (f i : Nat) (H : Heap) (locs : List Loc) (ls : Array Slot), i ≤ len → len < i + f → va_P D vwCl (WW N cell ad (fil σ k i v)) H → va_S (AC N ad) H0 H locs → lv_has ls 4 [(0, .ref (ad k)), (1, .int (zI v)), (2, .int (zI (i : Int))), (3, .int (zI (len : Int)))] → W p l e rm_J7_fill s m args below meth c H locs 0 0 Q (F0 m 5 ls []) := by
  intro f
  induction f with
  | zero => intro i H locs ls h1 h2; exact absurd h2 (by omega)
  | succ f ih =>
    intro i H locs ls h1 h2 hP hS hl
    refine lv_iload_n S.1 S.2.1 dJ7_fill_53178_5 rfl (lv_at hl 2 rfl) ?_
    refine lv_iload_n S.1 S.2.1 dJ7_fill_53178_6 rfl (lv_at hl 3 rfl) ?_
    refine lv_icmp_ge (tgt := 20) S.1 S.2.1 dJ7_fill_53178_7 (by decide) (fun c1 => ?_) (fun c1 => ?_)
    · have e : i = len := by
        rw [Int32.le_iff_toInt_le, zI_to (by omega) (by omega), zI_to (by omega) (by omega)] at c1
        omega
      subst e
      exact k0 _ _ _ hP hS (lv_sub hl [0] rfl)
    · have e : i < len := by
        rw [Int32.le_iff_toInt_le, zI_to (by omega) (by omega), zI_to (by omega) (by omega)] at c1
        omega
      refine lv_aload_n S.1 S.2.1 dJ7_fill_53178_10 rfl (lv_at hl 0 rfl) ?_
      refine lv_iload_n S.1 S.2.1 dJ7_fill_53178_11 rfl (lv_at hl 2 rfl) ?_
      refine lv_iload_n S.1 S.2.1 dJ7_fill_53178_12 rfl (lv_at hl 1 rfl) ?_
      refine r_iast S hK hP hO hS hk (n := len) hc hn (a := (i : Int)) ⟨by omega, by omega⟩ (τ := fil σ k (i + 1) v) (fil_step σ k i v) dJ7_fill_53178_13 (fun H locs hP hS => ?_)
      refine r_iinc S (x := ((i + 1 : Nat) : Int)) (by omega) (k0 := 2) (lv2 := [(2, .int (zI ((i + 1 : Nat) : Int))), (0, .ref (ad k)), (1, .int (zI v)), (3, .int (zI (len : Int)))]) dJ7_fill_53178_14 hl rfl (by decide) rfl (fun ls hl => ?_)
      refine lv_goto (tgt := 5) S.1 S.2.1 dJ7_fill_53178_17 (by decide) ?_
      exact ih (i + 1) _ _ _ (by omega) (by omega) hP hS (lv_sub hl [1, 2, 0, 3] rfl)
set_option maxHeartbeats 4000000 in
set_option maxRecDepth 100000 in
/-- Arrays.fill over one of the world's rows -/
theorem c_J7_fill (l : Launch) (D : va_G) (cy : Nat → ClassId) (N : Nat) {cell : Nat → (Nat → Int) → va_E} (ad : Nat → Nat) (hO : adOK N ad) {k : Nat} (len : Nat) (hk : k < N) (hc : ∀ r, cell k r = cI cy len r) (hn : len < 2147483648) (v : Int) (σ : Mem) {τ : Mem} (hf : fil σ k len v = τ) : Met l yJ7_fill_53178 wsJ7_fill_53178 rm_J7_fill (va_Pc [.ref (ad k), .int (zI v)] (PreW D cy N cell ad σ)) (QV D N cell ad τ) 0 0 (AC N ad) := by
  subst hf
  refine r_met (cc := cJ7_fill_53178) (maxL := 4) (ret := none) (own := RJ7) (by decide) rfl rfl [.ref (ad k), .int (zI v)] (Nat.le_of_ble_eq_true rfl) ?_
  intro p e s m below meth c ls S hK hP hlk hr hl
  have hS : va_S (AC N ad) s.heap s.heap [] := va_S.rf
  have hl : lv_has ls 4 [(0, .ref (ad k)), (1, .int (zI v))] := hl
  refine r_iconst S dJ7_fill_53178_0 ?_
  refine r_istore_n S (x := ((0 : Nat) : Int)) rfl (lv2 := [(2, .int (zI ((0 : Nat) : Int))), (0, .ref (ad k)), (1, .int (zI v))]) dJ7_fill_53178_1 rfl hl (by decide) rfl (fun ls hl => ?_)
  refine lv_aload_n S.1 S.2.1 dJ7_fill_53178_2 rfl (lv_at hl 1 rfl) ?_
  refine r_alen S hK hP hk (n := len) hc dJ7_fill_53178_3 ?_
  refine r_istore_n S rfl (lv2 := [(3, .int (zI (len : Int))), (2, .int (zI ((0 : Nat) : Int))), (0, .ref (ad k)), (1, .int (zI v))]) dJ7_fill_53178_4 rfl hl (by decide) rfl (fun ls hl => ?_)
  refine w_J7_fill hO S hK k len hk hc hn v σ (fun H locs ls hP hS hl => ?_) (len + 1) 0 _ _ _ (Nat.zero_le _) (by omega) (by rw [fil_0]; exact hP) hS (lv_sub hl [2, 3, 1, 0] rfl)
  exact e_V S hlk hP hS hr dJ7_fill_53178_20
