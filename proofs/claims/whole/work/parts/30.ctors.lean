/-! constructors: explicit worlds -/
def nestP : Cond := .methodLinkNest RX11 11 yX5_init "MendTexts"
def nestG : Cond := .methodLinkNest RX11 18 yX4_init "MendTexts"
def nestC : Cond := .methodLinkNest RX11 28 yX1_init "MendTexts"
def KX (D : va_G) (cy : Nat → ClassId) (s : State) : Prop := KK D cy s ∧ va_AO "MendTexts$Word" s ∧ va_Nw nestP s ∧ va_Nw nestG s ∧ va_Nw nestC s
theorem KX.moved {D : va_G} {cy : Nat → ClassId} {s U : State} (h : KX D cy s) (hW : s.WarmedH U.vm) : KX D cy U := ⟨⟨va_K.moved hW.alike h.1.1, va_Nw.warmM hW h.1.2⟩, va_AO.moved hW.alike h.2.1, va_Nw.warmM hW h.2.2.1, va_Nw.warmM hW h.2.2.2.1, va_Nw.warmM hW h.2.2.2.2⟩
theorem KX.calling {D : va_G} {cy : Nat → ClassId} {a : Array Value} {U : State} {g : JFrame} {mk : MethodId} (h : KX D cy U) : KX D cy (U.calling g mk a) := ⟨⟨va_K.moved (u := U) (U := U.calling g mk a) (Vm.Alike.refl U.vm) h.1.1, va_Nw.same (U := U.calling g mk a) rfl rfl h.1.2⟩, va_AO.moved (u := U) (U := U.calling g mk a) (Vm.Alike.refl U.vm) h.2.1, va_Nw.same (U := U.calling g mk a) rfl rfl h.2.2.1, va_Nw.same (U := U.calling g mk a) rfl rfl h.2.2.2.1, va_Nw.same (U := U.calling g mk a) rfl rfl h.2.2.2.2⟩
def PreX (D : va_G) (cy : Nat → ClassId) (sz : Nat) (ws : va_W) : State → Prop := fun U => U.heap.size = sz ∧ va_P D vwCl ws U.heap ∧ KX D cy U ∧ va_D (fun _ => True) ws
theorem blindX {D : va_G} {cy : Nat → ClassId} (av : List Value) (sz : Nat) (ws : va_W) : FrameBlind (va_Pc av (PreX D cy sz ws)) := fun a U g mk q => by
  obtain ⟨q0, q1, qP, qK, qD⟩ := q
  exact ⟨q0, q1, qP, qK.calling, qD⟩
theorem zL_0 : zL 0 = 0 := by decide
def upZ (r : Nat → Int) (i : Nat) (v : Int) : Nat → Int := fun j => if j = i then v else r j
section CTOR
variable {p : Program} {l : Launch} {e : Env} {R : Room} {s : State} {m : MethodId} {args : Array Value} {below : List Frame} {meth : Method} {c : Code} {H : Heap} {locs : List Loc} {cells slots : Nat} {Q : State → Prop}
variable {cc : ByteArray} {nL : Nat} {Ts : List Cond} {own : String} {pc : Nat} {ls : Array Slot} {rest : List Value} {D : va_G} {cy : Nat → ClassId} {ws : va_W} {A : Nat → Prop} {H0 : Heap}

theorem x_newaI (S : CallFix p m c cc nL s args Ts own) (hK : KK D cy s) (hP : va_P D vwCl ws H) (hD : va_D A ws) (hS : va_S A H0 H locs) (hA : ∀ q, H0.size ≤ q → A q) (harr : Cond.arrayClass .int ∈ Ts) {n : Int} {N2 : Nat} (hn : ¬ zI n < 0) (hN : (zI n).toNatClampNeg = N2) (hb : N2 * 4 ≤ 536870912) (hcells : cells + 1 ≤ R.cells) (hslots : slots + N2 ≤ R.slots) (hdg : decode cc pc = .ok (.newarray .int, 2))
    (kk : ∀ (q : Nat) (H1 : Heap), va_P D vwCl (ws ++ [(q, cI cy N2 (fun _ => 0))]) H1 → va_D A (ws ++ [(q, cI cy N2 (fun _ => 0))]) → va_S A H0 H1 locs → W p l e R s m args below meth c H1 locs (cells + 1) (slots + N2) Q (F0 m (pc + 2) ls (.ref q :: rest))) : W p l e R s m args below meth c H locs cells slots Q (F0 m pc ls (.int (zI n) :: rest)) := by
  refine va_newa S.1 S.2.1 (atype := .int) (S.2.2.2.2 _ harr) (ty := .int) rfl hK.1 hP hD hS hA (a0 := (N2, .inl (fun _ => 0))) (fun cA => rfl) hn hN hb hcells hslots hdg (fun q cA H1 hK2 g1 g2 g3 => ?_)
  have h1 := (hK.1.2 0 (cy 0, .int) rfl).2
  have h2 := (hK2.2 4 (cA, .int) (by simp [tyC])).2
  have e1 : cA = cy 0 := Option.some.inj (h2.symm.trans h1)
  have e2 : (.inl (cA, N2, .inl (fun _ => 0)) : va_E) = cI cy N2 (fun _ => 0) := by rw [e1]; unfold cI; simp only [zI_0, zL_0]
  rw [e2] at g1 g2
  exact kk q H1 g1 g2 g3
theorem x_newaJ (S : CallFix p m c cc nL s args Ts own) (hK : KK D cy s) (hP : va_P D vwCl ws H) (hD : va_D A ws) (hS : va_S A H0 H locs) (hA : ∀ q, H0.size ≤ q → A q) (harr : Cond.arrayClass .long ∈ Ts) {n : Int} {N2 : Nat} (hn : ¬ zI n < 0) (hN : (zI n).toNatClampNeg = N2) (hb : N2 * 8 ≤ 536870912) (hcells : cells + 1 ≤ R.cells) (hslots : slots + N2 ≤ R.slots) (hdg : decode cc pc = .ok (.newarray .long, 2))
    (kk : ∀ (q : Nat) (H1 : Heap), va_P D vwCl (ws ++ [(q, cJ cy N2 (fun _ => 0))]) H1 → va_D A (ws ++ [(q, cJ cy N2 (fun _ => 0))]) → va_S A H0 H1 locs → W p l e R s m args below meth c H1 locs (cells + 1) (slots + N2) Q (F0 m (pc + 2) ls (.ref q :: rest))) : W p l e R s m args below meth c H locs cells slots Q (F0 m pc ls (.int (zI n) :: rest)) := by
  refine va_newa S.1 S.2.1 (atype := .long) (S.2.2.2.2 _ harr) (ty := .long) rfl hK.1 hP hD hS hA (a0 := (N2, .inr (.inl (fun _ => 0)))) (fun cA => rfl) hn hN hb hcells hslots hdg (fun q cA H1 hK2 g1 g2 g3 => ?_)
  have h1 := (hK.1.2 1 (cy 1, .long) rfl).2
  have h2 := (hK2.2 4 (cA, .long) (by simp [tyC])).2
  have e1 : cA = cy 1 := Option.some.inj (h2.symm.trans h1)
  have e2 : (.inl (cA, N2, .inr (.inl (fun _ => 0))) : va_E) = cJ cy N2 (fun _ => 0) := by rw [e1]; unfold cJ; simp only [zI_0, zL_0]
  rw [e2] at g1 g2
  exact kk q H1 g1 g2 g3
theorem x_newaZ (S : CallFix p m c cc nL s args Ts own) (hK : KK D cy s) (hP : va_P D vwCl ws H) (hD : va_D A ws) (hS : va_S A H0 H locs) (hA : ∀ q, H0.size ≤ q → A q) (harr : Cond.arrayClass .boolean ∈ Ts) {n : Int} {N2 : Nat} (hn : ¬ zI n < 0) (hN : (zI n).toNatClampNeg = N2) (hb : N2 * 1 ≤ 536870912) (hcells : cells + 1 ≤ R.cells) (hslots : slots + N2 ≤ R.slots) (hdg : decode cc pc = .ok (.newarray .boolean, 2))
    (kk : ∀ (q : Nat) (H1 : Heap), va_P D vwCl (ws ++ [(q, cZ cy N2 (fun _ => 0))]) H1 → va_D A (ws ++ [(q, cZ cy N2 (fun _ => 0))]) → va_S A H0 H1 locs → W p l e R s m args below meth c H1 locs (cells + 1) (slots + N2) Q (F0 m (pc + 2) ls (.ref q :: rest))) : W p l e R s m args below meth c H locs cells slots Q (F0 m pc ls (.int (zI n) :: rest)) := by
  refine va_newa S.1 S.2.1 (atype := .boolean) (S.2.2.2.2 _ harr) (ty := .boolean) rfl hK.1 hP hD hS hA (a0 := (N2, .inl (fun _ => 0))) (fun cA => rfl) hn hN hb hcells hslots hdg (fun q cA H1 hK2 g1 g2 g3 => ?_)
  have h1 := (hK.1.2 2 (cy 2, .boolean) rfl).2
  have h2 := (hK2.2 4 (cA, .boolean) (by simp [tyC])).2
  have e1 : cA = cy 2 := Option.some.inj (h2.symm.trans h1)
  have e2 : (.inl (cA, N2, .inl (fun _ => 0)) : va_E) = cZ cy N2 (fun _ => 0) := by rw [e1]; unfold cZ; simp only [zI_0, zL_0]
  rw [e2] at g1 g2
  exact kk q H1 g1 g2 g3
theorem x_newq (S : CallFix p m c cc nL s args Ts own) (hK : KK D cy s) (hAO : va_AO "MendTexts$Word" s) (hP : va_P D vwCl ws H) (hD : va_D A ws) (hS : va_S A H0 H locs) (hA : ∀ q, H0.size ≤ q → A q) {i : Nat} (hcl : Cond.classLink own i RX10 ∈ Ts) {n : Int} {N2 : Nat} (hn : ¬ zI n < 0) (hN : (zI n).toNatClampNeg = N2) (hb : N2 * 4 ≤ 536870912) (hcells : cells + 1 ≤ R.cells) (hslots : slots + N2 ≤ R.slots) (hdg : decode cc pc = .ok (.anewarray i, 3))
    (kk : ∀ (q : Nat) (H1 : Heap), va_P D vwCl (ws ++ [(q, .inl (cy 3, N2, .inr (.inr (.inr (.inr (fun _ => none))))))]) H1 → va_D A (ws ++ [(q, .inl (cy 3, N2, .inr (.inr (.inr (.inr (fun _ => none))))))]) → va_S A H0 H1 locs → W p l e R s m args below meth c H1 locs (cells + 1) (slots + N2) Q (F0 m (pc + 3) ls (.ref q :: rest))) : W p l e R s m args below meth c H locs cells slots Q (F0 m pc ls (.int (zI n) :: rest)) := by
  refine va_newq S.1 S.2.1 (C := "MendTexts$Word") S.2.2.2.1 (S.2.2.2.2 _ hcl) hAO hK.1 hP hD hS hA hn hN hb hcells hslots hdg (fun q cA H1 hK2 g1 g2 g3 => ?_)
  obtain ⟨_, _, _, _, _, h1⟩ := (hK.1.2 3 (cy 3, .object "MendTexts$Word") rfl).2
  obtain ⟨_, _, _, _, _, h2⟩ := (hK2.2 4 (cA, .object "MendTexts$Word") (by simp [tyC])).2
  have e1 : cA = cy 3 := Option.some.inj (h2.symm.trans h1)
  rw [e1] at g1 g2
  exact kk q H1 g1 g2 g3
theorem x_iast (S : CallFix p m c cc nL s args Ts own) (hK : KK D cy s) (hP : va_P D vwCl ws H) (hD : va_D A ws) (hS : va_S A H0 H locs) (q0 : Nat) {h n : Nat} {r : Nat → Int} (ha : ws[q0]? = some (h, cI cy n r)) {a x : Int} (hi : 0 ≤ a ∧ a < (n : Int)) (hn : n < 2147483648) (hdg : decode cc pc = .ok (.iastore, 1))
    (kk : ∀ (H1 : Heap) (locs1 : List Loc), va_P D vwCl (ws.set q0 (h, cI cy n (upZ r a.toNat x))) H1 → va_D A (ws.set q0 (h, cI cy n (upZ r a.toNat x))) → va_S A H0 H1 locs1 → W p l e R s m args below meth c H1 locs1 cells slots Q (F0 m (pc + 1) ls rest)) : W p l e R s m args below meth c H locs cells slots Q (F0 m pc ls (.int (zI x) :: .int (zI a) :: .ref h :: rest)) := by
  obtain ⟨h1, h2⟩ := zI_in hi hn
  refine va_iast S.1 S.2.1 hK.1 hP hD hS q0 0 ha rfl h1 hdg (fun H1 locs1 g1 g2 g3 => ?_)
  have e1 : upd (fun j => zI (r j)) (zI a).toNatClampNeg (zI x) = fun j => zI (upZ r a.toNat x j) := by
    funext j
    rw [h2]
    unfold upd upZ
    split <;> rfl
  rw [e1] at g1 g2
  exact kk H1 locs1 g1 g2 g3
end CTOR
def rm_X5_init : Room := { frames := 1, cells := 1, slots := 60, locals := 12 }
set_option maxHeartbeats 4000000 in
set_option maxRecDepth 100000 in
theorem c_X5_init (l : Launch) (D : va_G) (cy : Nat → ClassId) (h0 sz : Nat) : Met l yX5_init wsX5_init rm_X5_init (va_Pc [.ref h0] (PreX D cy sz [(h0, .inr (4, [.null, .int (zI 0)]))])) (va_Qv (fun (_ : Nat → Nat) => True) (fun u t => va_P D vwCl [(h0, .inr (4, [.ref (u 0), .int (zI 0)])), ((u 0), cI cy 60 (fun _ => 0))] t.heap ∧ va_D (va_A [(h0, .inr (4, [.null, .int (zI 0)]))] sz) [(h0, .inr (4, [.ref (u 0), .int (zI 0)])), ((u 0), cI cy 60 (fun _ => 0))]) (va_A [(h0, .inr (4, [.null, .int (zI 0)]))] sz)) 1 60 (va_A [(h0, .inr (4, [.null, .int (zI 0)]))] sz) := by
  refine Met.ofW (cc := cX5_init) (maxL := 1) (ret := none) (by decide) rfl ?_
  intro p e s m args below meth c s₁ B hml hv
  obtain ⟨rfl, hsz, hP, hK, hD0⟩ := hv
  have hts := atoms_spec (ws := wsX5_init) B.pre
  have hown : s.vm.findClass RX5 = some m.cls := findClass_of_methodNamed B.named
  have S : CallFix p m c cX5_init 1 s _ wsX5_init RX5 := ⟨B.exec, B.bytes, hml, hown, hts⟩
  have hr := B.returns
  have hlk := B.notSynchronized
  have hin : meth.name = "<init>" := (name_of_methodNamed B.named B.method).1
  subst hsz
  have hD := hD0.self (sz := s.heap.size)
  generalize hAe : va_A [(h0, .inr (4, [.null, .int (zI 0)]))] s.heap.size = A at hD ⊢
  have hA : ∀ q : Nat, s.heap.size ≤ q → A q := fun q h => by rw [← hAe]; exact Or.inr h
  have hS : va_S A s.heap s.heap [] := va_S.rf
  have hP : va_P D vwCl [(h0, .inr (4, [.null, .int (zI 0)]))] s.heap := hP
  have hl := lv_entry ([.ref h0]) (n := 1) (Nat.le_of_ble_eq_true rfl)
  rw [lg_entry_eq]
  generalize (lg_sl ([.ref h0]) ++ List.replicate (1 - (lg_sl ([.ref h0])).length) Slot.unset).toArray = ls at hl ⊢
  have hl : lv_has ls 1 [(0, .ref h0)] := hl
  refine lv_aload_n S.1 S.2.1 dX5_init_0 rfl (lv_at hl 0 rfl) ?_
  refine W.objInit S.1 S.2.1 S.2.2.2.1 (S.2.2.2.2 (.methodLink RX5 3 objectInit) (List.mem_of_getElem? (i := 1) (by decide +kernel))) (S.2.2.2.2 (.instanceMethod objectInit) (List.mem_of_getElem? (i := 2) (by decide +kernel))) (S.2.2.2.2 _ (List.mem_of_getElem? (i := 3) rfl)) rfl (by rw [S.2.2.1]; exact hl.1) rfl dX5_init_1 (Nat.le_of_ble_eq_true rfl) (Nat.le_of_ble_eq_true rfl) ?_
  refine W.eq (g2 := F0 m 4 ls []) rfl ?_
  refine lv_aload_n S.1 S.2.1 dX5_init_4 rfl (lv_at hl 0 rfl) ?_
  refine r_bipush S dX5_init_5 (by decide) ?_
  refine x_newaI S hK.1 hP hD hS hA (List.mem_of_getElem? (i := 4) (by decide +kernel)) (n := 60) (N2 := 60) (by decide) (by decide) (Nat.le_of_ble_eq_true rfl) (Nat.le_of_ble_eq_true rfl) (Nat.le_of_ble_eq_true rfl) dX5_init_7 (fun q1 H hP hD hS => ?_)
  have hP : va_P D vwCl [(h0, .inr (4, [.null, .int (zI 0)])), (q1, cI cy 60 (fun _ => 0))] H := hP
  have hD : va_D A [(h0, .inr (4, [.null, .int (zI 0)])), (q1, cI cy 60 (fun _ => 0))] := hD
  refine va_putF (D := D) S.1 S.2.1 (ci := 4) (v := .ref q1) S.2.2.2.2 (mem_places _ [7, 8] (by decide +kernel)) tyX5 tyX5_ok nmX5 S.2.2.2.1 hK.1.1 hP hD hS 0 rfl rfl 0 (by decide) (S.2.2.2.2 (.fieldLink RX5 11 "MendTexts$Pad" "signs" "[I") (List.mem_of_getElem? (i := 5) (by decide +kernel))) (fun _ h9 => h9) rfl hin rfl (tyX5_ok 0 (by decide)) rfl rfl (Nat.le_of_ble_eq_true rfl) dX5_init_9 (fun H locs hP hD hS => ?_)
  have hP : va_P D vwCl [(h0, .inr (4, [.ref q1, .int (zI 0)])), (q1, cI cy 60 (fun _ => 0))] H := hP
  have hD : va_D A [(h0, .inr (4, [.ref q1, .int (zI 0)])), (q1, cI cy 60 (fun _ => 0))] := hD
  refine lv_aload_n S.1 S.2.1 dX5_init_12 rfl (lv_at hl 0 rfl) ?_
  refine r_iconst S dX5_init_13 ?_
  refine va_put (D := D) S.1 S.2.1 (ci := 4) (v := .int (zI 0)) S.2.2.2.2 (mem_places _ [7, 8] (by decide +kernel)) tyX5 tyX5_ok nmX5 S.2.2.2.1 hK.1.1 hP hD hS 0 rfl rfl 1 (by decide) (S.2.2.2.2 (.fieldLink RX5 15 "MendTexts$Pad" "count" "I") (List.mem_of_getElem? (i := 6) (by decide +kernel))) (fun _ h9 => h9) rfl (tyX5_ok 1 (by decide)) rfl rfl (Nat.le_of_ble_eq_true rfl) dX5_init_14 (fun H locs hP hD hS => ?_)
  have hP : va_P D vwCl [(h0, .inr (4, [.ref q1, .int (zI 0)])), (q1, cI cy 60 (fun _ => 0))] H := hP
  have hD : va_D A [(h0, .inr (4, [.ref q1, .int (zI 0)])), (q1, cI cy 60 (fun _ => 0))] := hD
  have hP9 := hP.sub (ws' := [(h0, .inr (4, [.ref q1, .int (zI 0)])), (q1, cI cy 60 (fun _ => 0))]) [0, 1] rfl
  have hD9 := hD.sub (ws' := [(h0, .inr (4, [.ref q1, .int (zI 0)])), (q1, cI cy 60 (fun _ => 0))]) [0, 1] (by decide) rfl
  exact W.vret S.1 S.2.1 hr (fun t ht hW => ⟨⟨(fun i => ([q1] : List Nat).getD i 0), rfl, trivial, by rw [ht]; exact hP9, hD9⟩, hS.F ht⟩) hS.2.2 dX5_init_17 hlk
def rm_X4_init : Room := { frames := 1, cells := 3, slots := 131, locals := 12 }
set_option maxHeartbeats 4000000 in
set_option maxRecDepth 100000 in
theorem c_X4_init (l : Launch) (D : va_G) (cy : Nat → ClassId) (h0 sz : Nat) : Met l yX4_init wsX4_init rm_X4_init (va_Pc [.ref h0] (PreX D cy sz [(h0, .inr (3, [.null, .null, .null, .int (zI 0), .int (zI 0), .int (zI 0), .int (zI 0)]))])) (va_Qv (fun (_ : Nat → Nat) => True) (fun u t => va_P D vwCl [(h0, .inr (3, [.ref (u 0), .ref (u 1), .ref (u 2), .int (zI 0), .int (zI 0), .int (zI 0), .int (zI (-1))])), ((u 0), cI cy 6 (fun _ => 0)), ((u 1), cI cy 25 (fun _ => 0)), ((u 2), cI cy 100 (fun _ => 0))] t.heap ∧ va_D (va_A [(h0, .inr (3, [.null, .null, .null, .int (zI 0), .int (zI 0), .int (zI 0), .int (zI 0)]))] sz) [(h0, .inr (3, [.ref (u 0), .ref (u 1), .ref (u 2), .int (zI 0), .int (zI 0), .int (zI 0), .int (zI (-1))])), ((u 0), cI cy 6 (fun _ => 0)), ((u 1), cI cy 25 (fun _ => 0)), ((u 2), cI cy 100 (fun _ => 0))]) (va_A [(h0, .inr (3, [.null, .null, .null, .int (zI 0), .int (zI 0), .int (zI 0), .int (zI 0)]))] sz)) 3 131 (va_A [(h0, .inr (3, [.null, .null, .null, .int (zI 0), .int (zI 0), .int (zI 0), .int (zI 0)]))] sz) := by
  refine Met.ofW (cc := cX4_init) (maxL := 1) (ret := none) (by decide) rfl ?_
  intro p e s m args below meth c s₁ B hml hv
  obtain ⟨rfl, hsz, hP, hK, hD0⟩ := hv
  have hts := atoms_spec (ws := wsX4_init) B.pre
  have hown : s.vm.findClass RX4 = some m.cls := findClass_of_methodNamed B.named
  have S : CallFix p m c cX4_init 1 s _ wsX4_init RX4 := ⟨B.exec, B.bytes, hml, hown, hts⟩
  have hr := B.returns
  have hlk := B.notSynchronized
  have hin : meth.name = "<init>" := (name_of_methodNamed B.named B.method).1
  subst hsz
  have hD := hD0.self (sz := s.heap.size)
  generalize hAe : va_A [(h0, .inr (3, [.null, .null, .null, .int (zI 0), .int (zI 0), .int (zI 0), .int (zI 0)]))] s.heap.size = A at hD ⊢
  have hA : ∀ q : Nat, s.heap.size ≤ q → A q := fun q h => by rw [← hAe]; exact Or.inr h
  have hS : va_S A s.heap s.heap [] := va_S.rf
  have hP : va_P D vwCl [(h0, .inr (3, [.null, .null, .null, .int (zI 0), .int (zI 0), .int (zI 0), .int (zI 0)]))] s.heap := hP
  have hl := lv_entry ([.ref h0]) (n := 1) (Nat.le_of_ble_eq_true rfl)
  rw [lg_entry_eq]
  generalize (lg_sl ([.ref h0]) ++ List.replicate (1 - (lg_sl ([.ref h0])).length) Slot.unset).toArray = ls at hl ⊢
  have hl : lv_has ls 1 [(0, .ref h0)] := hl
  refine lv_aload_n S.1 S.2.1 dX4_init_0 rfl (lv_at hl 0 rfl) ?_
  refine W.objInit S.1 S.2.1 S.2.2.2.1 (S.2.2.2.2 (.methodLink RX4 5 objectInit) (List.mem_of_getElem? (i := 1) (by decide +kernel))) (S.2.2.2.2 (.instanceMethod objectInit) (List.mem_of_getElem? (i := 2) (by decide +kernel))) (S.2.2.2.2 _ (List.mem_of_getElem? (i := 3) rfl)) rfl (by rw [S.2.2.1]; exact hl.1) rfl dX4_init_1 (Nat.le_of_ble_eq_true rfl) (Nat.le_of_ble_eq_true rfl) ?_
  refine W.eq (g2 := F0 m 4 ls []) rfl ?_
  refine lv_aload_n S.1 S.2.1 dX4_init_4 rfl (lv_at hl 0 rfl) ?_
  refine r_bipush S dX4_init_5 (by decide) ?_
  refine x_newaI S hK.1 hP hD hS hA (List.mem_of_getElem? (i := 4) (by decide +kernel)) (n := 6) (N2 := 6) (by decide) (by decide) (Nat.le_of_ble_eq_true rfl) (Nat.le_of_ble_eq_true rfl) (Nat.le_of_ble_eq_true rfl) dX4_init_7 (fun q1 H hP hD hS => ?_)
  have hP : va_P D vwCl [(h0, .inr (3, [.null, .null, .null, .int (zI 0), .int (zI 0), .int (zI 0), .int (zI 0)])), (q1, cI cy 6 (fun _ => 0))] H := hP
  have hD : va_D A [(h0, .inr (3, [.null, .null, .null, .int (zI 0), .int (zI 0), .int (zI 0), .int (zI 0)])), (q1, cI cy 6 (fun _ => 0))] := hD
  refine va_putF (D := D) S.1 S.2.1 (ci := 3) (v := .ref q1) S.2.2.2.2 (mem_places _ [12, 13, 14, 15, 16, 17, 18] (by decide +kernel)) tyX4 tyX4_ok nmX4 S.2.2.2.1 hK.1.1 hP hD hS 0 rfl rfl 0 (by decide) (S.2.2.2.2 (.fieldLink RX4 11 "MendTexts$Grammar" "counts" "[I") (List.mem_of_getElem? (i := 5) (by decide +kernel))) (fun _ h9 => h9) rfl hin rfl (tyX4_ok 0 (by decide)) rfl rfl (Nat.le_of_ble_eq_true rfl) dX4_init_9 (fun H locs hP hD hS => ?_)
  have hP : va_P D vwCl [(h0, .inr (3, [.ref q1, .null, .null, .int (zI 0), .int (zI 0), .int (zI 0), .int (zI 0)])), (q1, cI cy 6 (fun _ => 0))] H := hP
  have hD : va_D A [(h0, .inr (3, [.ref q1, .null, .null, .int (zI 0), .int (zI 0), .int (zI 0), .int (zI 0)])), (q1, cI cy 6 (fun _ => 0))] := hD
  refine lv_aload_n S.1 S.2.1 dX4_init_12 rfl (lv_at hl 0 rfl) ?_
  refine r_bipush S dX4_init_13 (by decide) ?_
  refine x_newaI S hK.1 hP hD hS hA (List.mem_of_getElem? (i := 4) (by decide +kernel)) (n := 25) (N2 := 25) (by decide) (by decide) (Nat.le_of_ble_eq_true rfl) (Nat.le_of_ble_eq_true rfl) (Nat.le_of_ble_eq_true rfl) dX4_init_15 (fun q2 H hP hD hS => ?_)
  have hP : va_P D vwCl [(h0, .inr (3, [.ref q1, .null, .null, .int (zI 0), .int (zI 0), .int (zI 0), .int (zI 0)])), (q1, cI cy 6 (fun _ => 0)), (q2, cI cy 25 (fun _ => 0))] H := hP
  have hD : va_D A [(h0, .inr (3, [.ref q1, .null, .null, .int (zI 0), .int (zI 0), .int (zI 0), .int (zI 0)])), (q1, cI cy 6 (fun _ => 0)), (q2, cI cy 25 (fun _ => 0))] := hD
  refine va_putF (D := D) S.1 S.2.1 (ci := 3) (v := .ref q2) S.2.2.2.2 (mem_places _ [12, 13, 14, 15, 16, 17, 18] (by decide +kernel)) tyX4 tyX4_ok nmX4 S.2.2.2.1 hK.1.1 hP hD hS 0 rfl rfl 1 (by decide) (S.2.2.2.2 (.fieldLink RX4 15 "MendTexts$Grammar" "lengths" "[I") (List.mem_of_getElem? (i := 6) (by decide +kernel))) (fun _ h9 => h9) rfl hin rfl (tyX4_ok 1 (by decide)) rfl rfl (Nat.le_of_ble_eq_true rfl) dX4_init_17 (fun H locs hP hD hS => ?_)
  have hP : va_P D vwCl [(h0, .inr (3, [.ref q1, .ref q2, .null, .int (zI 0), .int (zI 0), .int (zI 0), .int (zI 0)])), (q1, cI cy 6 (fun _ => 0)), (q2, cI cy 25 (fun _ => 0))] H := hP
  have hD : va_D A [(h0, .inr (3, [.ref q1, .ref q2, .null, .int (zI 0), .int (zI 0), .int (zI 0), .int (zI 0)])), (q1, cI cy 6 (fun _ => 0)), (q2, cI cy 25 (fun _ => 0))] := hD
  refine lv_aload_n S.1 S.2.1 dX4_init_20 rfl (lv_at hl 0 rfl) ?_
  refine r_bipush S dX4_init_21 (by decide) ?_
  refine x_newaI S hK.1 hP hD hS hA (List.mem_of_getElem? (i := 4) (by decide +kernel)) (n := 100) (N2 := 100) (by decide) (by decide) (Nat.le_of_ble_eq_true rfl) (Nat.le_of_ble_eq_true rfl) (Nat.le_of_ble_eq_true rfl) dX4_init_23 (fun q3 H hP hD hS => ?_)
  have hP : va_P D vwCl [(h0, .inr (3, [.ref q1, .ref q2, .null, .int (zI 0), .int (zI 0), .int (zI 0), .int (zI 0)])), (q1, cI cy 6 (fun _ => 0)), (q2, cI cy 25 (fun _ => 0)), (q3, cI cy 100 (fun _ => 0))] H := hP
  have hD : va_D A [(h0, .inr (3, [.ref q1, .ref q2, .null, .int (zI 0), .int (zI 0), .int (zI 0), .int (zI 0)])), (q1, cI cy 6 (fun _ => 0)), (q2, cI cy 25 (fun _ => 0)), (q3, cI cy 100 (fun _ => 0))] := hD
  refine va_putF (D := D) S.1 S.2.1 (ci := 3) (v := .ref q3) S.2.2.2.2 (mem_places _ [12, 13, 14, 15, 16, 17, 18] (by decide +kernel)) tyX4 tyX4_ok nmX4 S.2.2.2.1 hK.1.1 hP hD hS 0 rfl rfl 2 (by decide) (S.2.2.2.2 (.fieldLink RX4 18 "MendTexts$Grammar" "signs" "[I") (List.mem_of_getElem? (i := 7) (by decide +kernel))) (fun _ h9 => h9) rfl hin rfl (tyX4_ok 2 (by decide)) rfl rfl (Nat.le_of_ble_eq_true rfl) dX4_init_25 (fun H locs hP hD hS => ?_)
  have hP : va_P D vwCl [(h0, .inr (3, [.ref q1, .ref q2, .ref q3, .int (zI 0), .int (zI 0), .int (zI 0), .int (zI 0)])), (q1, cI cy 6 (fun _ => 0)), (q2, cI cy 25 (fun _ => 0)), (q3, cI cy 100 (fun _ => 0))] H := hP
  have hD : va_D A [(h0, .inr (3, [.ref q1, .ref q2, .ref q3, .int (zI 0), .int (zI 0), .int (zI 0), .int (zI 0)])), (q1, cI cy 6 (fun _ => 0)), (q2, cI cy 25 (fun _ => 0)), (q3, cI cy 100 (fun _ => 0))] := hD
  refine lv_aload_n S.1 S.2.1 dX4_init_28 rfl (lv_at hl 0 rfl) ?_
  refine r_iconst S dX4_init_29 ?_
  refine va_put (D := D) S.1 S.2.1 (ci := 3) (v := .int (zI 0)) S.2.2.2.2 (mem_places _ [12, 13, 14, 15, 16, 17, 18] (by decide +kernel)) tyX4 tyX4_ok nmX4 S.2.2.2.1 hK.1.1 hP hD hS 0 rfl rfl 3 (by decide) (S.2.2.2.2 (.fieldLink RX4 21 "MendTexts$Grammar" "namesTold" "I") (List.mem_of_getElem? (i := 8) (by decide +kernel))) (fun _ h9 => h9) rfl (tyX4_ok 3 (by decide)) rfl rfl (Nat.le_of_ble_eq_true rfl) dX4_init_30 (fun H locs hP hD hS => ?_)
  have hP : va_P D vwCl [(h0, .inr (3, [.ref q1, .ref q2, .ref q3, .int (zI 0), .int (zI 0), .int (zI 0), .int (zI 0)])), (q1, cI cy 6 (fun _ => 0)), (q2, cI cy 25 (fun _ => 0)), (q3, cI cy 100 (fun _ => 0))] H := hP
  have hD : va_D A [(h0, .inr (3, [.ref q1, .ref q2, .ref q3, .int (zI 0), .int (zI 0), .int (zI 0), .int (zI 0)])), (q1, cI cy 6 (fun _ => 0)), (q2, cI cy 25 (fun _ => 0)), (q3, cI cy 100 (fun _ => 0))] := hD
  refine lv_aload_n S.1 S.2.1 dX4_init_33 rfl (lv_at hl 0 rfl) ?_
  refine r_iconst S dX4_init_34 ?_
  refine va_put (D := D) S.1 S.2.1 (ci := 3) (v := .int (zI 0)) S.2.2.2.2 (mem_places _ [12, 13, 14, 15, 16, 17, 18] (by decide +kernel)) tyX4 tyX4_ok nmX4 S.2.2.2.1 hK.1.1 hP hD hS 0 rfl rfl 4 (by decide) (S.2.2.2.2 (.fieldLink RX4 25 "MendTexts$Grammar" "start" "I") (List.mem_of_getElem? (i := 9) (by decide +kernel))) (fun _ h9 => h9) rfl (tyX4_ok 4 (by decide)) rfl rfl (Nat.le_of_ble_eq_true rfl) dX4_init_35 (fun H locs hP hD hS => ?_)
  have hP : va_P D vwCl [(h0, .inr (3, [.ref q1, .ref q2, .ref q3, .int (zI 0), .int (zI 0), .int (zI 0), .int (zI 0)])), (q1, cI cy 6 (fun _ => 0)), (q2, cI cy 25 (fun _ => 0)), (q3, cI cy 100 (fun _ => 0))] H := hP
  have hD : va_D A [(h0, .inr (3, [.ref q1, .ref q2, .ref q3, .int (zI 0), .int (zI 0), .int (zI 0), .int (zI 0)])), (q1, cI cy 6 (fun _ => 0)), (q2, cI cy 25 (fun _ => 0)), (q3, cI cy 100 (fun _ => 0))] := hD
  refine lv_aload_n S.1 S.2.1 dX4_init_38 rfl (lv_at hl 0 rfl) ?_
  refine r_iconst S dX4_init_39 ?_
  refine va_put (D := D) S.1 S.2.1 (ci := 3) (v := .int (zI 0)) S.2.2.2.2 (mem_places _ [12, 13, 14, 15, 16, 17, 18] (by decide +kernel)) tyX4 tyX4_ok nmX4 S.2.2.2.1 hK.1.1 hP hD hS 0 rfl rfl 5 (by decide) (S.2.2.2.2 (.fieldLink RX4 28 "MendTexts$Grammar" "last" "I") (List.mem_of_getElem? (i := 10) (by decide +kernel))) (fun _ h9 => h9) rfl (tyX4_ok 5 (by decide)) rfl rfl (Nat.le_of_ble_eq_true rfl) dX4_init_40 (fun H locs hP hD hS => ?_)
  have hP : va_P D vwCl [(h0, .inr (3, [.ref q1, .ref q2, .ref q3, .int (zI 0), .int (zI 0), .int (zI 0), .int (zI 0)])), (q1, cI cy 6 (fun _ => 0)), (q2, cI cy 25 (fun _ => 0)), (q3, cI cy 100 (fun _ => 0))] H := hP
  have hD : va_D A [(h0, .inr (3, [.ref q1, .ref q2, .ref q3, .int (zI 0), .int (zI 0), .int (zI 0), .int (zI 0)])), (q1, cI cy 6 (fun _ => 0)), (q2, cI cy 25 (fun _ => 0)), (q3, cI cy 100 (fun _ => 0))] := hD
  refine lv_aload_n S.1 S.2.1 dX4_init_43 rfl (lv_at hl 0 rfl) ?_
  refine r_iconst S dX4_init_44 ?_
  refine va_put (D := D) S.1 S.2.1 (ci := 3) (v := .int (zI (-1))) S.2.2.2.2 (mem_places _ [12, 13, 14, 15, 16, 17, 18] (by decide +kernel)) tyX4 tyX4_ok nmX4 S.2.2.2.1 hK.1.1 hP hD hS 0 rfl rfl 6 (by decide) (S.2.2.2.2 (.fieldLink RX4 31 "MendTexts$Grammar" "trialName" "I") (List.mem_of_getElem? (i := 11) (by decide +kernel))) (fun _ h9 => h9) rfl (tyX4_ok 6 (by decide)) rfl rfl (Nat.le_of_ble_eq_true rfl) dX4_init_45 (fun H locs hP hD hS => ?_)
  have hP : va_P D vwCl [(h0, .inr (3, [.ref q1, .ref q2, .ref q3, .int (zI 0), .int (zI 0), .int (zI 0), .int (zI (-1))])), (q1, cI cy 6 (fun _ => 0)), (q2, cI cy 25 (fun _ => 0)), (q3, cI cy 100 (fun _ => 0))] H := hP
  have hD : va_D A [(h0, .inr (3, [.ref q1, .ref q2, .ref q3, .int (zI 0), .int (zI 0), .int (zI 0), .int (zI (-1))])), (q1, cI cy 6 (fun _ => 0)), (q2, cI cy 25 (fun _ => 0)), (q3, cI cy 100 (fun _ => 0))] := hD
  have hP9 := hP.sub (ws' := [(h0, .inr (3, [.ref q1, .ref q2, .ref q3, .int (zI 0), .int (zI 0), .int (zI 0), .int (zI (-1))])), (q1, cI cy 6 (fun _ => 0)), (q2, cI cy 25 (fun _ => 0)), (q3, cI cy 100 (fun _ => 0))]) [0, 1, 2, 3] rfl
  have hD9 := hD.sub (ws' := [(h0, .inr (3, [.ref q1, .ref q2, .ref q3, .int (zI 0), .int (zI 0), .int (zI 0), .int (zI (-1))])), (q1, cI cy 6 (fun _ => 0)), (q2, cI cy 25 (fun _ => 0)), (q3, cI cy 100 (fun _ => 0))]) [0, 1, 2, 3] (by decide) rfl
  exact W.vret S.1 S.2.1 hr (fun t ht hW => ⟨⟨(fun i => ([q1, q2, q3] : List Nat).getD i 0), rfl, trivial, by rw [ht]; exact hP9, hD9⟩, hS.F ht⟩) hS.2.2 dX4_init_48 hlk
def rm_X1_init : Room := { frames := 1, cells := 1, slots := 3, locals := 12 }
set_option maxHeartbeats 4000000 in
set_option maxRecDepth 100000 in
theorem c_X1_init (l : Launch) (D : va_G) (cy : Nat → ClassId) (h0 sz : Nat) : Met l yX1_init wsX1_init rm_X1_init (va_Pc [.ref h0] (PreX D cy sz [(h0, .inr (1, [.null]))])) (va_Qv (fun (_ : Nat → Nat) => True) (fun u t => va_P D vwCl [(h0, .inr (1, [.ref (u 0)])), ((u 0), cI cy 3 (upZ (upZ (upZ (fun _ => 0) 0 1) 1 1) 2 1))] t.heap ∧ va_D (va_A [(h0, .inr (1, [.null]))] sz) [(h0, .inr (1, [.ref (u 0)])), ((u 0), cI cy 3 (upZ (upZ (upZ (fun _ => 0) 0 1) 1 1) 2 1))]) (va_A [(h0, .inr (1, [.null]))] sz)) 1 3 (va_A [(h0, .inr (1, [.null]))] sz) := by
  refine Met.ofW (cc := cX1_init) (maxL := 1) (ret := none) (by decide) rfl ?_
  intro p e s m args below meth c s₁ B hml hv
  obtain ⟨rfl, hsz, hP, hK, hD0⟩ := hv
  have hts := atoms_spec (ws := wsX1_init) B.pre
  have hown : s.vm.findClass RX1 = some m.cls := findClass_of_methodNamed B.named
  have S : CallFix p m c cX1_init 1 s _ wsX1_init RX1 := ⟨B.exec, B.bytes, hml, hown, hts⟩
  have hr := B.returns
  have hlk := B.notSynchronized
  have hin : meth.name = "<init>" := (name_of_methodNamed B.named B.method).1
  subst hsz
  have hD := hD0.self (sz := s.heap.size)
  generalize hAe : va_A [(h0, .inr (1, [.null]))] s.heap.size = A at hD ⊢
  have hA : ∀ q : Nat, s.heap.size ≤ q → A q := fun q h => by rw [← hAe]; exact Or.inr h
  have hS : va_S A s.heap s.heap [] := va_S.rf
  have hP : va_P D vwCl [(h0, .inr (1, [.null]))] s.heap := hP
  have hl := lv_entry ([.ref h0]) (n := 1) (Nat.le_of_ble_eq_true rfl)
  rw [lg_entry_eq]
  generalize (lg_sl ([.ref h0]) ++ List.replicate (1 - (lg_sl ([.ref h0])).length) Slot.unset).toArray = ls at hl ⊢
  have hl : lv_has ls 1 [(0, .ref h0)] := hl
  refine lv_aload_n S.1 S.2.1 dX1_init_0 rfl (lv_at hl 0 rfl) ?_
  refine W.objInit S.1 S.2.1 S.2.2.2.1 (S.2.2.2.2 (.methodLink RX1 1 objectInit) (List.mem_of_getElem? (i := 1) (by decide +kernel))) (S.2.2.2.2 (.instanceMethod objectInit) (List.mem_of_getElem? (i := 2) (by decide +kernel))) (S.2.2.2.2 _ (List.mem_of_getElem? (i := 3) rfl)) rfl (by rw [S.2.2.1]; exact hl.1) rfl dX1_init_1 (Nat.le_of_ble_eq_true rfl) (Nat.le_of_ble_eq_true rfl) ?_
  refine W.eq (g2 := F0 m 4 ls []) rfl ?_
  refine lv_aload_n S.1 S.2.1 dX1_init_4 rfl (lv_at hl 0 rfl) ?_
  refine r_iconst S dX1_init_5 ?_
  refine x_newaI S hK.1 hP hD hS hA (List.mem_of_getElem? (i := 4) (by decide +kernel)) (n := 3) (N2 := 3) (by decide) (by decide) (Nat.le_of_ble_eq_true rfl) (Nat.le_of_ble_eq_true rfl) (Nat.le_of_ble_eq_true rfl) dX1_init_6 (fun q1 H hP hD hS => ?_)
  have hP : va_P D vwCl [(h0, .inr (1, [.null])), (q1, cI cy 3 (fun _ => 0))] H := hP
  have hD : va_D A [(h0, .inr (1, [.null])), (q1, cI cy 3 (fun _ => 0))] := hD
  refine lv_dup S.1 S.2.1 dX1_init_8 rfl ?_
  refine r_iconst S dX1_init_9 ?_
  refine r_iconst S dX1_init_10 ?_
  refine x_iast S hK.1 hP hD hS 1 (n := 3) (r := (fun _ => 0)) rfl (a := 0) (x := 1) ⟨by decide, by decide⟩ (by decide) dX1_init_11 (fun H locs hP hD hS => ?_)
  have hP : va_P D vwCl [(h0, .inr (1, [.null])), (q1, cI cy 3 (upZ (fun _ => 0) 0 1))] H := hP
  have hD : va_D A [(h0, .inr (1, [.null])), (q1, cI cy 3 (upZ (fun _ => 0) 0 1))] := hD
  refine lv_dup S.1 S.2.1 dX1_init_12 rfl ?_
  refine r_iconst S dX1_init_13 ?_
  refine r_iconst S dX1_init_14 ?_
  refine x_iast S hK.1 hP hD hS 1 (n := 3) (r := (upZ (fun _ => 0) 0 1)) rfl (a := 1) (x := 1) ⟨by decide, by decide⟩ (by decide) dX1_init_15 (fun H locs hP hD hS => ?_)
  have hP : va_P D vwCl [(h0, .inr (1, [.null])), (q1, cI cy 3 (upZ (upZ (fun _ => 0) 0 1) 1 1))] H := hP
  have hD : va_D A [(h0, .inr (1, [.null])), (q1, cI cy 3 (upZ (upZ (fun _ => 0) 0 1) 1 1))] := hD
  refine lv_dup S.1 S.2.1 dX1_init_16 rfl ?_
  refine r_iconst S dX1_init_17 ?_
  refine r_iconst S dX1_init_18 ?_
  refine x_iast S hK.1 hP hD hS 1 (n := 3) (r := (upZ (upZ (fun _ => 0) 0 1) 1 1)) rfl (a := 2) (x := 1) ⟨by decide, by decide⟩ (by decide) dX1_init_19 (fun H locs hP hD hS => ?_)
  have hP : va_P D vwCl [(h0, .inr (1, [.null])), (q1, cI cy 3 (upZ (upZ (upZ (fun _ => 0) 0 1) 1 1) 2 1))] H := hP
  have hD : va_D A [(h0, .inr (1, [.null])), (q1, cI cy 3 (upZ (upZ (upZ (fun _ => 0) 0 1) 1 1) 2 1))] := hD
  refine va_putF (D := D) S.1 S.2.1 (ci := 1) (v := .ref q1) S.2.2.2.2 (mem_places _ [6] (by decide +kernel)) tyX1 tyX1_ok nmX1 S.2.2.2.1 hK.1.1 hP hD hS 0 rfl rfl 0 (by decide) (S.2.2.2.2 (.fieldLink RX1 7 "MendTexts$Costs" "values" "[I") (List.mem_of_getElem? (i := 5) (by decide +kernel))) (fun _ h9 => h9) rfl hin rfl (tyX1_ok 0 (by decide)) rfl rfl (Nat.le_of_ble_eq_true rfl) dX1_init_20 (fun H locs hP hD hS => ?_)
  have hP : va_P D vwCl [(h0, .inr (1, [.ref q1])), (q1, cI cy 3 (upZ (upZ (upZ (fun _ => 0) 0 1) 1 1) 2 1))] H := hP
  have hD : va_D A [(h0, .inr (1, [.ref q1])), (q1, cI cy 3 (upZ (upZ (upZ (fun _ => 0) 0 1) 1 1) 2 1))] := hD
  have hP9 := hP.sub (ws' := [(h0, .inr (1, [.ref q1])), (q1, cI cy 3 (upZ (upZ (upZ (fun _ => 0) 0 1) 1 1) 2 1))]) [0, 1] rfl
  have hD9 := hD.sub (ws' := [(h0, .inr (1, [.ref q1])), (q1, cI cy 3 (upZ (upZ (upZ (fun _ => 0) 0 1) 1 1) 2 1))]) [0, 1] (by decide) rfl
  exact W.vret S.1 S.2.1 hr (fun t ht hW => ⟨⟨(fun i => ([q1] : List Nat).getD i 0), rfl, trivial, by rw [ht]; exact hP9, hD9⟩, hS.F ht⟩) hS.2.2 dX1_init_23 hlk
def rm_X10_init_6 : Room := { frames := 1, cells := 1, slots := 6, locals := 12 }
set_option maxHeartbeats 4000000 in
set_option maxRecDepth 100000 in
theorem c_X10_init_6 (l : Launch) (D : va_G) (cy : Nat → ClassId) (h0 sz : Nat) : Met l yX10_init wsX10_init rm_X10_init_6 (va_Pc [.ref h0, .int (zI 6)] (PreX D cy sz [(h0, .inr (8, [.null, .int (zI 0)]))])) (va_Qv (fun (_ : Nat → Nat) => True) (fun u t => va_P D vwCl [(h0, .inr (8, [.ref (u 0), .int (zI 0)])), ((u 0), cI cy 6 (fun _ => 0))] t.heap ∧ va_D (va_A [(h0, .inr (8, [.null, .int (zI 0)]))] sz) [(h0, .inr (8, [.ref (u 0), .int (zI 0)])), ((u 0), cI cy 6 (fun _ => 0))]) (va_A [(h0, .inr (8, [.null, .int (zI 0)]))] sz)) 1 6 (va_A [(h0, .inr (8, [.null, .int (zI 0)]))] sz) := by
  refine Met.ofW (cc := cX10_init) (maxL := 2) (ret := none) (by decide) rfl ?_
  intro p e s m args below meth c s₁ B hml hv
  obtain ⟨rfl, hsz, hP, hK, hD0⟩ := hv
  have hts := atoms_spec (ws := wsX10_init) B.pre
  have hown : s.vm.findClass RX10 = some m.cls := findClass_of_methodNamed B.named
  have S : CallFix p m c cX10_init 2 s _ wsX10_init RX10 := ⟨B.exec, B.bytes, hml, hown, hts⟩
  have hr := B.returns
  have hlk := B.notSynchronized
  have hin : meth.name = "<init>" := (name_of_methodNamed B.named B.method).1
  subst hsz
  have hD := hD0.self (sz := s.heap.size)
  generalize hAe : va_A [(h0, .inr (8, [.null, .int (zI 0)]))] s.heap.size = A at hD ⊢
  have hA : ∀ q : Nat, s.heap.size ≤ q → A q := fun q h => by rw [← hAe]; exact Or.inr h
  have hS : va_S A s.heap s.heap [] := va_S.rf
  have hP : va_P D vwCl [(h0, .inr (8, [.null, .int (zI 0)]))] s.heap := hP
  have hl := lv_entry ([.ref h0, .int (zI 6)]) (n := 2) (Nat.le_of_ble_eq_true rfl)
  rw [lg_entry_eq]
  generalize (lg_sl ([.ref h0, .int (zI 6)]) ++ List.replicate (2 - (lg_sl ([.ref h0, .int (zI 6)])).length) Slot.unset).toArray = ls at hl ⊢
  have hl : lv_has ls 2 [(0, .ref h0), (1, .int (zI 6))] := hl
  refine lv_aload_n S.1 S.2.1 dX10_init_0 rfl (lv_at hl 0 rfl) ?_
  refine W.objInit S.1 S.2.1 S.2.2.2.1 (S.2.2.2.2 (.methodLink RX10 1 objectInit) (List.mem_of_getElem? (i := 1) (by decide +kernel))) (S.2.2.2.2 (.instanceMethod objectInit) (List.mem_of_getElem? (i := 2) (by decide +kernel))) (S.2.2.2.2 _ (List.mem_of_getElem? (i := 3) rfl)) rfl (by rw [S.2.2.1]; exact hl.1) rfl dX10_init_1 (Nat.le_of_ble_eq_true rfl) (Nat.le_of_ble_eq_true rfl) ?_
  refine W.eq (g2 := F0 m 4 ls []) rfl ?_
  refine lv_aload_n S.1 S.2.1 dX10_init_4 rfl (lv_at hl 0 rfl) ?_
  refine r_iconst S dX10_init_5 ?_
  refine va_put (D := D) S.1 S.2.1 (ci := 8) (v := .int (zI 0)) S.2.2.2.2 (mem_places _ [7, 8] (by decide +kernel)) tyX10 tyX10_ok nmX10 S.2.2.2.1 hK.1.1 hP hD hS 0 rfl rfl 1 (by decide) (S.2.2.2.2 (.fieldLink RX10 7 "MendTexts$Word" "length" "I") (List.mem_of_getElem? (i := 4) (by decide +kernel))) (fun _ h9 => h9) rfl (tyX10_ok 1 (by decide)) rfl rfl (Nat.le_of_ble_eq_true rfl) dX10_init_6 (fun H locs hP hD hS => ?_)
  have hP : va_P D vwCl [(h0, .inr (8, [.null, .int (zI 0)]))] H := hP
  have hD : va_D A [(h0, .inr (8, [.null, .int (zI 0)]))] := hD
  refine lv_aload_n S.1 S.2.1 dX10_init_9 rfl (lv_at hl 0 rfl) ?_
  refine lv_iload_n S.1 S.2.1 dX10_init_10 rfl (lv_at hl 1 rfl) ?_
  refine r_if_le (tgt := 18) S dX10_init_11 (by decide) (fun c => absurd c (by decide)) (fun _ => ?_)
  refine lv_iload_n S.1 S.2.1 dX10_init_14 rfl (lv_at hl 1 rfl) ?_
  refine lv_goto (tgt := 19) S.1 S.2.1 dX10_init_15 (by decide) ?_
  refine x_newaI S hK.1 hP hD hS hA (List.mem_of_getElem? (i := 5) (by decide +kernel)) (n := 6) (N2 := 6) (by decide) (by decide) (Nat.le_of_ble_eq_true rfl) (Nat.le_of_ble_eq_true rfl) (Nat.le_of_ble_eq_true rfl) dX10_init_19 (fun q1 H hP hD hS => ?_)
  have hP : va_P D vwCl [(h0, .inr (8, [.null, .int (zI 0)])), (q1, cI cy 6 (fun _ => 0))] H := hP
  have hD : va_D A [(h0, .inr (8, [.null, .int (zI 0)])), (q1, cI cy 6 (fun _ => 0))] := hD
  refine va_putF (D := D) S.1 S.2.1 (ci := 8) (v := .ref q1) S.2.2.2.2 (mem_places _ [7, 8] (by decide +kernel)) tyX10 tyX10_ok nmX10 S.2.2.2.1 hK.1.1 hP hD hS 0 rfl rfl 0 (by decide) (S.2.2.2.2 (.fieldLink RX10 13 "MendTexts$Word" "letters" "[I") (List.mem_of_getElem? (i := 6) (by decide +kernel))) (fun _ h9 => h9) rfl hin rfl (tyX10_ok 0 (by decide)) rfl rfl (Nat.le_of_ble_eq_true rfl) dX10_init_21 (fun H locs hP hD hS => ?_)
  have hP : va_P D vwCl [(h0, .inr (8, [.ref q1, .int (zI 0)])), (q1, cI cy 6 (fun _ => 0))] H := hP
  have hD : va_D A [(h0, .inr (8, [.ref q1, .int (zI 0)])), (q1, cI cy 6 (fun _ => 0))] := hD
  have hP9 := hP.sub (ws' := [(h0, .inr (8, [.ref q1, .int (zI 0)])), (q1, cI cy 6 (fun _ => 0))]) [0, 1] rfl
  have hD9 := hD.sub (ws' := [(h0, .inr (8, [.ref q1, .int (zI 0)])), (q1, cI cy 6 (fun _ => 0))]) [0, 1] (by decide) rfl
  exact W.vret S.1 S.2.1 hr (fun t ht hW => ⟨⟨(fun i => ([q1] : List Nat).getD i 0), rfl, trivial, by rw [ht]; exact hP9, hD9⟩, hS.F ht⟩) hS.2.2 dX10_init_24 hlk
def rm_X10_init_12 : Room := { frames := 1, cells := 1, slots := 12, locals := 12 }
set_option maxHeartbeats 4000000 in
set_option maxRecDepth 100000 in
theorem c_X10_init_12 (l : Launch) (D : va_G) (cy : Nat → ClassId) (h0 sz : Nat) : Met l yX10_init wsX10_init rm_X10_init_12 (va_Pc [.ref h0, .int (zI 12)] (PreX D cy sz [(h0, .inr (8, [.null, .int (zI 0)]))])) (va_Qv (fun (_ : Nat → Nat) => True) (fun u t => va_P D vwCl [(h0, .inr (8, [.ref (u 0), .int (zI 0)])), ((u 0), cI cy 12 (fun _ => 0))] t.heap ∧ va_D (va_A [(h0, .inr (8, [.null, .int (zI 0)]))] sz) [(h0, .inr (8, [.ref (u 0), .int (zI 0)])), ((u 0), cI cy 12 (fun _ => 0))]) (va_A [(h0, .inr (8, [.null, .int (zI 0)]))] sz)) 1 12 (va_A [(h0, .inr (8, [.null, .int (zI 0)]))] sz) := by
  refine Met.ofW (cc := cX10_init) (maxL := 2) (ret := none) (by decide) rfl ?_
  intro p e s m args below meth c s₁ B hml hv
  obtain ⟨rfl, hsz, hP, hK, hD0⟩ := hv
  have hts := atoms_spec (ws := wsX10_init) B.pre
  have hown : s.vm.findClass RX10 = some m.cls := findClass_of_methodNamed B.named
  have S : CallFix p m c cX10_init 2 s _ wsX10_init RX10 := ⟨B.exec, B.bytes, hml, hown, hts⟩
  have hr := B.returns
  have hlk := B.notSynchronized
  have hin : meth.name = "<init>" := (name_of_methodNamed B.named B.method).1
  subst hsz
  have hD := hD0.self (sz := s.heap.size)
  generalize hAe : va_A [(h0, .inr (8, [.null, .int (zI 0)]))] s.heap.size = A at hD ⊢
  have hA : ∀ q : Nat, s.heap.size ≤ q → A q := fun q h => by rw [← hAe]; exact Or.inr h
  have hS : va_S A s.heap s.heap [] := va_S.rf
  have hP : va_P D vwCl [(h0, .inr (8, [.null, .int (zI 0)]))] s.heap := hP
  have hl := lv_entry ([.ref h0, .int (zI 12)]) (n := 2) (Nat.le_of_ble_eq_true rfl)
  rw [lg_entry_eq]
  generalize (lg_sl ([.ref h0, .int (zI 12)]) ++ List.replicate (2 - (lg_sl ([.ref h0, .int (zI 12)])).length) Slot.unset).toArray = ls at hl ⊢
  have hl : lv_has ls 2 [(0, .ref h0), (1, .int (zI 12))] := hl
  refine lv_aload_n S.1 S.2.1 dX10_init_0 rfl (lv_at hl 0 rfl) ?_
  refine W.objInit S.1 S.2.1 S.2.2.2.1 (S.2.2.2.2 (.methodLink RX10 1 objectInit) (List.mem_of_getElem? (i := 1) (by decide +kernel))) (S.2.2.2.2 (.instanceMethod objectInit) (List.mem_of_getElem? (i := 2) (by decide +kernel))) (S.2.2.2.2 _ (List.mem_of_getElem? (i := 3) rfl)) rfl (by rw [S.2.2.1]; exact hl.1) rfl dX10_init_1 (Nat.le_of_ble_eq_true rfl) (Nat.le_of_ble_eq_true rfl) ?_
  refine W.eq (g2 := F0 m 4 ls []) rfl ?_
  refine lv_aload_n S.1 S.2.1 dX10_init_4 rfl (lv_at hl 0 rfl) ?_
  refine r_iconst S dX10_init_5 ?_
  refine va_put (D := D) S.1 S.2.1 (ci := 8) (v := .int (zI 0)) S.2.2.2.2 (mem_places _ [7, 8] (by decide +kernel)) tyX10 tyX10_ok nmX10 S.2.2.2.1 hK.1.1 hP hD hS 0 rfl rfl 1 (by decide) (S.2.2.2.2 (.fieldLink RX10 7 "MendTexts$Word" "length" "I") (List.mem_of_getElem? (i := 4) (by decide +kernel))) (fun _ h9 => h9) rfl (tyX10_ok 1 (by decide)) rfl rfl (Nat.le_of_ble_eq_true rfl) dX10_init_6 (fun H locs hP hD hS => ?_)
  have hP : va_P D vwCl [(h0, .inr (8, [.null, .int (zI 0)]))] H := hP
  have hD : va_D A [(h0, .inr (8, [.null, .int (zI 0)]))] := hD
  refine lv_aload_n S.1 S.2.1 dX10_init_9 rfl (lv_at hl 0 rfl) ?_
  refine lv_iload_n S.1 S.2.1 dX10_init_10 rfl (lv_at hl 1 rfl) ?_
  refine r_if_le (tgt := 18) S dX10_init_11 (by decide) (fun c => absurd c (by decide)) (fun _ => ?_)
  refine lv_iload_n S.1 S.2.1 dX10_init_14 rfl (lv_at hl 1 rfl) ?_
  refine lv_goto (tgt := 19) S.1 S.2.1 dX10_init_15 (by decide) ?_
  refine x_newaI S hK.1 hP hD hS hA (List.mem_of_getElem? (i := 5) (by decide +kernel)) (n := 12) (N2 := 12) (by decide) (by decide) (Nat.le_of_ble_eq_true rfl) (Nat.le_of_ble_eq_true rfl) (Nat.le_of_ble_eq_true rfl) dX10_init_19 (fun q1 H hP hD hS => ?_)
  have hP : va_P D vwCl [(h0, .inr (8, [.null, .int (zI 0)])), (q1, cI cy 12 (fun _ => 0))] H := hP
  have hD : va_D A [(h0, .inr (8, [.null, .int (zI 0)])), (q1, cI cy 12 (fun _ => 0))] := hD
  refine va_putF (D := D) S.1 S.2.1 (ci := 8) (v := .ref q1) S.2.2.2.2 (mem_places _ [7, 8] (by decide +kernel)) tyX10 tyX10_ok nmX10 S.2.2.2.1 hK.1.1 hP hD hS 0 rfl rfl 0 (by decide) (S.2.2.2.2 (.fieldLink RX10 13 "MendTexts$Word" "letters" "[I") (List.mem_of_getElem? (i := 6) (by decide +kernel))) (fun _ h9 => h9) rfl hin rfl (tyX10_ok 0 (by decide)) rfl rfl (Nat.le_of_ble_eq_true rfl) dX10_init_21 (fun H locs hP hD hS => ?_)
  have hP : va_P D vwCl [(h0, .inr (8, [.ref q1, .int (zI 0)])), (q1, cI cy 12 (fun _ => 0))] H := hP
  have hD : va_D A [(h0, .inr (8, [.ref q1, .int (zI 0)])), (q1, cI cy 12 (fun _ => 0))] := hD
  have hP9 := hP.sub (ws' := [(h0, .inr (8, [.ref q1, .int (zI 0)])), (q1, cI cy 12 (fun _ => 0))]) [0, 1] rfl
  have hD9 := hD.sub (ws' := [(h0, .inr (8, [.ref q1, .int (zI 0)])), (q1, cI cy 12 (fun _ => 0))]) [0, 1] (by decide) rfl
  exact W.vret S.1 S.2.1 hr (fun t ht hW => ⟨⟨(fun i => ([q1] : List Nat).getD i 0), rfl, trivial, by rw [ht]; exact hP9, hD9⟩, hS.F ht⟩) hS.2.2 dX10_init_24 hlk
def rm_X10_init_0 : Room := { frames := 1, cells := 1, slots := 0, locals := 12 }
set_option maxHeartbeats 4000000 in
set_option maxRecDepth 100000 in
theorem c_X10_init_0 (l : Launch) (D : va_G) (cy : Nat → ClassId) (h0 sz : Nat) : Met l yX10_init wsX10_init rm_X10_init_0 (va_Pc [.ref h0, .int (zI 0)] (PreX D cy sz [(h0, .inr (8, [.null, .int (zI 0)]))])) (va_Qv (fun (_ : Nat → Nat) => True) (fun u t => va_P D vwCl [(h0, .inr (8, [.ref (u 0), .int (zI 0)])), ((u 0), cI cy 0 (fun _ => 0))] t.heap ∧ va_D (va_A [(h0, .inr (8, [.null, .int (zI 0)]))] sz) [(h0, .inr (8, [.ref (u 0), .int (zI 0)])), ((u 0), cI cy 0 (fun _ => 0))]) (va_A [(h0, .inr (8, [.null, .int (zI 0)]))] sz)) 1 0 (va_A [(h0, .inr (8, [.null, .int (zI 0)]))] sz) := by
  refine Met.ofW (cc := cX10_init) (maxL := 2) (ret := none) (by decide) rfl ?_
  intro p e s m args below meth c s₁ B hml hv
  obtain ⟨rfl, hsz, hP, hK, hD0⟩ := hv
  have hts := atoms_spec (ws := wsX10_init) B.pre
  have hown : s.vm.findClass RX10 = some m.cls := findClass_of_methodNamed B.named
  have S : CallFix p m c cX10_init 2 s _ wsX10_init RX10 := ⟨B.exec, B.bytes, hml, hown, hts⟩
  have hr := B.returns
  have hlk := B.notSynchronized
  have hin : meth.name = "<init>" := (name_of_methodNamed B.named B.method).1
  subst hsz
  have hD := hD0.self (sz := s.heap.size)
  generalize hAe : va_A [(h0, .inr (8, [.null, .int (zI 0)]))] s.heap.size = A at hD ⊢
  have hA : ∀ q : Nat, s.heap.size ≤ q → A q := fun q h => by rw [← hAe]; exact Or.inr h
  have hS : va_S A s.heap s.heap [] := va_S.rf
  have hP : va_P D vwCl [(h0, .inr (8, [.null, .int (zI 0)]))] s.heap := hP
  have hl := lv_entry ([.ref h0, .int (zI 0)]) (n := 2) (Nat.le_of_ble_eq_true rfl)
  rw [lg_entry_eq]
  generalize (lg_sl ([.ref h0, .int (zI 0)]) ++ List.replicate (2 - (lg_sl ([.ref h0, .int (zI 0)])).length) Slot.unset).toArray = ls at hl ⊢
  have hl : lv_has ls 2 [(0, .ref h0), (1, .int (zI 0))] := hl
  refine lv_aload_n S.1 S.2.1 dX10_init_0 rfl (lv_at hl 0 rfl) ?_
  refine W.objInit S.1 S.2.1 S.2.2.2.1 (S.2.2.2.2 (.methodLink RX10 1 objectInit) (List.mem_of_getElem? (i := 1) (by decide +kernel))) (S.2.2.2.2 (.instanceMethod objectInit) (List.mem_of_getElem? (i := 2) (by decide +kernel))) (S.2.2.2.2 _ (List.mem_of_getElem? (i := 3) rfl)) rfl (by rw [S.2.2.1]; exact hl.1) rfl dX10_init_1 (Nat.le_of_ble_eq_true rfl) (Nat.le_of_ble_eq_true rfl) ?_
  refine W.eq (g2 := F0 m 4 ls []) rfl ?_
  refine lv_aload_n S.1 S.2.1 dX10_init_4 rfl (lv_at hl 0 rfl) ?_
  refine r_iconst S dX10_init_5 ?_
  refine va_put (D := D) S.1 S.2.1 (ci := 8) (v := .int (zI 0)) S.2.2.2.2 (mem_places _ [7, 8] (by decide +kernel)) tyX10 tyX10_ok nmX10 S.2.2.2.1 hK.1.1 hP hD hS 0 rfl rfl 1 (by decide) (S.2.2.2.2 (.fieldLink RX10 7 "MendTexts$Word" "length" "I") (List.mem_of_getElem? (i := 4) (by decide +kernel))) (fun _ h9 => h9) rfl (tyX10_ok 1 (by decide)) rfl rfl (Nat.le_of_ble_eq_true rfl) dX10_init_6 (fun H locs hP hD hS => ?_)
  have hP : va_P D vwCl [(h0, .inr (8, [.null, .int (zI 0)]))] H := hP
  have hD : va_D A [(h0, .inr (8, [.null, .int (zI 0)]))] := hD
  refine lv_aload_n S.1 S.2.1 dX10_init_9 rfl (lv_at hl 0 rfl) ?_
  refine lv_iload_n S.1 S.2.1 dX10_init_10 rfl (lv_at hl 1 rfl) ?_
  refine r_if_le (tgt := 18) S dX10_init_11 (by decide) (fun _ => ?_) (fun c => absurd c (by decide))
  refine r_iconst S dX10_init_18 ?_
  refine x_newaI S hK.1 hP hD hS hA (List.mem_of_getElem? (i := 5) (by decide +kernel)) (n := 0) (N2 := 0) (by decide) (by decide) (Nat.le_of_ble_eq_true rfl) (Nat.le_of_ble_eq_true rfl) (Nat.le_of_ble_eq_true rfl) dX10_init_19 (fun q1 H hP hD hS => ?_)
  have hP : va_P D vwCl [(h0, .inr (8, [.null, .int (zI 0)])), (q1, cI cy 0 (fun _ => 0))] H := hP
  have hD : va_D A [(h0, .inr (8, [.null, .int (zI 0)])), (q1, cI cy 0 (fun _ => 0))] := hD
  refine va_putF (D := D) S.1 S.2.1 (ci := 8) (v := .ref q1) S.2.2.2.2 (mem_places _ [7, 8] (by decide +kernel)) tyX10 tyX10_ok nmX10 S.2.2.2.1 hK.1.1 hP hD hS 0 rfl rfl 0 (by decide) (S.2.2.2.2 (.fieldLink RX10 13 "MendTexts$Word" "letters" "[I") (List.mem_of_getElem? (i := 6) (by decide +kernel))) (fun _ h9 => h9) rfl hin rfl (tyX10_ok 0 (by decide)) rfl rfl (Nat.le_of_ble_eq_true rfl) dX10_init_21 (fun H locs hP hD hS => ?_)
  have hP : va_P D vwCl [(h0, .inr (8, [.ref q1, .int (zI 0)])), (q1, cI cy 0 (fun _ => 0))] H := hP
  have hD : va_D A [(h0, .inr (8, [.ref q1, .int (zI 0)])), (q1, cI cy 0 (fun _ => 0))] := hD
  have hP9 := hP.sub (ws' := [(h0, .inr (8, [.ref q1, .int (zI 0)])), (q1, cI cy 0 (fun _ => 0))]) [0, 1] rfl
  have hD9 := hD.sub (ws' := [(h0, .inr (8, [.ref q1, .int (zI 0)])), (q1, cI cy 0 (fun _ => 0))]) [0, 1] (by decide) rfl
  exact W.vret S.1 S.2.1 hr (fun t ht hW => ⟨⟨(fun i => ([q1] : List Nat).getD i 0), rfl, trivial, by rw [ht]; exact hP9, hD9⟩, hS.F ht⟩) hS.2.2 dX10_init_24 hlk
def rm_X2_init : Room := { frames := 2, cells := 9, slots := 29, locals := 33 }
set_option maxHeartbeats 4000000 in
set_option maxRecDepth 100000 in
theorem c_X2_init (l : Launch) (D : va_G) (cy : Nat → ClassId) (h0 sz : Nat) : Met l yX2_init wsX2_init rm_X2_init (va_Pc [.ref h0] (PreX D cy sz [(h0, .inr (2, [.null, .null, .int (zI 0)]))])) (va_Qv (fun (_ : Nat → Nat) => True) (fun u t => va_P D vwCl [(h0, .inr (2, [.ref (u 0), .ref (u 1), .int (zI 0)])), ((u 0), .inl (cy 3, 3, .inr (.inr (.inr (.inr (va_up (va_up (va_up (fun _ => none) (zI 0).toNatClampNeg (some (u 3))) (zI 1).toNatClampNeg (some (u 5))) (zI 2).toNatClampNeg (some (u 7)))))))), ((u 1), .inr (8, [.ref (u 2), .int (zI 0)])), ((u 2), cI cy 0 (fun _ => 0)), ((u 3), .inr (8, [.ref (u 4), .int (zI 0)])), ((u 4), cI cy 6 (fun _ => 0)), ((u 5), .inr (8, [.ref (u 6), .int (zI 0)])), ((u 6), cI cy 6 (fun _ => 0)), ((u 7), .inr (8, [.ref (u 8), .int (zI 0)])), ((u 8), cI cy 6 (fun _ => 0))] t.heap ∧ va_D (va_A [(h0, .inr (2, [.null, .null, .int (zI 0)]))] sz) [(h0, .inr (2, [.ref (u 0), .ref (u 1), .int (zI 0)])), ((u 0), .inl (cy 3, 3, .inr (.inr (.inr (.inr (va_up (va_up (va_up (fun _ => none) (zI 0).toNatClampNeg (some (u 3))) (zI 1).toNatClampNeg (some (u 5))) (zI 2).toNatClampNeg (some (u 7)))))))), ((u 1), .inr (8, [.ref (u 2), .int (zI 0)])), ((u 2), cI cy 0 (fun _ => 0)), ((u 3), .inr (8, [.ref (u 4), .int (zI 0)])), ((u 4), cI cy 6 (fun _ => 0)), ((u 5), .inr (8, [.ref (u 6), .int (zI 0)])), ((u 6), cI cy 6 (fun _ => 0)), ((u 7), .inr (8, [.ref (u 8), .int (zI 0)])), ((u 8), cI cy 6 (fun _ => 0))]) (va_A [(h0, .inr (2, [.null, .null, .int (zI 0)]))] sz)) 9 29 (va_A [(h0, .inr (2, [.null, .null, .int (zI 0)]))] sz) := by
  refine Met.ofW (cc := cX2_init) (maxL := 2) (ret := none) (by decide) rfl ?_
  intro p e s m args below meth c s₁ B hml hv
  obtain ⟨rfl, hsz, hP, hK, hD0⟩ := hv
  have hts := atoms_spec (ws := wsX2_init) B.pre
  have hown : s.vm.findClass RX2 = some m.cls := findClass_of_methodNamed B.named
  have S : CallFix p m c cX2_init 2 s _ wsX2_init RX2 := ⟨B.exec, B.bytes, hml, hown, hts⟩
  have hr := B.returns
  have hlk := B.notSynchronized
  have hin : meth.name = "<init>" := (name_of_methodNamed B.named B.method).1
  subst hsz
  have hD := hD0.self (sz := s.heap.size)
  generalize hAe : va_A [(h0, .inr (2, [.null, .null, .int (zI 0)]))] s.heap.size = A at hD ⊢
  have hA : ∀ q : Nat, s.heap.size ≤ q → A q := fun q h => by rw [← hAe]; exact Or.inr h
  have hS : va_S A s.heap s.heap [] := va_S.rf
  have hP : va_P D vwCl [(h0, .inr (2, [.null, .null, .int (zI 0)]))] s.heap := hP
  have hl := lv_entry ([.ref h0]) (n := 2) (Nat.le_of_ble_eq_true rfl)
  rw [lg_entry_eq]
  generalize (lg_sl ([.ref h0]) ++ List.replicate (2 - (lg_sl ([.ref h0])).length) Slot.unset).toArray = ls at hl ⊢
  have hl : lv_has ls 2 [(0, .ref h0)] := hl
  refine lv_aload_n S.1 S.2.1 dX2_init_0 rfl (lv_at hl 0 rfl) ?_
  refine W.objInit S.1 S.2.1 S.2.2.2.1 (S.2.2.2.2 (.methodLink RX2 3 objectInit) (List.mem_of_getElem? (i := 1) (by decide +kernel))) (S.2.2.2.2 (.instanceMethod objectInit) (List.mem_of_getElem? (i := 2) (by decide +kernel))) (S.2.2.2.2 _ (List.mem_of_getElem? (i := 3) rfl)) rfl (by rw [S.2.2.1]; exact hl.1) rfl dX2_init_1 (Nat.le_of_ble_eq_true rfl) (Nat.le_of_ble_eq_true rfl) ?_
  refine W.eq (g2 := F0 m 4 ls []) rfl ?_
  refine lv_aload_n S.1 S.2.1 dX2_init_4 rfl (lv_at hl 0 rfl) ?_
  refine r_iconst S dX2_init_5 ?_
  refine x_newq S hK.1 hK.2.1 hP hD hS hA (List.mem_of_getElem? (i := 4) (by decide +kernel)) (n := 3) (N2 := 3) (by decide) (by decide) (Nat.le_of_ble_eq_true rfl) (Nat.le_of_ble_eq_true rfl) (Nat.le_of_ble_eq_true rfl) dX2_init_6 (fun q1 H hP hD hS => ?_)
  have hP : va_P D vwCl [(h0, .inr (2, [.null, .null, .int (zI 0)])), (q1, .inl (cy 3, 3, .inr (.inr (.inr (.inr (fun _ => none))))))] H := hP
  have hD : va_D A [(h0, .inr (2, [.null, .null, .int (zI 0)])), (q1, .inl (cy 3, 3, .inr (.inr (.inr (.inr (fun _ => none))))))] := hD
  refine va_putF (D := D) S.1 S.2.1 (ci := 2) (v := .ref q1) S.2.2.2.2 (mem_places _ [17, 18, 19] (by decide +kernel)) tyX2 tyX2_ok nmX2 S.2.2.2.1 hK.1.1 hP hD hS 0 rfl rfl 0 (by decide) (S.2.2.2.2 (.fieldLink RX2 11 "MendTexts$Examples" "words" "[LMendTexts$Word;") (List.mem_of_getElem? (i := 5) (by decide +kernel))) (fun _ h9 => h9) rfl hin rfl (tyX2_ok 0 (by decide)) rfl rfl (Nat.le_of_ble_eq_true rfl) dX2_init_9 (fun H locs hP hD hS => ?_)
  have hP : va_P D vwCl [(h0, .inr (2, [.ref q1, .null, .int (zI 0)])), (q1, .inl (cy 3, 3, .inr (.inr (.inr (.inr (fun _ => none))))))] H := hP
  have hD : va_D A [(h0, .inr (2, [.ref q1, .null, .int (zI 0)])), (q1, .inl (cy 3, 3, .inr (.inr (.inr (.inr (fun _ => none))))))] := hD
  refine lv_aload_n S.1 S.2.1 dX2_init_12 rfl (lv_at hl 0 rfl) ?_
  refine va_new (D := D) (ci := 8) (fs := [.null, .int (zI 0)]) (C := RX10) (T := TX10) (N := 2) S.1 S.2.1 S.2.2.2.2 (mem_places _ [20, 21] (by decide +kernel)) tyX10 tyX10_ok S.2.2.2.1 (S.2.2.2.2 (.classLink RX2 9 RX10) (List.mem_of_getElem? (i := 4) (by decide +kernel))) (S.2.2.2.2 (.instantiable RX10 2) (List.mem_of_getElem? (i := 6) (by decide +kernel))) (S.2.2.2.2 (.initialized RX10) (List.mem_of_getElem? (i := 7) (by decide +kernel))) hK.1.1 hP hD hS hA rfl (fun j hj => by rcases (show j = 0 ∨ j = 1 by omega) with rfl | rfl <;> rfl) (Nat.le_of_ble_eq_true rfl) (Nat.le_of_ble_eq_true rfl) dX2_init_13 (fun q2 H hP hD hS => ?_)
  have hP : va_P D vwCl [(h0, .inr (2, [.ref q1, .null, .int (zI 0)])), (q1, .inl (cy 3, 3, .inr (.inr (.inr (.inr (fun _ => none)))))), (q2, .inr (8, [.null, .int (zI 0)]))] H := hP
  have hD : va_D A [(h0, .inr (2, [.ref q1, .null, .int (zI 0)])), (q1, .inl (cy 3, 3, .inr (.inr (.inr (.inr (fun _ => none)))))), (q2, .inr (8, [.null, .int (zI 0)]))] := hD
  refine lv_dup S.1 S.2.1 dX2_init_16 rfl ?_
  refine r_iconst S dX2_init_17 ?_
  have hPc := hP.sub (ws' := [(q2, .inr (8, [.null, .int (zI 0)]))]) [2] rfl
  have hDc := hD.sub (ws' := [(q2, .inr (8, [.null, .int (zI 0)]))]) [2] (by decide) rfl
  have hFc := va_free (wc := [(q2, .inr (8, [.null, .int (zI 0)]))]) hD hS hA [2] rfl
  refine va_callv (va_runI (As := [.int (zI 0)]) (rest := [.ref q2, .ref h0]) S (c_X10_init_0 l D cy q2 H.size) (cwI 1 S.2.2.2.2 gX2_init_X10_init rfl rfl rfl (S.2.2.2.2 (.initialized RX10) (List.mem_of_getElem? (i := 7) (by decide +kernel))) (S.2.2.2.2 (.methodLink RX2 17 yX10_init) (List.mem_of_getElem? (i := 10) (by decide +kernel))) (S.2.2.2.2 (.instanceMethod yX10_init) (List.mem_of_getElem? (i := 11) (by decide +kernel))) rfl (by decide +kernel) ⟨Nat.le_of_ble_eq_true rfl, Nat.le_of_ble_eq_true rfl⟩) ⟨blindX _ _ _, fun U hU hW => ⟨rfl, by rw [hU], by rw [hU]; exact hPc, hK.moved hW, hDc.weaken (fun _ _ _ _ => trivial)⟩⟩ rfl rfl hl.1 rfl (lv_room (Nat.le_of_ble_eq_true rfl)) dX2_init_18 ⟨Nat.le_of_ble_eq_true rfl, Nat.le_of_ble_eq_true rfl⟩) hS (fun q _ h => hFc q h) hFc (fun u3 t H1 locs ht hvm hw hB hz1 hk1 hS => ?_)
  obtain ⟨hP1, hD1⟩ := hB
  rw [ht] at hP1
  obtain ⟨hP, hD⟩ := va_join (wr := [(h0, .inr (2, [.ref q1, .null, .int (zI 0)])), (q1, .inl (cy 3, 3, .inr (.inr (.inr (.inr (fun _ => none))))))]) (w1 := [(q2, .inr (8, [.ref (u3 0), .int (zI 0)])), ((u3 0), cI cy 0 (fun _ => 0))]) hP hD [2] [0, 1] rfl rfl (by decide) (by decide) hk1 hFc hP1 hD1
  generalize H1 = H at hP hS ⊢
  have hP : va_P D vwCl [(h0, .inr (2, [.ref q1, .null, .int (zI 0)])), (q1, .inl (cy 3, 3, .inr (.inr (.inr (.inr (fun _ => none)))))), (q2, .inr (8, [.ref (u3 0), .int (zI 0)])), ((u3 0), cI cy 0 (fun _ => 0))] H := hP
  have hD : va_D A [(h0, .inr (2, [.ref q1, .null, .int (zI 0)])), (q1, .inl (cy 3, 3, .inr (.inr (.inr (.inr (fun _ => none)))))), (q2, .inr (8, [.ref (u3 0), .int (zI 0)])), ((u3 0), cI cy 0 (fun _ => 0))] := hD
  refine va_putF (D := D) S.1 S.2.1 (ci := 2) (v := .ref q2) S.2.2.2.2 (mem_places _ [17, 18, 19] (by decide +kernel)) tyX2 tyX2_ok nmX2 S.2.2.2.1 hK.1.1 hP hD hS 0 rfl rfl 1 (by decide) (S.2.2.2.2 (.fieldLink RX2 20 "MendTexts$Examples" "empty" "LMendTexts$Word;") (List.mem_of_getElem? (i := 8) (by decide +kernel))) (fun _ h9 => h9) rfl hin rfl (tyX2_ok 1 (by decide)) rfl rfl (Nat.le_of_ble_eq_true rfl) dX2_init_21 (fun H locs hP hD hS => ?_)
  have hP : va_P D vwCl [(h0, .inr (2, [.ref q1, .ref q2, .int (zI 0)])), (q1, .inl (cy 3, 3, .inr (.inr (.inr (.inr (fun _ => none)))))), (q2, .inr (8, [.ref (u3 0), .int (zI 0)])), ((u3 0), cI cy 0 (fun _ => 0))] H := hP
  have hD : va_D A [(h0, .inr (2, [.ref q1, .ref q2, .int (zI 0)])), (q1, .inl (cy 3, 3, .inr (.inr (.inr (.inr (fun _ => none)))))), (q2, .inr (8, [.ref (u3 0), .int (zI 0)])), ((u3 0), cI cy 0 (fun _ => 0))] := hD
  refine lv_aload_n S.1 S.2.1 dX2_init_24 rfl (lv_at hl 0 rfl) ?_
  refine r_iconst S dX2_init_25 ?_
  refine va_put (D := D) S.1 S.2.1 (ci := 2) (v := .int (zI 0)) S.2.2.2.2 (mem_places _ [17, 18, 19] (by decide +kernel)) tyX2 tyX2_ok nmX2 S.2.2.2.1 hK.1.1 hP hD hS 0 rfl rfl 2 (by decide) (S.2.2.2.2 (.fieldLink RX2 24 "MendTexts$Examples" "count" "I") (List.mem_of_getElem? (i := 9) (by decide +kernel))) (fun _ h9 => h9) rfl (tyX2_ok 2 (by decide)) rfl rfl (Nat.le_of_ble_eq_true rfl) dX2_init_26 (fun H locs hP hD hS => ?_)
  have hP : va_P D vwCl [(h0, .inr (2, [.ref q1, .ref q2, .int (zI 0)])), (q1, .inl (cy 3, 3, .inr (.inr (.inr (.inr (fun _ => none)))))), (q2, .inr (8, [.ref (u3 0), .int (zI 0)])), ((u3 0), cI cy 0 (fun _ => 0))] H := hP
  have hD : va_D A [(h0, .inr (2, [.ref q1, .ref q2, .int (zI 0)])), (q1, .inl (cy 3, 3, .inr (.inr (.inr (.inr (fun _ => none)))))), (q2, .inr (8, [.ref (u3 0), .int (zI 0)])), ((u3 0), cI cy 0 (fun _ => 0))] := hD
  refine r_iconst S dX2_init_29 ?_
  refine r_istore_n S rfl (lv2 := [(1, .int (zI 0)), (0, .ref h0)]) dX2_init_30 rfl hl (by decide) rfl (fun ls hl => ?_)
  refine lv_iload_n S.1 S.2.1 dX2_init_31 rfl (lv_at hl 0 rfl) ?_
  refine r_iconst S dX2_init_32 ?_
  refine lv_icmp_ge (tgt := 57) S.1 S.2.1 dX2_init_33 (by decide) (fun c => absurd c (by decide)) (fun _ => ?_)
  refine lv_aload_n S.1 S.2.1 dX2_init_36 rfl (lv_at hl 1 rfl) ?_
  refine va_get (D := D) S.1 S.2.1 (ci := 2) S.2.2.2.2 (mem_places _ [17, 18, 19] (by decide +kernel)) S.2.2.2.1 hK.1.1 hP 0 rfl rfl 0 (by decide) (S.2.2.2.2 (.fieldLink RX2 11 "MendTexts$Examples" "words" "[LMendTexts$Word;") (List.mem_of_getElem? (i := 5) (by decide +kernel))) (fun _ h9 => h9) rfl dX2_init_37 ?_
  refine lv_iload_n S.1 S.2.1 dX2_init_40 rfl (lv_at hl 0 rfl) ?_
  refine va_new (D := D) (ci := 8) (fs := [.null, .int (zI 0)]) (C := RX10) (T := TX10) (N := 2) S.1 S.2.1 S.2.2.2.2 (mem_places _ [20, 21] (by decide +kernel)) tyX10 tyX10_ok S.2.2.2.1 (S.2.2.2.2 (.classLink RX2 9 RX10) (List.mem_of_getElem? (i := 4) (by decide +kernel))) (S.2.2.2.2 (.instantiable RX10 2) (List.mem_of_getElem? (i := 6) (by decide +kernel))) (S.2.2.2.2 (.initialized RX10) (List.mem_of_getElem? (i := 7) (by decide +kernel))) hK.1.1 hP hD hS hA rfl (fun j hj => by rcases (show j = 0 ∨ j = 1 by omega) with rfl | rfl <;> rfl) (Nat.le_of_ble_eq_true rfl) (Nat.le_of_ble_eq_true rfl) dX2_init_41 (fun q4 H hP hD hS => ?_)
  have hP : va_P D vwCl [(h0, .inr (2, [.ref q1, .ref q2, .int (zI 0)])), (q1, .inl (cy 3, 3, .inr (.inr (.inr (.inr (fun _ => none)))))), (q2, .inr (8, [.ref (u3 0), .int (zI 0)])), ((u3 0), cI cy 0 (fun _ => 0)), (q4, .inr (8, [.null, .int (zI 0)]))] H := hP
  have hD : va_D A [(h0, .inr (2, [.ref q1, .ref q2, .int (zI 0)])), (q1, .inl (cy 3, 3, .inr (.inr (.inr (.inr (fun _ => none)))))), (q2, .inr (8, [.ref (u3 0), .int (zI 0)])), ((u3 0), cI cy 0 (fun _ => 0)), (q4, .inr (8, [.null, .int (zI 0)]))] := hD
  refine lv_dup S.1 S.2.1 dX2_init_44 rfl ?_
  refine r_bipush S dX2_init_45 (by decide) ?_
  have hPc := hP.sub (ws' := [(q4, .inr (8, [.null, .int (zI 0)]))]) [4] rfl
  have hDc := hD.sub (ws' := [(q4, .inr (8, [.null, .int (zI 0)]))]) [4] (by decide) rfl
  have hFc := va_free (wc := [(q4, .inr (8, [.null, .int (zI 0)]))]) hD hS hA [4] rfl
  refine va_callv (va_runI (As := [.int (zI 6)]) (rest := [.ref q4, .int (zI 0), .ref q1]) S (c_X10_init_6 l D cy q4 H.size) (cwI 1 S.2.2.2.2 gX2_init_X10_init rfl rfl rfl (S.2.2.2.2 (.initialized RX10) (List.mem_of_getElem? (i := 7) (by decide +kernel))) (S.2.2.2.2 (.methodLink RX2 17 yX10_init) (List.mem_of_getElem? (i := 10) (by decide +kernel))) (S.2.2.2.2 (.instanceMethod yX10_init) (List.mem_of_getElem? (i := 11) (by decide +kernel))) rfl (by decide +kernel) ⟨Nat.le_of_ble_eq_true rfl, Nat.le_of_ble_eq_true rfl⟩) ⟨blindX _ _ _, fun U hU hW => ⟨rfl, by rw [hU], by rw [hU]; exact hPc, hK.moved hW, hDc.weaken (fun _ _ _ _ => trivial)⟩⟩ rfl rfl hl.1 rfl (lv_room (Nat.le_of_ble_eq_true rfl)) dX2_init_47 ⟨Nat.le_of_ble_eq_true rfl, Nat.le_of_ble_eq_true rfl⟩) hS (fun q _ h => hFc q h) hFc (fun u5 t H1 locs ht hvm hw hB hz1 hk1 hS => ?_)
  obtain ⟨hP1, hD1⟩ := hB
  rw [ht] at hP1
  obtain ⟨hP, hD⟩ := va_join (wr := [(h0, .inr (2, [.ref q1, .ref q2, .int (zI 0)])), (q1, .inl (cy 3, 3, .inr (.inr (.inr (.inr (fun _ => none)))))), (q2, .inr (8, [.ref (u3 0), .int (zI 0)])), ((u3 0), cI cy 0 (fun _ => 0))]) (w1 := [(q4, .inr (8, [.ref (u5 0), .int (zI 0)])), ((u5 0), cI cy 6 (fun _ => 0))]) hP hD [4] [0, 1, 2, 3] rfl rfl (by decide) (by decide) hk1 hFc hP1 hD1
  generalize H1 = H at hP hS ⊢
  have hP : va_P D vwCl [(h0, .inr (2, [.ref q1, .ref q2, .int (zI 0)])), (q1, .inl (cy 3, 3, .inr (.inr (.inr (.inr (fun _ => none)))))), (q2, .inr (8, [.ref (u3 0), .int (zI 0)])), ((u3 0), cI cy 0 (fun _ => 0)), (q4, .inr (8, [.ref (u5 0), .int (zI 0)])), ((u5 0), cI cy 6 (fun _ => 0))] H := hP
  have hD : va_D A [(h0, .inr (2, [.ref q1, .ref q2, .int (zI 0)])), (q1, .inl (cy 3, 3, .inr (.inr (.inr (.inr (fun _ => none)))))), (q2, .inr (8, [.ref (u3 0), .int (zI 0)])), ((u3 0), cI cy 0 (fun _ => 0)), (q4, .inr (8, [.ref (u5 0), .int (zI 0)])), ((u5 0), cI cy 6 (fun _ => 0))] := hD
  refine va_astq S.1 S.2.1 hK.1.1 hP hD hS 1 3 4 8 (r := (RX10, TX10, 2)) rfl rfl rfl rfl (vp_in_iff.mpr ⟨by decide, by decide⟩) dX2_init_50 (fun H locs hP hD hS => ?_)
  have hP : va_P D vwCl [(h0, .inr (2, [.ref q1, .ref q2, .int (zI 0)])), (q1, .inl (cy 3, 3, .inr (.inr (.inr (.inr (va_up (fun _ => none) (zI 0).toNatClampNeg (some q4))))))), (q2, .inr (8, [.ref (u3 0), .int (zI 0)])), ((u3 0), cI cy 0 (fun _ => 0)), (q4, .inr (8, [.ref (u5 0), .int (zI 0)])), ((u5 0), cI cy 6 (fun _ => 0))] H := hP
  have hD : va_D A [(h0, .inr (2, [.ref q1, .ref q2, .int (zI 0)])), (q1, .inl (cy 3, 3, .inr (.inr (.inr (.inr (va_up (fun _ => none) (zI 0).toNatClampNeg (some q4))))))), (q2, .inr (8, [.ref (u3 0), .int (zI 0)])), ((u3 0), cI cy 0 (fun _ => 0)), (q4, .inr (8, [.ref (u5 0), .int (zI 0)])), ((u5 0), cI cy 6 (fun _ => 0))] := hD
  refine r_iinc S (x := 1) rfl (k0 := 0) (lv2 := [(1, .int (zI 1)), (0, .ref h0)]) dX2_init_51 hl rfl (by decide) rfl (fun ls hl => ?_)
  refine lv_goto (tgt := 31) S.1 S.2.1 dX2_init_54 (by decide) ?_
  refine lv_iload_n S.1 S.2.1 dX2_init_31 rfl (lv_at hl 0 rfl) ?_
  refine r_iconst S dX2_init_32 ?_
  refine lv_icmp_ge (tgt := 57) S.1 S.2.1 dX2_init_33 (by decide) (fun c => absurd c (by decide)) (fun _ => ?_)
  refine lv_aload_n S.1 S.2.1 dX2_init_36 rfl (lv_at hl 1 rfl) ?_
  refine va_get (D := D) S.1 S.2.1 (ci := 2) S.2.2.2.2 (mem_places _ [17, 18, 19] (by decide +kernel)) S.2.2.2.1 hK.1.1 hP 0 rfl rfl 0 (by decide) (S.2.2.2.2 (.fieldLink RX2 11 "MendTexts$Examples" "words" "[LMendTexts$Word;") (List.mem_of_getElem? (i := 5) (by decide +kernel))) (fun _ h9 => h9) rfl dX2_init_37 ?_
  refine lv_iload_n S.1 S.2.1 dX2_init_40 rfl (lv_at hl 0 rfl) ?_
  refine va_new (D := D) (ci := 8) (fs := [.null, .int (zI 0)]) (C := RX10) (T := TX10) (N := 2) S.1 S.2.1 S.2.2.2.2 (mem_places _ [20, 21] (by decide +kernel)) tyX10 tyX10_ok S.2.2.2.1 (S.2.2.2.2 (.classLink RX2 9 RX10) (List.mem_of_getElem? (i := 4) (by decide +kernel))) (S.2.2.2.2 (.instantiable RX10 2) (List.mem_of_getElem? (i := 6) (by decide +kernel))) (S.2.2.2.2 (.initialized RX10) (List.mem_of_getElem? (i := 7) (by decide +kernel))) hK.1.1 hP hD hS hA rfl (fun j hj => by rcases (show j = 0 ∨ j = 1 by omega) with rfl | rfl <;> rfl) (Nat.le_of_ble_eq_true rfl) (Nat.le_of_ble_eq_true rfl) dX2_init_41 (fun q6 H hP hD hS => ?_)
  have hP : va_P D vwCl [(h0, .inr (2, [.ref q1, .ref q2, .int (zI 0)])), (q1, .inl (cy 3, 3, .inr (.inr (.inr (.inr (va_up (fun _ => none) (zI 0).toNatClampNeg (some q4))))))), (q2, .inr (8, [.ref (u3 0), .int (zI 0)])), ((u3 0), cI cy 0 (fun _ => 0)), (q4, .inr (8, [.ref (u5 0), .int (zI 0)])), ((u5 0), cI cy 6 (fun _ => 0)), (q6, .inr (8, [.null, .int (zI 0)]))] H := hP
  have hD : va_D A [(h0, .inr (2, [.ref q1, .ref q2, .int (zI 0)])), (q1, .inl (cy 3, 3, .inr (.inr (.inr (.inr (va_up (fun _ => none) (zI 0).toNatClampNeg (some q4))))))), (q2, .inr (8, [.ref (u3 0), .int (zI 0)])), ((u3 0), cI cy 0 (fun _ => 0)), (q4, .inr (8, [.ref (u5 0), .int (zI 0)])), ((u5 0), cI cy 6 (fun _ => 0)), (q6, .inr (8, [.null, .int (zI 0)]))] := hD
  refine lv_dup S.1 S.2.1 dX2_init_44 rfl ?_
  refine r_bipush S dX2_init_45 (by decide) ?_
  have hPc := hP.sub (ws' := [(q6, .inr (8, [.null, .int (zI 0)]))]) [6] rfl
  have hDc := hD.sub (ws' := [(q6, .inr (8, [.null, .int (zI 0)]))]) [6] (by decide) rfl
  have hFc := va_free (wc := [(q6, .inr (8, [.null, .int (zI 0)]))]) hD hS hA [6] rfl
  refine va_callv (va_runI (As := [.int (zI 6)]) (rest := [.ref q6, .int (zI 1), .ref q1]) S (c_X10_init_6 l D cy q6 H.size) (cwI 1 S.2.2.2.2 gX2_init_X10_init rfl rfl rfl (S.2.2.2.2 (.initialized RX10) (List.mem_of_getElem? (i := 7) (by decide +kernel))) (S.2.2.2.2 (.methodLink RX2 17 yX10_init) (List.mem_of_getElem? (i := 10) (by decide +kernel))) (S.2.2.2.2 (.instanceMethod yX10_init) (List.mem_of_getElem? (i := 11) (by decide +kernel))) rfl (by decide +kernel) ⟨Nat.le_of_ble_eq_true rfl, Nat.le_of_ble_eq_true rfl⟩) ⟨blindX _ _ _, fun U hU hW => ⟨rfl, by rw [hU], by rw [hU]; exact hPc, hK.moved hW, hDc.weaken (fun _ _ _ _ => trivial)⟩⟩ rfl rfl hl.1 rfl (lv_room (Nat.le_of_ble_eq_true rfl)) dX2_init_47 ⟨Nat.le_of_ble_eq_true rfl, Nat.le_of_ble_eq_true rfl⟩) hS (fun q _ h => hFc q h) hFc (fun u7 t H1 locs ht hvm hw hB hz1 hk1 hS => ?_)
  obtain ⟨hP1, hD1⟩ := hB
  rw [ht] at hP1
  obtain ⟨hP, hD⟩ := va_join (wr := [(h0, .inr (2, [.ref q1, .ref q2, .int (zI 0)])), (q1, .inl (cy 3, 3, .inr (.inr (.inr (.inr (va_up (fun _ => none) (zI 0).toNatClampNeg (some q4))))))), (q2, .inr (8, [.ref (u3 0), .int (zI 0)])), ((u3 0), cI cy 0 (fun _ => 0)), (q4, .inr (8, [.ref (u5 0), .int (zI 0)])), ((u5 0), cI cy 6 (fun _ => 0))]) (w1 := [(q6, .inr (8, [.ref (u7 0), .int (zI 0)])), ((u7 0), cI cy 6 (fun _ => 0))]) hP hD [6] [0, 1, 2, 3, 4, 5] rfl rfl (by decide) (by decide) hk1 hFc hP1 hD1
  generalize H1 = H at hP hS ⊢
  have hP : va_P D vwCl [(h0, .inr (2, [.ref q1, .ref q2, .int (zI 0)])), (q1, .inl (cy 3, 3, .inr (.inr (.inr (.inr (va_up (fun _ => none) (zI 0).toNatClampNeg (some q4))))))), (q2, .inr (8, [.ref (u3 0), .int (zI 0)])), ((u3 0), cI cy 0 (fun _ => 0)), (q4, .inr (8, [.ref (u5 0), .int (zI 0)])), ((u5 0), cI cy 6 (fun _ => 0)), (q6, .inr (8, [.ref (u7 0), .int (zI 0)])), ((u7 0), cI cy 6 (fun _ => 0))] H := hP
  have hD : va_D A [(h0, .inr (2, [.ref q1, .ref q2, .int (zI 0)])), (q1, .inl (cy 3, 3, .inr (.inr (.inr (.inr (va_up (fun _ => none) (zI 0).toNatClampNeg (some q4))))))), (q2, .inr (8, [.ref (u3 0), .int (zI 0)])), ((u3 0), cI cy 0 (fun _ => 0)), (q4, .inr (8, [.ref (u5 0), .int (zI 0)])), ((u5 0), cI cy 6 (fun _ => 0)), (q6, .inr (8, [.ref (u7 0), .int (zI 0)])), ((u7 0), cI cy 6 (fun _ => 0))] := hD
  refine va_astq S.1 S.2.1 hK.1.1 hP hD hS 1 3 6 8 (r := (RX10, TX10, 2)) rfl rfl rfl rfl (vp_in_iff.mpr ⟨by decide, by decide⟩) dX2_init_50 (fun H locs hP hD hS => ?_)
  have hP : va_P D vwCl [(h0, .inr (2, [.ref q1, .ref q2, .int (zI 0)])), (q1, .inl (cy 3, 3, .inr (.inr (.inr (.inr (va_up (va_up (fun _ => none) (zI 0).toNatClampNeg (some q4)) (zI 1).toNatClampNeg (some q6))))))), (q2, .inr (8, [.ref (u3 0), .int (zI 0)])), ((u3 0), cI cy 0 (fun _ => 0)), (q4, .inr (8, [.ref (u5 0), .int (zI 0)])), ((u5 0), cI cy 6 (fun _ => 0)), (q6, .inr (8, [.ref (u7 0), .int (zI 0)])), ((u7 0), cI cy 6 (fun _ => 0))] H := hP
  have hD : va_D A [(h0, .inr (2, [.ref q1, .ref q2, .int (zI 0)])), (q1, .inl (cy 3, 3, .inr (.inr (.inr (.inr (va_up (va_up (fun _ => none) (zI 0).toNatClampNeg (some q4)) (zI 1).toNatClampNeg (some q6))))))), (q2, .inr (8, [.ref (u3 0), .int (zI 0)])), ((u3 0), cI cy 0 (fun _ => 0)), (q4, .inr (8, [.ref (u5 0), .int (zI 0)])), ((u5 0), cI cy 6 (fun _ => 0)), (q6, .inr (8, [.ref (u7 0), .int (zI 0)])), ((u7 0), cI cy 6 (fun _ => 0))] := hD
  refine r_iinc S (x := 2) rfl (k0 := 0) (lv2 := [(1, .int (zI 2)), (0, .ref h0)]) dX2_init_51 hl rfl (by decide) rfl (fun ls hl => ?_)
  refine lv_goto (tgt := 31) S.1 S.2.1 dX2_init_54 (by decide) ?_
  refine lv_iload_n S.1 S.2.1 dX2_init_31 rfl (lv_at hl 0 rfl) ?_
  refine r_iconst S dX2_init_32 ?_
  refine lv_icmp_ge (tgt := 57) S.1 S.2.1 dX2_init_33 (by decide) (fun c => absurd c (by decide)) (fun _ => ?_)
  refine lv_aload_n S.1 S.2.1 dX2_init_36 rfl (lv_at hl 1 rfl) ?_
  refine va_get (D := D) S.1 S.2.1 (ci := 2) S.2.2.2.2 (mem_places _ [17, 18, 19] (by decide +kernel)) S.2.2.2.1 hK.1.1 hP 0 rfl rfl 0 (by decide) (S.2.2.2.2 (.fieldLink RX2 11 "MendTexts$Examples" "words" "[LMendTexts$Word;") (List.mem_of_getElem? (i := 5) (by decide +kernel))) (fun _ h9 => h9) rfl dX2_init_37 ?_
  refine lv_iload_n S.1 S.2.1 dX2_init_40 rfl (lv_at hl 0 rfl) ?_
  refine va_new (D := D) (ci := 8) (fs := [.null, .int (zI 0)]) (C := RX10) (T := TX10) (N := 2) S.1 S.2.1 S.2.2.2.2 (mem_places _ [20, 21] (by decide +kernel)) tyX10 tyX10_ok S.2.2.2.1 (S.2.2.2.2 (.classLink RX2 9 RX10) (List.mem_of_getElem? (i := 4) (by decide +kernel))) (S.2.2.2.2 (.instantiable RX10 2) (List.mem_of_getElem? (i := 6) (by decide +kernel))) (S.2.2.2.2 (.initialized RX10) (List.mem_of_getElem? (i := 7) (by decide +kernel))) hK.1.1 hP hD hS hA rfl (fun j hj => by rcases (show j = 0 ∨ j = 1 by omega) with rfl | rfl <;> rfl) (Nat.le_of_ble_eq_true rfl) (Nat.le_of_ble_eq_true rfl) dX2_init_41 (fun q8 H hP hD hS => ?_)
  have hP : va_P D vwCl [(h0, .inr (2, [.ref q1, .ref q2, .int (zI 0)])), (q1, .inl (cy 3, 3, .inr (.inr (.inr (.inr (va_up (va_up (fun _ => none) (zI 0).toNatClampNeg (some q4)) (zI 1).toNatClampNeg (some q6))))))), (q2, .inr (8, [.ref (u3 0), .int (zI 0)])), ((u3 0), cI cy 0 (fun _ => 0)), (q4, .inr (8, [.ref (u5 0), .int (zI 0)])), ((u5 0), cI cy 6 (fun _ => 0)), (q6, .inr (8, [.ref (u7 0), .int (zI 0)])), ((u7 0), cI cy 6 (fun _ => 0)), (q8, .inr (8, [.null, .int (zI 0)]))] H := hP
  have hD : va_D A [(h0, .inr (2, [.ref q1, .ref q2, .int (zI 0)])), (q1, .inl (cy 3, 3, .inr (.inr (.inr (.inr (va_up (va_up (fun _ => none) (zI 0).toNatClampNeg (some q4)) (zI 1).toNatClampNeg (some q6))))))), (q2, .inr (8, [.ref (u3 0), .int (zI 0)])), ((u3 0), cI cy 0 (fun _ => 0)), (q4, .inr (8, [.ref (u5 0), .int (zI 0)])), ((u5 0), cI cy 6 (fun _ => 0)), (q6, .inr (8, [.ref (u7 0), .int (zI 0)])), ((u7 0), cI cy 6 (fun _ => 0)), (q8, .inr (8, [.null, .int (zI 0)]))] := hD
  refine lv_dup S.1 S.2.1 dX2_init_44 rfl ?_
  refine r_bipush S dX2_init_45 (by decide) ?_
  have hPc := hP.sub (ws' := [(q8, .inr (8, [.null, .int (zI 0)]))]) [8] rfl
  have hDc := hD.sub (ws' := [(q8, .inr (8, [.null, .int (zI 0)]))]) [8] (by decide) rfl
  have hFc := va_free (wc := [(q8, .inr (8, [.null, .int (zI 0)]))]) hD hS hA [8] rfl
  refine va_callv (va_runI (As := [.int (zI 6)]) (rest := [.ref q8, .int (zI 2), .ref q1]) S (c_X10_init_6 l D cy q8 H.size) (cwI 1 S.2.2.2.2 gX2_init_X10_init rfl rfl rfl (S.2.2.2.2 (.initialized RX10) (List.mem_of_getElem? (i := 7) (by decide +kernel))) (S.2.2.2.2 (.methodLink RX2 17 yX10_init) (List.mem_of_getElem? (i := 10) (by decide +kernel))) (S.2.2.2.2 (.instanceMethod yX10_init) (List.mem_of_getElem? (i := 11) (by decide +kernel))) rfl (by decide +kernel) ⟨Nat.le_of_ble_eq_true rfl, Nat.le_of_ble_eq_true rfl⟩) ⟨blindX _ _ _, fun U hU hW => ⟨rfl, by rw [hU], by rw [hU]; exact hPc, hK.moved hW, hDc.weaken (fun _ _ _ _ => trivial)⟩⟩ rfl rfl hl.1 rfl (lv_room (Nat.le_of_ble_eq_true rfl)) dX2_init_47 ⟨Nat.le_of_ble_eq_true rfl, Nat.le_of_ble_eq_true rfl⟩) hS (fun q _ h => hFc q h) hFc (fun u9 t H1 locs ht hvm hw hB hz1 hk1 hS => ?_)
  obtain ⟨hP1, hD1⟩ := hB
  rw [ht] at hP1
  obtain ⟨hP, hD⟩ := va_join (wr := [(h0, .inr (2, [.ref q1, .ref q2, .int (zI 0)])), (q1, .inl (cy 3, 3, .inr (.inr (.inr (.inr (va_up (va_up (fun _ => none) (zI 0).toNatClampNeg (some q4)) (zI 1).toNatClampNeg (some q6))))))), (q2, .inr (8, [.ref (u3 0), .int (zI 0)])), ((u3 0), cI cy 0 (fun _ => 0)), (q4, .inr (8, [.ref (u5 0), .int (zI 0)])), ((u5 0), cI cy 6 (fun _ => 0)), (q6, .inr (8, [.ref (u7 0), .int (zI 0)])), ((u7 0), cI cy 6 (fun _ => 0))]) (w1 := [(q8, .inr (8, [.ref (u9 0), .int (zI 0)])), ((u9 0), cI cy 6 (fun _ => 0))]) hP hD [8] [0, 1, 2, 3, 4, 5, 6, 7] rfl rfl (by decide) (by decide) hk1 hFc hP1 hD1
  generalize H1 = H at hP hS ⊢
  have hP : va_P D vwCl [(h0, .inr (2, [.ref q1, .ref q2, .int (zI 0)])), (q1, .inl (cy 3, 3, .inr (.inr (.inr (.inr (va_up (va_up (fun _ => none) (zI 0).toNatClampNeg (some q4)) (zI 1).toNatClampNeg (some q6))))))), (q2, .inr (8, [.ref (u3 0), .int (zI 0)])), ((u3 0), cI cy 0 (fun _ => 0)), (q4, .inr (8, [.ref (u5 0), .int (zI 0)])), ((u5 0), cI cy 6 (fun _ => 0)), (q6, .inr (8, [.ref (u7 0), .int (zI 0)])), ((u7 0), cI cy 6 (fun _ => 0)), (q8, .inr (8, [.ref (u9 0), .int (zI 0)])), ((u9 0), cI cy 6 (fun _ => 0))] H := hP
  have hD : va_D A [(h0, .inr (2, [.ref q1, .ref q2, .int (zI 0)])), (q1, .inl (cy 3, 3, .inr (.inr (.inr (.inr (va_up (va_up (fun _ => none) (zI 0).toNatClampNeg (some q4)) (zI 1).toNatClampNeg (some q6))))))), (q2, .inr (8, [.ref (u3 0), .int (zI 0)])), ((u3 0), cI cy 0 (fun _ => 0)), (q4, .inr (8, [.ref (u5 0), .int (zI 0)])), ((u5 0), cI cy 6 (fun _ => 0)), (q6, .inr (8, [.ref (u7 0), .int (zI 0)])), ((u7 0), cI cy 6 (fun _ => 0)), (q8, .inr (8, [.ref (u9 0), .int (zI 0)])), ((u9 0), cI cy 6 (fun _ => 0))] := hD
  refine va_astq S.1 S.2.1 hK.1.1 hP hD hS 1 3 8 8 (r := (RX10, TX10, 2)) rfl rfl rfl rfl (vp_in_iff.mpr ⟨by decide, by decide⟩) dX2_init_50 (fun H locs hP hD hS => ?_)
  have hP : va_P D vwCl [(h0, .inr (2, [.ref q1, .ref q2, .int (zI 0)])), (q1, .inl (cy 3, 3, .inr (.inr (.inr (.inr (va_up (va_up (va_up (fun _ => none) (zI 0).toNatClampNeg (some q4)) (zI 1).toNatClampNeg (some q6)) (zI 2).toNatClampNeg (some q8))))))), (q2, .inr (8, [.ref (u3 0), .int (zI 0)])), ((u3 0), cI cy 0 (fun _ => 0)), (q4, .inr (8, [.ref (u5 0), .int (zI 0)])), ((u5 0), cI cy 6 (fun _ => 0)), (q6, .inr (8, [.ref (u7 0), .int (zI 0)])), ((u7 0), cI cy 6 (fun _ => 0)), (q8, .inr (8, [.ref (u9 0), .int (zI 0)])), ((u9 0), cI cy 6 (fun _ => 0))] H := hP
  have hD : va_D A [(h0, .inr (2, [.ref q1, .ref q2, .int (zI 0)])), (q1, .inl (cy 3, 3, .inr (.inr (.inr (.inr (va_up (va_up (va_up (fun _ => none) (zI 0).toNatClampNeg (some q4)) (zI 1).toNatClampNeg (some q6)) (zI 2).toNatClampNeg (some q8))))))), (q2, .inr (8, [.ref (u3 0), .int (zI 0)])), ((u3 0), cI cy 0 (fun _ => 0)), (q4, .inr (8, [.ref (u5 0), .int (zI 0)])), ((u5 0), cI cy 6 (fun _ => 0)), (q6, .inr (8, [.ref (u7 0), .int (zI 0)])), ((u7 0), cI cy 6 (fun _ => 0)), (q8, .inr (8, [.ref (u9 0), .int (zI 0)])), ((u9 0), cI cy 6 (fun _ => 0))] := hD
  refine r_iinc S (x := 3) rfl (k0 := 0) (lv2 := [(1, .int (zI 3)), (0, .ref h0)]) dX2_init_51 hl rfl (by decide) rfl (fun ls hl => ?_)
  refine lv_goto (tgt := 31) S.1 S.2.1 dX2_init_54 (by decide) ?_
  refine lv_iload_n S.1 S.2.1 dX2_init_31 rfl (lv_at hl 0 rfl) ?_
  refine r_iconst S dX2_init_32 ?_
  refine lv_icmp_ge (tgt := 57) S.1 S.2.1 dX2_init_33 (by decide) (fun _ => ?_) (fun c => absurd c (by decide))
  have hP9 := hP.sub (ws' := [(h0, .inr (2, [.ref q1, .ref q2, .int (zI 0)])), (q1, .inl (cy 3, 3, .inr (.inr (.inr (.inr (va_up (va_up (va_up (fun _ => none) (zI 0).toNatClampNeg (some q4)) (zI 1).toNatClampNeg (some q6)) (zI 2).toNatClampNeg (some q8))))))), (q2, .inr (8, [.ref (u3 0), .int (zI 0)])), ((u3 0), cI cy 0 (fun _ => 0)), (q4, .inr (8, [.ref (u5 0), .int (zI 0)])), ((u5 0), cI cy 6 (fun _ => 0)), (q6, .inr (8, [.ref (u7 0), .int (zI 0)])), ((u7 0), cI cy 6 (fun _ => 0)), (q8, .inr (8, [.ref (u9 0), .int (zI 0)])), ((u9 0), cI cy 6 (fun _ => 0))]) [0, 1, 2, 3, 4, 5, 6, 7, 8, 9] rfl
  have hD9 := hD.sub (ws' := [(h0, .inr (2, [.ref q1, .ref q2, .int (zI 0)])), (q1, .inl (cy 3, 3, .inr (.inr (.inr (.inr (va_up (va_up (va_up (fun _ => none) (zI 0).toNatClampNeg (some q4)) (zI 1).toNatClampNeg (some q6)) (zI 2).toNatClampNeg (some q8))))))), (q2, .inr (8, [.ref (u3 0), .int (zI 0)])), ((u3 0), cI cy 0 (fun _ => 0)), (q4, .inr (8, [.ref (u5 0), .int (zI 0)])), ((u5 0), cI cy 6 (fun _ => 0)), (q6, .inr (8, [.ref (u7 0), .int (zI 0)])), ((u7 0), cI cy 6 (fun _ => 0)), (q8, .inr (8, [.ref (u9 0), .int (zI 0)])), ((u9 0), cI cy 6 (fun _ => 0))]) [0, 1, 2, 3, 4, 5, 6, 7, 8, 9] (by decide) rfl
  exact W.vret S.1 S.2.1 hr (fun t ht hW => ⟨⟨(fun i => ([q1, q2, (u3 0), q4, (u5 0), q6, (u7 0), q8, (u9 0)] : List Nat).getD i 0), rfl, trivial, by rw [ht]; exact hP9, hD9⟩, hS.F ht⟩) hS.2.2 dX2_init_57 hlk
def rm_X0_init : Room := { frames := 1, cells := 2, slots := 2946, locals := 12 }
set_option maxHeartbeats 4000000 in
set_option maxRecDepth 100000 in
theorem c_X0_init (l : Launch) (D : va_G) (cy : Nat → ClassId) (h0 sz : Nat) (a1 : Nat) (a2 : Nat) (a3 : Nat) : Met l yX0_init wsX0_init rm_X0_init (va_Pc [.ref h0, .ref a1, .ref a2, .ref a3] (PreX D cy sz [(h0, .inr (0, [.null, .null, .null, .null, .null]))])) (va_Qv (fun (_ : Nat → Nat) => True) (fun u t => va_P D vwCl [(h0, .inr (0, [.ref a1, .ref a2, .ref a3, .ref (u 0), .ref (u 1)])), ((u 0), cJ cy 2940 (fun _ => 0)), ((u 1), cI cy 6 (fun _ => 0))] t.heap ∧ va_D (va_A [(h0, .inr (0, [.null, .null, .null, .null, .null]))] sz) [(h0, .inr (0, [.ref a1, .ref a2, .ref a3, .ref (u 0), .ref (u 1)])), ((u 0), cJ cy 2940 (fun _ => 0)), ((u 1), cI cy 6 (fun _ => 0))]) (va_A [(h0, .inr (0, [.null, .null, .null, .null, .null]))] sz)) 2 2946 (va_A [(h0, .inr (0, [.null, .null, .null, .null, .null]))] sz) := by
  refine Met.ofW (cc := cX0_init) (maxL := 4) (ret := none) (by decide) rfl ?_
  intro p e s m args below meth c s₁ B hml hv
  obtain ⟨rfl, hsz, hP, hK, hD0⟩ := hv
  have hts := atoms_spec (ws := wsX0_init) B.pre
  have hown : s.vm.findClass RX0 = some m.cls := findClass_of_methodNamed B.named
  have S : CallFix p m c cX0_init 4 s _ wsX0_init RX0 := ⟨B.exec, B.bytes, hml, hown, hts⟩
  have hr := B.returns
  have hlk := B.notSynchronized
  have hin : meth.name = "<init>" := (name_of_methodNamed B.named B.method).1
  subst hsz
  have hD := hD0.self (sz := s.heap.size)
  generalize hAe : va_A [(h0, .inr (0, [.null, .null, .null, .null, .null]))] s.heap.size = A at hD ⊢
  have hA : ∀ q : Nat, s.heap.size ≤ q → A q := fun q h => by rw [← hAe]; exact Or.inr h
  have hS : va_S A s.heap s.heap [] := va_S.rf
  have hP : va_P D vwCl [(h0, .inr (0, [.null, .null, .null, .null, .null]))] s.heap := hP
  have hl := lv_entry ([.ref h0, .ref a1, .ref a2, .ref a3]) (n := 4) (Nat.le_of_ble_eq_true rfl)
  rw [lg_entry_eq]
  generalize (lg_sl ([.ref h0, .ref a1, .ref a2, .ref a3]) ++ List.replicate (4 - (lg_sl ([.ref h0, .ref a1, .ref a2, .ref a3])).length) Slot.unset).toArray = ls at hl ⊢
  have hl : lv_has ls 4 [(0, .ref h0), (1, .ref a1), (2, .ref a2), (3, .ref a3)] := hl
  refine lv_aload_n S.1 S.2.1 dX0_init_0 rfl (lv_at hl 0 rfl) ?_
  refine W.objInit S.1 S.2.1 S.2.2.2.1 (S.2.2.2.2 (.methodLink RX0 5 objectInit) (List.mem_of_getElem? (i := 1) (by decide +kernel))) (S.2.2.2.2 (.instanceMethod objectInit) (List.mem_of_getElem? (i := 2) (by decide +kernel))) (S.2.2.2.2 _ (List.mem_of_getElem? (i := 3) rfl)) rfl (by rw [S.2.2.1]; exact hl.1) rfl dX0_init_1 (Nat.le_of_ble_eq_true rfl) (Nat.le_of_ble_eq_true rfl) ?_
  refine W.eq (g2 := F0 m 4 ls []) rfl ?_
  refine lv_aload_n S.1 S.2.1 dX0_init_4 rfl (lv_at hl 0 rfl) ?_
  refine r_sipush S dX0_init_5 (by decide) ?_
  refine x_newaJ S hK.1 hP hD hS hA (List.mem_of_getElem? (i := 4) (by decide +kernel)) (n := 2940) (N2 := 2940) (by decide) (by decide) (Nat.le_of_ble_eq_true rfl) (Nat.le_of_ble_eq_true rfl) (Nat.le_of_ble_eq_true rfl) dX0_init_8 (fun q1 H hP hD hS => ?_)
  have hP : va_P D vwCl [(h0, .inr (0, [.null, .null, .null, .null, .null])), (q1, cJ cy 2940 (fun _ => 0))] H := hP
  have hD : va_D A [(h0, .inr (0, [.null, .null, .null, .null, .null])), (q1, cJ cy 2940 (fun _ => 0))] := hD
  refine va_putF (D := D) S.1 S.2.1 (ci := 0) (v := .ref q1) S.2.2.2.2 (mem_places _ [11, 12, 13, 14, 15] (by decide +kernel)) tyX0 tyX0_ok nmX0 S.2.2.2.1 hK.1.1 hP hD hS 0 rfl rfl 3 (by decide) (S.2.2.2.2 (.fieldLink RX0 13 "MendTexts$Chart" "fits" "[J") (List.mem_of_getElem? (i := 5) (by decide +kernel))) (fun _ h9 => h9) rfl hin rfl (tyX0_ok 3 (by decide)) rfl rfl (Nat.le_of_ble_eq_true rfl) dX0_init_10 (fun H locs hP hD hS => ?_)
  have hP : va_P D vwCl [(h0, .inr (0, [.null, .null, .null, .ref q1, .null])), (q1, cJ cy 2940 (fun _ => 0))] H := hP
  have hD : va_D A [(h0, .inr (0, [.null, .null, .null, .ref q1, .null])), (q1, cJ cy 2940 (fun _ => 0))] := hD
  refine lv_aload_n S.1 S.2.1 dX0_init_13 rfl (lv_at hl 0 rfl) ?_
  refine r_bipush S dX0_init_14 (by decide) ?_
  refine x_newaI S hK.1 hP hD hS hA (List.mem_of_getElem? (i := 6) (by decide +kernel)) (n := 6) (N2 := 6) (by decide) (by decide) (Nat.le_of_ble_eq_true rfl) (Nat.le_of_ble_eq_true rfl) (Nat.le_of_ble_eq_true rfl) dX0_init_16 (fun q2 H hP hD hS => ?_)
  have hP : va_P D vwCl [(h0, .inr (0, [.null, .null, .null, .ref q1, .null])), (q1, cJ cy 2940 (fun _ => 0)), (q2, cI cy 6 (fun _ => 0))] H := hP
  have hD : va_D A [(h0, .inr (0, [.null, .null, .null, .ref q1, .null])), (q1, cJ cy 2940 (fun _ => 0)), (q2, cI cy 6 (fun _ => 0))] := hD
  refine va_putF (D := D) S.1 S.2.1 (ci := 0) (v := .ref q2) S.2.2.2.2 (mem_places _ [11, 12, 13, 14, 15] (by decide +kernel)) tyX0 tyX0_ok nmX0 S.2.2.2.1 hK.1.1 hP hD hS 0 rfl rfl 4 (by decide) (S.2.2.2.2 (.fieldLink RX0 17 "MendTexts$Chart" "users" "[I") (List.mem_of_getElem? (i := 7) (by decide +kernel))) (fun _ h9 => h9) rfl hin rfl (tyX0_ok 4 (by decide)) rfl rfl (Nat.le_of_ble_eq_true rfl) dX0_init_18 (fun H locs hP hD hS => ?_)
  have hP : va_P D vwCl [(h0, .inr (0, [.null, .null, .null, .ref q1, .ref q2])), (q1, cJ cy 2940 (fun _ => 0)), (q2, cI cy 6 (fun _ => 0))] H := hP
  have hD : va_D A [(h0, .inr (0, [.null, .null, .null, .ref q1, .ref q2])), (q1, cJ cy 2940 (fun _ => 0)), (q2, cI cy 6 (fun _ => 0))] := hD
  refine lv_aload_n S.1 S.2.1 dX0_init_21 rfl (lv_at hl 0 rfl) ?_
  refine lv_aload_n S.1 S.2.1 dX0_init_22 rfl (lv_at hl 1 rfl) ?_
  refine va_putF (D := D) S.1 S.2.1 (ci := 0) (v := .ref a1) S.2.2.2.2 (mem_places _ [11, 12, 13, 14, 15] (by decide +kernel)) tyX0 tyX0_ok nmX0 S.2.2.2.1 hK.1.1 hP hD hS 0 rfl rfl 0 (by decide) (S.2.2.2.2 (.fieldLink RX0 21 "MendTexts$Chart" "grammar" "LMendTexts$Grammar;") (List.mem_of_getElem? (i := 8) (by decide +kernel))) (fun _ h9 => h9) rfl hin rfl (tyX0_ok 0 (by decide)) rfl rfl (Nat.le_of_ble_eq_true rfl) dX0_init_23 (fun H locs hP hD hS => ?_)
  have hP : va_P D vwCl [(h0, .inr (0, [.ref a1, .null, .null, .ref q1, .ref q2])), (q1, cJ cy 2940 (fun _ => 0)), (q2, cI cy 6 (fun _ => 0))] H := hP
  have hD : va_D A [(h0, .inr (0, [.ref a1, .null, .null, .ref q1, .ref q2])), (q1, cJ cy 2940 (fun _ => 0)), (q2, cI cy 6 (fun _ => 0))] := hD
  refine lv_aload_n S.1 S.2.1 dX0_init_26 rfl (lv_at hl 0 rfl) ?_
  refine lv_aload_n S.1 S.2.1 dX0_init_27 rfl (lv_at hl 2 rfl) ?_
  refine va_putF (D := D) S.1 S.2.1 (ci := 0) (v := .ref a2) S.2.2.2.2 (mem_places _ [11, 12, 13, 14, 15] (by decide +kernel)) tyX0 tyX0_ok nmX0 S.2.2.2.1 hK.1.1 hP hD hS 0 rfl rfl 1 (by decide) (S.2.2.2.2 (.fieldLink RX0 25 "MendTexts$Chart" "costs" "LMendTexts$Costs;") (List.mem_of_getElem? (i := 9) (by decide +kernel))) (fun _ h9 => h9) rfl hin rfl (tyX0_ok 1 (by decide)) rfl rfl (Nat.le_of_ble_eq_true rfl) dX0_init_28 (fun H locs hP hD hS => ?_)
  have hP : va_P D vwCl [(h0, .inr (0, [.ref a1, .ref a2, .null, .ref q1, .ref q2])), (q1, cJ cy 2940 (fun _ => 0)), (q2, cI cy 6 (fun _ => 0))] H := hP
  have hD : va_D A [(h0, .inr (0, [.ref a1, .ref a2, .null, .ref q1, .ref q2])), (q1, cJ cy 2940 (fun _ => 0)), (q2, cI cy 6 (fun _ => 0))] := hD
  refine lv_aload_n S.1 S.2.1 dX0_init_31 rfl (lv_at hl 0 rfl) ?_
  refine lv_aload_n S.1 S.2.1 dX0_init_32 rfl (lv_at hl 3 rfl) ?_
  refine va_put (D := D) S.1 S.2.1 (ci := 0) (v := .ref a3) S.2.2.2.2 (mem_places _ [11, 12, 13, 14, 15] (by decide +kernel)) tyX0 tyX0_ok nmX0 S.2.2.2.1 hK.1.1 hP hD hS 0 rfl rfl 2 (by decide) (S.2.2.2.2 (.fieldLink RX0 29 "MendTexts$Chart" "word" "LMendTexts$Word;") (List.mem_of_getElem? (i := 10) (by decide +kernel))) (fun _ h9 => h9) rfl (tyX0_ok 2 (by decide)) rfl rfl (Nat.le_of_ble_eq_true rfl) dX0_init_33 (fun H locs hP hD hS => ?_)
  have hP : va_P D vwCl [(h0, .inr (0, [.ref a1, .ref a2, .ref a3, .ref q1, .ref q2])), (q1, cJ cy 2940 (fun _ => 0)), (q2, cI cy 6 (fun _ => 0))] H := hP
  have hD : va_D A [(h0, .inr (0, [.ref a1, .ref a2, .ref a3, .ref q1, .ref q2])), (q1, cJ cy 2940 (fun _ => 0)), (q2, cI cy 6 (fun _ => 0))] := hD
  have hP9 := hP.sub (ws' := [(h0, .inr (0, [.ref a1, .ref a2, .ref a3, .ref q1, .ref q2])), (q1, cJ cy 2940 (fun _ => 0)), (q2, cI cy 6 (fun _ => 0))]) [0, 1, 2] rfl
  have hD9 := hD.sub (ws' := [(h0, .inr (0, [.ref a1, .ref a2, .ref a3, .ref q1, .ref q2])), (q1, cJ cy 2940 (fun _ => 0)), (q2, cI cy 6 (fun _ => 0))]) [0, 1, 2] (by decide) rfl
  exact W.vret S.1 S.2.1 hr (fun t ht hW => ⟨⟨(fun i => ([q1, q2] : List Nat).getD i 0), rfl, trivial, by rw [ht]; exact hP9, hD9⟩, hS.F ht⟩) hS.2.2 dX0_init_36 hlk
def rm_X6_init : Room := { frames := 1, cells := 1, slots := 42, locals := 12 }
set_option maxHeartbeats 4000000 in
set_option maxRecDepth 100000 in
theorem c_X6_init (l : Launch) (D : va_G) (cy : Nat → ClassId) (h0 sz : Nat) (a1 : Nat) : Met l yX6_init wsX6_init rm_X6_init (va_Pc [.ref h0, .ref a1] (PreX D cy sz [(h0, .inr (5, [.null, .null]))])) (va_Qv (fun (_ : Nat → Nat) => True) (fun u t => va_P D vwCl [(h0, .inr (5, [.ref a1, .ref (u 0)])), ((u 0), cI cy 42 (fun _ => 0))] t.heap ∧ va_D (va_A [(h0, .inr (5, [.null, .null]))] sz) [(h0, .inr (5, [.ref a1, .ref (u 0)])), ((u 0), cI cy 42 (fun _ => 0))]) (va_A [(h0, .inr (5, [.null, .null]))] sz)) 1 42 (va_A [(h0, .inr (5, [.null, .null]))] sz) := by
  refine Met.ofW (cc := cX6_init) (maxL := 2) (ret := none) (by decide) rfl ?_
  intro p e s m args below meth c s₁ B hml hv
  obtain ⟨rfl, hsz, hP, hK, hD0⟩ := hv
  have hts := atoms_spec (ws := wsX6_init) B.pre
  have hown : s.vm.findClass RX6 = some m.cls := findClass_of_methodNamed B.named
  have S : CallFix p m c cX6_init 2 s _ wsX6_init RX6 := ⟨B.exec, B.bytes, hml, hown, hts⟩
  have hr := B.returns
  have hlk := B.notSynchronized
  have hin : meth.name = "<init>" := (name_of_methodNamed B.named B.method).1
  subst hsz
  have hD := hD0.self (sz := s.heap.size)
  generalize hAe : va_A [(h0, .inr (5, [.null, .null]))] s.heap.size = A at hD ⊢
  have hA : ∀ q : Nat, s.heap.size ≤ q → A q := fun q h => by rw [← hAe]; exact Or.inr h
  have hS : va_S A s.heap s.heap [] := va_S.rf
  have hP : va_P D vwCl [(h0, .inr (5, [.null, .null]))] s.heap := hP
  have hl := lv_entry ([.ref h0, .ref a1]) (n := 2) (Nat.le_of_ble_eq_true rfl)
  rw [lg_entry_eq]
  generalize (lg_sl ([.ref h0, .ref a1]) ++ List.replicate (2 - (lg_sl ([.ref h0, .ref a1])).length) Slot.unset).toArray = ls at hl ⊢
  have hl : lv_has ls 2 [(0, .ref h0), (1, .ref a1)] := hl
  refine lv_aload_n S.1 S.2.1 dX6_init_0 rfl (lv_at hl 0 rfl) ?_
  refine W.objInit S.1 S.2.1 S.2.2.2.1 (S.2.2.2.2 (.methodLink RX6 3 objectInit) (List.mem_of_getElem? (i := 1) (by decide +kernel))) (S.2.2.2.2 (.instanceMethod objectInit) (List.mem_of_getElem? (i := 2) (by decide +kernel))) (S.2.2.2.2 _ (List.mem_of_getElem? (i := 3) rfl)) rfl (by rw [S.2.2.1]; exact hl.1) rfl dX6_init_1 (Nat.le_of_ble_eq_true rfl) (Nat.le_of_ble_eq_true rfl) ?_
  refine W.eq (g2 := F0 m 4 ls []) rfl ?_
  refine lv_aload_n S.1 S.2.1 dX6_init_4 rfl (lv_at hl 0 rfl) ?_
  refine r_bipush S dX6_init_5 (by decide) ?_
  refine x_newaI S hK.1 hP hD hS hA (List.mem_of_getElem? (i := 4) (by decide +kernel)) (n := 42) (N2 := 42) (by decide) (by decide) (Nat.le_of_ble_eq_true rfl) (Nat.le_of_ble_eq_true rfl) (Nat.le_of_ble_eq_true rfl) dX6_init_7 (fun q1 H hP hD hS => ?_)
  have hP : va_P D vwCl [(h0, .inr (5, [.null, .null])), (q1, cI cy 42 (fun _ => 0))] H := hP
  have hD : va_D A [(h0, .inr (5, [.null, .null])), (q1, cI cy 42 (fun _ => 0))] := hD
  refine va_putF (D := D) S.1 S.2.1 (ci := 5) (v := .ref q1) S.2.2.2.2 (mem_places _ [7, 8] (by decide +kernel)) tyX6 tyX6_ok nmX6 S.2.2.2.1 hK.1.1 hP hD hS 0 rfl rfl 1 (by decide) (S.2.2.2.2 (.fieldLink RX6 11 "MendTexts$Reach" "far" "[I") (List.mem_of_getElem? (i := 5) (by decide +kernel))) (fun _ h9 => h9) rfl hin rfl (tyX6_ok 1 (by decide)) rfl rfl (Nat.le_of_ble_eq_true rfl) dX6_init_9 (fun H locs hP hD hS => ?_)
  have hP : va_P D vwCl [(h0, .inr (5, [.null, .ref q1])), (q1, cI cy 42 (fun _ => 0))] H := hP
  have hD : va_D A [(h0, .inr (5, [.null, .ref q1])), (q1, cI cy 42 (fun _ => 0))] := hD
  refine lv_aload_n S.1 S.2.1 dX6_init_12 rfl (lv_at hl 0 rfl) ?_
  refine lv_aload_n S.1 S.2.1 dX6_init_13 rfl (lv_at hl 1 rfl) ?_
  refine va_putF (D := D) S.1 S.2.1 (ci := 5) (v := .ref a1) S.2.2.2.2 (mem_places _ [7, 8] (by decide +kernel)) tyX6 tyX6_ok nmX6 S.2.2.2.1 hK.1.1 hP hD hS 0 rfl rfl 0 (by decide) (S.2.2.2.2 (.fieldLink RX6 17 "MendTexts$Reach" "chart" "LMendTexts$Chart;") (List.mem_of_getElem? (i := 6) (by decide +kernel))) (fun _ h9 => h9) rfl hin rfl (tyX6_ok 0 (by decide)) rfl rfl (Nat.le_of_ble_eq_true rfl) dX6_init_14 (fun H locs hP hD hS => ?_)
  have hP : va_P D vwCl [(h0, .inr (5, [.ref a1, .ref q1])), (q1, cI cy 42 (fun _ => 0))] H := hP
  have hD : va_D A [(h0, .inr (5, [.ref a1, .ref q1])), (q1, cI cy 42 (fun _ => 0))] := hD
  have hP9 := hP.sub (ws' := [(h0, .inr (5, [.ref a1, .ref q1])), (q1, cI cy 42 (fun _ => 0))]) [0, 1] rfl
  have hD9 := hD.sub (ws' := [(h0, .inr (5, [.ref a1, .ref q1])), (q1, cI cy 42 (fun _ => 0))]) [0, 1] (by decide) rfl
  exact W.vret S.1 S.2.1 hr (fun t ht hW => ⟨⟨(fun i => ([q1] : List Nat).getD i 0), rfl, trivial, by rw [ht]; exact hP9, hD9⟩, hS.F ht⟩) hS.2.2 dX6_init_17 hlk
def rm_X7_init : Room := { frames := 1, cells := 2, slots := 182, locals := 12 }
set_option maxHeartbeats 4000000 in
set_option maxRecDepth 100000 in
theorem c_X7_init (l : Launch) (D : va_G) (cy : Nat → ClassId) (h0 sz : Nat) (a1 : Nat) : Met l yX7_init wsX7_init rm_X7_init (va_Pc [.ref h0, .ref a1] (PreX D cy sz [(h0, .inr (6, [.null, .null, .null]))])) (va_Qv (fun (_ : Nat → Nat) => True) (fun u t => va_P D vwCl [(h0, .inr (6, [.ref a1, .ref (u 0), .ref (u 1)])), ((u 0), cI cy 91 (fun _ => 0)), ((u 1), cI cy 91 (fun _ => 0))] t.heap ∧ va_D (va_A [(h0, .inr (6, [.null, .null, .null]))] sz) [(h0, .inr (6, [.ref a1, .ref (u 0), .ref (u 1)])), ((u 0), cI cy 91 (fun _ => 0)), ((u 1), cI cy 91 (fun _ => 0))]) (va_A [(h0, .inr (6, [.null, .null, .null]))] sz)) 2 182 (va_A [(h0, .inr (6, [.null, .null, .null]))] sz) := by
  refine Met.ofW (cc := cX7_init) (maxL := 2) (ret := none) (by decide) rfl ?_
  intro p e s m args below meth c s₁ B hml hv
  obtain ⟨rfl, hsz, hP, hK, hD0⟩ := hv
  have hts := atoms_spec (ws := wsX7_init) B.pre
  have hown : s.vm.findClass RX7 = some m.cls := findClass_of_methodNamed B.named
  have S : CallFix p m c cX7_init 2 s _ wsX7_init RX7 := ⟨B.exec, B.bytes, hml, hown, hts⟩
  have hr := B.returns
  have hlk := B.notSynchronized
  have hin : meth.name = "<init>" := (name_of_methodNamed B.named B.method).1
  subst hsz
  have hD := hD0.self (sz := s.heap.size)
  generalize hAe : va_A [(h0, .inr (6, [.null, .null, .null]))] s.heap.size = A at hD ⊢
  have hA : ∀ q : Nat, s.heap.size ≤ q → A q := fun q h => by rw [← hAe]; exact Or.inr h
  have hS : va_S A s.heap s.heap [] := va_S.rf
  have hP : va_P D vwCl [(h0, .inr (6, [.null, .null, .null]))] s.heap := hP
  have hl := lv_entry ([.ref h0, .ref a1]) (n := 2) (Nat.le_of_ble_eq_true rfl)
  rw [lg_entry_eq]
  generalize (lg_sl ([.ref h0, .ref a1]) ++ List.replicate (2 - (lg_sl ([.ref h0, .ref a1])).length) Slot.unset).toArray = ls at hl ⊢
  have hl : lv_has ls 2 [(0, .ref h0), (1, .ref a1)] := hl
  refine lv_aload_n S.1 S.2.1 dX7_init_0 rfl (lv_at hl 0 rfl) ?_
  refine W.objInit S.1 S.2.1 S.2.2.2.1 (S.2.2.2.2 (.methodLink RX7 3 objectInit) (List.mem_of_getElem? (i := 1) (by decide +kernel))) (S.2.2.2.2 (.instanceMethod objectInit) (List.mem_of_getElem? (i := 2) (by decide +kernel))) (S.2.2.2.2 _ (List.mem_of_getElem? (i := 3) rfl)) rfl (by rw [S.2.2.1]; exact hl.1) rfl dX7_init_1 (Nat.le_of_ble_eq_true rfl) (Nat.le_of_ble_eq_true rfl) ?_
  refine W.eq (g2 := F0 m 4 ls []) rfl ?_
  refine lv_aload_n S.1 S.2.1 dX7_init_4 rfl (lv_at hl 0 rfl) ?_
  refine r_bipush S dX7_init_5 (by decide) ?_
  refine x_newaI S hK.1 hP hD hS hA (List.mem_of_getElem? (i := 4) (by decide +kernel)) (n := 91) (N2 := 91) (by decide) (by decide) (Nat.le_of_ble_eq_true rfl) (Nat.le_of_ble_eq_true rfl) (Nat.le_of_ble_eq_true rfl) dX7_init_7 (fun q1 H hP hD hS => ?_)
  have hP : va_P D vwCl [(h0, .inr (6, [.null, .null, .null])), (q1, cI cy 91 (fun _ => 0))] H := hP
  have hD : va_D A [(h0, .inr (6, [.null, .null, .null])), (q1, cI cy 91 (fun _ => 0))] := hD
  refine va_putF (D := D) S.1 S.2.1 (ci := 6) (v := .ref q1) S.2.2.2.2 (mem_places _ [8, 9, 10] (by decide +kernel)) tyX7 tyX7_ok nmX7 S.2.2.2.1 hK.1.1 hP hD hS 0 rfl rfl 1 (by decide) (S.2.2.2.2 (.fieldLink RX7 11 "MendTexts$Rows" "leasts" "[I") (List.mem_of_getElem? (i := 5) (by decide +kernel))) (fun _ h9 => h9) rfl hin rfl (tyX7_ok 1 (by decide)) rfl rfl (Nat.le_of_ble_eq_true rfl) dX7_init_9 (fun H locs hP hD hS => ?_)
  have hP : va_P D vwCl [(h0, .inr (6, [.null, .ref q1, .null])), (q1, cI cy 91 (fun _ => 0))] H := hP
  have hD : va_D A [(h0, .inr (6, [.null, .ref q1, .null])), (q1, cI cy 91 (fun _ => 0))] := hD
  refine lv_aload_n S.1 S.2.1 dX7_init_12 rfl (lv_at hl 0 rfl) ?_
  refine r_bipush S dX7_init_13 (by decide) ?_
  refine x_newaI S hK.1 hP hD hS hA (List.mem_of_getElem? (i := 4) (by decide +kernel)) (n := 91) (N2 := 91) (by decide) (by decide) (Nat.le_of_ble_eq_true rfl) (Nat.le_of_ble_eq_true rfl) (Nat.le_of_ble_eq_true rfl) dX7_init_15 (fun q2 H hP hD hS => ?_)
  have hP : va_P D vwCl [(h0, .inr (6, [.null, .ref q1, .null])), (q1, cI cy 91 (fun _ => 0)), (q2, cI cy 91 (fun _ => 0))] H := hP
  have hD : va_D A [(h0, .inr (6, [.null, .ref q1, .null])), (q1, cI cy 91 (fun _ => 0)), (q2, cI cy 91 (fun _ => 0))] := hD
  refine va_putF (D := D) S.1 S.2.1 (ci := 6) (v := .ref q2) S.2.2.2.2 (mem_places _ [8, 9, 10] (by decide +kernel)) tyX7 tyX7_ok nmX7 S.2.2.2.1 hK.1.1 hP hD hS 0 rfl rfl 2 (by decide) (S.2.2.2.2 (.fieldLink RX7 15 "MendTexts$Rows" "counts" "[I") (List.mem_of_getElem? (i := 6) (by decide +kernel))) (fun _ h9 => h9) rfl hin rfl (tyX7_ok 2 (by decide)) rfl rfl (Nat.le_of_ble_eq_true rfl) dX7_init_17 (fun H locs hP hD hS => ?_)
  have hP : va_P D vwCl [(h0, .inr (6, [.null, .ref q1, .ref q2])), (q1, cI cy 91 (fun _ => 0)), (q2, cI cy 91 (fun _ => 0))] H := hP
  have hD : va_D A [(h0, .inr (6, [.null, .ref q1, .ref q2])), (q1, cI cy 91 (fun _ => 0)), (q2, cI cy 91 (fun _ => 0))] := hD
  refine lv_aload_n S.1 S.2.1 dX7_init_20 rfl (lv_at hl 0 rfl) ?_
  refine lv_aload_n S.1 S.2.1 dX7_init_21 rfl (lv_at hl 1 rfl) ?_
  refine va_putF (D := D) S.1 S.2.1 (ci := 6) (v := .ref a1) S.2.2.2.2 (mem_places _ [8, 9, 10] (by decide +kernel)) tyX7 tyX7_ok nmX7 S.2.2.2.1 hK.1.1 hP hD hS 0 rfl rfl 0 (by decide) (S.2.2.2.2 (.fieldLink RX7 18 "MendTexts$Rows" "costs" "LMendTexts$Costs;") (List.mem_of_getElem? (i := 7) (by decide +kernel))) (fun _ h9 => h9) rfl hin rfl (tyX7_ok 0 (by decide)) rfl rfl (Nat.le_of_ble_eq_true rfl) dX7_init_22 (fun H locs hP hD hS => ?_)
  have hP : va_P D vwCl [(h0, .inr (6, [.ref a1, .ref q1, .ref q2])), (q1, cI cy 91 (fun _ => 0)), (q2, cI cy 91 (fun _ => 0))] H := hP
  have hD : va_D A [(h0, .inr (6, [.ref a1, .ref q1, .ref q2])), (q1, cI cy 91 (fun _ => 0)), (q2, cI cy 91 (fun _ => 0))] := hD
  have hP9 := hP.sub (ws' := [(h0, .inr (6, [.ref a1, .ref q1, .ref q2])), (q1, cI cy 91 (fun _ => 0)), (q2, cI cy 91 (fun _ => 0))]) [0, 1, 2] rfl
  have hD9 := hD.sub (ws' := [(h0, .inr (6, [.ref a1, .ref q1, .ref q2])), (q1, cI cy 91 (fun _ => 0)), (q2, cI cy 91 (fun _ => 0))]) [0, 1, 2] (by decide) rfl
  exact W.vret S.1 S.2.1 hr (fun t ht hW => ⟨⟨(fun i => ([q1, q2] : List Nat).getD i 0), rfl, trivial, by rw [ht]; exact hP9, hD9⟩, hS.F ht⟩) hS.2.2 dX7_init_25 hlk
def rm_X9_init : Room := { frames := 1, cells := 0, slots := 0, locals := 12 }
set_option maxHeartbeats 4000000 in
set_option maxRecDepth 100000 in
theorem c_X9_init (l : Launch) (D : va_G) (cy : Nat → ClassId) (h0 sz : Nat) (a1 : Nat) (a2 : Nat) (a3 : Nat) : Met l yX9_init wsX9_init rm_X9_init (va_Pc [.ref h0, .ref a1, .ref a2, .ref a3] (PreX D cy sz [(h0, .inr (7, [.null, .null, .null, .int (zI 0), .int (zI 0), .int (zI 0)]))])) (va_Qv (fun (_ : Nat → Nat) => True) (fun u t => va_P D vwCl [(h0, .inr (7, [.ref a1, .ref a2, .ref a3, .int (zI (-1)), .int (zI 1073741824), .int (zI 0)]))] t.heap ∧ va_D (va_A [(h0, .inr (7, [.null, .null, .null, .int (zI 0), .int (zI 0), .int (zI 0)]))] sz) [(h0, .inr (7, [.ref a1, .ref a2, .ref a3, .int (zI (-1)), .int (zI 1073741824), .int (zI 0)]))]) (va_A [(h0, .inr (7, [.null, .null, .null, .int (zI 0), .int (zI 0), .int (zI 0)]))] sz)) 0 0 (va_A [(h0, .inr (7, [.null, .null, .null, .int (zI 0), .int (zI 0), .int (zI 0)]))] sz) := by
  refine Met.ofW (cc := cX9_init) (maxL := 4) (ret := none) (by decide) rfl ?_
  intro p e s m args below meth c s₁ B hml hv
  obtain ⟨rfl, hsz, hP, hK, hD0⟩ := hv
  have hts := atoms_spec (ws := wsX9_init) B.pre
  have hown : s.vm.findClass RX9 = some m.cls := findClass_of_methodNamed B.named
  have S : CallFix p m c cX9_init 4 s _ wsX9_init RX9 := ⟨B.exec, B.bytes, hml, hown, hts⟩
  have hr := B.returns
  have hlk := B.notSynchronized
  have hin : meth.name = "<init>" := (name_of_methodNamed B.named B.method).1
  subst hsz
  have hD := hD0.self (sz := s.heap.size)
  generalize hAe : va_A [(h0, .inr (7, [.null, .null, .null, .int (zI 0), .int (zI 0), .int (zI 0)]))] s.heap.size = A at hD ⊢
  have hA : ∀ q : Nat, s.heap.size ≤ q → A q := fun q h => by rw [← hAe]; exact Or.inr h
  have hS : va_S A s.heap s.heap [] := va_S.rf
  have hP : va_P D vwCl [(h0, .inr (7, [.null, .null, .null, .int (zI 0), .int (zI 0), .int (zI 0)]))] s.heap := hP
  have hl := lv_entry ([.ref h0, .ref a1, .ref a2, .ref a3]) (n := 4) (Nat.le_of_ble_eq_true rfl)
  rw [lg_entry_eq]
  generalize (lg_sl ([.ref h0, .ref a1, .ref a2, .ref a3]) ++ List.replicate (4 - (lg_sl ([.ref h0, .ref a1, .ref a2, .ref a3])).length) Slot.unset).toArray = ls at hl ⊢
  have hl : lv_has ls 4 [(0, .ref h0), (1, .ref a1), (2, .ref a2), (3, .ref a3)] := hl
  refine lv_aload_n S.1 S.2.1 dX9_init_0 rfl (lv_at hl 0 rfl) ?_
  refine W.objInit S.1 S.2.1 S.2.2.2.1 (S.2.2.2.2 (.methodLink RX9 3 objectInit) (List.mem_of_getElem? (i := 1) (by decide +kernel))) (S.2.2.2.2 (.instanceMethod objectInit) (List.mem_of_getElem? (i := 2) (by decide +kernel))) (S.2.2.2.2 _ (List.mem_of_getElem? (i := 3) rfl)) rfl (by rw [S.2.2.1]; exact hl.1) rfl dX9_init_1 (Nat.le_of_ble_eq_true rfl) (Nat.le_of_ble_eq_true rfl) ?_
  refine W.eq (g2 := F0 m 4 ls []) rfl ?_
  refine lv_aload_n S.1 S.2.1 dX9_init_4 rfl (lv_at hl 0 rfl) ?_
  refine r_iconst S dX9_init_5 ?_
  refine va_put (D := D) S.1 S.2.1 (ci := 7) (v := .int (zI (-1))) S.2.2.2.2 (mem_places _ [11, 12, 13, 14, 15, 16] (by decide +kernel)) tyX9 tyX9_ok nmX9 S.2.2.2.1 hK.1.1 hP hD hS 0 rfl rfl 3 (by decide) (S.2.2.2.2 (.fieldLink RX9 9 "MendTexts$Search" "nameSought" "I") (List.mem_of_getElem? (i := 4) (by decide +kernel))) (fun _ h9 => h9) rfl (tyX9_ok 3 (by decide)) rfl rfl (Nat.le_of_ble_eq_true rfl) dX9_init_6 (fun H locs hP hD hS => ?_)
  have hP : va_P D vwCl [(h0, .inr (7, [.null, .null, .null, .int (zI (-1)), .int (zI 0), .int (zI 0)]))] H := hP
  have hD : va_D A [(h0, .inr (7, [.null, .null, .null, .int (zI (-1)), .int (zI 0), .int (zI 0)]))] := hD
  refine lv_aload_n S.1 S.2.1 dX9_init_9 rfl (lv_at hl 0 rfl) ?_
  refine r_ldc S (v := 1073741824) 1073741824 (by decide +kernel) (List.mem_of_getElem? (i := 5) (by decide +kernel)) dX9_init_10 ?_
  refine va_put (D := D) S.1 S.2.1 (ci := 7) (v := .int (zI 1073741824)) S.2.2.2.2 (mem_places _ [11, 12, 13, 14, 15, 16] (by decide +kernel)) tyX9 tyX9_ok nmX9 S.2.2.2.1 hK.1.1 hP hD hS 0 rfl rfl 4 (by decide) (S.2.2.2.2 (.fieldLink RX9 16 "MendTexts$Search" "bestTotal" "I") (List.mem_of_getElem? (i := 6) (by decide +kernel))) (fun _ h9 => h9) rfl (tyX9_ok 4 (by decide)) rfl rfl (Nat.le_of_ble_eq_true rfl) dX9_init_12 (fun H locs hP hD hS => ?_)
  have hP : va_P D vwCl [(h0, .inr (7, [.null, .null, .null, .int (zI (-1)), .int (zI 1073741824), .int (zI 0)]))] H := hP
  have hD : va_D A [(h0, .inr (7, [.null, .null, .null, .int (zI (-1)), .int (zI 1073741824), .int (zI 0)]))] := hD
  refine lv_aload_n S.1 S.2.1 dX9_init_15 rfl (lv_at hl 0 rfl) ?_
  refine r_iconst S dX9_init_16 ?_
  refine va_put (D := D) S.1 S.2.1 (ci := 7) (v := .int (zI 0)) S.2.2.2.2 (mem_places _ [11, 12, 13, 14, 15, 16] (by decide +kernel)) tyX9 tyX9_ok nmX9 S.2.2.2.1 hK.1.1 hP hD hS 0 rfl rfl 5 (by decide) (S.2.2.2.2 (.fieldLink RX9 19 "MendTexts$Search" "bestNumber" "I") (List.mem_of_getElem? (i := 7) (by decide +kernel))) (fun _ h9 => h9) rfl (tyX9_ok 5 (by decide)) rfl rfl (Nat.le_of_ble_eq_true rfl) dX9_init_17 (fun H locs hP hD hS => ?_)
  have hP : va_P D vwCl [(h0, .inr (7, [.null, .null, .null, .int (zI (-1)), .int (zI 1073741824), .int (zI 0)]))] H := hP
  have hD : va_D A [(h0, .inr (7, [.null, .null, .null, .int (zI (-1)), .int (zI 1073741824), .int (zI 0)]))] := hD
  refine lv_aload_n S.1 S.2.1 dX9_init_20 rfl (lv_at hl 0 rfl) ?_
  refine lv_aload_n S.1 S.2.1 dX9_init_21 rfl (lv_at hl 1 rfl) ?_
  refine va_putF (D := D) S.1 S.2.1 (ci := 7) (v := .ref a1) S.2.2.2.2 (mem_places _ [11, 12, 13, 14, 15, 16] (by decide +kernel)) tyX9 tyX9_ok nmX9 S.2.2.2.1 hK.1.1 hP hD hS 0 rfl rfl 0 (by decide) (S.2.2.2.2 (.fieldLink RX9 22 "MendTexts$Search" "grammar" "LMendTexts$Grammar;") (List.mem_of_getElem? (i := 8) (by decide +kernel))) (fun _ h9 => h9) rfl hin rfl (tyX9_ok 0 (by decide)) rfl rfl (Nat.le_of_ble_eq_true rfl) dX9_init_22 (fun H locs hP hD hS => ?_)
  have hP : va_P D vwCl [(h0, .inr (7, [.ref a1, .null, .null, .int (zI (-1)), .int (zI 1073741824), .int (zI 0)]))] H := hP
  have hD : va_D A [(h0, .inr (7, [.ref a1, .null, .null, .int (zI (-1)), .int (zI 1073741824), .int (zI 0)]))] := hD
  refine lv_aload_n S.1 S.2.1 dX9_init_25 rfl (lv_at hl 0 rfl) ?_
  refine lv_aload_n S.1 S.2.1 dX9_init_26 rfl (lv_at hl 2 rfl) ?_
  refine va_putF (D := D) S.1 S.2.1 (ci := 7) (v := .ref a2) S.2.2.2.2 (mem_places _ [11, 12, 13, 14, 15, 16] (by decide +kernel)) tyX9 tyX9_ok nmX9 S.2.2.2.1 hK.1.1 hP hD hS 0 rfl rfl 1 (by decide) (S.2.2.2.2 (.fieldLink RX9 26 "MendTexts$Search" "chart" "LMendTexts$Chart;") (List.mem_of_getElem? (i := 9) (by decide +kernel))) (fun _ h9 => h9) rfl hin rfl (tyX9_ok 1 (by decide)) rfl rfl (Nat.le_of_ble_eq_true rfl) dX9_init_27 (fun H locs hP hD hS => ?_)
  have hP : va_P D vwCl [(h0, .inr (7, [.ref a1, .ref a2, .null, .int (zI (-1)), .int (zI 1073741824), .int (zI 0)]))] H := hP
  have hD : va_D A [(h0, .inr (7, [.ref a1, .ref a2, .null, .int (zI (-1)), .int (zI 1073741824), .int (zI 0)]))] := hD
  refine lv_aload_n S.1 S.2.1 dX9_init_30 rfl (lv_at hl 0 rfl) ?_
  refine lv_aload_n S.1 S.2.1 dX9_init_31 rfl (lv_at hl 3 rfl) ?_
  refine va_putF (D := D) S.1 S.2.1 (ci := 7) (v := .ref a3) S.2.2.2.2 (mem_places _ [11, 12, 13, 14, 15, 16] (by decide +kernel)) tyX9 tyX9_ok nmX9 S.2.2.2.1 hK.1.1 hP hD hS 0 rfl rfl 2 (by decide) (S.2.2.2.2 (.fieldLink RX9 30 "MendTexts$Search" "examples" "LMendTexts$Examples;") (List.mem_of_getElem? (i := 10) (by decide +kernel))) (fun _ h9 => h9) rfl hin rfl (tyX9_ok 2 (by decide)) rfl rfl (Nat.le_of_ble_eq_true rfl) dX9_init_32 (fun H locs hP hD hS => ?_)
  have hP : va_P D vwCl [(h0, .inr (7, [.ref a1, .ref a2, .ref a3, .int (zI (-1)), .int (zI 1073741824), .int (zI 0)]))] H := hP
  have hD : va_D A [(h0, .inr (7, [.ref a1, .ref a2, .ref a3, .int (zI (-1)), .int (zI 1073741824), .int (zI 0)]))] := hD
  have hP9 := hP.sub (ws' := [(h0, .inr (7, [.ref a1, .ref a2, .ref a3, .int (zI (-1)), .int (zI 1073741824), .int (zI 0)]))]) [0] rfl
  have hD9 := hD.sub (ws' := [(h0, .inr (7, [.ref a1, .ref a2, .ref a3, .int (zI (-1)), .int (zI 1073741824), .int (zI 0)]))]) [0] (by decide) rfl
  exact W.vret S.1 S.2.1 hr (fun t ht hW => ⟨⟨(fun _ => 0), rfl, trivial, by rw [ht]; exact hP9, hD9⟩, hS.F ht⟩) hS.2.2 dX9_init_35 hlk
