/-! the law: two worlds side by side, a row for a call of each, a row for a word of the script -/
def LA (s : State) : Nat → Prop := fun q => s.heap.size ≤ q
def Fix2 (D : va_G) (cy : Nat → ClassId) (s : State) (ad am : Nat → Nat) : Prop := KK D cy s ∧ adOK 39 ad ∧ adOK 28 am ∧ (∀ k, k < 39 → LA s (ad k)) ∧ (∀ k, k < 28 → LA s (am k)) ∧ ∀ i j, i < 39 → j < 28 → ad i ≠ am j
theorem i32_lo (x : Int32) : -2147483648 ≤ x.toInt := by
  have h := Int32.le_toInt x
  rw [show (-2 ^ 31 : Int) = -2147483648 by decide] at h
  exact h
theorem i32_hi (x : Int32) : x.toInt < 2147483648 := by
  have h := Int32.toInt_lt x
  rw [show (2 ^ 31 : Int) = 2147483648 by decide] at h
  exact h
theorem WW_adr {N : Nat} {cell : Nat → (Nat → Int) → va_E} {ad : Nat → Nat} {σ : Mem} {k : Nat} {q : Nat × va_E} (h : (WW N cell ad σ)[k]? = some q) : k < N ∧ q.1 = ad k := by
  by_cases hN : k < N
  · simp [WW, hN] at h
    exact ⟨hN, by rw [← h]⟩
  · simp [WW, hN] at h
section LAW
variable {p : Program} {l : Launch} {e : Env} {s : State} {m : MethodId} {below : List Frame} {meth : Method} {c : Code} {H : Heap} {locs : List Loc} {cells slots : Nat} {Q : State → Prop}
variable {pc : Nat} {ls : Array Slot} {D : va_G} {cy : Nat → ClassId} {ad am : Nat → Nat} {σ τ : Mem} {b L : Nat} {xs : Nat → Int32}
theorem l_C (S : CallFix p m c cL_law 4 s #[Value.ref b] wsL_law RL) (F : Fix2 D cy s ad am) (hP : va_P D vwCl (WW 39 (cellC cy ad) ad σ) H) (hM : va_P D vwCl (WW 28 (cellM cy am) am τ) H) (hS : va_S (LA s) s.heap H locs) {v : Int} {σ2 : Mem} {y : MethodName} {bytes : ByteArray} {maxL n i : Nat} {ret : Option FieldType} {ws : List Cond} {rm : Room} (As : List Value) (hMet : Met l y ws rm (va_Pc (.ref (ad 0) :: As) (PreW D cy 39 (cellC cy ad) ad σ)) (QI D 39 (cellC cy ad) ad v σ2) 0 0 (AC 39 ad)) (cw : CallW room_1 s #[Value.ref b] RL RX11 i y bytes maxL ret ws rm 0 0 n) (hn : As.length = n) (hsz : ls.size = 4) {st0 : List Value} (hst : st0 = As.reverse ++ [.ref (ad 0)]) (hdg : decode cL_law pc = .ok (.invokevirtual i, 3)) (hf : cells ≤ room_1.cells ∧ slots ≤ room_1.slots)
    (kk : ∀ (H1 : Heap) (locs1 : List Loc), va_P D vwCl (WW 39 (cellC cy ad) ad σ2) H1 → va_P D vwCl (WW 28 (cellM cy am) am τ) H1 → va_S (LA s) s.heap H1 locs1 → W p l e room_1 s m #[Value.ref b] below meth c H1 locs1 cells slots Q (F0 m (pc + 3) ls [.int (zI v)])) : W p l e room_1 s m #[Value.ref b] below meth c H locs cells slots Q (F0 m pc ls st0) := by
  obtain ⟨hK, hO, hO2, hA, hA2, hne⟩ := F
  have acc : ∀ q, AC 39 ad q → LA s q := fun q h => by
    obtain ⟨k, hk, rfl⟩ := h
    exact hA k hk
  refine va_calli (va_runV (As := As) (rest := []) S hMet cw ⟨blindW _, va_recv hK.1 hP (ci := 9) (q0 := 0) rfl (WW_get (k := 0) (by decide) rfl), (preW hK hP _).2⟩ rfl hn hsz hst (lv_room (Nat.le_of_ble_eq_true rfl)) hdg hf) hS (fun q _ h => acc q h) (fun q h => acc q h) (fun r u t H1 locs1 ht hvm hw hB hz1 hk1 hS1 => ?_)
  rw [show r = zI v from hw]
  refine kk H1 locs1 (by rw [← ht]; exact hB) (hM.kept (fun k q hq => hk1 q.1 (hM k q hq).lt (fun h => ?_))) hS1
  obtain ⟨a1, a2⟩ := WW_adr hq
  obtain ⟨j, b1, b2⟩ := h
  exact hne j k b1 a1 (by rw [← b2, a2])
theorem l_M (S : CallFix p m c cL_law 4 s #[Value.ref b] wsL_law RL) (F : Fix2 D cy s ad am) (hP : va_P D vwCl (WW 39 (cellC cy ad) ad σ) H) (hM : va_P D vwCl (WW 28 (cellM cy am) am τ) H) (hS : va_S (LA s) s.heap H locs) {v w : Int} {τ2 : Mem} {y : MethodName} {bytes : ByteArray} {maxL n i : Nat} {ret : Option FieldType} {ws : List Cond} {rm : Room} (As : List Value) (hMet : Met l y ws rm (va_Pc (.ref (am 0) :: As) (PreW D cy 28 (cellM cy am) am τ)) (QI D 28 (cellM cy am) am v τ2) 0 0 (AC 28 am)) (cw : CallW room_1 s #[Value.ref b] RL RX12 i y bytes maxL ret ws rm 0 0 n) (hn : As.length = n) (hsz : ls.size = 4) {st0 : List Value} (hst : st0 = As.reverse ++ .ref (am 0) :: [.int (zI w)]) (hdg : decode cL_law pc = .ok (.invokevirtual i, 3)) (hf : cells ≤ room_1.cells ∧ slots ≤ room_1.slots)
    (kk : ∀ (H1 : Heap) (locs1 : List Loc), va_P D vwCl (WW 39 (cellC cy ad) ad σ) H1 → va_P D vwCl (WW 28 (cellM cy am) am τ2) H1 → va_S (LA s) s.heap H1 locs1 → W p l e room_1 s m #[Value.ref b] below meth c H1 locs1 cells slots Q (F0 m (pc + 3) ls [.int (zI v), .int (zI w)])) : W p l e room_1 s m #[Value.ref b] below meth c H locs cells slots Q (F0 m pc ls st0) := by
  obtain ⟨hK, hO, hO2, hA, hA2, hne⟩ := F
  have acc : ∀ q, AC 28 am q → LA s q := fun q h => by
    obtain ⟨k, hk, rfl⟩ := h
    exact hA2 k hk
  refine va_calli (va_runV (As := As) (rest := [.int (zI w)]) S hMet cw ⟨blindW _, va_recv hK.1 hM (ci := 10) (q0 := 0) rfl (WW_get (k := 0) (by decide) rfl), (preW hK hM _).2⟩ rfl hn hsz hst (lv_room (Nat.le_of_ble_eq_true rfl)) hdg hf) hS (fun q _ h => acc q h) (fun q h => acc q h) (fun r u t H1 locs1 ht hvm hw hB hz1 hk1 hS1 => ?_)
  rw [show r = zI v from hw]
  refine kk H1 locs1 (hP.kept (fun k q hq => hk1 q.1 (hP k q hq).lt (fun h => ?_))) (by rw [← ht]; exact hB) hS1
  obtain ⟨a1, a2⟩ := WW_adr hq
  obtain ⟨j, b1, b2⟩ := h
  exact hne k j a1 b1 (by rw [← a2, b2])
def lcl (b : Nat) (ad am : Nat → Nat) (i : Nat) : List (Nat × Value) := [(0, .ref b), (1, .ref (ad 0)), (2, .ref (am 0)), (3, .int (zI (i : Int)))]
/-- the word i + k of the script -/
theorem l_arg (S : CallFix p m c cL_law 4 s #[Value.ref b] wsL_law RL) (hX : va_X b L xs s s.heap) (hbl : b < s.heap.size) (hS : va_S (LA s) s.heap H locs) {i : Nat} (hl : lv_has ls 4 (lcl b ad am i)) {k : Nat} (hL : L ≤ 2048) (hk : i + k < L) {kz : Int} (hz : kz = (k : Int)) {rest : List Value} (d0 : decode cL_law pc = .ok (.aload_n 0, 1)) (d1 : decode cL_law (pc + 1) = .ok (.iload_n 3, 1)) (d2 : decode cL_law (pc + 2) = .ok (.iconst kz, 1)) (d3 : decode cL_law (pc + 3) = .ok (.iadd, 1)) (d4 : decode cL_law (pc + 4) = .ok (.iaload, 1))
    (kk : W p l e room_1 s m #[Value.ref b] below meth c H locs cells slots Q (F0 m (pc + 5) ls (.int (zI (xs (i + k)).toInt) :: rest))) : W p l e room_1 s m #[Value.ref b] below meth c H locs cells slots Q (F0 m pc ls rest) := by
  subst hz
  have hi := zI_in (e := ((i : Int) + (k : Int))) (n := L) ⟨by omega, by omega⟩ (by omega)
  refine lv_aload_n S.1 S.2.1 d0 rfl (lv_at hl 0 rfl) ?_
  refine lv_iload_n S.1 S.2.1 d1 rfl (lv_at hl 3 rfl) ?_
  refine r_iconst S d2 ?_
  refine r_iadd S d3 ?_
  refine va_sld S.1 S.2.1 hX hbl (Nat.not_le.mpr hbl) hS hi.1 d4 ?_
  rw [hi.2, show ((i : Int) + (k : Int)).toNat = i + k by omega]
  rw [zI_toInt] at kk
  exact kk
/-- the word i of the script -/
theorem l_arg0 (S : CallFix p m c cL_law 4 s #[Value.ref b] wsL_law RL) (hX : va_X b L xs s s.heap) (hbl : b < s.heap.size) (hS : va_S (LA s) s.heap H locs) {i : Nat} (hl : lv_has ls 4 (lcl b ad am i)) (hL : L ≤ 2048) (hk : i < L) {rest : List Value} (d0 : decode cL_law pc = .ok (.aload_n 0, 1)) (d1 : decode cL_law (pc + 1) = .ok (.iload_n 3, 1)) (d4 : decode cL_law (pc + 2) = .ok (.iaload, 1))
    (kk : W p l e room_1 s m #[Value.ref b] below meth c H locs cells slots Q (F0 m (pc + 3) ls (.int (zI (xs i).toInt) :: rest))) : W p l e room_1 s m #[Value.ref b] below meth c H locs cells slots Q (F0 m pc ls rest) := by
  have hi := zI_in (e := (i : Int)) (n := L) ⟨by omega, by omega⟩ (by omega)
  refine lv_aload_n S.1 S.2.1 d0 rfl (lv_at hl 0 rfl) ?_
  refine lv_iload_n S.1 S.2.1 d1 rfl (lv_at hl 3 rfl) ?_
  refine va_sld S.1 S.2.1 hX hbl (Nat.not_le.mpr hbl) hS hi.1 d4 ?_
  rw [hi.2, Int.toNat_natCast]
  rw [zI_toInt] at kk
  exact kk
/-- where the law goes on behind a case -/
def Goes2 (p : Program) (l : Launch) (e : Env) (s : State) (m : MethodId) (below : List Frame) (meth : Method) (c : Code) (cells slots : Nat) (Q : State → Prop) (D : va_G) (cy : Nat → ClassId) (b : Nat) (ad am : Nat → Nat) (ls : Array Slot) : Prop :=
  ∀ (σ2 τ2 : Mem) (A2 : AS) (H2 : Heap) (locs2 : List Loc), Inv σ2 τ2 A2 → va_P D vwCl (WW 39 (cellC cy ad) ad σ2) H2 → va_P D vwCl (WW 28 (cellM cy am) am τ2) H2 → va_S (LA s) s.heap H2 locs2 → W p l e room_1 s m #[Value.ref b] below meth c H2 locs2 cells slots Q (F0 m 605 ls [])
def bigN : Nat := mu (fun _ _ _ => TT) 294 + 1000
theorem bigN_1 : mu (fun _ _ _ => TT) 294 + 2 ≤ bigN := by
  unfold bigN
  generalize mu (fun _ _ _ => TT) 294 = z
  omega
theorem bigN_2 {k : Nat} (h : k ≤ 1000) : k ≤ bigN := by
  unfold bigN
  generalize mu (fun _ _ _ => TT) 294 = z
  omega

theorem cwL_X11_say {args : Array Value} (hts : ∀ w ∈ wsL_law, w.before args s = true) : CallW room_1 s args RL RX11 13 yX11_say cX11_say 2 (some .int) wsX11_say rm_X11_say 0 0 1 := cwV 1 hts gL_law_X11_say rfl rfl rfl (by decide +kernel) ⟨Nat.le_of_ble_eq_true rfl, Nat.le_of_ble_eq_true rfl⟩
theorem cwL_X12_say {args : Array Value} (hts : ∀ w ∈ wsL_law, w.before args s = true) : CallW room_1 s args RL RX12 17 yX12_say cX12_say 2 (some .int) wsX12_say rm_X12_say 0 0 1 := cwV 1 hts gL_law_X12_say rfl rfl rfl (by decide +kernel) ⟨Nat.le_of_ble_eq_true rfl, Nat.le_of_ble_eq_true rfl⟩
set_option maxRecDepth 20000 in
theorem lc_say (S : CallFix p m c cL_law 4 s #[Value.ref b] wsL_law RL) (F : Fix2 D cy s ad am) (hX : va_X b L xs s s.heap) (hbl : b < s.heap.size) (hL : L ≤ 2048) (hf : cells ≤ room_1.cells ∧ slots ≤ room_1.slots) {i : Nat} (hi : i + 4 ≤ L) (hl : lv_has ls 4 (lcl b ad am i)) (K : Goes2 p l e s m below meth c cells slots Q D cy b ad am ls) {A : AS} (hI : Inv σ τ A) (hP : va_P D vwCl (WW 39 (cellC cy ad) ad σ) H) (hM : va_P D vwCl (WW 28 (cellM cy am) am τ) H) (hS : va_S (LA s) s.heap H locs) : W p l e room_1 s m #[Value.ref b] below meth c H locs cells slots Q (F0 m 132 ls []) := by
  obtain ⟨v, σ2, τ2, A2, e1, e2, hI2⟩ := say_m (a := (xs (i + 1)).toInt) hI (i32_lo _) (i32_hi _)
  refine lv_aload_n S.1 S.2.1 dL_law_132 rfl (lv_at hl 1 rfl) ?_
  refine l_arg S hX hbl hS hl (k := 1) hL (by omega) rfl dL_law_133 dL_law_134 dL_law_135 dL_law_136 dL_law_137 ?_
  refine l_C S F hP hM hS [.int (zI (xs (i + 1)).toInt)] (c_X11_say l D cy ad F.2.1 _ σ e1) (cwL_X11_say S.2.2.2.2) rfl hl.1 rfl dL_law_138 hf (fun H locs hP hM hS => ?_)
  refine lv_aload_n S.1 S.2.1 dL_law_141 rfl (lv_at hl 2 rfl) ?_
  refine l_arg S hX hbl hS hl (k := 1) hL (by omega) rfl dL_law_142 dL_law_143 dL_law_144 dL_law_145 dL_law_146 ?_
  refine l_M S F hP hM hS [.int (zI (xs (i + 1)).toInt)] (c_X12_say l D cy am F.2.2.1 _ τ e2) (cwL_X12_say S.2.2.2.2) rfl hl.1 rfl dL_law_147 hf (fun H locs hP hM hS => ?_)
  refine lv_icmp_eq (tgt := 605) S.1 S.2.1 dL_law_150 (by decide) (fun _ => ?_) (fun h => absurd rfl h)
  exact K σ2 τ2 A2 H locs hI2 hP hM hS
theorem cwL_X11_wipe {args : Array Value} (hts : ∀ w ∈ wsL_law, w.before args s = true) : CallW room_1 s args RL RX11 18 yX11_wipe cX11_wipe 2 (some .int) wsX11_wipe rm_X11_wipe 0 0 0 := cwV 0 hts gL_law_X11_wipe rfl rfl rfl (by decide +kernel) ⟨Nat.le_of_ble_eq_true rfl, Nat.le_of_ble_eq_true rfl⟩
theorem cwL_X12_wipe {args : Array Value} (hts : ∀ w ∈ wsL_law, w.before args s = true) : CallW room_1 s args RL RX12 22 yX12_wipe cX12_wipe 2 (some .int) wsX12_wipe rm_X12_wipe 0 0 0 := cwV 0 hts gL_law_X12_wipe rfl rfl rfl (by decide +kernel) ⟨Nat.le_of_ble_eq_true rfl, Nat.le_of_ble_eq_true rfl⟩
set_option maxRecDepth 20000 in
theorem lc_wipe (S : CallFix p m c cL_law 4 s #[Value.ref b] wsL_law RL) (F : Fix2 D cy s ad am) (hX : va_X b L xs s s.heap) (hbl : b < s.heap.size) (hL : L ≤ 2048) (hf : cells ≤ room_1.cells ∧ slots ≤ room_1.slots) {i : Nat} (hi : i + 4 ≤ L) (hl : lv_has ls 4 (lcl b ad am i)) (K : Goes2 p l e s m below meth c cells slots Q D cy b ad am ls) {A : AS} (hI : Inv σ τ A) (hP : va_P D vwCl (WW 39 (cellC cy ad) ad σ) H) (hM : va_P D vwCl (WW 28 (cellM cy am) am τ) H) (hS : va_S (LA s) s.heap H locs) : W p l e room_1 s m #[Value.ref b] below meth c H locs cells slots Q (F0 m 155 ls []) := by
  obtain ⟨v, σ2, τ2, A2, e1, e2, hI2⟩ := wipe_m  hI
  refine lv_aload_n S.1 S.2.1 dL_law_155 rfl (lv_at hl 1 rfl) ?_
  refine l_C S F hP hM hS [] (c_X11_wipe l D cy ad F.2.1 σ e1) (cwL_X11_wipe S.2.2.2.2) rfl hl.1 rfl dL_law_156 hf (fun H locs hP hM hS => ?_)
  refine lv_aload_n S.1 S.2.1 dL_law_159 rfl (lv_at hl 2 rfl) ?_
  refine l_M S F hP hM hS [] (c_X12_wipe l D cy am F.2.2.1 τ e2) (cwL_X12_wipe S.2.2.2.2) rfl hl.1 rfl dL_law_160 hf (fun H locs hP hM hS => ?_)
  refine lv_icmp_eq (tgt := 605) S.1 S.2.1 dL_law_163 (by decide) (fun _ => ?_) (fun h => absurd rfl h)
  exact K σ2 τ2 A2 H locs hI2 hP hM hS
theorem cwL_X11_fault {args : Array Value} (hts : ∀ w ∈ wsL_law, w.before args s = true) : CallW room_1 s args RL RX11 23 yX11_fault cX11_fault 1 (some .int) wsX11_fault rm_X11_fault 0 0 0 := cwV 0 hts gL_law_X11_fault rfl rfl rfl (by decide +kernel) ⟨Nat.le_of_ble_eq_true rfl, Nat.le_of_ble_eq_true rfl⟩
theorem cwL_X12_fault {args : Array Value} (hts : ∀ w ∈ wsL_law, w.before args s = true) : CallW room_1 s args RL RX12 26 yX12_fault cX12_fault 1 (some .int) wsX12_fault rm_X12_fault 0 0 0 := cwV 0 hts gL_law_X12_fault rfl rfl rfl (by decide +kernel) ⟨Nat.le_of_ble_eq_true rfl, Nat.le_of_ble_eq_true rfl⟩
set_option maxRecDepth 20000 in
theorem lc_fault (S : CallFix p m c cL_law 4 s #[Value.ref b] wsL_law RL) (F : Fix2 D cy s ad am) (hX : va_X b L xs s s.heap) (hbl : b < s.heap.size) (hL : L ≤ 2048) (hf : cells ≤ room_1.cells ∧ slots ≤ room_1.slots) {i : Nat} (hi : i + 4 ≤ L) (hl : lv_has ls 4 (lcl b ad am i)) (K : Goes2 p l e s m below meth c cells slots Q D cy b ad am ls) {A : AS} (hI : Inv σ τ A) (hP : va_P D vwCl (WW 39 (cellC cy ad) ad σ) H) (hM : va_P D vwCl (WW 28 (cellM cy am) am τ) H) (hS : va_S (LA s) s.heap H locs) : W p l e room_1 s m #[Value.ref b] below meth c H locs cells slots Q (F0 m 168 ls []) := by
  obtain ⟨v, σ2, e1, e2, hI2⟩ := fault_m (N := bigN)  (bigN_2 (by decide)) hI
  refine lv_aload_n S.1 S.2.1 dL_law_168 rfl (lv_at hl 1 rfl) ?_
  refine l_C S F hP hM hS [] (c_X11_fault l D cy ad F.2.1 bigN σ e1) (cwL_X11_fault S.2.2.2.2) rfl hl.1 rfl dL_law_169 hf (fun H locs hP hM hS => ?_)
  refine lv_aload_n S.1 S.2.1 dL_law_172 rfl (lv_at hl 2 rfl) ?_
  refine l_M S F hP hM hS [] (c_X12_fault l D cy am F.2.2.1 bigN τ e2) (cwL_X12_fault S.2.2.2.2) rfl hl.1 rfl dL_law_173 hf (fun H locs hP hM hS => ?_)
  refine lv_icmp_eq (tgt := 605) S.1 S.2.1 dL_law_176 (by decide) (fun _ => ?_) (fun h => absurd rfl h)
  exact K σ2 τ A H locs hI2 hP hM hS
theorem cwL_X11_grammar {args : Array Value} (hts : ∀ w ∈ wsL_law, w.before args s = true) : CallW room_1 s args RL RX11 27 yX11_grammar cX11_grammar 1 (some .int) wsX11_grammar rm_X11_grammar 0 0 0 := cwV 0 hts gL_law_X11_grammar rfl rfl rfl (by decide +kernel) ⟨Nat.le_of_ble_eq_true rfl, Nat.le_of_ble_eq_true rfl⟩
theorem cwL_X12_grammar {args : Array Value} (hts : ∀ w ∈ wsL_law, w.before args s = true) : CallW room_1 s args RL RX12 30 yX12_grammar cX12_grammar 6 (some .int) wsX12_grammar rm_X12_grammar 0 0 0 := cwV 0 hts gL_law_X12_grammar rfl rfl rfl (by decide +kernel) ⟨Nat.le_of_ble_eq_true rfl, Nat.le_of_ble_eq_true rfl⟩
set_option maxRecDepth 20000 in
theorem lc_grammar (S : CallFix p m c cL_law 4 s #[Value.ref b] wsL_law RL) (F : Fix2 D cy s ad am) (hX : va_X b L xs s s.heap) (hbl : b < s.heap.size) (hL : L ≤ 2048) (hf : cells ≤ room_1.cells ∧ slots ≤ room_1.slots) {i : Nat} (hi : i + 4 ≤ L) (hl : lv_has ls 4 (lcl b ad am i)) (K : Goes2 p l e s m below meth c cells slots Q D cy b ad am ls) {A : AS} (hI : Inv σ τ A) (hP : va_P D vwCl (WW 39 (cellC cy ad) ad σ) H) (hM : va_P D vwCl (WW 28 (cellM cy am) am τ) H) (hS : va_S (LA s) s.heap H locs) : W p l e room_1 s m #[Value.ref b] below meth c H locs cells slots Q (F0 m 181 ls []) := by
  obtain ⟨v, σ2, τ2, A2, e1, e2, hI2⟩ := grammar_m (N := bigN)  (bigN_2 (by decide)) hI
  refine lv_aload_n S.1 S.2.1 dL_law_181 rfl (lv_at hl 1 rfl) ?_
  refine l_C S F hP hM hS [] (c_X11_grammar l D cy ad F.2.1 bigN σ e1) (cwL_X11_grammar S.2.2.2.2) rfl hl.1 rfl dL_law_182 hf (fun H locs hP hM hS => ?_)
  refine lv_aload_n S.1 S.2.1 dL_law_185 rfl (lv_at hl 2 rfl) ?_
  refine l_M S F hP hM hS [] (c_X12_grammar l D cy am F.2.2.1 bigN τ e2) (cwL_X12_grammar S.2.2.2.2) rfl hl.1 rfl dL_law_186 hf (fun H locs hP hM hS => ?_)
  refine lv_icmp_eq (tgt := 605) S.1 S.2.1 dL_law_189 (by decide) (fun _ => ?_) (fun h => absurd rfl h)
  exact K σ2 τ2 A2 H locs hI2 hP hM hS
theorem cwL_X11_rule {args : Array Value} (hts : ∀ w ∈ wsL_law, w.before args s = true) : CallW room_1 s args RL RX11 31 yX11_rule cX11_rule 6 (some .int) wsX11_rule rm_X11_rule 0 0 3 := cwV 3 hts gL_law_X11_rule rfl rfl rfl (by decide +kernel) ⟨Nat.le_of_ble_eq_true rfl, Nat.le_of_ble_eq_true rfl⟩
theorem cwL_X12_rule {args : Array Value} (hts : ∀ w ∈ wsL_law, w.before args s = true) : CallW room_1 s args RL RX12 35 yX12_rule cX12_rule 5 (some .int) wsX12_rule rm_X12_rule 0 0 3 := cwV 3 hts gL_law_X12_rule rfl rfl rfl (by decide +kernel) ⟨Nat.le_of_ble_eq_true rfl, Nat.le_of_ble_eq_true rfl⟩
set_option maxRecDepth 20000 in
theorem lc_rule (S : CallFix p m c cL_law 4 s #[Value.ref b] wsL_law RL) (F : Fix2 D cy s ad am) (hX : va_X b L xs s s.heap) (hbl : b < s.heap.size) (hL : L ≤ 2048) (hf : cells ≤ room_1.cells ∧ slots ≤ room_1.slots) {i : Nat} (hi : i + 4 ≤ L) (hl : lv_has ls 4 (lcl b ad am i)) (K : Goes2 p l e s m below meth c cells slots Q D cy b ad am ls) {A : AS} (hI : Inv σ τ A) (hP : va_P D vwCl (WW 39 (cellC cy ad) ad σ) H) (hM : va_P D vwCl (WW 28 (cellM cy am) am τ) H) (hS : va_S (LA s) s.heap H locs) : W p l e room_1 s m #[Value.ref b] below meth c H locs cells slots Q (F0 m 194 ls []) := by
  obtain ⟨v, e1, e2⟩ := rule_m (a := (xs (i + 1)).toInt) (b := (xs (i + 2)).toInt) (c := (xs (i + 3)).toInt) hI (i32_lo _) (i32_hi _) (i32_lo _) (i32_hi _) (i32_lo _) (i32_hi _)
  refine lv_aload_n S.1 S.2.1 dL_law_194 rfl (lv_at hl 1 rfl) ?_
  refine l_arg S hX hbl hS hl (k := 1) hL (by omega) rfl dL_law_195 dL_law_196 dL_law_197 dL_law_198 dL_law_199 ?_
  refine l_arg S hX hbl hS hl (k := 2) hL (by omega) rfl dL_law_200 dL_law_201 dL_law_202 dL_law_203 dL_law_204 ?_
  refine l_arg S hX hbl hS hl (k := 3) hL (by omega) rfl dL_law_205 dL_law_206 dL_law_207 dL_law_208 dL_law_209 ?_
  refine l_C S F hP hM hS [.int (zI (xs (i + 1)).toInt), .int (zI (xs (i + 2)).toInt), .int (zI (xs (i + 3)).toInt)] (c_X11_rule l D cy ad F.2.1 _ _ _ σ e1) (cwL_X11_rule S.2.2.2.2) rfl hl.1 rfl dL_law_210 hf (fun H locs hP hM hS => ?_)
  refine lv_aload_n S.1 S.2.1 dL_law_213 rfl (lv_at hl 2 rfl) ?_
  refine l_arg S hX hbl hS hl (k := 1) hL (by omega) rfl dL_law_214 dL_law_215 dL_law_216 dL_law_217 dL_law_218 ?_
  refine l_arg S hX hbl hS hl (k := 2) hL (by omega) rfl dL_law_219 dL_law_220 dL_law_221 dL_law_222 dL_law_223 ?_
  refine l_arg S hX hbl hS hl (k := 3) hL (by omega) rfl dL_law_224 dL_law_225 dL_law_226 dL_law_227 dL_law_228 ?_
  refine l_M S F hP hM hS [.int (zI (xs (i + 1)).toInt), .int (zI (xs (i + 2)).toInt), .int (zI (xs (i + 3)).toInt)] (c_X12_rule l D cy am F.2.2.1 _ _ _ τ e2) (cwL_X12_rule S.2.2.2.2) rfl hl.1 rfl dL_law_229 hf (fun H locs hP hM hS => ?_)
  refine lv_icmp_eq (tgt := 605) S.1 S.2.1 dL_law_232 (by decide) (fun _ => ?_) (fun h => absurd rfl h)
  exact K σ τ A H locs hI hP hM hS
theorem cwL_X11_least {args : Array Value} (hts : ∀ w ∈ wsL_law, w.before args s = true) : CallW room_1 s args RL RX11 36 yX11_least cX11_least 3 (some .int) wsX11_least rm_X11_least 0 0 2 := cwV 2 hts gL_law_X11_least rfl rfl rfl (by decide +kernel) ⟨Nat.le_of_ble_eq_true rfl, Nat.le_of_ble_eq_true rfl⟩
theorem cwL_X12_least {args : Array Value} (hts : ∀ w ∈ wsL_law, w.before args s = true) : CallW room_1 s args RL RX12 40 yX12_least cX12_least 4 (some .int) wsX12_least rm_X12_least 0 0 2 := cwV 2 hts gL_law_X12_least rfl rfl rfl (by decide +kernel) ⟨Nat.le_of_ble_eq_true rfl, Nat.le_of_ble_eq_true rfl⟩
set_option maxRecDepth 20000 in
theorem lc_least (S : CallFix p m c cL_law 4 s #[Value.ref b] wsL_law RL) (F : Fix2 D cy s ad am) (hX : va_X b L xs s s.heap) (hbl : b < s.heap.size) (hL : L ≤ 2048) (hf : cells ≤ room_1.cells ∧ slots ≤ room_1.slots) {i : Nat} (hi : i + 4 ≤ L) (hl : lv_has ls 4 (lcl b ad am i)) (K : Goes2 p l e s m below meth c cells slots Q D cy b ad am ls) {A : AS} (hI : Inv σ τ A) (hP : va_P D vwCl (WW 39 (cellC cy ad) ad σ) H) (hM : va_P D vwCl (WW 28 (cellM cy am) am τ) H) (hS : va_S (LA s) s.heap H locs) : W p l e room_1 s m #[Value.ref b] below meth c H locs cells slots Q (F0 m 237 ls []) := by
  obtain ⟨v, σ2, τ2, A2, e1, e2, hI2⟩ := least_m (N := bigN) (a := (xs (i + 1)).toInt) (b := (xs (i + 2)).toInt) (bigN_2 (by decide)) bigN_1 hI (i32_lo _) (i32_hi _) (i32_lo _) (i32_hi _)
  refine lv_aload_n S.1 S.2.1 dL_law_237 rfl (lv_at hl 1 rfl) ?_
  refine l_arg S hX hbl hS hl (k := 1) hL (by omega) rfl dL_law_238 dL_law_239 dL_law_240 dL_law_241 dL_law_242 ?_
  refine l_arg S hX hbl hS hl (k := 2) hL (by omega) rfl dL_law_243 dL_law_244 dL_law_245 dL_law_246 dL_law_247 ?_
  refine l_C S F hP hM hS [.int (zI (xs (i + 1)).toInt), .int (zI (xs (i + 2)).toInt)] (c_X11_least l D cy ad F.2.1 bigN _ _ σ e1) (cwL_X11_least S.2.2.2.2) rfl hl.1 rfl dL_law_248 hf (fun H locs hP hM hS => ?_)
  refine lv_aload_n S.1 S.2.1 dL_law_251 rfl (lv_at hl 2 rfl) ?_
  refine l_arg S hX hbl hS hl (k := 1) hL (by omega) rfl dL_law_252 dL_law_253 dL_law_254 dL_law_255 dL_law_256 ?_
  refine l_arg S hX hbl hS hl (k := 2) hL (by omega) rfl dL_law_257 dL_law_258 dL_law_259 dL_law_260 dL_law_261 ?_
  refine l_M S F hP hM hS [.int (zI (xs (i + 1)).toInt), .int (zI (xs (i + 2)).toInt)] (c_X12_least l D cy am F.2.2.1 bigN _ _ τ e2) (cwL_X12_least S.2.2.2.2) rfl hl.1 rfl dL_law_262 hf (fun H locs hP hM hS => ?_)
  refine lv_icmp_eq (tgt := 605) S.1 S.2.1 dL_law_265 (by decide) (fun _ => ?_) (fun h => absurd rfl h)
  exact K σ2 τ2 A2 H locs hI2 hP hM hS
theorem cwL_X11_nothing {args : Array Value} (hts : ∀ w ∈ wsL_law, w.before args s = true) : CallW room_1 s args RL RX11 41 yX11_nothing cX11_nothing 4 (some .int) wsX11_nothing rm_X11_nothing 0 0 0 := cwV 0 hts gL_law_X11_nothing rfl rfl rfl (by decide +kernel) ⟨Nat.le_of_ble_eq_true rfl, Nat.le_of_ble_eq_true rfl⟩
theorem cwL_X12_nothing {args : Array Value} (hts : ∀ w ∈ wsL_law, w.before args s = true) : CallW room_1 s args RL RX12 44 yX12_nothing cX12_nothing 3 (some .int) wsX12_nothing rm_X12_nothing 0 0 0 := cwV 0 hts gL_law_X12_nothing rfl rfl rfl (by decide +kernel) ⟨Nat.le_of_ble_eq_true rfl, Nat.le_of_ble_eq_true rfl⟩
set_option maxRecDepth 20000 in
theorem lc_nothing (S : CallFix p m c cL_law 4 s #[Value.ref b] wsL_law RL) (F : Fix2 D cy s ad am) (hX : va_X b L xs s s.heap) (hbl : b < s.heap.size) (hL : L ≤ 2048) (hf : cells ≤ room_1.cells ∧ slots ≤ room_1.slots) {i : Nat} (hi : i + 4 ≤ L) (hl : lv_has ls 4 (lcl b ad am i)) (K : Goes2 p l e s m below meth c cells slots Q D cy b ad am ls) {A : AS} (hI : Inv σ τ A) (hP : va_P D vwCl (WW 39 (cellC cy ad) ad σ) H) (hM : va_P D vwCl (WW 28 (cellM cy am) am τ) H) (hS : va_S (LA s) s.heap H locs) : W p l e room_1 s m #[Value.ref b] below meth c H locs cells slots Q (F0 m 270 ls []) := by
  obtain ⟨v, σ2, τ2, A2, e1, e2, hI2⟩ := nothing_m (N := bigN)  (bigN_2 (by decide)) bigN_1 hI
  refine lv_aload_n S.1 S.2.1 dL_law_270 rfl (lv_at hl 1 rfl) ?_
  refine l_C S F hP hM hS [] (c_X11_nothing l D cy ad F.2.1 bigN σ e1) (cwL_X11_nothing S.2.2.2.2) rfl hl.1 rfl dL_law_271 hf (fun H locs hP hM hS => ?_)
  refine lv_aload_n S.1 S.2.1 dL_law_274 rfl (lv_at hl 2 rfl) ?_
  refine l_M S F hP hM hS [] (c_X12_nothing l D cy am F.2.2.1 bigN τ e2) (cwL_X12_nothing S.2.2.2.2) rfl hl.1 rfl dL_law_275 hf (fun H locs hP hM hS => ?_)
  refine lv_icmp_eq (tgt := 605) S.1 S.2.1 dL_law_278 (by decide) (fun _ => ?_) (fun h => absurd rfl h)
  exact K σ2 τ2 A2 H locs hI2 hP hM hS
theorem cwL_X11_word {args : Array Value} (hts : ∀ w ∈ wsL_law, w.before args s = true) : CallW room_1 s args RL RX11 45 yX11_word cX11_word 2 (some .int) wsX11_word rm_X11_word 0 0 0 := cwV 0 hts gL_law_X11_word rfl rfl rfl (by decide +kernel) ⟨Nat.le_of_ble_eq_true rfl, Nat.le_of_ble_eq_true rfl⟩
theorem cwL_X12_word {args : Array Value} (hts : ∀ w ∈ wsL_law, w.before args s = true) : CallW room_1 s args RL RX12 48 yX12_word cX12_word 3 (some .int) wsX12_word rm_X12_word 0 0 0 := cwV 0 hts gL_law_X12_word rfl rfl rfl (by decide +kernel) ⟨Nat.le_of_ble_eq_true rfl, Nat.le_of_ble_eq_true rfl⟩
set_option maxRecDepth 20000 in
theorem lc_word (S : CallFix p m c cL_law 4 s #[Value.ref b] wsL_law RL) (F : Fix2 D cy s ad am) (hX : va_X b L xs s s.heap) (hbl : b < s.heap.size) (hL : L ≤ 2048) (hf : cells ≤ room_1.cells ∧ slots ≤ room_1.slots) {i : Nat} (hi : i + 4 ≤ L) (hl : lv_has ls 4 (lcl b ad am i)) (K : Goes2 p l e s m below meth c cells slots Q D cy b ad am ls) {A : AS} (hI : Inv σ τ A) (hP : va_P D vwCl (WW 39 (cellC cy ad) ad σ) H) (hM : va_P D vwCl (WW 28 (cellM cy am) am τ) H) (hS : va_S (LA s) s.heap H locs) : W p l e room_1 s m #[Value.ref b] below meth c H locs cells slots Q (F0 m 283 ls []) := by
  obtain ⟨v, σ2, τ2, A2, e1, e2, hI2⟩ := word_m (N := bigN)  (bigN_2 (by decide)) hI
  refine lv_aload_n S.1 S.2.1 dL_law_283 rfl (lv_at hl 1 rfl) ?_
  refine l_C S F hP hM hS [] (c_X11_word l D cy ad F.2.1 bigN σ e1) (cwL_X11_word S.2.2.2.2) rfl hl.1 rfl dL_law_284 hf (fun H locs hP hM hS => ?_)
  refine lv_aload_n S.1 S.2.1 dL_law_287 rfl (lv_at hl 2 rfl) ?_
  refine l_M S F hP hM hS [] (c_X12_word l D cy am F.2.2.1 bigN τ e2) (cwL_X12_word S.2.2.2.2) rfl hl.1 rfl dL_law_288 hf (fun H locs hP hM hS => ?_)
  refine lv_icmp_eq (tgt := 605) S.1 S.2.1 dL_law_291 (by decide) (fun _ => ?_) (fun h => absurd rfl h)
  exact K σ2 τ2 A2 H locs hI2 hP hM hS
theorem cwL_X11_is {args : Array Value} (hts : ∀ w ∈ wsL_law, w.before args s = true) : CallW room_1 s args RL RX11 49 yX11_is cX11_is 2 (some .int) wsX11_is rm_X11_is 0 0 1 := cwV 1 hts gL_law_X11_is rfl rfl rfl (by decide +kernel) ⟨Nat.le_of_ble_eq_true rfl, Nat.le_of_ble_eq_true rfl⟩
theorem cwL_X12_is {args : Array Value} (hts : ∀ w ∈ wsL_law, w.before args s = true) : CallW room_1 s args RL RX12 52 yX12_is cX12_is 2 (some .int) wsX12_is rm_X12_is 0 0 1 := cwV 1 hts gL_law_X12_is rfl rfl rfl (by decide +kernel) ⟨Nat.le_of_ble_eq_true rfl, Nat.le_of_ble_eq_true rfl⟩
set_option maxRecDepth 20000 in
theorem lc_is (S : CallFix p m c cL_law 4 s #[Value.ref b] wsL_law RL) (F : Fix2 D cy s ad am) (hX : va_X b L xs s s.heap) (hbl : b < s.heap.size) (hL : L ≤ 2048) (hf : cells ≤ room_1.cells ∧ slots ≤ room_1.slots) {i : Nat} (hi : i + 4 ≤ L) (hl : lv_has ls 4 (lcl b ad am i)) (K : Goes2 p l e s m below meth c cells slots Q D cy b ad am ls) {A : AS} (hI : Inv σ τ A) (hP : va_P D vwCl (WW 39 (cellC cy ad) ad σ) H) (hM : va_P D vwCl (WW 28 (cellM cy am) am τ) H) (hS : va_S (LA s) s.heap H locs) : W p l e room_1 s m #[Value.ref b] below meth c H locs cells slots Q (F0 m 296 ls []) := by
  obtain ⟨v, σ2, τ2, A2, e1, e2, hI2⟩ := is_m (N := bigN) (a := (xs (i + 1)).toInt) (bigN_2 (by decide)) bigN_1 hI (i32_lo _) (i32_hi _)
  refine lv_aload_n S.1 S.2.1 dL_law_296 rfl (lv_at hl 1 rfl) ?_
  refine l_arg S hX hbl hS hl (k := 1) hL (by omega) rfl dL_law_297 dL_law_298 dL_law_299 dL_law_300 dL_law_301 ?_
  refine l_C S F hP hM hS [.int (zI (xs (i + 1)).toInt)] (c_X11_is l D cy ad F.2.1 bigN _ σ e1) (cwL_X11_is S.2.2.2.2) rfl hl.1 rfl dL_law_302 hf (fun H locs hP hM hS => ?_)
  refine lv_aload_n S.1 S.2.1 dL_law_305 rfl (lv_at hl 2 rfl) ?_
  refine l_arg S hX hbl hS hl (k := 1) hL (by omega) rfl dL_law_306 dL_law_307 dL_law_308 dL_law_309 dL_law_310 ?_
  refine l_M S F hP hM hS [.int (zI (xs (i + 1)).toInt)] (c_X12_is l D cy am F.2.2.1 bigN _ τ e2) (cwL_X12_is S.2.2.2.2) rfl hl.1 rfl dL_law_311 hf (fun H locs hP hM hS => ?_)
  refine lv_icmp_eq (tgt := 605) S.1 S.2.1 dL_law_314 (by decide) (fun _ => ?_) (fun h => absurd rfl h)
  exact K σ2 τ2 A2 H locs hI2 hP hM hS
theorem cwL_X11_first {args : Array Value} (hts : ∀ w ∈ wsL_law, w.before args s = true) : CallW room_1 s args RL RX11 53 yX11_first cX11_first 3 (some .int) wsX11_first rm_X11_first 0 0 1 := cwV 1 hts gL_law_X11_first rfl rfl rfl (by decide +kernel) ⟨Nat.le_of_ble_eq_true rfl, Nat.le_of_ble_eq_true rfl⟩
theorem cwL_X12_first {args : Array Value} (hts : ∀ w ∈ wsL_law, w.before args s = true) : CallW room_1 s args RL RX12 56 yX12_first cX12_first 8 (some .int) wsX12_first rm_X12_first 0 0 1 := cwV 1 hts gL_law_X12_first rfl rfl rfl (by decide +kernel) ⟨Nat.le_of_ble_eq_true rfl, Nat.le_of_ble_eq_true rfl⟩
set_option maxRecDepth 20000 in
theorem lc_first (S : CallFix p m c cL_law 4 s #[Value.ref b] wsL_law RL) (F : Fix2 D cy s ad am) (hX : va_X b L xs s s.heap) (hbl : b < s.heap.size) (hL : L ≤ 2048) (hf : cells ≤ room_1.cells ∧ slots ≤ room_1.slots) {i : Nat} (hi : i + 4 ≤ L) (hl : lv_has ls 4 (lcl b ad am i)) (K : Goes2 p l e s m below meth c cells slots Q D cy b ad am ls) {A : AS} (hI : Inv σ τ A) (hP : va_P D vwCl (WW 39 (cellC cy ad) ad σ) H) (hM : va_P D vwCl (WW 28 (cellM cy am) am τ) H) (hS : va_S (LA s) s.heap H locs) : W p l e room_1 s m #[Value.ref b] below meth c H locs cells slots Q (F0 m 319 ls []) := by
  obtain ⟨v, σ2, τ2, A2, e1, e2, hI2⟩ := first_m (N := bigN) (a := (xs (i + 1)).toInt) (bigN_2 (by decide)) bigN_1 hI (i32_lo _) (i32_hi _)
  refine lv_aload_n S.1 S.2.1 dL_law_319 rfl (lv_at hl 1 rfl) ?_
  refine l_arg S hX hbl hS hl (k := 1) hL (by omega) rfl dL_law_320 dL_law_321 dL_law_322 dL_law_323 dL_law_324 ?_
  refine l_C S F hP hM hS [.int (zI (xs (i + 1)).toInt)] (c_X11_first l D cy ad F.2.1 bigN _ σ e1) (cwL_X11_first S.2.2.2.2) rfl hl.1 rfl dL_law_325 hf (fun H locs hP hM hS => ?_)
  refine lv_aload_n S.1 S.2.1 dL_law_328 rfl (lv_at hl 2 rfl) ?_
  refine l_arg S hX hbl hS hl (k := 1) hL (by omega) rfl dL_law_329 dL_law_330 dL_law_331 dL_law_332 dL_law_333 ?_
  refine l_M S F hP hM hS [.int (zI (xs (i + 1)).toInt)] (c_X12_first l D cy am F.2.2.1 bigN _ τ e2) (cwL_X12_first S.2.2.2.2) rfl hl.1 rfl dL_law_334 hf (fun H locs hP hM hS => ?_)
  refine lv_icmp_eq (tgt := 605) S.1 S.2.1 dL_law_337 (by decide) (fun _ => ?_) (fun h => absurd rfl h)
  exact K σ2 τ2 A2 H locs hI2 hP hM hS
theorem cwL_X11_cost {args : Array Value} (hts : ∀ w ∈ wsL_law, w.before args s = true) : CallW room_1 s args RL RX11 57 yX11_cost cX11_cost 4 (some .int) wsX11_cost rm_X11_cost 0 0 2 := cwV 2 hts gL_law_X11_cost rfl rfl rfl (by decide +kernel) ⟨Nat.le_of_ble_eq_true rfl, Nat.le_of_ble_eq_true rfl⟩
theorem cwL_X12_cost {args : Array Value} (hts : ∀ w ∈ wsL_law, w.before args s = true) : CallW room_1 s args RL RX12 60 yX12_cost cX12_cost 4 (some .int) wsX12_cost rm_X12_cost 0 0 2 := cwV 2 hts gL_law_X12_cost rfl rfl rfl (by decide +kernel) ⟨Nat.le_of_ble_eq_true rfl, Nat.le_of_ble_eq_true rfl⟩
set_option maxRecDepth 20000 in
theorem lc_cost (S : CallFix p m c cL_law 4 s #[Value.ref b] wsL_law RL) (F : Fix2 D cy s ad am) (hX : va_X b L xs s s.heap) (hbl : b < s.heap.size) (hL : L ≤ 2048) (hf : cells ≤ room_1.cells ∧ slots ≤ room_1.slots) {i : Nat} (hi : i + 4 ≤ L) (hl : lv_has ls 4 (lcl b ad am i)) (K : Goes2 p l e s m below meth c cells slots Q D cy b ad am ls) {A : AS} (hI : Inv σ τ A) (hP : va_P D vwCl (WW 39 (cellC cy ad) ad σ) H) (hM : va_P D vwCl (WW 28 (cellM cy am) am τ) H) (hS : va_S (LA s) s.heap H locs) : W p l e room_1 s m #[Value.ref b] below meth c H locs cells slots Q (F0 m 342 ls []) := by
  obtain ⟨v, σ2, τ2, A2, e1, e2, hI2⟩ := cost_m (N := bigN) (a := (xs (i + 1)).toInt) (b := (xs (i + 2)).toInt) (bigN_2 (by decide)) hI (i32_lo _) (i32_hi _) (i32_lo _) (i32_hi _)
  refine lv_aload_n S.1 S.2.1 dL_law_342 rfl (lv_at hl 1 rfl) ?_
  refine l_arg S hX hbl hS hl (k := 1) hL (by omega) rfl dL_law_343 dL_law_344 dL_law_345 dL_law_346 dL_law_347 ?_
  refine l_arg S hX hbl hS hl (k := 2) hL (by omega) rfl dL_law_348 dL_law_349 dL_law_350 dL_law_351 dL_law_352 ?_
  refine l_C S F hP hM hS [.int (zI (xs (i + 1)).toInt), .int (zI (xs (i + 2)).toInt)] (c_X11_cost l D cy ad F.2.1 _ _ σ e1) (cwL_X11_cost S.2.2.2.2) rfl hl.1 rfl dL_law_353 hf (fun H locs hP hM hS => ?_)
  refine lv_aload_n S.1 S.2.1 dL_law_356 rfl (lv_at hl 2 rfl) ?_
  refine l_arg S hX hbl hS hl (k := 1) hL (by omega) rfl dL_law_357 dL_law_358 dL_law_359 dL_law_360 dL_law_361 ?_
  refine l_arg S hX hbl hS hl (k := 2) hL (by omega) rfl dL_law_362 dL_law_363 dL_law_364 dL_law_365 dL_law_366 ?_
  refine l_M S F hP hM hS [.int (zI (xs (i + 1)).toInt), .int (zI (xs (i + 2)).toInt)] (c_X12_cost l D cy am F.2.2.1 bigN _ _ τ e2) (cwL_X12_cost S.2.2.2.2) rfl hl.1 rfl dL_law_367 hf (fun H locs hP hM hS => ?_)
  refine lv_icmp_eq (tgt := 605) S.1 S.2.1 dL_law_370 (by decide) (fun _ => ?_) (fun h => absurd rfl h)
  exact K σ2 τ2 A2 H locs hI2 hP hM hS
theorem cwL_X11_mend {args : Array Value} (hts : ∀ w ∈ wsL_law, w.before args s = true) : CallW room_1 s args RL RX11 61 yX11_mend cX11_mend 6 (some .int) wsX11_mend rm_X11_mend 0 0 3 := cwV 3 hts gL_law_X11_mend rfl rfl rfl (by decide +kernel) ⟨Nat.le_of_ble_eq_true rfl, Nat.le_of_ble_eq_true rfl⟩
theorem cwL_X12_mend {args : Array Value} (hts : ∀ w ∈ wsL_law, w.before args s = true) : CallW room_1 s args RL RX12 64 yX12_mend cX12_mend 5 (some .int) wsX12_mend rm_X12_mend 0 0 3 := cwV 3 hts gL_law_X12_mend rfl rfl rfl (by decide +kernel) ⟨Nat.le_of_ble_eq_true rfl, Nat.le_of_ble_eq_true rfl⟩
set_option maxRecDepth 20000 in
theorem lc_mend (S : CallFix p m c cL_law 4 s #[Value.ref b] wsL_law RL) (F : Fix2 D cy s ad am) (hX : va_X b L xs s s.heap) (hbl : b < s.heap.size) (hL : L ≤ 2048) (hf : cells ≤ room_1.cells ∧ slots ≤ room_1.slots) {i : Nat} (hi : i + 4 ≤ L) (hl : lv_has ls 4 (lcl b ad am i)) (K : Goes2 p l e s m below meth c cells slots Q D cy b ad am ls) {A : AS} (hI : Inv σ τ A) (hP : va_P D vwCl (WW 39 (cellC cy ad) ad σ) H) (hM : va_P D vwCl (WW 28 (cellM cy am) am τ) H) (hS : va_S (LA s) s.heap H locs) : W p l e room_1 s m #[Value.ref b] below meth c H locs cells slots Q (F0 m 375 ls []) := by
  obtain ⟨v, σ2, τ2, A2, e1, e2, hI2⟩ := mend_m (N := bigN) (a := (xs (i + 1)).toInt) (b := (xs (i + 2)).toInt) (c := (xs (i + 3)).toInt) (bigN_2 (by decide)) bigN_1 hI (i32_lo _) (i32_hi _) (i32_lo _) (i32_hi _) (i32_lo _) (i32_hi _)
  refine lv_aload_n S.1 S.2.1 dL_law_375 rfl (lv_at hl 1 rfl) ?_
  refine l_arg S hX hbl hS hl (k := 1) hL (by omega) rfl dL_law_376 dL_law_377 dL_law_378 dL_law_379 dL_law_380 ?_
  refine l_arg S hX hbl hS hl (k := 2) hL (by omega) rfl dL_law_381 dL_law_382 dL_law_383 dL_law_384 dL_law_385 ?_
  refine l_arg S hX hbl hS hl (k := 3) hL (by omega) rfl dL_law_386 dL_law_387 dL_law_388 dL_law_389 dL_law_390 ?_
  refine l_C S F hP hM hS [.int (zI (xs (i + 1)).toInt), .int (zI (xs (i + 2)).toInt), .int (zI (xs (i + 3)).toInt)] (c_X11_mend l D cy ad F.2.1 bigN _ _ _ σ e1) (cwL_X11_mend S.2.2.2.2) rfl hl.1 rfl dL_law_391 hf (fun H locs hP hM hS => ?_)
  refine lv_aload_n S.1 S.2.1 dL_law_394 rfl (lv_at hl 2 rfl) ?_
  refine l_arg S hX hbl hS hl (k := 1) hL (by omega) rfl dL_law_395 dL_law_396 dL_law_397 dL_law_398 dL_law_399 ?_
  refine l_arg S hX hbl hS hl (k := 2) hL (by omega) rfl dL_law_400 dL_law_401 dL_law_402 dL_law_403 dL_law_404 ?_
  refine l_arg S hX hbl hS hl (k := 3) hL (by omega) rfl dL_law_405 dL_law_406 dL_law_407 dL_law_408 dL_law_409 ?_
  refine l_M S F hP hM hS [.int (zI (xs (i + 1)).toInt), .int (zI (xs (i + 2)).toInt), .int (zI (xs (i + 3)).toInt)] (c_X12_mend l D cy am F.2.2.1 bigN _ _ _ τ e2) (cwL_X12_mend S.2.2.2.2) rfl hl.1 rfl dL_law_410 hf (fun H locs hP hM hS => ?_)
  refine lv_icmp_eq (tgt := 605) S.1 S.2.1 dL_law_413 (by decide) (fun _ => ?_) (fun h => absurd rfl h)
  exact K σ2 τ2 A2 H locs hI2 hP hM hS
theorem cwL_X11_text {args : Array Value} (hts : ∀ w ∈ wsL_law, w.before args s = true) : CallW room_1 s args RL RX11 65 yX11_text cX11_text 5 (some .int) wsX11_text rm_X11_text 0 0 1 := cwV 1 hts gL_law_X11_text rfl rfl rfl (by decide +kernel) ⟨Nat.le_of_ble_eq_true rfl, Nat.le_of_ble_eq_true rfl⟩
theorem cwL_X12_text {args : Array Value} (hts : ∀ w ∈ wsL_law, w.before args s = true) : CallW room_1 s args RL RX12 68 yX12_text cX12_text 4 (some .int) wsX12_text rm_X12_text 0 0 1 := cwV 1 hts gL_law_X12_text rfl rfl rfl (by decide +kernel) ⟨Nat.le_of_ble_eq_true rfl, Nat.le_of_ble_eq_true rfl⟩
set_option maxRecDepth 20000 in
theorem lc_text (S : CallFix p m c cL_law 4 s #[Value.ref b] wsL_law RL) (F : Fix2 D cy s ad am) (hX : va_X b L xs s s.heap) (hbl : b < s.heap.size) (hL : L ≤ 2048) (hf : cells ≤ room_1.cells ∧ slots ≤ room_1.slots) {i : Nat} (hi : i + 4 ≤ L) (hl : lv_has ls 4 (lcl b ad am i)) (K : Goes2 p l e s m below meth c cells slots Q D cy b ad am ls) {A : AS} (hI : Inv σ τ A) (hP : va_P D vwCl (WW 39 (cellC cy ad) ad σ) H) (hM : va_P D vwCl (WW 28 (cellM cy am) am τ) H) (hS : va_S (LA s) s.heap H locs) : W p l e room_1 s m #[Value.ref b] below meth c H locs cells slots Q (F0 m 418 ls []) := by
  obtain ⟨v, σ2, τ2, A2, e1, e2, hI2⟩ := text_m (N := bigN) (a := (xs (i + 1)).toInt) (bigN_2 (by decide)) bigN_1 hI (i32_lo _) (i32_hi _)
  refine lv_aload_n S.1 S.2.1 dL_law_418 rfl (lv_at hl 1 rfl) ?_
  refine l_arg S hX hbl hS hl (k := 1) hL (by omega) rfl dL_law_419 dL_law_420 dL_law_421 dL_law_422 dL_law_423 ?_
  refine l_C S F hP hM hS [.int (zI (xs (i + 1)).toInt)] (c_X11_text l D cy ad F.2.1 bigN _ σ e1) (cwL_X11_text S.2.2.2.2) rfl hl.1 rfl dL_law_424 hf (fun H locs hP hM hS => ?_)
  refine lv_aload_n S.1 S.2.1 dL_law_427 rfl (lv_at hl 2 rfl) ?_
  refine l_arg S hX hbl hS hl (k := 1) hL (by omega) rfl dL_law_428 dL_law_429 dL_law_430 dL_law_431 dL_law_432 ?_
  refine l_M S F hP hM hS [.int (zI (xs (i + 1)).toInt)] (c_X12_text l D cy am F.2.2.1 bigN _ τ e2) (cwL_X12_text S.2.2.2.2) rfl hl.1 rfl dL_law_433 hf (fun H locs hP hM hS => ?_)
  refine lv_icmp_eq (tgt := 605) S.1 S.2.1 dL_law_436 (by decide) (fun _ => ?_) (fun h => absurd rfl h)
  exact K σ2 τ2 A2 H locs hI2 hP hM hS
theorem cwL_X11_ways {args : Array Value} (hts : ∀ w ∈ wsL_law, w.before args s = true) : CallW room_1 s args RL RX11 69 yX11_ways cX11_ways 4 (some .int) wsX11_ways rm_X11_ways 0 0 0 := cwV 0 hts gL_law_X11_ways rfl rfl rfl (by decide +kernel) ⟨Nat.le_of_ble_eq_true rfl, Nat.le_of_ble_eq_true rfl⟩
theorem cwL_X12_ways {args : Array Value} (hts : ∀ w ∈ wsL_law, w.before args s = true) : CallW room_1 s args RL RX12 72 yX12_ways cX12_ways 4 (some .int) wsX12_ways rm_X12_ways 0 0 0 := cwV 0 hts gL_law_X12_ways rfl rfl rfl (by decide +kernel) ⟨Nat.le_of_ble_eq_true rfl, Nat.le_of_ble_eq_true rfl⟩
set_option maxRecDepth 20000 in
theorem lc_ways (S : CallFix p m c cL_law 4 s #[Value.ref b] wsL_law RL) (F : Fix2 D cy s ad am) (hX : va_X b L xs s s.heap) (hbl : b < s.heap.size) (hL : L ≤ 2048) (hf : cells ≤ room_1.cells ∧ slots ≤ room_1.slots) {i : Nat} (hi : i + 4 ≤ L) (hl : lv_has ls 4 (lcl b ad am i)) (K : Goes2 p l e s m below meth c cells slots Q D cy b ad am ls) {A : AS} (hI : Inv σ τ A) (hP : va_P D vwCl (WW 39 (cellC cy ad) ad σ) H) (hM : va_P D vwCl (WW 28 (cellM cy am) am τ) H) (hS : va_S (LA s) s.heap H locs) : W p l e room_1 s m #[Value.ref b] below meth c H locs cells slots Q (F0 m 441 ls []) := by
  obtain ⟨v, σ2, τ2, A2, e1, e2, hI2⟩ := ways_m (N := bigN)  (bigN_2 (by decide)) bigN_1 hI
  refine lv_aload_n S.1 S.2.1 dL_law_441 rfl (lv_at hl 1 rfl) ?_
  refine l_C S F hP hM hS [] (c_X11_ways l D cy ad F.2.1 bigN σ e1) (cwL_X11_ways S.2.2.2.2) rfl hl.1 rfl dL_law_442 hf (fun H locs hP hM hS => ?_)
  refine lv_aload_n S.1 S.2.1 dL_law_445 rfl (lv_at hl 2 rfl) ?_
  refine l_M S F hP hM hS [] (c_X12_ways l D cy am F.2.2.1 bigN τ e2) (cwL_X12_ways S.2.2.2.2) rfl hl.1 rfl dL_law_446 hf (fun H locs hP hM hS => ?_)
  refine lv_icmp_eq (tgt := 605) S.1 S.2.1 dL_law_449 (by decide) (fun _ => ?_) (fun h => absurd rfl h)
  exact K σ2 τ2 A2 H locs hI2 hP hM hS
theorem cwL_X11_kept {args : Array Value} (hts : ∀ w ∈ wsL_law, w.before args s = true) : CallW room_1 s args RL RX11 73 yX11_kept cX11_kept 6 (some .int) wsX11_kept rm_X11_kept 0 0 1 := cwV 1 hts gL_law_X11_kept rfl rfl rfl (by decide +kernel) ⟨Nat.le_of_ble_eq_true rfl, Nat.le_of_ble_eq_true rfl⟩
theorem cwL_X12_kept {args : Array Value} (hts : ∀ w ∈ wsL_law, w.before args s = true) : CallW room_1 s args RL RX12 76 yX12_kept cX12_kept 8 (some .int) wsX12_kept rm_X12_kept 0 0 1 := cwV 1 hts gL_law_X12_kept rfl rfl rfl (by decide +kernel) ⟨Nat.le_of_ble_eq_true rfl, Nat.le_of_ble_eq_true rfl⟩
set_option maxRecDepth 20000 in
theorem lc_kept (S : CallFix p m c cL_law 4 s #[Value.ref b] wsL_law RL) (F : Fix2 D cy s ad am) (hX : va_X b L xs s s.heap) (hbl : b < s.heap.size) (hL : L ≤ 2048) (hf : cells ≤ room_1.cells ∧ slots ≤ room_1.slots) {i : Nat} (hi : i + 4 ≤ L) (hl : lv_has ls 4 (lcl b ad am i)) (K : Goes2 p l e s m below meth c cells slots Q D cy b ad am ls) {A : AS} (hI : Inv σ τ A) (hP : va_P D vwCl (WW 39 (cellC cy ad) ad σ) H) (hM : va_P D vwCl (WW 28 (cellM cy am) am τ) H) (hS : va_S (LA s) s.heap H locs) : W p l e room_1 s m #[Value.ref b] below meth c H locs cells slots Q (F0 m 454 ls []) := by
  obtain ⟨v, σ2, τ2, A2, e1, e2, hI2⟩ := kept_m (N := bigN) (a := (xs (i + 1)).toInt) (bigN_2 (by decide)) bigN_1 hI (i32_lo _) (i32_hi _)
  refine lv_aload_n S.1 S.2.1 dL_law_454 rfl (lv_at hl 1 rfl) ?_
  refine l_arg S hX hbl hS hl (k := 1) hL (by omega) rfl dL_law_455 dL_law_456 dL_law_457 dL_law_458 dL_law_459 ?_
  refine l_C S F hP hM hS [.int (zI (xs (i + 1)).toInt)] (c_X11_kept l D cy ad F.2.1 bigN _ σ e1) (cwL_X11_kept S.2.2.2.2) rfl hl.1 rfl dL_law_460 hf (fun H locs hP hM hS => ?_)
  refine lv_aload_n S.1 S.2.1 dL_law_463 rfl (lv_at hl 2 rfl) ?_
  refine l_arg S hX hbl hS hl (k := 1) hL (by omega) rfl dL_law_464 dL_law_465 dL_law_466 dL_law_467 dL_law_468 ?_
  refine l_M S F hP hM hS [.int (zI (xs (i + 1)).toInt)] (c_X12_kept l D cy am F.2.2.1 bigN _ τ e2) (cwL_X12_kept S.2.2.2.2) rfl hl.1 rfl dL_law_469 hf (fun H locs hP hM hS => ?_)
  refine lv_icmp_eq (tgt := 605) S.1 S.2.1 dL_law_472 (by decide) (fun _ => ?_) (fun h => absurd rfl h)
  exact K σ2 τ2 A2 H locs hI2 hP hM hS
theorem cwL_X11_example {args : Array Value} (hts : ∀ w ∈ wsL_law, w.before args s = true) : CallW room_1 s args RL RX11 77 yX11_example cX11_example 1 (some .int) wsX11_example rm_X11_example 0 0 0 := cwV 0 hts gL_law_X11_example rfl rfl rfl (by decide +kernel) ⟨Nat.le_of_ble_eq_true rfl, Nat.le_of_ble_eq_true rfl⟩
theorem cwL_X12_example {args : Array Value} (hts : ∀ w ∈ wsL_law, w.before args s = true) : CallW room_1 s args RL RX12 80 yX12_example cX12_example 2 (some .int) wsX12_example rm_X12_example 0 0 0 := cwV 0 hts gL_law_X12_example rfl rfl rfl (by decide +kernel) ⟨Nat.le_of_ble_eq_true rfl, Nat.le_of_ble_eq_true rfl⟩
set_option maxRecDepth 20000 in
theorem lc_example (S : CallFix p m c cL_law 4 s #[Value.ref b] wsL_law RL) (F : Fix2 D cy s ad am) (hX : va_X b L xs s s.heap) (hbl : b < s.heap.size) (hL : L ≤ 2048) (hf : cells ≤ room_1.cells ∧ slots ≤ room_1.slots) {i : Nat} (hi : i + 4 ≤ L) (hl : lv_has ls 4 (lcl b ad am i)) (K : Goes2 p l e s m below meth c cells slots Q D cy b ad am ls) {A : AS} (hI : Inv σ τ A) (hP : va_P D vwCl (WW 39 (cellC cy ad) ad σ) H) (hM : va_P D vwCl (WW 28 (cellM cy am) am τ) H) (hS : va_S (LA s) s.heap H locs) : W p l e room_1 s m #[Value.ref b] below meth c H locs cells slots Q (F0 m 477 ls []) := by
  obtain ⟨v, σ2, τ2, A2, e1, e2, hI2⟩ := example_m (N := bigN)  (bigN_2 (by decide)) hI
  refine lv_aload_n S.1 S.2.1 dL_law_477 rfl (lv_at hl 1 rfl) ?_
  refine l_C S F hP hM hS [] (c_X11_example l D cy ad F.2.1 bigN σ e1) (cwL_X11_example S.2.2.2.2) rfl hl.1 rfl dL_law_478 hf (fun H locs hP hM hS => ?_)
  refine lv_aload_n S.1 S.2.1 dL_law_481 rfl (lv_at hl 2 rfl) ?_
  refine l_M S F hP hM hS [] (c_X12_example l D cy am F.2.2.1 bigN τ e2) (cwL_X12_example S.2.2.2.2) rfl hl.1 rfl dL_law_482 hf (fun H locs hP hM hS => ?_)
  refine lv_icmp_eq (tgt := 605) S.1 S.2.1 dL_law_485 (by decide) (fun _ => ?_) (fun h => absurd rfl h)
  exact K σ2 τ2 A2 H locs hI2 hP hM hS
theorem cwL_X11_forget {args : Array Value} (hts : ∀ w ∈ wsL_law, w.before args s = true) : CallW room_1 s args RL RX11 81 yX11_forget cX11_forget 2 (some .int) wsX11_forget rm_X11_forget 0 0 0 := cwV 0 hts gL_law_X11_forget rfl rfl rfl (by decide +kernel) ⟨Nat.le_of_ble_eq_true rfl, Nat.le_of_ble_eq_true rfl⟩
theorem cwL_X12_forget {args : Array Value} (hts : ∀ w ∈ wsL_law, w.before args s = true) : CallW room_1 s args RL RX12 84 yX12_forget cX12_forget 2 (some .int) wsX12_forget rm_X12_forget 0 0 0 := cwV 0 hts gL_law_X12_forget rfl rfl rfl (by decide +kernel) ⟨Nat.le_of_ble_eq_true rfl, Nat.le_of_ble_eq_true rfl⟩
set_option maxRecDepth 20000 in
theorem lc_forget (S : CallFix p m c cL_law 4 s #[Value.ref b] wsL_law RL) (F : Fix2 D cy s ad am) (hX : va_X b L xs s s.heap) (hbl : b < s.heap.size) (hL : L ≤ 2048) (hf : cells ≤ room_1.cells ∧ slots ≤ room_1.slots) {i : Nat} (hi : i + 4 ≤ L) (hl : lv_has ls 4 (lcl b ad am i)) (K : Goes2 p l e s m below meth c cells slots Q D cy b ad am ls) {A : AS} (hI : Inv σ τ A) (hP : va_P D vwCl (WW 39 (cellC cy ad) ad σ) H) (hM : va_P D vwCl (WW 28 (cellM cy am) am τ) H) (hS : va_S (LA s) s.heap H locs) : W p l e room_1 s m #[Value.ref b] below meth c H locs cells slots Q (F0 m 490 ls []) := by
  obtain ⟨v, σ2, τ2, A2, e1, e2, hI2⟩ := forget_m (N := bigN)  (bigN_2 (by decide)) hI
  refine lv_aload_n S.1 S.2.1 dL_law_490 rfl (lv_at hl 1 rfl) ?_
  refine l_C S F hP hM hS [] (c_X11_forget l D cy ad F.2.1 σ e1) (cwL_X11_forget S.2.2.2.2) rfl hl.1 rfl dL_law_491 hf (fun H locs hP hM hS => ?_)
  refine lv_aload_n S.1 S.2.1 dL_law_494 rfl (lv_at hl 2 rfl) ?_
  refine l_M S F hP hM hS [] (c_X12_forget l D cy am F.2.2.1 bigN τ e2) (cwL_X12_forget S.2.2.2.2) rfl hl.1 rfl dL_law_495 hf (fun H locs hP hM hS => ?_)
  refine lv_icmp_eq (tgt := 605) S.1 S.2.1 dL_law_498 (by decide) (fun _ => ?_) (fun h => absurd rfl h)
  exact K σ2 τ2 A2 H locs hI2 hP hM hS
theorem cwL_X11_near {args : Array Value} (hts : ∀ w ∈ wsL_law, w.before args s = true) : CallW room_1 s args RL RX11 85 yX11_near cX11_near 5 (some .int) wsX11_near rm_X11_near 0 0 2 := cwV 2 hts gL_law_X11_near rfl rfl rfl (by decide +kernel) ⟨Nat.le_of_ble_eq_true rfl, Nat.le_of_ble_eq_true rfl⟩
theorem cwL_X12_near {args : Array Value} (hts : ∀ w ∈ wsL_law, w.before args s = true) : CallW room_1 s args RL RX12 88 yX12_near cX12_near 4 (some .int) wsX12_near rm_X12_near 0 0 2 := cwV 2 hts gL_law_X12_near rfl rfl rfl (by decide +kernel) ⟨Nat.le_of_ble_eq_true rfl, Nat.le_of_ble_eq_true rfl⟩
set_option maxRecDepth 20000 in
theorem lc_near (S : CallFix p m c cL_law 4 s #[Value.ref b] wsL_law RL) (F : Fix2 D cy s ad am) (hX : va_X b L xs s s.heap) (hbl : b < s.heap.size) (hL : L ≤ 2048) (hf : cells ≤ room_1.cells ∧ slots ≤ room_1.slots) {i : Nat} (hi : i + 4 ≤ L) (hl : lv_has ls 4 (lcl b ad am i)) (K : Goes2 p l e s m below meth c cells slots Q D cy b ad am ls) {A : AS} (hI : Inv σ τ A) (hP : va_P D vwCl (WW 39 (cellC cy ad) ad σ) H) (hM : va_P D vwCl (WW 28 (cellM cy am) am τ) H) (hS : va_S (LA s) s.heap H locs) : W p l e room_1 s m #[Value.ref b] below meth c H locs cells slots Q (F0 m 503 ls []) := by
  obtain ⟨v, σ2, τ2, A2, e1, e2, hI2⟩ := near_m (N := bigN) (a := (xs (i + 1)).toInt) (b := (xs (i + 2)).toInt) (bigN_2 (by decide)) hI (i32_lo _) (i32_hi _) (i32_lo _) (i32_hi _)
  refine lv_aload_n S.1 S.2.1 dL_law_503 rfl (lv_at hl 1 rfl) ?_
  refine l_arg S hX hbl hS hl (k := 1) hL (by omega) rfl dL_law_504 dL_law_505 dL_law_506 dL_law_507 dL_law_508 ?_
  refine l_arg S hX hbl hS hl (k := 2) hL (by omega) rfl dL_law_509 dL_law_510 dL_law_511 dL_law_512 dL_law_513 ?_
  refine l_C S F hP hM hS [.int (zI (xs (i + 1)).toInt), .int (zI (xs (i + 2)).toInt)] (c_X11_near l D cy ad F.2.1 bigN _ _ σ e1) (cwL_X11_near S.2.2.2.2) rfl hl.1 rfl dL_law_514 hf (fun H locs hP hM hS => ?_)
  refine lv_aload_n S.1 S.2.1 dL_law_517 rfl (lv_at hl 2 rfl) ?_
  refine l_arg S hX hbl hS hl (k := 1) hL (by omega) rfl dL_law_518 dL_law_519 dL_law_520 dL_law_521 dL_law_522 ?_
  refine l_arg S hX hbl hS hl (k := 2) hL (by omega) rfl dL_law_523 dL_law_524 dL_law_525 dL_law_526 dL_law_527 ?_
  refine l_M S F hP hM hS [.int (zI (xs (i + 1)).toInt), .int (zI (xs (i + 2)).toInt)] (c_X12_near l D cy am F.2.2.1 bigN _ _ τ e2) (cwL_X12_near S.2.2.2.2) rfl hl.1 rfl dL_law_528 hf (fun H locs hP hM hS => ?_)
  refine lv_icmp_eq (tgt := 605) S.1 S.2.1 dL_law_531 (by decide) (fun _ => ?_) (fun h => absurd rfl h)
  exact K σ2 τ2 A2 H locs hI2 hP hM hS
theorem cwL_X11_total {args : Array Value} (hts : ∀ w ∈ wsL_law, w.before args s = true) : CallW room_1 s args RL RX11 89 yX11_total cX11_total 2 (some .int) wsX11_total rm_X11_total 0 0 0 := cwV 0 hts gL_law_X11_total rfl rfl rfl (by decide +kernel) ⟨Nat.le_of_ble_eq_true rfl, Nat.le_of_ble_eq_true rfl⟩
theorem cwL_X12_total {args : Array Value} (hts : ∀ w ∈ wsL_law, w.before args s = true) : CallW room_1 s args RL RX12 92 yX12_total cX12_total 2 (some .int) wsX12_total rm_X12_total 0 0 0 := cwV 0 hts gL_law_X12_total rfl rfl rfl (by decide +kernel) ⟨Nat.le_of_ble_eq_true rfl, Nat.le_of_ble_eq_true rfl⟩
set_option maxRecDepth 20000 in
theorem lc_total (S : CallFix p m c cL_law 4 s #[Value.ref b] wsL_law RL) (F : Fix2 D cy s ad am) (hX : va_X b L xs s s.heap) (hbl : b < s.heap.size) (hL : L ≤ 2048) (hf : cells ≤ room_1.cells ∧ slots ≤ room_1.slots) {i : Nat} (hi : i + 4 ≤ L) (hl : lv_has ls 4 (lcl b ad am i)) (K : Goes2 p l e s m below meth c cells slots Q D cy b ad am ls) {A : AS} (hI : Inv σ τ A) (hP : va_P D vwCl (WW 39 (cellC cy ad) ad σ) H) (hM : va_P D vwCl (WW 28 (cellM cy am) am τ) H) (hS : va_S (LA s) s.heap H locs) : W p l e room_1 s m #[Value.ref b] below meth c H locs cells slots Q (F0 m 536 ls []) := by
  obtain ⟨v, σ2, τ2, A2, e1, e2, hI2⟩ := total_m (N := bigN)  (bigN_2 (by decide)) bigN_1 hI
  refine lv_aload_n S.1 S.2.1 dL_law_536 rfl (lv_at hl 1 rfl) ?_
  refine l_C S F hP hM hS [] (c_X11_total l D cy ad F.2.1 bigN σ e1) (cwL_X11_total S.2.2.2.2) rfl hl.1 rfl dL_law_537 hf (fun H locs hP hM hS => ?_)
  refine lv_aload_n S.1 S.2.1 dL_law_540 rfl (lv_at hl 2 rfl) ?_
  refine l_M S F hP hM hS [] (c_X12_total l D cy am F.2.2.1 bigN τ e2) (cwL_X12_total S.2.2.2.2) rfl hl.1 rfl dL_law_541 hf (fun H locs hP hM hS => ?_)
  refine lv_icmp_eq (tgt := 605) S.1 S.2.1 dL_law_544 (by decide) (fun _ => ?_) (fun h => absurd rfl h)
  exact K σ2 τ2 A2 H locs hI2 hP hM hS
theorem cwL_X11_more {args : Array Value} (hts : ∀ w ∈ wsL_law, w.before args s = true) : CallW room_1 s args RL RX11 93 yX11_more cX11_more 4 (some .int) wsX11_more rm_X11_more 0 0 2 := cwV 2 hts gL_law_X11_more rfl rfl rfl (by decide +kernel) ⟨Nat.le_of_ble_eq_true rfl, Nat.le_of_ble_eq_true rfl⟩
theorem cwL_X12_more {args : Array Value} (hts : ∀ w ∈ wsL_law, w.before args s = true) : CallW room_1 s args RL RX12 96 yX12_more cX12_more 4 (some .int) wsX12_more rm_X12_more 0 0 2 := cwV 2 hts gL_law_X12_more rfl rfl rfl (by decide +kernel) ⟨Nat.le_of_ble_eq_true rfl, Nat.le_of_ble_eq_true rfl⟩
set_option maxRecDepth 20000 in
theorem lc_more (S : CallFix p m c cL_law 4 s #[Value.ref b] wsL_law RL) (F : Fix2 D cy s ad am) (hX : va_X b L xs s s.heap) (hbl : b < s.heap.size) (hL : L ≤ 2048) (hf : cells ≤ room_1.cells ∧ slots ≤ room_1.slots) {i : Nat} (hi : i + 4 ≤ L) (hl : lv_has ls 4 (lcl b ad am i)) (K : Goes2 p l e s m below meth c cells slots Q D cy b ad am ls) {A : AS} (hI : Inv σ τ A) (hP : va_P D vwCl (WW 39 (cellC cy ad) ad σ) H) (hM : va_P D vwCl (WW 28 (cellM cy am) am τ) H) (hS : va_S (LA s) s.heap H locs) : W p l e room_1 s m #[Value.ref b] below meth c H locs cells slots Q (F0 m 549 ls []) := by
  obtain ⟨v, σ2, τ2, A2, e1, e2, hI2⟩ := more_m (N := bigN) (a := (xs (i + 1)).toInt) (b := (xs (i + 2)).toInt) (bigN_2 (by decide)) bigN_1 hI (i32_lo _) (i32_hi _) (i32_lo _) (i32_hi _)
  refine lv_aload_n S.1 S.2.1 dL_law_549 rfl (lv_at hl 1 rfl) ?_
  refine l_arg S hX hbl hS hl (k := 1) hL (by omega) rfl dL_law_550 dL_law_551 dL_law_552 dL_law_553 dL_law_554 ?_
  refine l_arg S hX hbl hS hl (k := 2) hL (by omega) rfl dL_law_555 dL_law_556 dL_law_557 dL_law_558 dL_law_559 ?_
  refine l_C S F hP hM hS [.int (zI (xs (i + 1)).toInt), .int (zI (xs (i + 2)).toInt)] (c_X11_more l D cy ad F.2.1 bigN _ _ σ e1) (cwL_X11_more S.2.2.2.2) rfl hl.1 rfl dL_law_560 hf (fun H locs hP hM hS => ?_)
  refine lv_aload_n S.1 S.2.1 dL_law_563 rfl (lv_at hl 2 rfl) ?_
  refine l_arg S hX hbl hS hl (k := 1) hL (by omega) rfl dL_law_564 dL_law_565 dL_law_566 dL_law_567 dL_law_568 ?_
  refine l_arg S hX hbl hS hl (k := 2) hL (by omega) rfl dL_law_569 dL_law_570 dL_law_571 dL_law_572 dL_law_573 ?_
  refine l_M S F hP hM hS [.int (zI (xs (i + 1)).toInt), .int (zI (xs (i + 2)).toInt)] (c_X12_more l D cy am F.2.2.1 bigN _ _ τ e2) (cwL_X12_more S.2.2.2.2) rfl hl.1 rfl dL_law_574 hf (fun H locs hP hM hS => ?_)
  refine lv_icmp_eq (tgt := 605) S.1 S.2.1 dL_law_577 (by decide) (fun _ => ?_) (fun h => absurd rfl h)
  exact K σ2 τ2 A2 H locs hI2 hP hM hS
theorem cwL_X11_told {args : Array Value} (hts : ∀ w ∈ wsL_law, w.before args s = true) : CallW room_1 s args RL RX11 97 yX11_told cX11_told 2 (some .int) wsX11_told rm_X11_told 0 0 1 := cwV 1 hts gL_law_X11_told rfl rfl rfl (by decide +kernel) ⟨Nat.le_of_ble_eq_true rfl, Nat.le_of_ble_eq_true rfl⟩
theorem cwL_X12_told {args : Array Value} (hts : ∀ w ∈ wsL_law, w.before args s = true) : CallW room_1 s args RL RX12 100 yX12_told cX12_told 4 (some .int) wsX12_told rm_X12_told 0 0 1 := cwV 1 hts gL_law_X12_told rfl rfl rfl (by decide +kernel) ⟨Nat.le_of_ble_eq_true rfl, Nat.le_of_ble_eq_true rfl⟩
set_option maxRecDepth 20000 in
theorem lc_told (S : CallFix p m c cL_law 4 s #[Value.ref b] wsL_law RL) (F : Fix2 D cy s ad am) (hX : va_X b L xs s s.heap) (hbl : b < s.heap.size) (hL : L ≤ 2048) (hf : cells ≤ room_1.cells ∧ slots ≤ room_1.slots) {i : Nat} (hi : i + 4 ≤ L) (hl : lv_has ls 4 (lcl b ad am i)) (K : Goes2 p l e s m below meth c cells slots Q D cy b ad am ls) {A : AS} (hI : Inv σ τ A) (hP : va_P D vwCl (WW 39 (cellC cy ad) ad σ) H) (hM : va_P D vwCl (WW 28 (cellM cy am) am τ) H) (hS : va_S (LA s) s.heap H locs) : W p l e room_1 s m #[Value.ref b] below meth c H locs cells slots Q (F0 m 582 ls []) := by
  obtain ⟨v, e1, e2⟩ := told_m (N := bigN) (a := (xs (i + 1)).toInt) (bigN_2 (by decide)) hI (i32_lo _) (i32_hi _)
  refine lv_aload_n S.1 S.2.1 dL_law_582 rfl (lv_at hl 1 rfl) ?_
  refine l_arg S hX hbl hS hl (k := 1) hL (by omega) rfl dL_law_583 dL_law_584 dL_law_585 dL_law_586 dL_law_587 ?_
  refine l_C S F hP hM hS [.int (zI (xs (i + 1)).toInt)] (c_X11_told l D cy ad F.2.1 _ σ e1) (cwL_X11_told S.2.2.2.2) rfl hl.1 rfl dL_law_588 hf (fun H locs hP hM hS => ?_)
  refine lv_aload_n S.1 S.2.1 dL_law_591 rfl (lv_at hl 2 rfl) ?_
  refine l_arg S hX hbl hS hl (k := 1) hL (by omega) rfl dL_law_592 dL_law_593 dL_law_594 dL_law_595 dL_law_596 ?_
  refine l_M S F hP hM hS [.int (zI (xs (i + 1)).toInt)] (c_X12_told l D cy am F.2.2.1 bigN _ τ e2) (cwL_X12_told S.2.2.2.2) rfl hl.1 rfl dL_law_597 hf (fun H locs hP hM hS => ?_)
  refine lv_icmp_eq (tgt := 605) S.1 S.2.1 dL_law_600 (by decide) (fun _ => ?_) (fun h => absurd rfl h)
  exact K σ τ A H locs hI hP hM hS
theorem cases21 {y : Int} (h : ¬ (y < 0 ∨ 20 < y)) : y = 0 ∨ y = 1 ∨ y = 2 ∨ y = 3 ∨ y = 4 ∨ y = 5 ∨ y = 6 ∨ y = 7 ∨ y = 8 ∨ y = 9 ∨ y = 10 ∨ y = 11 ∨ y = 12 ∨ y = 13 ∨ y = 14 ∨ y = 15 ∨ y = 16 ∨ y = 17 ∨ y = 18 ∨ y = 19 ∨ y = 20 := by omega
set_option maxRecDepth 20000 in
theorem l_switch (S : CallFix p m c cL_law 4 s #[Value.ref b] wsL_law RL) (F : Fix2 D cy s ad am) (hX : va_X b L xs s s.heap) (hbl : b < s.heap.size) (hL : L ≤ 2048) (hf : cells ≤ room_1.cells ∧ slots ≤ room_1.slots) {i : Nat} (hi : i + 4 ≤ L) (hl : lv_has ls 4 (lcl b ad am i)) (K : Goes2 p l e s m below meth c cells slots Q D cy b ad am ls) {A : AS} (hI : Inv σ τ A) (hP : va_P D vwCl (WW 39 (cellC cy ad) ad σ) H) (hM : va_P D vwCl (WW 28 (cellM cy am) am τ) H) (hS : va_S (LA s) s.heap H locs) {z : Int} : W p l e room_1 s m #[Value.ref b] below meth c H locs cells slots Q (F0 m 32 ls [.int (zI z)]) := by
  generalize zI z = x
  by_cases h : x.toInt < 0 ∨ 20 < x.toInt
  · exact lv_tableOut S.1 S.2.1 (tgt := 605) dL_law_32 h (by decide) (K σ τ A H locs hI hP hM hS)
  · rcases cases21 h with h | h | h | h | h | h | h | h | h | h | h | h | h | h | h | h | h | h | h | h | h
    · exact lv_tableIn S.1 S.2.1 (off := 100) (tgt := 132) dL_law_32 (by rw [h]; decide) (by rw [h]; decide) (by rw [h]; rfl) (by decide) (lc_say S F hX hbl hL hf hi hl K hI hP hM hS)
    · exact lv_tableIn S.1 S.2.1 (off := 123) (tgt := 155) dL_law_32 (by rw [h]; decide) (by rw [h]; decide) (by rw [h]; rfl) (by decide) (lc_wipe S F hX hbl hL hf hi hl K hI hP hM hS)
    · exact lv_tableIn S.1 S.2.1 (off := 136) (tgt := 168) dL_law_32 (by rw [h]; decide) (by rw [h]; decide) (by rw [h]; rfl) (by decide) (lc_fault S F hX hbl hL hf hi hl K hI hP hM hS)
    · exact lv_tableIn S.1 S.2.1 (off := 149) (tgt := 181) dL_law_32 (by rw [h]; decide) (by rw [h]; decide) (by rw [h]; rfl) (by decide) (lc_grammar S F hX hbl hL hf hi hl K hI hP hM hS)
    · exact lv_tableIn S.1 S.2.1 (off := 162) (tgt := 194) dL_law_32 (by rw [h]; decide) (by rw [h]; decide) (by rw [h]; rfl) (by decide) (lc_rule S F hX hbl hL hf hi hl K hI hP hM hS)
    · exact lv_tableIn S.1 S.2.1 (off := 205) (tgt := 237) dL_law_32 (by rw [h]; decide) (by rw [h]; decide) (by rw [h]; rfl) (by decide) (lc_least S F hX hbl hL hf hi hl K hI hP hM hS)
    · exact lv_tableIn S.1 S.2.1 (off := 238) (tgt := 270) dL_law_32 (by rw [h]; decide) (by rw [h]; decide) (by rw [h]; rfl) (by decide) (lc_nothing S F hX hbl hL hf hi hl K hI hP hM hS)
    · exact lv_tableIn S.1 S.2.1 (off := 251) (tgt := 283) dL_law_32 (by rw [h]; decide) (by rw [h]; decide) (by rw [h]; rfl) (by decide) (lc_word S F hX hbl hL hf hi hl K hI hP hM hS)
    · exact lv_tableIn S.1 S.2.1 (off := 264) (tgt := 296) dL_law_32 (by rw [h]; decide) (by rw [h]; decide) (by rw [h]; rfl) (by decide) (lc_is S F hX hbl hL hf hi hl K hI hP hM hS)
    · exact lv_tableIn S.1 S.2.1 (off := 287) (tgt := 319) dL_law_32 (by rw [h]; decide) (by rw [h]; decide) (by rw [h]; rfl) (by decide) (lc_first S F hX hbl hL hf hi hl K hI hP hM hS)
    · exact lv_tableIn S.1 S.2.1 (off := 310) (tgt := 342) dL_law_32 (by rw [h]; decide) (by rw [h]; decide) (by rw [h]; rfl) (by decide) (lc_cost S F hX hbl hL hf hi hl K hI hP hM hS)
    · exact lv_tableIn S.1 S.2.1 (off := 343) (tgt := 375) dL_law_32 (by rw [h]; decide) (by rw [h]; decide) (by rw [h]; rfl) (by decide) (lc_mend S F hX hbl hL hf hi hl K hI hP hM hS)
    · exact lv_tableIn S.1 S.2.1 (off := 386) (tgt := 418) dL_law_32 (by rw [h]; decide) (by rw [h]; decide) (by rw [h]; rfl) (by decide) (lc_text S F hX hbl hL hf hi hl K hI hP hM hS)
    · exact lv_tableIn S.1 S.2.1 (off := 409) (tgt := 441) dL_law_32 (by rw [h]; decide) (by rw [h]; decide) (by rw [h]; rfl) (by decide) (lc_ways S F hX hbl hL hf hi hl K hI hP hM hS)
    · exact lv_tableIn S.1 S.2.1 (off := 422) (tgt := 454) dL_law_32 (by rw [h]; decide) (by rw [h]; decide) (by rw [h]; rfl) (by decide) (lc_kept S F hX hbl hL hf hi hl K hI hP hM hS)
    · exact lv_tableIn S.1 S.2.1 (off := 445) (tgt := 477) dL_law_32 (by rw [h]; decide) (by rw [h]; decide) (by rw [h]; rfl) (by decide) (lc_example S F hX hbl hL hf hi hl K hI hP hM hS)
    · exact lv_tableIn S.1 S.2.1 (off := 458) (tgt := 490) dL_law_32 (by rw [h]; decide) (by rw [h]; decide) (by rw [h]; rfl) (by decide) (lc_forget S F hX hbl hL hf hi hl K hI hP hM hS)
    · exact lv_tableIn S.1 S.2.1 (off := 471) (tgt := 503) dL_law_32 (by rw [h]; decide) (by rw [h]; decide) (by rw [h]; rfl) (by decide) (lc_near S F hX hbl hL hf hi hl K hI hP hM hS)
    · exact lv_tableIn S.1 S.2.1 (off := 504) (tgt := 536) dL_law_32 (by rw [h]; decide) (by rw [h]; decide) (by rw [h]; rfl) (by decide) (lc_total S F hX hbl hL hf hi hl K hI hP hM hS)
    · exact lv_tableIn S.1 S.2.1 (off := 517) (tgt := 549) dL_law_32 (by rw [h]; decide) (by rw [h]; decide) (by rw [h]; rfl) (by decide) (lc_more S F hX hbl hL hf hi hl K hI hP hM hS)
    · exact lv_tableIn S.1 S.2.1 (off := 550) (tgt := 582) dL_law_32 (by rw [h]; decide) (by rw [h]; decide) (by rw [h]; rfl) (by decide) (lc_told S F hX hbl hL hf hi hl K hI hP hM hS)
set_option maxRecDepth 20000 in
/-- the law's loop: at its head, with i words of the script read, both sides are alike -/
theorem l_loop (S : CallFix p m c cL_law 4 s #[Value.ref b] wsL_law RL) (F : Fix2 D cy s ad am) (hX : va_X b L xs s s.heap) (hbl : b < s.heap.size) (hL : L ≤ 2048) (hf : cells ≤ room_1.cells ∧ slots ≤ room_1.slots)
    (E : ∀ (H2 : Heap) (locs2 : List Loc) (ls2 : Array Slot), va_S (LA s) s.heap H2 locs2 → W p l e room_1 s m #[Value.ref b] below meth c H2 locs2 cells slots Q (F0 m 611 ls2 [])) :
    ∀ (n i : Nat) (σ τ : Mem) (A : AS) (H : Heap) (locs : List Loc) (ls : Array Slot), i ≤ L → L < i + n → Inv σ τ A → va_P D vwCl (WW 39 (cellC cy ad) ad σ) H → va_P D vwCl (WW 28 (cellM cy am) am τ) H → va_S (LA s) s.heap H locs → lv_has ls 4 (lcl b ad am i) → W p l e room_1 s m #[Value.ref b] below meth c H locs cells slots Q (F0 m 18 ls []) := by
  intro n
  induction n with
  | zero => intro i σ τ A H locs ls h1 h2; exact absurd h2 (by omega)
  | succ n ih =>
    intro i σ τ A H locs ls h1 h2 hI hP hM hS hl
    refine lv_iload_n S.1 S.2.1 dL_law_18 rfl (lv_at hl 3 rfl) ?_
    refine lv_aload_n S.1 S.2.1 dL_law_19 rfl (lv_at hl 0 rfl) ?_
    refine va_slen S.1 S.2.1 hX hbl (Nat.not_le.mpr hbl) hS dL_law_20 ?_
    rw [show Int32.ofNat L = zI (L : Int) from Int32.ofInt_eq_ofNat.symm]
    refine r_iconst S dL_law_21 ?_
    refine r_isub S dL_law_22 ?_
    refine lv_icmp_gt (tgt := 611) S.1 S.2.1 dL_law_23 (by decide) (fun c1 => ?_) (fun c1 => ?_)
    · exact E H locs ls hS
    · have hi : i + 4 ≤ L := by
        rw [Int32.lt_iff_toInt_lt, zI_to (by omega) (by omega), zI_to (by omega) (by omega)] at c1
        omega
      refine l_arg0 S hX hbl hS hl hL (by omega) dL_law_26 dL_law_27 dL_law_28 ?_
      refine r_bipush S dL_law_29 (by decide) ?_
      refine r_iand S dL_law_31 ?_
      refine l_switch S F hX hbl hL hf hi hl (fun σ2 τ2 A2 H2 locs2 hI2 hP2 hM2 hS2 => ?_) hI hP hM hS
      refine r_iinc S (x := ((i + 4 : Nat) : Int)) (by omega) (k0 := 3) (lv2 := [(3, .int (zI ((i + 4 : Nat) : Int))), (0, .ref b), (1, .ref (ad 0)), (2, .ref (am 0))]) dL_law_605 hl rfl (by decide) rfl (fun ls hl => ?_)
      refine lv_goto (tgt := 18) S.1 S.2.1 dL_law_608 (by decide) ?_
      exact ih (i + 4) σ2 τ2 A2 H2 locs2 ls hi (by omega) hI2 hP2 hM2 hS2 (lv_sub hl [1, 2, 3, 0] rfl)
end LAW
