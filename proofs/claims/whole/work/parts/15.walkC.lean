def rm_X4_startUses : Room := { frames := 3, cells := 0, slots := 0, locals := 68 }
theorem k_X4_startUses_1 : (.fieldLink RX4 25 "MendTexts$Grammar" "start" "I" : Cond) ∈ wsX4_startUses := List.mem_of_getElem? (i := 1) (by decide +kernel)
theorem h_X4_startUses_X4 : ∀ w ∈ u_ws RX4 TX4 7, w ∈ wsX4_startUses := mem_places _ [30, 31, 32, 33, 34, 35, 36] (by decide +kernel)
theorem cw_X4_startUses_X4_namesUsedBy {s : State} {args : Array Value} (hts : ∀ w ∈ wsX4_startUses, w.before args s = true) : CallW rm_X4_startUses s args RX4 RX4 72 yX4_namesUsedBy cX4_namesUsedBy 7 (some .int) wsX4_namesUsedBy rm_X4_namesUsedBy 0 0 1 := cwV 1 hts gX4_startUses_X4_namesUsedBy rfl rfl rfl (by decide +kernel) ⟨Nat.le_of_ble_eq_true rfl, Nat.le_of_ble_eq_true rfl⟩
set_option maxHeartbeats 4000000 in
set_option maxRecDepth 100000 in
theorem w_X4_startUses_L18 {p : Program} {l : Launch} {e : Env} {s : State} {m : MethodId} {args : Array Value} {below : List Frame} {meth : Method} {c : Code} {Q : State → Prop} {D : va_G} {cy : Nat → ClassId} {ad : Nat → Nat} {H0 : Heap} (hO : adOK 39 ad) (S : CallFix p m c cX4_startUses 5 s args wsX4_startUses RX4) (hK : KK D cy s) (n : Nat) (x1_ : Int) (x3_ : Int) (σ : Mem) {res : Int} (k0 : ∀ (y2_ : Int) (H2 : Heap) (locs2 : List Loc) (ls2 : Array Slot), res = y2_ → va_P D vwCl (WW 39 (cellC cy ad) ad σ) H2 → va_S (AC 39 ad) H0 H2 locs2 → lv_has ls2 5 [(0, .ref (ad 3)), (1, .int (zI x1_)), (2, .int (zI y2_)), (3, .int (zI x3_))] → W p l e rm_X4_startUses s m args below meth c H2 locs2 0 0 Q (F0 m 53 ls2 [])) :
    ∀ (k : Nat) (x2_ : Int) (x4_ : Int) (H : Heap) (locs : List Loc) (ls : Array Slot), f_X4_startUses_L18 n x1_ x3_ σ k x2_ x4_ = some res → va_P D vwCl (WW 39 (cellC cy ad) ad σ) H → va_S (AC 39 ad) H0 H locs → lv_has ls 5 [(0, .ref (ad 3)), (1, .int (zI x1_)), (2, .int (zI x2_)), (3, .int (zI x3_)), (4, .int (zI x4_))] → W p l e rm_X4_startUses s m args below meth c H locs 0 0 Q (F0 m 18 ls []) := by
  intro k
  induction k with
  | zero =>
    intro x2_ x4_ H locs ls hf
    have hf : none = some res := hf
    cases hf
  | succ k ih =>
    intro x2_ x4_ H locs ls hf hP hS hl
    rw [f_X4_startUses_L18] at hf
    refine lv_iload S.1 S.2.1 dX4_startUses_18 (lv_at hl 4 rfl) ?_
    refine r_bipush S dX4_startUses_20 (by decide) ?_
    refine lv_icmp_ge (tgt := 53) S.1 S.2.1 dX4_startUses_22 (by decide) (fun c1 => ?_) (fun c1 => ?_)
    · have hf := (if_pos c1).symm.trans hf
      exact k0 _ _ _ _ (Option.some.inj hf).symm hP hS (lv_sub hl [0, 1, 2, 3] rfl)
    · have hf := (if_neg c1).symm.trans hf
      refine lv_iload_n S.1 S.2.1 dX4_startUses_25 rfl (lv_at hl 2 rfl) ?_
      refine lv_iload_n S.1 S.2.1 dX4_startUses_26 rfl (lv_at hl 2 rfl) ?_
      refine lv_iload S.1 S.2.1 dX4_startUses_27 (lv_at hl 4 rfl) ?_
      refine r_ishr S dX4_startUses_29 ?_
      refine r_iconst S dX4_startUses_30 ?_
      refine r_iand S dX4_startUses_31 ?_
      obtain ⟨v2, hq, hf⟩ := bV_some hf
      have kJ0 : ∀ (H : Heap) (locs : List Loc) (ls : Array Slot), va_P D vwCl (WW 39 (cellC cy ad) ad σ) H → va_S (AC 39 ad) H0 H locs → lv_has ls 5 [(0, .ref (ad 3)), (1, .int (zI x1_)), (3, .int (zI x3_)), (4, .int (zI x4_))] → W p l e rm_X4_startUses s m args below meth c H locs 0 0 Q (F0 m 45 ls [.int (zI v2), .int (zI x2_)]) := by
        intro H locs ls hP hS hl
        refine r_ior S dX4_startUses_45 ?_
        obtain ⟨x6, hx6, hf⟩ := nm_some hf
        refine r_istore_n S hx6 (lv2 := [(2, .int (zI x6)), (0, .ref (ad 3)), (1, .int (zI x1_)), (3, .int (zI x3_)), (4, .int (zI x4_))]) dX4_startUses_46 rfl hl (by decide) rfl (fun ls hl => ?_)
        obtain ⟨x7, hx7, hf⟩ := nm_some hf
        refine r_iinc S hx7 (k0 := 4) (lv2 := [(4, .int (zI x7)), (2, .int (zI x6)), (0, .ref (ad 3)), (1, .int (zI x1_)), (3, .int (zI x3_))]) dX4_startUses_47 hl rfl (by decide) rfl (fun ls hl => ?_)
        refine lv_goto (tgt := 18) S.1 S.2.1 dX4_startUses_50 (by decide) ?_
        exact ih x6 x7 _ _ _ hf hP hS (lv_sub hl [2, 3, 1, 4, 0] rfl)
      clear hf
      have hf := hq
      refine r_if_eq (tgt := 44) S dX4_startUses_32 (by decide) (fun c3 => ?_) (fun c3 => ?_)
      · have hf := (if_pos c3).symm.trans hf
        refine r_iconst S dX4_startUses_44 ?_
        have e1 := Option.some.inj hf
        subst e1
        exact kJ0 _ _ _ hP hS (lv_sub hl [0, 1, 3, 4] rfl)
      · have hf := (if_neg c3).symm.trans hf
        refine lv_aload_n S.1 S.2.1 dX4_startUses_35 rfl (lv_at hl 0 rfl) ?_
        refine lv_iload S.1 S.2.1 dX4_startUses_36 (lv_at hl 4 rfl) ?_
        obtain ⟨y5, hq4, hf⟩ := bV_some hf
        refine r_callVI S hK hP hS (by decide) rfl rfl [.int (zI x4_)] (c_X4_namesUsedBy l D cy ad hO n x4_ σ hq4) (cw_X4_startUses_X4_namesUsedBy S.2.2.2.2) rfl hl.1 (rest := [.int (zI x2_)]) rfl (Nat.le_of_ble_eq_true rfl) dX4_startUses_38 ⟨Nat.zero_le _, Nat.zero_le _⟩ (fun H locs hP hS => ?_)
        refine lv_goto (tgt := 45) S.1 S.2.1 dX4_startUses_41 (by decide) ?_
        have e1 := Option.some.inj hf
        subst e1
        exact kJ0 _ _ _ hP hS (lv_sub hl [0, 1, 3, 4] rfl)
set_option maxHeartbeats 4000000 in
set_option maxRecDepth 100000 in
theorem w_X4_startUses_L9 {p : Program} {l : Launch} {e : Env} {s : State} {m : MethodId} {args : Array Value} {below : List Frame} {meth : Method} {c : Code} {Q : State → Prop} {D : va_G} {cy : Nat → ClassId} {ad : Nat → Nat} {H0 : Heap} (hO : adOK 39 ad) (S : CallFix p m c cX4_startUses 5 s args wsX4_startUses RX4) (hK : KK D cy s) (n : Nat) (x1_ : Int) (σ : Mem) {res : Int} (k0 : ∀ (y2_ : Int) (H2 : Heap) (locs2 : List Loc) (ls2 : Array Slot), res = y2_ → va_P D vwCl (WW 39 (cellC cy ad) ad σ) H2 → va_S (AC 39 ad) H0 H2 locs2 → lv_has ls2 5 [(1, .int (zI x1_)), (2, .int (zI y2_))] → W p l e rm_X4_startUses s m args below meth c H2 locs2 0 0 Q (F0 m 59 ls2 [])) :
    ∀ (k : Nat) (x2_ : Int) (x3_ : Int) (H : Heap) (locs : List Loc) (ls : Array Slot), f_X4_startUses_L9 n x1_ σ k x2_ x3_ = some res → va_P D vwCl (WW 39 (cellC cy ad) ad σ) H → va_S (AC 39 ad) H0 H locs → lv_has ls 5 [(0, .ref (ad 3)), (1, .int (zI x1_)), (2, .int (zI x2_)), (3, .int (zI x3_))] → W p l e rm_X4_startUses s m args below meth c H locs 0 0 Q (F0 m 9 ls []) := by
  intro k
  induction k with
  | zero =>
    intro x2_ x3_ H locs ls hf
    have hf : none = some res := hf
    cases hf
  | succ k ih =>
    intro x2_ x3_ H locs ls hf hP hS hl
    rw [f_X4_startUses_L9] at hf
    refine lv_iload_n S.1 S.2.1 dX4_startUses_9 rfl (lv_at hl 3 rfl) ?_
    refine r_bipush S dX4_startUses_10 (by decide) ?_
    refine lv_icmp_ge (tgt := 59) S.1 S.2.1 dX4_startUses_12 (by decide) (fun c1 => ?_) (fun c1 => ?_)
    · have hf := (if_pos c1).symm.trans hf
      exact k0 _ _ _ _ (Option.some.inj hf).symm hP hS (lv_sub hl [1, 2] rfl)
    · have hf := (if_neg c1).symm.trans hf
      refine r_iconst S dX4_startUses_15 ?_
      refine r_istore S rfl (lv2 := [(4, .int (zI 0)), (0, .ref (ad 3)), (1, .int (zI x1_)), (2, .int (zI x2_)), (3, .int (zI x3_))]) dX4_startUses_16 hl (by decide) rfl (fun ls hl => ?_)
      obtain ⟨x2, hq, hf⟩ := bV_some hf
      refine w_X4_startUses_L18 hO S hK n x1_ x3_ σ (fun x2 H locs ls he hP hS hl => ?_) n x2_ 0 _ _ _ hq hP hS (lv_sub hl [1, 2, 3, 4, 0] rfl)
      cases he
      obtain ⟨x3, hx3, hf⟩ := nm_some hf
      refine r_iinc S hx3 (k0 := 3) (lv2 := [(3, .int (zI x3)), (0, .ref (ad 3)), (1, .int (zI x1_)), (2, .int (zI x2))]) dX4_startUses_53 hl rfl (by decide) rfl (fun ls hl => ?_)
      refine lv_goto (tgt := 9) S.1 S.2.1 dX4_startUses_56 (by decide) ?_
      exact ih x2 x3 _ _ _ hf hP hS (lv_sub hl [1, 2, 3, 0] rfl)
set_option maxHeartbeats 4000000 in
set_option maxRecDepth 100000 in
theorem c_X4_startUses (l : Launch) (D : va_G) (cy : Nat → ClassId) (ad : Nat → Nat) (hO : adOK 39 ad) (n : Nat) (a0 : Int) (σ : Mem) {v : Int} (hf : f_X4_startUses n a0 σ = some v) : Met l yX4_startUses wsX4_startUses rm_X4_startUses (va_Pc [.ref (ad 3), .int (zI a0)] (PreW D cy 39 (cellC cy ad) ad σ)) (QI D 39 (cellC cy ad) ad v σ) 0 0 (AC 39 ad) := by
  refine r_met (cc := cX4_startUses) (maxL := 5) (ret := (some .boolean)) (own := RX4) (by decide) rfl rfl [.ref (ad 3), .int (zI a0)] (Nat.le_of_ble_eq_true rfl) ?_
  intro p e s m below meth c ls S hK hP hlk hr hl
  have hS : va_S (AC 39 ad) s.heap s.heap [] := va_S.rf
  have hl : lv_has ls 5 [(0, .ref (ad 3)), (1, .int (zI a0))] := hl
  unfold f_X4_startUses at hf
  refine r_iconst S dX4_startUses_0 ?_
  refine lv_aload_n S.1 S.2.1 dX4_startUses_1 rfl (lv_at hl 0 rfl) ?_
  refine r_get S hK hP (by decide) rfl rfl h_X4_startUses_X4 4 (by decide) k_X4_startUses_1 rfl dX4_startUses_2 ?_
  refine r_ishl S dX4_startUses_5 ?_
  obtain ⟨x1, hx1, hf⟩ := nm_some hf
  refine r_istore_n S hx1 (lv2 := [(2, .int (zI x1)), (0, .ref (ad 3)), (1, .int (zI a0))]) dX4_startUses_6 rfl hl (by decide) rfl (fun ls hl => ?_)
  refine r_iconst S dX4_startUses_7 ?_
  refine r_istore_n S rfl (lv2 := [(3, .int (zI 0)), (2, .int (zI x1)), (0, .ref (ad 3)), (1, .int (zI a0))]) dX4_startUses_8 rfl hl (by decide) rfl (fun ls hl => ?_)
  obtain ⟨x2, hq, hf⟩ := bV_some hf
  refine w_X4_startUses_L9 hO S hK n a0 σ (fun x2 H locs ls he hP hS hl => ?_) n x1 0 _ _ _ hq hP hS (lv_sub hl [2, 3, 1, 0] rfl)
  cases he
  refine lv_iload_n S.1 S.2.1 dX4_startUses_59 rfl (lv_at hl 1 rfl) ?_
  refine lv_iload_n S.1 S.2.1 dX4_startUses_60 rfl (lv_at hl 0 rfl) ?_
  refine r_ishr S dX4_startUses_61 ?_
  refine r_iconst S dX4_startUses_62 ?_
  refine r_iand S dX4_startUses_63 ?_
  refine r_if_eq (tgt := 71) S dX4_startUses_64 (by decide) (fun c3 => ?_) (fun c3 => ?_)
  · have hf := (if_pos c3).symm.trans hf
    refine r_iconst S dX4_startUses_71 ?_
    have e1 := Option.some.inj hf
    subst e1
    exact e_Z S hlk hP hS (Or.inl rfl) hr dX4_startUses_72
  · have hf := (if_neg c3).symm.trans hf
    refine r_iconst S dX4_startUses_67 ?_
    refine lv_goto (tgt := 72) S.1 S.2.1 dX4_startUses_68 (by decide) ?_
    have e1 := Option.some.inj hf
    subst e1
    exact e_Z S hlk hP hS (Or.inr rfl) hr dX4_startUses_72
def rm_X4_tryRule : Room := { frames := 2, cells := 0, slots := 0, locals := 44 }
theorem k_X4_tryRule_1 : (.fieldLink RX4 31 "MendTexts$Grammar" "trialName" "I" : Cond) ∈ wsX4_tryRule := List.mem_of_getElem? (i := 1) (by decide +kernel)
theorem h_X4_tryRule_X4 : ∀ w ∈ u_ws RX4 TX4 7, w ∈ wsX4_tryRule := mem_places _ [20, 21, 22, 23, 24, 25, 26] (by decide +kernel)
theorem cw_X4_tryRule_X4_addTo {s : State} {args : Array Value} (hts : ∀ w ∈ wsX4_tryRule, w.before args s = true) : CallW rm_X4_tryRule s args RX4 RX4 62 yX4_addTo cX4_addTo 4 (some .boolean) wsX4_addTo rm_X4_addTo 0 0 2 := cwV 2 hts gX4_tryRule_X4_addTo rfl rfl rfl (by decide +kernel) ⟨Nat.le_of_ble_eq_true rfl, Nat.le_of_ble_eq_true rfl⟩
theorem cw_X4_tryRule_X4_emptySlot {s : State} {args : Array Value} (hts : ∀ w ∈ wsX4_tryRule, w.before args s = true) : CallW rm_X4_tryRule s args RX4 RX4 58 yX4_emptySlot cX4_emptySlot 2 none wsX4_emptySlot rm_X4_emptySlot 0 0 1 := cwV 1 hts gX4_tryRule_X4_emptySlot rfl rfl rfl (by decide +kernel) ⟨Nat.le_of_ble_eq_true rfl, Nat.le_of_ble_eq_true rfl⟩
set_option maxHeartbeats 4000000 in
set_option maxRecDepth 100000 in
theorem c_X4_tryRule (l : Launch) (D : va_G) (cy : Nat → ClassId) (ad : Nat → Nat) (hO : adOK 39 ad) (a0 : Int) (a1 : Int) (σ : Mem) {τ : Mem} (hf : f_X4_tryRule a0 a1 σ = some τ) : Met l yX4_tryRule wsX4_tryRule rm_X4_tryRule (va_Pc [.ref (ad 3), .int (zI a0), .int (zI a1)] (PreW D cy 39 (cellC cy ad) ad σ)) (QV D 39 (cellC cy ad) ad τ) 0 0 (AC 39 ad) := by
  refine r_met (cc := cX4_tryRule) (maxL := 4) (ret := none) (own := RX4) (by decide) rfl rfl [.ref (ad 3), .int (zI a0), .int (zI a1)] (Nat.le_of_ble_eq_true rfl) ?_
  intro p e s m below meth c ls S hK hP hlk hr hl
  have hS : va_S (AC 39 ad) s.heap s.heap [] := va_S.rf
  have hl : lv_has ls 4 [(0, .ref (ad 3)), (1, .int (zI a0)), (2, .int (zI a1))] := hl
  unfold f_X4_tryRule at hf
  refine lv_aload_n S.1 S.2.1 dX4_tryRule_0 rfl (lv_at hl 0 rfl) ?_
  refine lv_iload_n S.1 S.2.1 dX4_tryRule_1 rfl (lv_at hl 1 rfl) ?_
  obtain ⟨σ1, hσ1, hf⟩ := nm_some hf
  refine r_put S hK hP hO hS (by decide) rfl rfl h_X4_tryRule_X4 tyX4 tyX4_ok nmX4 6 (by decide) k_X4_tryRule_1 rfl (tyX4_ok 6 (by decide)) rfl rfl (Nat.le_of_ble_eq_true rfl) hσ1 rfl dX4_tryRule_2 (fun H locs hP hS => ?_)
  refine lv_aload_n S.1 S.2.1 dX4_tryRule_5 rfl (lv_at hl 0 rfl) ?_
  refine r_bipush S dX4_tryRule_6 (by decide) ?_
  obtain ⟨σ3, hq2, hf⟩ := bV_some hf
  refine r_callVV S hK hP hS (by decide) rfl rfl [.int (zI 24)] (c_X4_emptySlot l D cy ad hO 3 (by decide) 24 σ1 hq2) (cw_X4_tryRule_X4_emptySlot S.2.2.2.2) rfl hl.1 (rest := []) rfl (Nat.le_of_ble_eq_true rfl) dX4_tryRule_8 ⟨Nat.zero_le _, Nat.zero_le _⟩ (fun H locs hP hS => ?_)
  refine lv_iload_n S.1 S.2.1 dX4_tryRule_11 rfl (lv_at hl 2 rfl) ?_
  refine r_iconst S dX4_tryRule_12 ?_
  refine r_isub S dX4_tryRule_13 ?_
  refine r_bipush S dX4_tryRule_14 (by decide) ?_
  refine r_isub S dX4_tryRule_16 ?_
  obtain ⟨x4, hx4, hf⟩ := nm_some hf
  refine r_istore_n S hx4 (lv2 := [(3, .int (zI x4)), (0, .ref (ad 3)), (1, .int (zI a0)), (2, .int (zI a1))]) dX4_tryRule_17 rfl hl (by decide) rfl (fun ls hl => ?_)
  refine lv_iload_n S.1 S.2.1 dX4_tryRule_18 rfl (lv_at hl 0 rfl) ?_
  refine r_if_lt (tgt := 45) S dX4_tryRule_19 (by decide) (fun c5 => ?_) (fun c5 => ?_)
  · have hf := (if_pos c5).symm.trans hf
    refine lv_iload_n S.1 S.2.1 dX4_tryRule_45 rfl (lv_at hl 3 rfl) ?_
    refine r_if_le (tgt := 59) S dX4_tryRule_46 (by decide) (fun c6 => ?_) (fun c6 => ?_)
    · have hf := (if_pos c6).symm.trans hf
      have e1 := Option.some.inj hf
      subst e1
      exact e_V S hlk hP hS hr dX4_tryRule_59
    · have hf := (if_neg c6).symm.trans hf
      refine lv_aload_n S.1 S.2.1 dX4_tryRule_49 rfl (lv_at hl 1 rfl) ?_
      refine r_bipush S dX4_tryRule_50 (by decide) ?_
      refine lv_iload_n S.1 S.2.1 dX4_tryRule_52 rfl (lv_at hl 3 rfl) ?_
      refine r_iconst S dX4_tryRule_53 ?_
      refine r_isub S dX4_tryRule_54 ?_
      obtain ⟨y9, σ8, hq7, hf⟩ := bL1_some hf
      refine r_callVI S hK hP hS (by decide) rfl rfl [.int (zI 24), .int (zI (a1 - 1))] (c_X4_addTo l D cy ad hO 3 (by decide) 24 (a1 - 1) σ3 hq7) (cw_X4_tryRule_X4_addTo S.2.2.2.2) rfl hl.1 (rest := []) rfl (Nat.le_of_ble_eq_true rfl) dX4_tryRule_55 ⟨Nat.zero_le _, Nat.zero_le _⟩ (fun H locs hP hS => ?_)
      refine lv_pop S.1 S.2.1 dX4_tryRule_58 rfl ?_
      have e1 := Option.some.inj hf
      subst e1
      exact e_V S hlk hP hS hr dX4_tryRule_59
  · have hf := (if_neg c5).symm.trans hf
    refine lv_aload_n S.1 S.2.1 dX4_tryRule_22 rfl (lv_at hl 1 rfl) ?_
    refine r_bipush S dX4_tryRule_23 (by decide) ?_
    refine lv_iload_n S.1 S.2.1 dX4_tryRule_25 rfl (lv_at hl 0 rfl) ?_
    refine r_iconst S dX4_tryRule_26 ?_
    refine r_idiv S dX4_tryRule_27 (by decide) ?_
    obtain ⟨y12, σ11, hq10, hf⟩ := bL1_some hf
    refine r_callVI S hK hP hS (by decide) rfl rfl [.int (zI 24), .int (zI (iDiv x4 4))] (c_X4_addTo l D cy ad hO 3 (by decide) 24 (iDiv x4 4) σ3 hq10) (cw_X4_tryRule_X4_addTo S.2.2.2.2) rfl hl.1 (rest := []) rfl (Nat.le_of_ble_eq_true rfl) dX4_tryRule_28 ⟨Nat.zero_le _, Nat.zero_le _⟩ (fun H locs hP hS => ?_)
    refine lv_pop S.1 S.2.1 dX4_tryRule_31 rfl ?_
    refine lv_aload_n S.1 S.2.1 dX4_tryRule_32 rfl (lv_at hl 1 rfl) ?_
    refine r_bipush S dX4_tryRule_33 (by decide) ?_
    refine lv_iload_n S.1 S.2.1 dX4_tryRule_35 rfl (lv_at hl 0 rfl) ?_
    refine r_iconst S dX4_tryRule_36 ?_
    refine r_irem S dX4_tryRule_37 (by decide) ?_
    obtain ⟨y15, σ14, hq13, hf⟩ := bL1_some hf
    refine r_callVI S hK hP hS (by decide) rfl rfl [.int (zI 24), .int (zI (iRem x4 4))] (c_X4_addTo l D cy ad hO 3 (by decide) 24 (iRem x4 4) σ11 hq13) (cw_X4_tryRule_X4_addTo S.2.2.2.2) rfl hl.1 (rest := []) rfl (Nat.le_of_ble_eq_true rfl) dX4_tryRule_38 ⟨Nat.zero_le _, Nat.zero_le _⟩ (fun H locs hP hS => ?_)
    refine lv_pop S.1 S.2.1 dX4_tryRule_41 rfl ?_
    refine lv_goto (tgt := 59) S.1 S.2.1 dX4_tryRule_42 (by decide) ?_
    have e1 := Option.some.inj hf
    subst e1
    exact e_V S hlk hP hS hr dX4_tryRule_59
def rm_X9_totalBelow : Room := { frames := 5, cells := 0, slots := 0, locals := 137 }
theorem k_X9_totalBelow_1 : (.fieldLink RX9 30 "MendTexts$Search" "examples" "LMendTexts$Examples;" : Cond) ∈ wsX9_totalBelow := List.mem_of_getElem? (i := 1) (by decide +kernel)
theorem k_X9_totalBelow_2 : (.fieldLink RX9 34 "MendTexts$Examples" "count" "I" : Cond) ∈ wsX9_totalBelow := List.mem_of_getElem? (i := 2) (by decide +kernel)
theorem k_X9_totalBelow_3 : (.fieldLink RX9 26 "MendTexts$Search" "chart" "LMendTexts$Chart;" : Cond) ∈ wsX9_totalBelow := List.mem_of_getElem? (i := 3) (by decide +kernel)
theorem k_X9_totalBelow_4 : (.fieldLink RX9 22 "MendTexts$Search" "grammar" "LMendTexts$Grammar;" : Cond) ∈ wsX9_totalBelow := List.mem_of_getElem? (i := 4) (by decide +kernel)
theorem k_X9_totalBelow_5 : (.fieldLink RX9 49 "MendTexts$Grammar" "start" "I" : Cond) ∈ wsX9_totalBelow := List.mem_of_getElem? (i := 5) (by decide +kernel)
theorem k_X9_totalBelow_6 : (.fieldLink RX9 54 "MendTexts$Word" "length" "I" : Cond) ∈ wsX9_totalBelow := List.mem_of_getElem? (i := 6) (by decide +kernel)
theorem k_X9_totalBelow_7 : (.constantLong RX9 65 (9223372036854775807) : Cond) ∈ wsX9_totalBelow := List.mem_of_getElem? (i := 7) (by decide +kernel)
theorem k_X9_totalBelow_8 : (.methodLink RX9 71 Lib.Math.min.name : Cond) ∈ wsX9_totalBelow := List.mem_of_getElem? (i := 8) (by decide +kernel)
theorem k_X9_totalBelow_9 : (.static Lib.Math.min.name : Cond) ∈ wsX9_totalBelow := List.mem_of_getElem? (i := 9) (by decide +kernel)
theorem k_X9_totalBelow_10 : (.initialized "java/lang/Math" : Cond) ∈ wsX9_totalBelow := List.mem_of_getElem? (i := 10) (by decide +kernel)
theorem k_X9_totalBelow_11 : (.code Lib.Math.min.name Lib.Math.min.code 2 (some .int) : Cond) ∈ wsX9_totalBelow := List.mem_of_getElem? (i := 11) (by decide +kernel)
theorem h_X9_totalBelow_X9 : ∀ w ∈ u_ws RX9 TX9 6, w ∈ wsX9_totalBelow := mem_places _ [154, 155, 156, 157, 158, 159] (by decide +kernel)
theorem h_X9_totalBelow_X2 : ∀ w ∈ u_ws RX2 TX2 3, w ∈ wsX9_totalBelow := mem_places _ [160, 161, 162] (by decide +kernel)
theorem h_X9_totalBelow_X4 : ∀ w ∈ u_ws RX4 TX4 7, w ∈ wsX9_totalBelow := mem_places _ [163, 164, 165, 166, 167, 168, 169] (by decide +kernel)
theorem h_X9_totalBelow_X10 : ∀ w ∈ u_ws RX10 TX10 2, w ∈ wsX9_totalBelow := mem_places _ [170, 171] (by decide +kernel)
theorem cw_X9_totalBelow_X0_fill {s : State} {args : Array Value} (hts : ∀ w ∈ wsX9_totalBelow, w.before args s = true) : CallW rm_X9_totalBelow s args RX9 RX0 43 yX0_fill cX0_fill 4 none wsX0_fill rm_X0_fill 0 0 1 := cwV 1 hts gX9_totalBelow_X0_fill rfl rfl rfl (by decide +kernel) ⟨Nat.le_of_ble_eq_true rfl, Nat.le_of_ble_eq_true rfl⟩
theorem cw_X9_totalBelow_X0_fitOf {s : State} {args : Array Value} (hts : ∀ w ∈ wsX9_totalBelow, w.before args s = true) : CallW rm_X9_totalBelow s args RX9 RX0 59 yX0_fitOf cX0_fitOf 4 (some .long) wsX0_fitOf rm_X0_fitOf 0 0 3 := cwV 3 hts gX9_totalBelow_X0_fitOf rfl rfl rfl (by decide +kernel) ⟨Nat.le_of_ble_eq_true rfl, Nat.le_of_ble_eq_true rfl⟩
theorem cw_X9_totalBelow_X2_at {s : State} {args : Array Value} (hts : ∀ w ∈ wsX9_totalBelow, w.before args s = true) : CallW rm_X9_totalBelow s args RX9 RX2 39 yX2_at cX2_at 2 (some (.object "MendTexts$Word")) wsX2_at rm_X2_at 0 0 1 := cwV 1 hts gX9_totalBelow_X2_at rfl rfl rfl (by decide +kernel) ⟨Nat.le_of_ble_eq_true rfl, Nat.le_of_ble_eq_true rfl⟩
theorem cw_X9_totalBelow_X3_costOf {s : State} {args : Array Value} (hts : ∀ w ∈ wsX9_totalBelow, w.before args s = true) : CallB rm_X9_totalBelow s args RX9 67 yX3_costOf cX3_costOf 2 (some .int) wsX3_costOf rm_X3_costOf 0 0 1 ∧ (Cond.static yX3_costOf).before args s = true := va_cwS 1 hts gX9_totalBelow_X3_costOf rfl rfl rfl (by decide +kernel) ⟨Nat.le_of_ble_eq_true rfl, Nat.le_of_ble_eq_true rfl⟩
set_option maxHeartbeats 4000000 in
set_option maxRecDepth 100000 in
theorem w_X9_totalBelow_L4 {p : Program} {l : Launch} {e : Env} {s : State} {m : MethodId} {args : Array Value} {below : List Frame} {meth : Method} {c : Code} {Q : State → Prop} {D : va_G} {cy : Nat → ClassId} {ad : Nat → Nat} {H0 : Heap} (hO : adOK 39 ad) (S : CallFix p m c cX9_totalBelow 7 s args wsX9_totalBelow RX9) (hK : KK D cy s) (n : Nat) (x1_ : Int) {res : Nat × Int × Mem} (k0 : ∀ (y2_ : Int) (τ : Mem) (H2 : Heap) (locs2 : List Loc) (ls2 : Array Slot), res = (0, y2_, τ) → va_P D vwCl (WW 39 (cellC cy ad) ad τ) H2 → va_S (AC 39 ad) H0 H2 locs2 → lv_has ls2 7 [(1, .int (zI x1_))] → W p l e rm_X9_totalBelow s m args below meth c H2 locs2 0 0 Q (F0 m 72 ls2 [])) (k1 : ∀ (y2_ : Int) (τ : Mem) (H2 : Heap) (locs2 : List Loc) (ls2 : Array Slot), res = (1, y2_, τ) → va_P D vwCl (WW 39 (cellC cy ad) ad τ) H2 → va_S (AC 39 ad) H0 H2 locs2 → lv_has ls2 7 [(1, .int (zI x1_)), (2, .int (zI y2_))] → W p l e rm_X9_totalBelow s m args below meth c H2 locs2 0 0 Q (F0 m 88 ls2 [])) :
    ∀ (k : Nat) (x2_ : Int) (x3_ : Int) (σ : Mem) (H : Heap) (locs : List Loc) (ls : Array Slot), f_X9_totalBelow_L4 n x1_ k x2_ x3_ σ = some res → va_P D vwCl (WW 39 (cellC cy ad) ad σ) H → va_S (AC 39 ad) H0 H locs → lv_has ls 7 [(0, .ref (ad 38)), (1, .int (zI x1_)), (2, .int (zI x2_)), (3, .int (zI x3_))] → W p l e rm_X9_totalBelow s m args below meth c H locs 0 0 Q (F0 m 4 ls []) := by
  intro k
  induction k with
  | zero =>
    intro x2_ x3_ σ H locs ls hf
    have hf : none = some res := hf
    cases hf
  | succ k ih =>
    intro x2_ x3_ σ H locs ls hf hP hS hl
    rw [f_X9_totalBelow_L4] at hf
    refine lv_iload_n S.1 S.2.1 dX9_totalBelow_4 rfl (lv_at hl 3 rfl) ?_
    refine lv_aload_n S.1 S.2.1 dX9_totalBelow_5 rfl (lv_at hl 0 rfl) ?_
    refine r_get S hK hP (by decide) rfl rfl h_X9_totalBelow_X9 2 (by decide) k_X9_totalBelow_1 rfl dX9_totalBelow_6 ?_
    refine r_get S hK hP (by decide) rfl rfl h_X9_totalBelow_X2 2 (by decide) k_X9_totalBelow_2 rfl dX9_totalBelow_9 ?_
    refine lv_icmp_ge (tgt := 88) S.1 S.2.1 dX9_totalBelow_12 (by decide) (fun c1 => ?_) (fun c1 => ?_)
    · have hf := (if_pos c1).symm.trans hf
      exact k1 _ _ _ _ _ (Option.some.inj hf).symm hP hS (lv_sub hl [1, 2] rfl)
    · have hf := (if_neg c1).symm.trans hf
      refine lv_iload_n S.1 S.2.1 dX9_totalBelow_15 rfl (lv_at hl 2 rfl) ?_
      refine lv_iload_n S.1 S.2.1 dX9_totalBelow_16 rfl (lv_at hl 1 rfl) ?_
      refine lv_icmp_ge (tgt := 88) S.1 S.2.1 dX9_totalBelow_17 (by decide) (fun c2 => ?_) (fun c2 => ?_)
      · have hf := (if_pos c2).symm.trans hf
        exact k1 _ _ _ _ _ (Option.some.inj hf).symm hP hS (lv_sub hl [1, 2] rfl)
      · have hf := (if_neg c2).symm.trans hf
        refine lv_aload_n S.1 S.2.1 dX9_totalBelow_20 rfl (lv_at hl 0 rfl) ?_
        refine r_get S hK hP (by decide) rfl rfl h_X9_totalBelow_X9 2 (by decide) k_X9_totalBelow_1 rfl dX9_totalBelow_21 ?_
        refine lv_iload_n S.1 S.2.1 dX9_totalBelow_24 rfl (lv_at hl 3 rfl) ?_
        obtain ⟨w4, hq3, hf⟩ := bV_some hf
        refine r_callVR S hK hP hS (by decide) rfl rfl [.int (zI x3_)] (c_X2_at l D cy ad hO x3_ σ hq3) (cw_X9_totalBelow_X2_at S.2.2.2.2) rfl hl.1 (rest := []) rfl (Nat.le_of_ble_eq_true rfl) dX9_totalBelow_25 ⟨Nat.zero_le _, Nat.zero_le _⟩ (fun H locs hP hS => ?_)
        obtain ⟨hw5, hf⟩ := gd_some hf
        refine lv_astore (lv' := [(4, .ref (ad w4)), (0, .ref (ad 38)), (1, .int (zI x1_)), (2, .int (zI x2_)), (3, .int (zI x3_))]) S.1 S.2.1 dX9_totalBelow_28 hl (by decide) rfl (fun ls hl => ?_)
        refine lv_aload_n S.1 S.2.1 dX9_totalBelow_30 rfl (lv_at hl 1 rfl) ?_
        refine r_get S hK hP (by decide) rfl rfl h_X9_totalBelow_X9 1 (by decide) k_X9_totalBelow_3 rfl dX9_totalBelow_31 ?_
        refine lv_aload S.1 S.2.1 dX9_totalBelow_34 (lv_at hl 0 rfl) ?_
        obtain ⟨σ7, hq6, hf⟩ := bV_some hf
        refine r_callVV S hK hP hS (by decide) rfl rfl [.ref (ad w4)] (c_X0_fill l D cy ad hO n w4 hw5 σ hq6) (cw_X9_totalBelow_X0_fill S.2.2.2.2) rfl hl.1 (rest := []) rfl (Nat.le_of_ble_eq_true rfl) dX9_totalBelow_36 ⟨Nat.zero_le _, Nat.zero_le _⟩ (fun H locs hP hS => ?_)
        refine lv_aload_n S.1 S.2.1 dX9_totalBelow_39 rfl (lv_at hl 1 rfl) ?_
        refine r_get S hK hP (by decide) rfl rfl h_X9_totalBelow_X9 1 (by decide) k_X9_totalBelow_3 rfl dX9_totalBelow_40 ?_
        refine r_iconst S dX9_totalBelow_43 ?_
        refine lv_aload_n S.1 S.2.1 dX9_totalBelow_44 rfl (lv_at hl 1 rfl) ?_
        refine r_get S hK hP (by decide) rfl rfl h_X9_totalBelow_X9 0 (by decide) k_X9_totalBelow_4 rfl dX9_totalBelow_45 ?_
        refine r_get S hK hP (by decide) rfl rfl h_X9_totalBelow_X4 4 (by decide) k_X9_totalBelow_5 rfl dX9_totalBelow_48 ?_
        refine r_iadd S dX9_totalBelow_51 ?_
        refine r_iconst S dX9_totalBelow_52 ?_
        refine lv_aload S.1 S.2.1 dX9_totalBelow_53 (lv_at hl 0 rfl) ?_
        refine r_get S hK hP (ltW hw5) (cellW cy ad hw5 _) rfl h_X9_totalBelow_X10 1 (by decide) k_X9_totalBelow_6 rfl dX9_totalBelow_55 ?_
        obtain ⟨y9, hq8, hf⟩ := bV_some hf
        refine r_callVL S hK hP hS (by decide) rfl rfl [.int (zI (4 + (σ7 3 4))), .int (zI 0), .int (zI (σ7 w4 1))] (c_X0_fitOf l D cy ad hO (4 + (σ7 3 4)) 0 (σ7 w4 1) σ7 hq8) (cw_X9_totalBelow_X0_fitOf S.2.2.2.2) rfl hl.1 (rest := []) rfl (Nat.le_of_ble_eq_true rfl) dX9_totalBelow_58 ⟨Nat.zero_le _, Nat.zero_le _⟩ (fun H locs hP hS => ?_)
        refine r_lstore S rfl (lv2 := [(5, .long (zL y9)), (4, .ref (ad w4)), (0, .ref (ad 38)), (1, .int (zI x1_)), (2, .int (zI x2_)), (3, .int (zI x3_))]) dX9_totalBelow_61 hl (by decide) rfl (fun ls hl => ?_)
        refine lv_lload S.1 S.2.1 dX9_totalBelow_63 (lv_at hl 0 rfl) ?_
        refine r_ldc2 S 9223372036854775807 (by decide +kernel) k_X9_totalBelow_7 dX9_totalBelow_65 ?_
        refine r_lcmp S dX9_totalBelow_68 ?_
        refine r_if_ne (tgt := 74) S dX9_totalBelow_69 (by decide) (fun c10 => ?_) (fun c10 => ?_)
        · have hf := (if_neg c10).symm.trans hf
          refine lv_iload_n S.1 S.2.1 dX9_totalBelow_74 rfl (lv_at hl 4 rfl) ?_
          refine lv_lload S.1 S.2.1 dX9_totalBelow_75 (lv_at hl 0 rfl) ?_
          obtain ⟨y12, hq11, hf⟩ := bV_some hf
          refine r_callSI S hK hP hS [.long (zL y9)] (c_X3_costOf l D cy ad hO y9 σ7 hq11) (cw_X9_totalBelow_X3_costOf S.2.2.2.2) rfl hl.1 (rest := [.int (zI x2_)]) rfl (Nat.le_of_ble_eq_true rfl) dX9_totalBelow_77 ⟨Nat.zero_le _, Nat.zero_le _⟩ (fun H locs hP hS => ?_)
          refine r_iadd S dX9_totalBelow_80 ?_
          obtain ⟨x13, hx13, hf⟩ := nm_some hf
          refine r_istore_n S hx13 (lv2 := [(2, .int (zI x13)), (5, .long (zL y9)), (4, .ref (ad w4)), (0, .ref (ad 38)), (1, .int (zI x1_)), (3, .int (zI x3_))]) dX9_totalBelow_81 rfl hl (by decide) rfl (fun ls hl => ?_)
          obtain ⟨x14, hx14, hf⟩ := nm_some hf
          refine r_iinc S hx14 (k0 := 5) (lv2 := [(3, .int (zI x14)), (2, .int (zI x13)), (5, .long (zL y9)), (4, .ref (ad w4)), (0, .ref (ad 38)), (1, .int (zI x1_))]) dX9_totalBelow_82 hl rfl (by decide) rfl (fun ls hl => ?_)
          refine lv_goto (tgt := 4) S.1 S.2.1 dX9_totalBelow_85 (by decide) ?_
          exact ih x13 x14 σ7 _ _ _ hf hP hS (lv_sub hl [4, 5, 1, 0] rfl)
        · have hf := (if_pos c10).symm.trans hf
          exact k0 _ _ _ _ _ (Option.some.inj hf).symm hP hS (lv_sub hl [3] rfl)
set_option maxHeartbeats 4000000 in
set_option maxRecDepth 100000 in
theorem c_X9_totalBelow (l : Launch) (D : va_G) (cy : Nat → ClassId) (ad : Nat → Nat) (hO : adOK 39 ad) (n : Nat) (a0 : Int) (σ : Mem) {v : Int} {τ : Mem} (hf : f_X9_totalBelow n a0 σ = some (v, τ)) : Met l yX9_totalBelow wsX9_totalBelow rm_X9_totalBelow (va_Pc [.ref (ad 38), .int (zI a0)] (PreW D cy 39 (cellC cy ad) ad σ)) (QI D 39 (cellC cy ad) ad v τ) 0 0 (AC 39 ad) := by
  refine r_met (cc := cX9_totalBelow) (maxL := 7) (ret := (some .int)) (own := RX9) (by decide) rfl rfl [.ref (ad 38), .int (zI a0)] (Nat.le_of_ble_eq_true rfl) ?_
  intro p e s m below meth c ls S hK hP hlk hr hl
  have hS : va_S (AC 39 ad) s.heap s.heap [] := va_S.rf
  have hl : lv_has ls 7 [(0, .ref (ad 38)), (1, .int (zI a0))] := hl
  unfold f_X9_totalBelow at hf
  refine r_iconst S dX9_totalBelow_0 ?_
  refine r_istore_n S rfl (lv2 := [(2, .int (zI 0)), (0, .ref (ad 38)), (1, .int (zI a0))]) dX9_totalBelow_1 rfl hl (by decide) rfl (fun ls hl => ?_)
  refine r_iconst S dX9_totalBelow_2 ?_
  refine r_istore_n S rfl (lv2 := [(3, .int (zI 0)), (2, .int (zI 0)), (0, .ref (ad 38)), (1, .int (zI a0))]) dX9_totalBelow_3 rfl hl (by decide) rfl (fun ls hl => ?_)
  obtain ⟨t1, x2, σ3, hq, hf⟩ := bL2_some hf
  refine w_X9_totalBelow_L4 hO S hK n a0 (fun x2 σ3 H locs ls he hP hS hl => ?_) (fun x2 σ3 H locs ls he hP hS hl => ?_) n 0 0 σ _ _ _ hq hP hS (lv_sub hl [2, 3, 1, 0] rfl)
  · cases he
    have hf := (if_pos rfl).symm.trans hf
    refine lv_iload_n S.1 S.2.1 dX9_totalBelow_72 rfl (lv_at hl 0 rfl) ?_
    obtain ⟨e1, e2⟩ := inj2 hf
    subst e1
    subst e2
    exact e_I S hlk hP hS hr dX9_totalBelow_73
  · cases he
    have hf := (if_neg (by decide)).symm.trans hf
    refine lv_iload_n S.1 S.2.1 dX9_totalBelow_88 rfl (lv_at hl 1 rfl) ?_
    refine lv_iload_n S.1 S.2.1 dX9_totalBelow_89 rfl (lv_at hl 0 rfl) ?_
    refine r_mmin S hl.1 k_X9_totalBelow_8 k_X9_totalBelow_9 k_X9_totalBelow_10 k_X9_totalBelow_11 ⟨Nat.le_of_ble_eq_true rfl, Nat.le_of_ble_eq_true rfl⟩ ⟨Nat.zero_le _, Nat.zero_le _⟩ dX9_totalBelow_90 ?_
    obtain ⟨e1, e2⟩ := inj2 hf
    subst e1
    subst e2
    exact e_I S hlk hP hS hr dX9_totalBelow_93
def rm_X4_endTrial : Room := { frames := 0, cells := 0, slots := 0, locals := 0 }
theorem k_X4_endTrial_1 : (.fieldLink RX4 31 "MendTexts$Grammar" "trialName" "I" : Cond) ∈ wsX4_endTrial := List.mem_of_getElem? (i := 1) (by decide +kernel)
theorem h_X4_endTrial_X4 : ∀ w ∈ u_ws RX4 TX4 7, w ∈ wsX4_endTrial := mem_places _ [2, 3, 4, 5, 6, 7, 8] (by decide +kernel)
set_option maxHeartbeats 4000000 in
set_option maxRecDepth 100000 in
theorem c_X4_endTrial (l : Launch) (D : va_G) (cy : Nat → ClassId) (ad : Nat → Nat) (hO : adOK 39 ad) (σ : Mem) {τ : Mem} (hf : f_X4_endTrial σ = some τ) : Met l yX4_endTrial wsX4_endTrial rm_X4_endTrial (va_Pc [.ref (ad 3)] (PreW D cy 39 (cellC cy ad) ad σ)) (QV D 39 (cellC cy ad) ad τ) 0 0 (AC 39 ad) := by
  refine r_met (cc := cX4_endTrial) (maxL := 1) (ret := none) (own := RX4) (by decide) rfl rfl [.ref (ad 3)] (Nat.le_of_ble_eq_true rfl) ?_
  intro p e s m below meth c ls S hK hP hlk hr hl
  have hS : va_S (AC 39 ad) s.heap s.heap [] := va_S.rf
  have hl : lv_has ls 1 [(0, .ref (ad 3))] := hl
  unfold f_X4_endTrial at hf
  refine lv_aload_n S.1 S.2.1 dX4_endTrial_0 rfl (lv_at hl 0 rfl) ?_
  refine r_iconst S dX4_endTrial_1 ?_
  obtain ⟨σ1, hσ1, hf⟩ := nm_some hf
  refine r_put S hK hP hO hS (by decide) rfl rfl h_X4_endTrial_X4 tyX4 tyX4_ok nmX4 6 (by decide) k_X4_endTrial_1 rfl (tyX4_ok 6 (by decide)) rfl rfl (Nat.le_of_ble_eq_true rfl) hσ1 rfl dX4_endTrial_2 (fun H locs hP hS => ?_)
  have e1 := Option.some.inj hf
  subst e1
  exact e_V S hlk hP hS hr dX4_endTrial_5
def rm_X9_seek : Room := { frames := 6, cells := 0, slots := 0, locals := 163 }
theorem k_X9_seek_1 : (.constant RX9 15 (1073741824) : Cond) ∈ wsX9_seek := List.mem_of_getElem? (i := 1) (by decide +kernel)
theorem k_X9_seek_2 : (.fieldLink RX9 16 "MendTexts$Search" "bestTotal" "I" : Cond) ∈ wsX9_seek := List.mem_of_getElem? (i := 2) (by decide +kernel)
theorem k_X9_seek_3 : (.fieldLink RX9 19 "MendTexts$Search" "bestNumber" "I" : Cond) ∈ wsX9_seek := List.mem_of_getElem? (i := 3) (by decide +kernel)
theorem k_X9_seek_4 : (.fieldLink RX9 22 "MendTexts$Search" "grammar" "LMendTexts$Grammar;" : Cond) ∈ wsX9_seek := List.mem_of_getElem? (i := 4) (by decide +kernel)
theorem k_X9_seek_5 : (.fieldLink RX9 9 "MendTexts$Search" "nameSought" "I" : Cond) ∈ wsX9_seek := List.mem_of_getElem? (i := 5) (by decide +kernel)
theorem h_X9_seek_X9 : ∀ w ∈ u_ws RX9 TX9 6, w ∈ wsX9_seek := mem_places _ [187, 188, 189, 190, 191, 192] (by decide +kernel)
theorem cw_X9_seek_X4_endTrial {s : State} {args : Array Value} (hts : ∀ w ∈ wsX9_seek, w.before args s = true) : CallW rm_X9_seek s args RX9 RX4 89 yX4_endTrial cX4_endTrial 1 none wsX4_endTrial rm_X4_endTrial 0 0 0 := cwV 0 hts gX9_seek_X4_endTrial rfl rfl rfl (by decide +kernel) ⟨Nat.le_of_ble_eq_true rfl, Nat.le_of_ble_eq_true rfl⟩
theorem cw_X9_seek_X4_startUses {s : State} {args : Array Value} (hts : ∀ w ∈ wsX9_seek, w.before args s = true) : CallW rm_X9_seek s args RX9 RX4 77 yX4_startUses cX4_startUses 5 (some .boolean) wsX4_startUses rm_X4_startUses 0 0 1 := cwV 1 hts gX9_seek_X4_startUses rfl rfl rfl (by decide +kernel) ⟨Nat.le_of_ble_eq_true rfl, Nat.le_of_ble_eq_true rfl⟩
theorem cw_X9_seek_X4_tryRule {s : State} {args : Array Value} (hts : ∀ w ∈ wsX9_seek, w.before args s = true) : CallW rm_X9_seek s args RX9 RX4 81 yX4_tryRule cX4_tryRule 4 none wsX4_tryRule rm_X4_tryRule 0 0 2 := cwV 2 hts gX9_seek_X4_tryRule rfl rfl rfl (by decide +kernel) ⟨Nat.le_of_ble_eq_true rfl, Nat.le_of_ble_eq_true rfl⟩
theorem cw_X9_seek_X9_totalBelow {s : State} {args : Array Value} (hts : ∀ w ∈ wsX9_seek, w.before args s = true) : CallW rm_X9_seek s args RX9 RX9 85 yX9_totalBelow cX9_totalBelow 7 (some .int) wsX9_totalBelow rm_X9_totalBelow 0 0 1 := cwV 1 hts gX9_seek_X9_totalBelow rfl rfl rfl (by decide +kernel) ⟨Nat.le_of_ble_eq_true rfl, Nat.le_of_ble_eq_true rfl⟩
set_option maxHeartbeats 4000000 in
set_option maxRecDepth 100000 in
theorem w_X9_seek_L31 {p : Program} {l : Launch} {e : Env} {s : State} {m : MethodId} {args : Array Value} {below : List Frame} {meth : Method} {c : Code} {Q : State → Prop} {D : va_G} {cy : Nat → ClassId} {ad : Nat → Nat} {H0 : Heap} (hO : adOK 39 ad) (S : CallFix p m c cX9_seek 5 s args wsX9_seek RX9) (hK : KK D cy s) (n : Nat) (x1_ : Int) (x2_ : Int) {res : Mem} (k0 : ∀ (τ : Mem) (H2 : Heap) (locs2 : List Loc) (ls2 : Array Slot), res = τ → va_P D vwCl (WW 39 (cellC cy ad) ad τ) H2 → va_S (AC 39 ad) H0 H2 locs2 → lv_has ls2 5 [(0, .ref (ad 38)), (1, .int (zI x1_))] → W p l e rm_X9_seek s m args below meth c H2 locs2 0 0 Q (F0 m 88 ls2 [])) :
    ∀ (k : Nat) (x3_ : Int) (σ : Mem) (H : Heap) (locs : List Loc) (ls : Array Slot), f_X9_seek_L31 n x1_ x2_ k x3_ σ = some res → va_P D vwCl (WW 39 (cellC cy ad) ad σ) H → va_S (AC 39 ad) H0 H locs → lv_has ls 5 [(0, .ref (ad 38)), (1, .int (zI x1_)), (2, .int (zI x2_)), (3, .int (zI x3_))] → W p l e rm_X9_seek s m args below meth c H locs 0 0 Q (F0 m 31 ls []) := by
  intro k
  induction k with
  | zero =>
    intro x3_ σ H locs ls hf
    have hf : none = some res := hf
    cases hf
  | succ k ih =>
    intro x3_ σ H locs ls hf hP hS hl
    rw [f_X9_seek_L31] at hf
    refine lv_iload_n S.1 S.2.1 dX9_seek_31 rfl (lv_at hl 3 rfl) ?_
    refine lv_iload_n S.1 S.2.1 dX9_seek_32 rfl (lv_at hl 2 rfl) ?_
    refine lv_icmp_ge (tgt := 88) S.1 S.2.1 dX9_seek_33 (by decide) (fun c1 => ?_) (fun c1 => ?_)
    · have hf := (if_pos c1).symm.trans hf
      exact k0 _ _ _ _ (Option.some.inj hf).symm hP hS (lv_sub hl [0, 1] rfl)
    · have hf := (if_neg c1).symm.trans hf
      refine lv_aload_n S.1 S.2.1 dX9_seek_36 rfl (lv_at hl 0 rfl) ?_
      refine r_get S hK hP (by decide) rfl rfl h_X9_seek_X9 4 (by decide) k_X9_seek_2 rfl dX9_seek_37 ?_
      refine r_if_le (tgt := 88) S dX9_seek_40 (by decide) (fun c2 => ?_) (fun c2 => ?_)
      · have hf := (if_pos c2).symm.trans hf
        exact k0 _ _ _ _ (Option.some.inj hf).symm hP hS (lv_sub hl [0, 1] rfl)
      · have hf := (if_neg c2).symm.trans hf
        refine lv_aload_n S.1 S.2.1 dX9_seek_43 rfl (lv_at hl 0 rfl) ?_
        refine r_get S hK hP (by decide) rfl rfl h_X9_seek_X9 0 (by decide) k_X9_seek_4 rfl dX9_seek_44 ?_
        refine lv_iload_n S.1 S.2.1 dX9_seek_47 rfl (lv_at hl 1 rfl) ?_
        refine lv_iload_n S.1 S.2.1 dX9_seek_48 rfl (lv_at hl 3 rfl) ?_
        obtain ⟨σ4, hq3, hf⟩ := bV_some hf
        refine r_callVV S hK hP hS (by decide) rfl rfl [.int (zI x1_), .int (zI x3_)] (c_X4_tryRule l D cy ad hO x1_ x3_ σ hq3) (cw_X9_seek_X4_tryRule S.2.2.2.2) rfl hl.1 (rest := []) rfl (Nat.le_of_ble_eq_true rfl) dX9_seek_49 ⟨Nat.zero_le _, Nat.zero_le _⟩ (fun H locs hP hS => ?_)
        refine lv_aload_n S.1 S.2.1 dX9_seek_52 rfl (lv_at hl 0 rfl) ?_
        refine lv_aload_n S.1 S.2.1 dX9_seek_53 rfl (lv_at hl 0 rfl) ?_
        refine r_get S hK hP (by decide) rfl rfl h_X9_seek_X9 4 (by decide) k_X9_seek_2 rfl dX9_seek_54 ?_
        obtain ⟨y7, σ6, hq5, hf⟩ := bL1_some hf
        refine r_callVI S hK hP hS (by decide) rfl rfl [.int (zI (σ4 38 4))] (c_X9_totalBelow l D cy ad hO n (σ4 38 4) σ4 hq5) (cw_X9_seek_X9_totalBelow S.2.2.2.2) rfl hl.1 (rest := []) rfl (Nat.le_of_ble_eq_true rfl) dX9_seek_57 ⟨Nat.zero_le _, Nat.zero_le _⟩ (fun H locs hP hS => ?_)
        refine r_istore S rfl (lv2 := [(4, .int (zI y7)), (0, .ref (ad 38)), (1, .int (zI x1_)), (2, .int (zI x2_)), (3, .int (zI x3_))]) dX9_seek_60 hl (by decide) rfl (fun ls hl => ?_)
        refine lv_iload S.1 S.2.1 dX9_seek_62 (lv_at hl 0 rfl) ?_
        refine lv_aload_n S.1 S.2.1 dX9_seek_64 rfl (lv_at hl 1 rfl) ?_
        refine r_get S hK hP (by decide) rfl rfl h_X9_seek_X9 4 (by decide) k_X9_seek_2 rfl dX9_seek_65 ?_
        obtain ⟨σ8, hq, hf⟩ := bV_some hf
        have kJ0 : ∀ (H : Heap) (locs : List Loc) (ls : Array Slot), va_P D vwCl (WW 39 (cellC cy ad) ad σ8) H → va_S (AC 39 ad) H0 H locs → lv_has ls 5 [(0, .ref (ad 38)), (1, .int (zI x1_)), (2, .int (zI x2_)), (3, .int (zI x3_))] → W p l e rm_X9_seek s m args below meth c H locs 0 0 Q (F0 m 82 ls []) := by
          intro H locs ls hP hS hl
          obtain ⟨x12, hx12, hf⟩ := nm_some hf
          refine r_iinc S hx12 (k0 := 3) (lv2 := [(3, .int (zI x12)), (0, .ref (ad 38)), (1, .int (zI x1_)), (2, .int (zI x2_))]) dX9_seek_82 hl rfl (by decide) rfl (fun ls hl => ?_)
          refine lv_goto (tgt := 31) S.1 S.2.1 dX9_seek_85 (by decide) ?_
          exact ih x12 σ8 _ _ _ hf hP hS (lv_sub hl [1, 2, 3, 0] rfl)
        clear hf
        have hf := hq
        refine lv_icmp_ge (tgt := 82) S.1 S.2.1 dX9_seek_68 (by decide) (fun c9 => ?_) (fun c9 => ?_)
        · have hf := (if_pos c9).symm.trans hf
          have e1 := Option.some.inj hf
          subst e1
          exact kJ0 _ _ _ hP hS (lv_sub hl [1, 2, 3, 4] rfl)
        · have hf := (if_neg c9).symm.trans hf
          refine lv_aload_n S.1 S.2.1 dX9_seek_71 rfl (lv_at hl 1 rfl) ?_
          refine lv_iload S.1 S.2.1 dX9_seek_72 (lv_at hl 0 rfl) ?_
          obtain ⟨σ10, hσ10, hf⟩ := nm_some hf
          refine r_put S hK hP hO hS (by decide) rfl rfl h_X9_seek_X9 tyX9 tyX9_ok nmX9 4 (by decide) k_X9_seek_2 rfl (tyX9_ok 4 (by decide)) rfl rfl (Nat.le_of_ble_eq_true rfl) hσ10 rfl dX9_seek_74 (fun H locs hP hS => ?_)
          refine lv_aload_n S.1 S.2.1 dX9_seek_77 rfl (lv_at hl 1 rfl) ?_
          refine lv_iload_n S.1 S.2.1 dX9_seek_78 rfl (lv_at hl 4 rfl) ?_
          obtain ⟨σ11, hσ11, hf⟩ := nm_some hf
          refine r_put S hK hP hO hS (by decide) rfl rfl h_X9_seek_X9 tyX9 tyX9_ok nmX9 5 (by decide) k_X9_seek_3 rfl (tyX9_ok 5 (by decide)) rfl rfl (Nat.le_of_ble_eq_true rfl) hσ11 rfl dX9_seek_79 (fun H locs hP hS => ?_)
          have e1 := Option.some.inj hf
          subst e1
          exact kJ0 _ _ _ hP hS (lv_sub hl [1, 2, 3, 4] rfl)
set_option maxHeartbeats 4000000 in
set_option maxRecDepth 100000 in
theorem c_X9_seek (l : Launch) (D : va_G) (cy : Nat → ClassId) (ad : Nat → Nat) (hO : adOK 39 ad) (n : Nat) (a0 : Int) (σ : Mem) {τ : Mem} (hf : f_X9_seek n a0 σ = some τ) : Met l yX9_seek wsX9_seek rm_X9_seek (va_Pc [.ref (ad 38), .int (zI a0)] (PreW D cy 39 (cellC cy ad) ad σ)) (QV D 39 (cellC cy ad) ad τ) 0 0 (AC 39 ad) := by
  refine r_met (cc := cX9_seek) (maxL := 5) (ret := none) (own := RX9) (by decide) rfl rfl [.ref (ad 38), .int (zI a0)] (Nat.le_of_ble_eq_true rfl) ?_
  intro p e s m below meth c ls S hK hP hlk hr hl
  have hS : va_S (AC 39 ad) s.heap s.heap [] := va_S.rf
  have hl : lv_has ls 5 [(0, .ref (ad 38)), (1, .int (zI a0))] := hl
  unfold f_X9_seek at hf
  refine lv_aload_n S.1 S.2.1 dX9_seek_0 rfl (lv_at hl 0 rfl) ?_
  refine r_ldc S 1073741824 (by decide +kernel) k_X9_seek_1 dX9_seek_1 ?_
  obtain ⟨σ1, hσ1, hf⟩ := nm_some hf
  refine r_put S hK hP hO hS (by decide) rfl rfl h_X9_seek_X9 tyX9 tyX9_ok nmX9 4 (by decide) k_X9_seek_2 rfl (tyX9_ok 4 (by decide)) rfl rfl (Nat.le_of_ble_eq_true rfl) hσ1 rfl dX9_seek_3 (fun H locs hP hS => ?_)
  refine lv_aload_n S.1 S.2.1 dX9_seek_6 rfl (lv_at hl 0 rfl) ?_
  refine r_iconst S dX9_seek_7 ?_
  obtain ⟨σ2, hσ2, hf⟩ := nm_some hf
  refine r_put S hK hP hO hS (by decide) rfl rfl h_X9_seek_X9 tyX9 tyX9_ok nmX9 5 (by decide) k_X9_seek_3 rfl (tyX9_ok 5 (by decide)) rfl rfl (Nat.le_of_ble_eq_true rfl) hσ2 rfl dX9_seek_8 (fun H locs hP hS => ?_)
  refine lv_aload_n S.1 S.2.1 dX9_seek_11 rfl (lv_at hl 0 rfl) ?_
  refine r_get S hK hP (by decide) rfl rfl h_X9_seek_X9 0 (by decide) k_X9_seek_4 rfl dX9_seek_12 ?_
  refine lv_iload_n S.1 S.2.1 dX9_seek_15 rfl (lv_at hl 1 rfl) ?_
  obtain ⟨y4, hq3, hf⟩ := bV_some hf
  refine r_callVI S hK hP hS (by decide) rfl rfl [.int (zI a0)] (c_X4_startUses l D cy ad hO n a0 σ2 hq3) (cw_X9_seek_X4_startUses S.2.2.2.2) rfl hl.1 (rest := []) rfl (Nat.le_of_ble_eq_true rfl) dX9_seek_16 ⟨Nat.zero_le _, Nat.zero_le _⟩ (fun H locs hP hS => ?_)
  obtain ⟨v5, hq, hf⟩ := bV_some hf
  have kJ0 : ∀ (H : Heap) (locs : List Loc) (ls : Array Slot), va_P D vwCl (WW 39 (cellC cy ad) ad σ2) H → va_S (AC 39 ad) s.heap H locs → lv_has ls 5 [(0, .ref (ad 38)), (1, .int (zI a0))] → W p l e rm_X9_seek s m ([.ref (ad 38), .int (zI a0)] : List Value).toArray below meth c H locs 0 0 (MQ below (QV D 39 (cellC cy ad) ad τ) ([.ref (ad 38), .int (zI a0)] : List Value).toArray s 0 0 (AC 39 ad)) (F0 m 28 ls [.int (zI v5)]) := by
    intro H locs ls hP hS hl
    refine r_istore_n S rfl (lv2 := [(2, .int (zI v5)), (0, .ref (ad 38)), (1, .int (zI a0))]) dX9_seek_28 rfl hl (by decide) rfl (fun ls hl => ?_)
    refine r_iconst S dX9_seek_29 ?_
    refine r_istore_n S rfl (lv2 := [(3, .int (zI 0)), (2, .int (zI v5)), (0, .ref (ad 38)), (1, .int (zI a0))]) dX9_seek_30 rfl hl (by decide) rfl (fun ls hl => ?_)
    obtain ⟨σ7, hq, hf⟩ := bV_some hf
    refine w_X9_seek_L31 hO S hK n a0 v5 (fun σ7 H locs ls he hP hS hl => ?_) n 0 σ2 _ _ _ hq hP hS (lv_sub hl [2, 3, 1, 0] rfl)
    cases he
    refine lv_aload_n S.1 S.2.1 dX9_seek_88 rfl (lv_at hl 0 rfl) ?_
    refine r_get S hK hP (by decide) rfl rfl h_X9_seek_X9 0 (by decide) k_X9_seek_4 rfl dX9_seek_89 ?_
    refine lv_iload_n S.1 S.2.1 dX9_seek_92 rfl (lv_at hl 1 rfl) ?_
    refine lv_aload_n S.1 S.2.1 dX9_seek_93 rfl (lv_at hl 0 rfl) ?_
    refine r_get S hK hP (by decide) rfl rfl h_X9_seek_X9 5 (by decide) k_X9_seek_3 rfl dX9_seek_94 ?_
    obtain ⟨σ9, hq8, hf⟩ := bV_some hf
    refine r_callVV S hK hP hS (by decide) rfl rfl [.int (zI a0), .int (zI (σ7 38 5))] (c_X4_tryRule l D cy ad hO a0 (σ7 38 5) σ7 hq8) (cw_X9_seek_X4_tryRule S.2.2.2.2) rfl hl.1 (rest := []) rfl (Nat.le_of_ble_eq_true rfl) dX9_seek_97 ⟨Nat.zero_le _, Nat.zero_le _⟩ (fun H locs hP hS => ?_)
    refine lv_aload_n S.1 S.2.1 dX9_seek_100 rfl (lv_at hl 0 rfl) ?_
    refine r_get S hK hP (by decide) rfl rfl h_X9_seek_X9 0 (by decide) k_X9_seek_4 rfl dX9_seek_101 ?_
    obtain ⟨σ11, hq10, hf⟩ := bV_some hf
    refine r_callVV S hK hP hS (by decide) rfl rfl [] (c_X4_endTrial l D cy ad hO σ9 hq10) (cw_X9_seek_X4_endTrial S.2.2.2.2) rfl hl.1 (rest := []) rfl (Nat.le_of_ble_eq_true rfl) dX9_seek_104 ⟨Nat.zero_le _, Nat.zero_le _⟩ (fun H locs hP hS => ?_)
    refine lv_aload_n S.1 S.2.1 dX9_seek_107 rfl (lv_at hl 0 rfl) ?_
    refine lv_iload_n S.1 S.2.1 dX9_seek_108 rfl (lv_at hl 1 rfl) ?_
    obtain ⟨σ12, hσ12, hf⟩ := nm_some hf
    refine r_put S hK hP hO hS (by decide) rfl rfl h_X9_seek_X9 tyX9 tyX9_ok nmX9 3 (by decide) k_X9_seek_5 rfl (tyX9_ok 3 (by decide)) rfl rfl (Nat.le_of_ble_eq_true rfl) hσ12 rfl dX9_seek_109 (fun H locs hP hS => ?_)
    have e1 := Option.some.inj hf
    subst e1
    exact e_V S hlk hP hS hr dX9_seek_112
  clear hf
  have hf := hq
  refine r_if_eq (tgt := 27) S dX9_seek_19 (by decide) (fun c6 => ?_) (fun c6 => ?_)
  · have hf := (if_pos c6).symm.trans hf
    refine r_iconst S dX9_seek_27 ?_
    have e1 := Option.some.inj hf
    subst e1
    exact kJ0 _ _ _ hP hS (lv_sub hl [0, 1] rfl)
  · have hf := (if_neg c6).symm.trans hf
    refine r_bipush S dX9_seek_22 (by decide) ?_
    refine lv_goto (tgt := 28) S.1 S.2.1 dX9_seek_24 (by decide) ?_
    have e1 := Option.some.inj hf
    subst e1
    exact kJ0 _ _ _ hP hS (lv_sub hl [0, 1] rfl)
def rm_X11_more : Room := { frames := 7, cells := 0, slots := 0, locals := 187 }
theorem k_X11_more_1 : (.fieldLink RX11 48 "MendTexts" "examples" "LMendTexts$Examples;" : Cond) ∈ wsX11_more := List.mem_of_getElem? (i := 1) (by decide +kernel)
theorem k_X11_more_2 : (.fieldLink RX11 229 "MendTexts$Examples" "count" "I" : Cond) ∈ wsX11_more := List.mem_of_getElem? (i := 2) (by decide +kernel)
theorem k_X11_more_3 : (.fieldLink RX11 87 "MendTexts" "search" "LMendTexts$Search;" : Cond) ∈ wsX11_more := List.mem_of_getElem? (i := 3) (by decide +kernel)
theorem k_X11_more_4 : (.fieldLink RX11 91 "MendTexts" "chartIsOfWord" "Z" : Cond) ∈ wsX11_more := List.mem_of_getElem? (i := 4) (by decide +kernel)
theorem k_X11_more_5 : (.fieldLink RX11 250 "MendTexts$Search" "bestTotal" "I" : Cond) ∈ wsX11_more := List.mem_of_getElem? (i := 5) (by decide +kernel)
theorem k_X11_more_6 : (.constant RX11 240 (1073741824) : Cond) ∈ wsX11_more := List.mem_of_getElem? (i := 6) (by decide +kernel)
theorem k_X11_more_7 : (.fieldLink RX11 19 "MendTexts" "rules" "LMendTexts$Grammar;" : Cond) ∈ wsX11_more := List.mem_of_getElem? (i := 7) (by decide +kernel)
theorem h_X11_more_X11 : ∀ w ∈ u_ws RX11 TX11 13, w ∈ wsX11_more := mem_places _ [208, 209, 210, 211, 212, 213, 214, 215, 216, 217, 218, 219, 220] (by decide +kernel)
theorem h_X11_more_X2 : ∀ w ∈ u_ws RX2 TX2 3, w ∈ wsX11_more := mem_places _ [221, 222, 223] (by decide +kernel)
theorem h_X11_more_X9 : ∀ w ∈ u_ws RX9 TX9 6, w ∈ wsX11_more := mem_places _ [224, 225, 226, 227, 228, 229] (by decide +kernel)
theorem cw_X11_more_X11_codeOf {s : State} {args : Array Value} (hts : ∀ w ∈ wsX11_more, w.before args s = true) : CallB rm_X11_more s args RX11 141 yX11_codeOf cX11_codeOf 1 (some .int) wsX11_codeOf rm_X11_codeOf 0 0 1 ∧ (Cond.static yX11_codeOf).before args s = true := va_cwS 1 hts gX11_more_X11_codeOf rfl rfl rfl (by decide +kernel) ⟨Nat.le_of_ble_eq_true rfl, Nat.le_of_ble_eq_true rfl⟩
theorem cw_X11_more_X11_isName {s : State} {args : Array Value} (hts : ∀ w ∈ wsX11_more, w.before args s = true) : CallB rm_X11_more s args RX11 125 yX11_isName cX11_isName 1 (some .boolean) wsX11_isName rm_X11_isName 0 0 1 ∧ (Cond.static yX11_isName).before args s = true := va_cwS 1 hts gX11_more_X11_isName rfl rfl rfl (by decide +kernel) ⟨Nat.le_of_ble_eq_true rfl, Nat.le_of_ble_eq_true rfl⟩
theorem cw_X11_more_X4_lengthOf {s : State} {args : Array Value} (hts : ∀ w ∈ wsX11_more, w.before args s = true) : CallW rm_X11_more s args RX11 RX4 135 yX4_lengthOf cX4_lengthOf 2 (some .int) wsX4_lengthOf rm_X4_lengthOf 0 0 1 := cwV 1 hts gX11_more_X4_lengthOf rfl rfl rfl (by decide +kernel) ⟨Nat.le_of_ble_eq_true rfl, Nat.le_of_ble_eq_true rfl⟩
theorem cw_X11_more_X4_signAt {s : State} {args : Array Value} (hts : ∀ w ∈ wsX11_more, w.before args s = true) : CallW rm_X11_more s args RX11 RX4 138 yX4_signAt cX4_signAt 4 (some .int) wsX4_signAt rm_X4_signAt 0 0 2 := cwV 2 hts gX11_more_X4_signAt rfl rfl rfl (by decide +kernel) ⟨Nat.le_of_ble_eq_true rfl, Nat.le_of_ble_eq_true rfl⟩
theorem cw_X11_more_X9_hasSought {s : State} {args : Array Value} (hts : ∀ w ∈ wsX11_more, w.before args s = true) : CallW rm_X11_more s args RX11 RX9 244 yX9_hasSought cX9_hasSought 2 (some .boolean) wsX9_hasSought rm_X9_hasSought 0 0 1 := cwV 1 hts gX11_more_X9_hasSought rfl rfl rfl (by decide +kernel) ⟨Nat.le_of_ble_eq_true rfl, Nat.le_of_ble_eq_true rfl⟩
theorem cw_X11_more_X9_seek {s : State} {args : Array Value} (hts : ∀ w ∈ wsX11_more, w.before args s = true) : CallW rm_X11_more s args RX11 RX9 247 yX9_seek cX9_seek 5 none wsX9_seek rm_X9_seek 0 0 1 := cwV 1 hts gX11_more_X9_seek rfl rfl rfl (by decide +kernel) ⟨Nat.le_of_ble_eq_true rfl, Nat.le_of_ble_eq_true rfl⟩
set_option maxHeartbeats 4000000 in
set_option maxRecDepth 100000 in
theorem c_X11_more (l : Launch) (D : va_G) (cy : Nat → ClassId) (ad : Nat → Nat) (hO : adOK 39 ad) (n : Nat) (a0 : Int) (a1 : Int) (σ : Mem) {v : Int} {τ : Mem} (hf : f_X11_more n a0 a1 σ = some (v, τ)) : Met l yX11_more wsX11_more rm_X11_more (va_Pc [.ref (ad 0), .int (zI a0), .int (zI a1)] (PreW D cy 39 (cellC cy ad) ad σ)) (QI D 39 (cellC cy ad) ad v τ) 0 0 (AC 39 ad) := by
  refine r_met (cc := cX11_more) (maxL := 4) (ret := (some .int)) (own := RX11) (by decide) rfl rfl [.ref (ad 0), .int (zI a0), .int (zI a1)] (Nat.le_of_ble_eq_true rfl) ?_
  intro p e s m below meth c ls S hK hP hlk hr hl
  have hS : va_S (AC 39 ad) s.heap s.heap [] := va_S.rf
  have hl : lv_has ls 4 [(0, .ref (ad 0)), (1, .int (zI a0)), (2, .int (zI a1))] := hl
  unfold f_X11_more at hf
  refine lv_iload_n S.1 S.2.1 dX11_more_0 rfl (lv_at hl 1 rfl) ?_
  obtain ⟨y2, hq1, hf⟩ := bV_some hf
  refine r_callSI S hK hP hS [.int (zI a0)] (c_X11_isName l D cy ad hO a0 σ hq1) (cw_X11_more_X11_isName S.2.2.2.2) rfl hl.1 (rest := []) rfl (Nat.le_of_ble_eq_true rfl) dX11_more_1 ⟨Nat.zero_le _, Nat.zero_le _⟩ (fun H locs hP hS => ?_)
  refine r_if_ne (tgt := 9) S dX11_more_4 (by decide) (fun c3 => ?_) (fun c3 => ?_)
  · have hf := (if_neg c3).symm.trans hf
    refine lv_iload_n S.1 S.2.1 dX11_more_9 rfl (lv_at hl 2 rfl) ?_
    refine r_if_lt (tgt := 18) S dX11_more_10 (by decide) (fun c4 => ?_) (fun c4 => ?_)
    · have hf := (if_pos c4).symm.trans hf
      refine r_bipush S dX11_more_18 (by decide) ?_
      obtain ⟨e1, e2⟩ := inj2 hf
      subst e1
      subst e2
      exact e_I S hlk hP hS hr dX11_more_20
    · have hf := (if_neg c4).symm.trans hf
      refine lv_iload_n S.1 S.2.1 dX11_more_13 rfl (lv_at hl 2 rfl) ?_
      refine r_iconst S dX11_more_14 ?_
      refine lv_icmp_le (tgt := 21) S.1 S.2.1 dX11_more_15 (by decide) (fun c5 => ?_) (fun c5 => ?_)
      · have hf := (if_pos c5).symm.trans hf
        refine lv_aload_n S.1 S.2.1 dX11_more_21 rfl (lv_at hl 0 rfl) ?_
        refine r_get S hK hP (by decide) rfl rfl h_X11_more_X11 6 (by decide) k_X11_more_1 rfl dX11_more_22 ?_
        refine r_get S hK hP (by decide) rfl rfl h_X11_more_X2 2 (by decide) k_X11_more_2 rfl dX11_more_25 ?_
        refine r_if_ne (tgt := 34) S dX11_more_28 (by decide) (fun c6 => ?_) (fun c6 => ?_)
        · have hf := (if_neg c6).symm.trans hf
          refine lv_aload_n S.1 S.2.1 dX11_more_34 rfl (lv_at hl 0 rfl) ?_
          refine r_get S hK hP (by decide) rfl rfl h_X11_more_X11 11 (by decide) k_X11_more_3 rfl dX11_more_35 ?_
          refine lv_iload_n S.1 S.2.1 dX11_more_38 rfl (lv_at hl 1 rfl) ?_
          obtain ⟨y8, hq7, hf⟩ := bV_some hf
          refine r_callVI S hK hP hS (by decide) rfl rfl [.int (zI a0)] (c_X9_hasSought l D cy ad hO a0 σ hq7) (cw_X11_more_X9_hasSought S.2.2.2.2) rfl hl.1 (rest := []) rfl (Nat.le_of_ble_eq_true rfl) dX11_more_39 ⟨Nat.zero_le _, Nat.zero_le _⟩ (fun H locs hP hS => ?_)
          obtain ⟨σ9, hq, hf⟩ := bV_some hf
          have kJ0 : ∀ (H : Heap) (locs : List Loc) (ls : Array Slot), va_P D vwCl (WW 39 (cellC cy ad) ad σ9) H → va_S (AC 39 ad) s.heap H locs → lv_has ls 4 [(0, .ref (ad 0)), (2, .int (zI a1))] → W p l e rm_X11_more s m ([.ref (ad 0), .int (zI a0), .int (zI a1)] : List Value).toArray below meth c H locs 0 0 (MQ below (QI D 39 (cellC cy ad) ad v τ) ([.ref (ad 0), .int (zI a0), .int (zI a1)] : List Value).toArray s 0 0 (AC 39 ad)) (F0 m 58 ls []) := by
            intro H locs ls hP hS hl
            refine lv_aload_n S.1 S.2.1 dX11_more_58 rfl (lv_at hl 0 rfl) ?_
            refine r_get S hK hP (by decide) rfl rfl h_X11_more_X11 11 (by decide) k_X11_more_3 rfl dX11_more_59 ?_
            refine r_get S hK hP (by decide) rfl rfl h_X11_more_X9 4 (by decide) k_X11_more_5 rfl dX11_more_62 ?_
            refine r_ldc S 1073741824 (by decide +kernel) k_X11_more_6 dX11_more_65 ?_
            refine lv_icmp_ne (tgt := 73) S.1 S.2.1 dX11_more_67 (by decide) (fun c14 => ?_) (fun c14 => ?_)
            · have hf := (if_neg c14).symm.trans hf
              refine lv_iload_n S.1 S.2.1 dX11_more_73 rfl (lv_at hl 1 rfl) ?_
              refine r_if_ne (tgt := 85) S dX11_more_74 (by decide) (fun c15 => ?_) (fun c15 => ?_)
              · have hf := (if_neg c15).symm.trans hf
                refine lv_aload_n S.1 S.2.1 dX11_more_85 rfl (lv_at hl 0 rfl) ?_
                refine r_get S hK hP (by decide) rfl rfl h_X11_more_X11 1 (by decide) k_X11_more_7 rfl dX11_more_86 ?_
                refine r_bipush S dX11_more_89 (by decide) ?_
                obtain ⟨y17, hq16, hf⟩ := bV_some hf
                refine r_callVI S hK hP hS (by decide) rfl rfl [.int (zI 24)] (c_X4_lengthOf l D cy ad hO 3 (by decide) 24 σ9 hq16) (cw_X11_more_X4_lengthOf S.2.2.2.2) rfl hl.1 (rest := []) rfl (Nat.le_of_ble_eq_true rfl) dX11_more_91 ⟨Nat.zero_le _, Nat.zero_le _⟩ (fun H locs hP hS => ?_)
                refine r_istore_n S rfl (lv2 := [(3, .int (zI y17)), (0, .ref (ad 0)), (2, .int (zI a1))]) dX11_more_94 rfl hl (by decide) rfl (fun ls hl => ?_)
                refine lv_iload_n S.1 S.2.1 dX11_more_95 rfl (lv_at hl 2 rfl) ?_
                refine r_iconst S dX11_more_96 ?_
                refine lv_icmp_ne (tgt := 102) S.1 S.2.1 dX11_more_97 (by decide) (fun c18 => ?_) (fun c18 => ?_)
                · have hf := (if_neg c18).symm.trans hf
                  refine lv_iload_n S.1 S.2.1 dX11_more_102 rfl (lv_at hl 2 rfl) ?_
                  refine r_iconst S dX11_more_103 ?_
                  refine r_isub S dX11_more_104 ?_
                  refine lv_iload_n S.1 S.2.1 dX11_more_105 rfl (lv_at hl 0 rfl) ?_
                  refine lv_icmp_ge (tgt := 127) S.1 S.2.1 dX11_more_106 (by decide) (fun c19 => ?_) (fun c19 => ?_)
                  · have hf := (if_pos c19).symm.trans hf
                    refine r_bipush S dX11_more_127 (by decide) ?_
                    obtain ⟨e1, e2⟩ := inj2 hf
                    subst e1
                    subst e2
                    exact e_I S hlk hP hS hr dX11_more_129
                  · have hf := (if_neg c19).symm.trans hf
                    refine lv_aload_n S.1 S.2.1 dX11_more_109 rfl (lv_at hl 1 rfl) ?_
                    refine r_get S hK hP (by decide) rfl rfl h_X11_more_X11 1 (by decide) k_X11_more_7 rfl dX11_more_110 ?_
                    refine r_bipush S dX11_more_113 (by decide) ?_
                    refine lv_iload_n S.1 S.2.1 dX11_more_115 rfl (lv_at hl 2 rfl) ?_
                    refine r_iconst S dX11_more_116 ?_
                    refine r_isub S dX11_more_117 ?_
                    obtain ⟨y21, hq20, hf⟩ := bV_some hf
                    refine r_callVI S hK hP hS (by decide) rfl rfl [.int (zI 24), .int (zI (a1 - 2))] (c_X4_signAt l D cy ad hO 24 (a1 - 2) σ9 hq20) (cw_X11_more_X4_signAt S.2.2.2.2) rfl hl.1 (rest := []) rfl (Nat.le_of_ble_eq_true rfl) dX11_more_118 ⟨Nat.zero_le _, Nat.zero_le _⟩ (fun H locs hP hS => ?_)
                    obtain ⟨y23, hq22, hf⟩ := bV_some hf
                    refine r_callSI S hK hP hS [.int (zI y21)] (c_X11_codeOf l D cy ad hO y21 σ9 hq22) (cw_X11_more_X11_codeOf S.2.2.2.2) rfl hl.1 (rest := []) rfl (Nat.le_of_ble_eq_true rfl) dX11_more_121 ⟨Nat.zero_le _, Nat.zero_le _⟩ (fun H locs hP hS => ?_)
                    refine lv_goto (tgt := 129) S.1 S.2.1 dX11_more_124 (by decide) ?_
                    obtain ⟨e1, e2⟩ := inj2 hf
                    subst e1
                    subst e2
                    exact e_I S hlk hP hS hr dX11_more_129
                · have hf := (if_pos c18).symm.trans hf
                  refine lv_iload_n S.1 S.2.1 dX11_more_100 rfl (lv_at hl 0 rfl) ?_
                  obtain ⟨e1, e2⟩ := inj2 hf
                  subst e1
                  subst e2
                  exact e_I S hlk hP hS hr dX11_more_101
              · have hf := (if_pos c15).symm.trans hf
                refine lv_aload_n S.1 S.2.1 dX11_more_77 rfl (lv_at hl 0 rfl) ?_
                refine r_get S hK hP (by decide) rfl rfl h_X11_more_X11 11 (by decide) k_X11_more_3 rfl dX11_more_78 ?_
                refine r_get S hK hP (by decide) rfl rfl h_X11_more_X9 4 (by decide) k_X11_more_5 rfl dX11_more_81 ?_
                obtain ⟨e1, e2⟩ := inj2 hf
                subst e1
                subst e2
                exact e_I S hlk hP hS hr dX11_more_84
            · have hf := (if_pos c14).symm.trans hf
              refine r_bipush S dX11_more_70 (by decide) ?_
              obtain ⟨e1, e2⟩ := inj2 hf
              subst e1
              subst e2
              exact e_I S hlk hP hS hr dX11_more_72
          clear hf
          have hf := hq
          refine r_if_ne (tgt := 58) S dX11_more_42 (by decide) (fun c10 => ?_) (fun c10 => ?_)
          · have hf := (if_neg c10).symm.trans hf
            have e1 := Option.some.inj hf
            subst e1
            exact kJ0 _ _ _ hP hS (lv_sub hl [0, 2] rfl)
          · have hf := (if_pos c10).symm.trans hf
            refine lv_aload_n S.1 S.2.1 dX11_more_45 rfl (lv_at hl 0 rfl) ?_
            refine r_iconst S dX11_more_46 ?_
            obtain ⟨σ11, hσ11, hf⟩ := nm_some hf
            refine r_put S hK hP hO hS (by decide) rfl rfl h_X11_more_X11 tyX11 tyX11_ok nmX11 12 (by decide) k_X11_more_4 rfl (tyX11_ok 12 (by decide)) (by decide) (by decide) (Nat.le_of_ble_eq_true rfl) hσ11 rfl dX11_more_47 (fun H locs hP hS => ?_)
            refine lv_aload_n S.1 S.2.1 dX11_more_50 rfl (lv_at hl 0 rfl) ?_
            refine r_get S hK hP (by decide) rfl rfl h_X11_more_X11 11 (by decide) k_X11_more_3 rfl dX11_more_51 ?_
            refine lv_iload_n S.1 S.2.1 dX11_more_54 rfl (lv_at hl 1 rfl) ?_
            obtain ⟨σ13, hq12, hf⟩ := bV_some hf
            refine r_callVV S hK hP hS (by decide) rfl rfl [.int (zI a0)] (c_X9_seek l D cy ad hO n a0 σ11 hq12) (cw_X11_more_X9_seek S.2.2.2.2) rfl hl.1 (rest := []) rfl (Nat.le_of_ble_eq_true rfl) dX11_more_55 ⟨Nat.zero_le _, Nat.zero_le _⟩ (fun H locs hP hS => ?_)
            have e1 := Option.some.inj hf
            subst e1
            exact kJ0 _ _ _ hP hS (lv_sub hl [0, 2] rfl)
        · have hf := (if_pos c6).symm.trans hf
          refine r_bipush S dX11_more_31 (by decide) ?_
          obtain ⟨e1, e2⟩ := inj2 hf
          subst e1
          subst e2
          exact e_I S hlk hP hS hr dX11_more_33
      · have hf := (if_neg c5).symm.trans hf
        refine r_bipush S dX11_more_18 (by decide) ?_
        obtain ⟨e1, e2⟩ := inj2 hf
        subst e1
        subst e2
        exact e_I S hlk hP hS hr dX11_more_20
  · have hf := (if_pos c3).symm.trans hf
    refine r_iconst S dX11_more_7 ?_
    obtain ⟨e1, e2⟩ := inj2 hf
    subst e1
    subst e2
    exact e_I S hlk hP hS hr dX11_more_8
def rm_X11_near : Room := { frames := 3, cells := 0, slots := 0, locals := 70 }
theorem k_X11_near_1 : (.fieldLink RX11 48 "MendTexts" "examples" "LMendTexts$Examples;" : Cond) ∈ wsX11_near := List.mem_of_getElem? (i := 1) (by decide +kernel)
theorem k_X11_near_2 : (.fieldLink RX11 75 "MendTexts" "ahead" "LMendTexts$Rows;" : Cond) ∈ wsX11_near := List.mem_of_getElem? (i := 2) (by decide +kernel)
theorem k_X11_near_3 : (.fieldLink RX11 171 "MendTexts$Word" "length" "I" : Cond) ∈ wsX11_near := List.mem_of_getElem? (i := 3) (by decide +kernel)
theorem h_X11_near_X11 : ∀ w ∈ u_ws RX11 TX11 13, w ∈ wsX11_near := mem_places _ [63, 64, 65, 66, 67, 68, 69, 70, 71, 72, 73, 74, 75] (by decide +kernel)
theorem h_X11_near_X10 : ∀ w ∈ u_ws RX10 TX10 2, w ∈ wsX11_near := mem_places _ [76, 77] (by decide +kernel)
theorem cw_X11_near_X2_at {s : State} {args : Array Value} (hts : ∀ w ∈ wsX11_near, w.before args s = true) : CallW rm_X11_near s args RX11 RX2 233 yX2_at cX2_at 2 (some (.object "MendTexts$Word")) wsX2_at rm_X2_at 0 0 1 := cwV 1 hts gX11_near_X2_at rfl rfl rfl (by decide +kernel) ⟨Nat.le_of_ble_eq_true rfl, Nat.le_of_ble_eq_true rfl⟩
theorem cw_X11_near_X2_has {s : State} {args : Array Value} (hts : ∀ w ∈ wsX11_near, w.before args s = true) : CallW rm_X11_near s args RX11 RX2 230 yX2_has cX2_has 2 (some .boolean) wsX2_has rm_X2_has 0 0 1 := cwV 1 hts gX11_near_X2_has rfl rfl rfl (by decide +kernel) ⟨Nat.le_of_ble_eq_true rfl, Nat.le_of_ble_eq_true rfl⟩
theorem cw_X11_near_X7_fill {s : State} {args : Array Value} (hts : ∀ w ∈ wsX11_near, w.before args s = true) : CallW rm_X11_near s args RX11 RX7 207 yX7_fill cX7_fill 8 none wsX7_fill rm_X7_fill 0 0 3 := cwV 3 hts gX11_near_X7_fill rfl rfl rfl (by decide +kernel) ⟨Nat.le_of_ble_eq_true rfl, Nat.le_of_ble_eq_true rfl⟩
theorem cw_X11_near_X7_leastAt {s : State} {args : Array Value} (hts : ∀ w ∈ wsX11_near, w.before args s = true) : CallW rm_X11_near s args RX11 RX7 237 yX7_leastAt cX7_leastAt 4 (some .int) wsX7_leastAt rm_X7_leastAt 0 0 2 := cwV 2 hts gX11_near_X7_leastAt rfl rfl rfl (by decide +kernel) ⟨Nat.le_of_ble_eq_true rfl, Nat.le_of_ble_eq_true rfl⟩
set_option maxHeartbeats 4000000 in
set_option maxRecDepth 100000 in
theorem c_X11_near (l : Launch) (D : va_G) (cy : Nat → ClassId) (ad : Nat → Nat) (hO : adOK 39 ad) (n : Nat) (a0 : Int) (a1 : Int) (σ : Mem) {v : Int} {τ : Mem} (hf : f_X11_near n a0 a1 σ = some (v, τ)) : Met l yX11_near wsX11_near rm_X11_near (va_Pc [.ref (ad 0), .int (zI a0), .int (zI a1)] (PreW D cy 39 (cellC cy ad) ad σ)) (QI D 39 (cellC cy ad) ad v τ) 0 0 (AC 39 ad) := by
  refine r_met (cc := cX11_near) (maxL := 5) (ret := (some .int)) (own := RX11) (by decide) rfl rfl [.ref (ad 0), .int (zI a0), .int (zI a1)] (Nat.le_of_ble_eq_true rfl) ?_
  intro p e s m below meth c ls S hK hP hlk hr hl
  have hS : va_S (AC 39 ad) s.heap s.heap [] := va_S.rf
  have hl : lv_has ls 5 [(0, .ref (ad 0)), (1, .int (zI a0)), (2, .int (zI a1))] := hl
  unfold f_X11_near at hf
  refine lv_aload_n S.1 S.2.1 dX11_near_0 rfl (lv_at hl 0 rfl) ?_
  refine r_get S hK hP (by decide) rfl rfl h_X11_near_X11 6 (by decide) k_X11_near_1 rfl dX11_near_1 ?_
  refine lv_iload_n S.1 S.2.1 dX11_near_4 rfl (lv_at hl 1 rfl) ?_
  obtain ⟨y2, hq1, hf⟩ := bV_some hf
  refine r_callVI S hK hP hS (by decide) rfl rfl [.int (zI a0)] (c_X2_has l D cy ad hO a0 σ hq1) (cw_X11_near_X2_has S.2.2.2.2) rfl hl.1 (rest := []) rfl (Nat.le_of_ble_eq_true rfl) dX11_near_5 ⟨Nat.zero_le _, Nat.zero_le _⟩ (fun H locs hP hS => ?_)
  refine r_if_eq (tgt := 22) S dX11_near_8 (by decide) (fun c3 => ?_) (fun c3 => ?_)
  · have hf := (if_pos c3).symm.trans hf
    refine r_iconst S dX11_near_22 ?_
    obtain ⟨e1, e2⟩ := inj2 hf
    subst e1
    subst e2
    exact e_I S hlk hP hS hr dX11_near_23
  · have hf := (if_neg c3).symm.trans hf
    refine lv_aload_n S.1 S.2.1 dX11_near_11 rfl (lv_at hl 0 rfl) ?_
    refine r_get S hK hP (by decide) rfl rfl h_X11_near_X11 6 (by decide) k_X11_near_1 rfl dX11_near_12 ?_
    refine lv_iload_n S.1 S.2.1 dX11_near_15 rfl (lv_at hl 2 rfl) ?_
    obtain ⟨y5, hq4, hf⟩ := bV_some hf
    refine r_callVI S hK hP hS (by decide) rfl rfl [.int (zI a1)] (c_X2_has l D cy ad hO a1 σ hq4) (cw_X11_near_X2_has S.2.2.2.2) rfl hl.1 (rest := []) rfl (Nat.le_of_ble_eq_true rfl) dX11_near_16 ⟨Nat.zero_le _, Nat.zero_le _⟩ (fun H locs hP hS => ?_)
    refine r_if_ne (tgt := 24) S dX11_near_19 (by decide) (fun c6 => ?_) (fun c6 => ?_)
    · have hf := (if_neg c6).symm.trans hf
      refine lv_aload_n S.1 S.2.1 dX11_near_24 rfl (lv_at hl 0 rfl) ?_
      refine r_get S hK hP (by decide) rfl rfl h_X11_near_X11 6 (by decide) k_X11_near_1 rfl dX11_near_25 ?_
      refine lv_iload_n S.1 S.2.1 dX11_near_28 rfl (lv_at hl 1 rfl) ?_
      obtain ⟨w8, hq7, hf⟩ := bV_some hf
      refine r_callVR S hK hP hS (by decide) rfl rfl [.int (zI a0)] (c_X2_at l D cy ad hO a0 σ hq7) (cw_X11_near_X2_at S.2.2.2.2) rfl hl.1 (rest := []) rfl (Nat.le_of_ble_eq_true rfl) dX11_near_29 ⟨Nat.zero_le _, Nat.zero_le _⟩ (fun H locs hP hS => ?_)
      obtain ⟨hw9, hf⟩ := gd_some hf
      refine lv_astore_n (lv' := [(3, .ref (ad w8)), (0, .ref (ad 0)), (1, .int (zI a0)), (2, .int (zI a1))]) S.1 S.2.1 dX11_near_32 rfl hl (by decide) rfl (fun ls hl => ?_)
      refine lv_aload_n S.1 S.2.1 dX11_near_33 rfl (lv_at hl 1 rfl) ?_
      refine r_get S hK hP (by decide) rfl rfl h_X11_near_X11 6 (by decide) k_X11_near_1 rfl dX11_near_34 ?_
      refine lv_iload_n S.1 S.2.1 dX11_near_37 rfl (lv_at hl 3 rfl) ?_
      obtain ⟨w11, hq10, hf⟩ := bV_some hf
      refine r_callVR S hK hP hS (by decide) rfl rfl [.int (zI a1)] (c_X2_at l D cy ad hO a1 σ hq10) (cw_X11_near_X2_at S.2.2.2.2) rfl hl.1 (rest := []) rfl (Nat.le_of_ble_eq_true rfl) dX11_near_38 ⟨Nat.zero_le _, Nat.zero_le _⟩ (fun H locs hP hS => ?_)
      obtain ⟨hw12, hf⟩ := gd_some hf
      refine lv_astore (lv' := [(4, .ref (ad w11)), (3, .ref (ad w8)), (0, .ref (ad 0)), (1, .int (zI a0)), (2, .int (zI a1))]) S.1 S.2.1 dX11_near_41 hl (by decide) rfl (fun ls hl => ?_)
      refine lv_aload_n S.1 S.2.1 dX11_near_43 rfl (lv_at hl 2 rfl) ?_
      refine r_get S hK hP (by decide) rfl rfl h_X11_near_X11 9 (by decide) k_X11_near_2 rfl dX11_near_44 ?_
      refine lv_aload_n S.1 S.2.1 dX11_near_47 rfl (lv_at hl 1 rfl) ?_
      refine lv_aload S.1 S.2.1 dX11_near_48 (lv_at hl 0 rfl) ?_
      refine r_iconst S dX11_near_50 ?_
      obtain ⟨σ14, hq13, hf⟩ := bV_some hf
      refine r_callVV S hK hP hS (by decide) rfl rfl [.ref (ad w8), .ref (ad w11), .int (zI 0)] (c_X7_fill l D cy ad hO n 32 (by decide) w8 hw9 w11 hw12 0 σ hq13) (cw_X11_near_X7_fill S.2.2.2.2) rfl hl.1 (rest := []) rfl (Nat.le_of_ble_eq_true rfl) dX11_near_51 ⟨Nat.zero_le _, Nat.zero_le _⟩ (fun H locs hP hS => ?_)
      refine lv_aload_n S.1 S.2.1 dX11_near_54 rfl (lv_at hl 2 rfl) ?_
      refine r_get S hK hP (by decide) rfl rfl h_X11_near_X11 9 (by decide) k_X11_near_2 rfl dX11_near_55 ?_
      refine lv_aload_n S.1 S.2.1 dX11_near_58 rfl (lv_at hl 1 rfl) ?_
      refine r_get S hK hP (ltW hw9) (cellW cy ad hw9 _) rfl h_X11_near_X10 1 (by decide) k_X11_near_3 rfl dX11_near_59 ?_
      refine lv_aload S.1 S.2.1 dX11_near_62 (lv_at hl 0 rfl) ?_
      refine r_get S hK hP (ltW hw12) (cellW cy ad hw12 _) rfl h_X11_near_X10 1 (by decide) k_X11_near_3 rfl dX11_near_64 ?_
      obtain ⟨y16, hq15, hf⟩ := bV_some hf
      refine r_callVI S hK hP hS (by decide) rfl rfl [.int (zI (σ14 w8 1)), .int (zI (σ14 w11 1))] (c_X7_leastAt l D cy ad hO 32 (by decide) (σ14 w8 1) (σ14 w11 1) σ14 hq15) (cw_X11_near_X7_leastAt S.2.2.2.2) rfl hl.1 (rest := []) rfl (Nat.le_of_ble_eq_true rfl) dX11_near_67 ⟨Nat.zero_le _, Nat.zero_le _⟩ (fun H locs hP hS => ?_)
      obtain ⟨e1, e2⟩ := inj2 hf
      subst e1
      subst e2
      exact e_I S hlk hP hS hr dX11_near_70
    · have hf := (if_pos c6).symm.trans hf
      refine r_iconst S dX11_near_22 ?_
      obtain ⟨e1, e2⟩ := inj2 hf
      subst e1
      subst e2
      exact e_I S hlk hP hS hr dX11_near_23
def rm_X11_nothing : Room := { frames := 6, cells := 0, slots := 0, locals := 157 }
theorem k_X11_nothing_1 : (.constantLong RX11 158 (9223372036854775807) : Cond) ∈ wsX11_nothing := List.mem_of_getElem? (i := 1) (by decide +kernel)
theorem cw_X11_nothing_X0_leastOf {s : State} {args : Array Value} (hts : ∀ w ∈ wsX11_nothing, w.before args s = true) : CallW rm_X11_nothing s args RX11 RX0 148 yX0_leastOf cX0_leastOf 2 (some .long) wsX0_leastOf rm_X0_leastOf 0 0 1 := cwV 1 hts gX11_nothing_X0_leastOf rfl rfl rfl (by decide +kernel) ⟨Nat.le_of_ble_eq_true rfl, Nat.le_of_ble_eq_true rfl⟩
theorem cw_X11_nothing_X11_chartOfWord {s : State} {args : Array Value} (hts : ∀ w ∈ wsX11_nothing, w.before args s = true) : CallW rm_X11_nothing s args RX11 RX11 144 yX11_chartOfWord cX11_chartOfWord 1 (some (.object "MendTexts$Chart")) wsX11_chartOfWord rm_X11_chartOfWord 0 0 0 := cwV 0 hts gX11_nothing_X11_chartOfWord rfl rfl rfl (by decide +kernel) ⟨Nat.le_of_ble_eq_true rfl, Nat.le_of_ble_eq_true rfl⟩
set_option maxHeartbeats 4000000 in
set_option maxRecDepth 100000 in
theorem w_X11_nothing_L9 {p : Program} {l : Launch} {e : Env} {s : State} {m : MethodId} {args : Array Value} {below : List Frame} {meth : Method} {c : Code} {Q : State → Prop} {D : va_G} {cy : Nat → ClassId} {ad : Nat → Nat} {H0 : Heap} (hO : adOK 39 ad) (S : CallFix p m c cX11_nothing 4 s args wsX11_nothing RX11) (hK : KK D cy s) (n : Nat) (σ : Mem) {res : Int} (k0 : ∀ (y2_ : Int) (H2 : Heap) (locs2 : List Loc) (ls2 : Array Slot), res = y2_ → va_P D vwCl (WW 39 (cellC cy ad) ad σ) H2 → va_S (AC 39 ad) H0 H2 locs2 → lv_has ls2 4 [(2, .int (zI y2_))] → W p l e rm_X11_nothing s m args below meth c H2 locs2 0 0 Q (F0 m 39 ls2 [])) :
    ∀ (k : Nat) (x2_ : Int) (x3_ : Int) (H : Heap) (locs : List Loc) (ls : Array Slot), f_X11_nothing_L9 n σ k x2_ x3_ = some res → va_P D vwCl (WW 39 (cellC cy ad) ad σ) H → va_S (AC 39 ad) H0 H locs → lv_has ls 4 [(1, .ref (ad 27)), (2, .int (zI x2_)), (3, .int (zI x3_))] → W p l e rm_X11_nothing s m args below meth c H locs 0 0 Q (F0 m 9 ls []) := by
  intro k
  induction k with
  | zero =>
    intro x2_ x3_ H locs ls hf
    have hf : none = some res := hf
    cases hf
  | succ k ih =>
    intro x2_ x3_ H locs ls hf hP hS hl
    rw [f_X11_nothing_L9] at hf
    refine lv_iload_n S.1 S.2.1 dX11_nothing_9 rfl (lv_at hl 2 rfl) ?_
    refine r_bipush S dX11_nothing_10 (by decide) ?_
    refine lv_icmp_ge (tgt := 39) S.1 S.2.1 dX11_nothing_12 (by decide) (fun c1 => ?_) (fun c1 => ?_)
    · have hf := (if_pos c1).symm.trans hf
      exact k0 _ _ _ _ (Option.some.inj hf).symm hP hS (lv_sub hl [1] rfl)
    · have hf := (if_neg c1).symm.trans hf
      refine lv_aload_n S.1 S.2.1 dX11_nothing_15 rfl (lv_at hl 0 rfl) ?_
      refine lv_iload_n S.1 S.2.1 dX11_nothing_16 rfl (lv_at hl 2 rfl) ?_
      obtain ⟨y3, hq2, hf⟩ := bV_some hf
      refine r_callVL S hK hP hS (by decide) rfl rfl [.int (zI x3_)] (c_X0_leastOf l D cy ad hO x3_ σ hq2) (cw_X11_nothing_X0_leastOf S.2.2.2.2) rfl hl.1 (rest := []) rfl (Nat.le_of_ble_eq_true rfl) dX11_nothing_17 ⟨Nat.zero_le _, Nat.zero_le _⟩ (fun H locs hP hS => ?_)
      refine r_ldc2 S 9223372036854775807 (by decide +kernel) k_X11_nothing_1 dX11_nothing_20 ?_
      refine r_lcmp S dX11_nothing_23 ?_
      obtain ⟨x4, hq, hf⟩ := bV_some hf
      have kJ0 : ∀ (H : Heap) (locs : List Loc) (ls : Array Slot), va_P D vwCl (WW 39 (cellC cy ad) ad σ) H → va_S (AC 39 ad) H0 H locs → lv_has ls 4 [(1, .ref (ad 27)), (2, .int (zI x4)), (3, .int (zI x3_))] → W p l e rm_X11_nothing s m args below meth c H locs 0 0 Q (F0 m 33 ls []) := by
        intro H locs ls hP hS hl
        obtain ⟨x7, hx7, hf⟩ := nm_some hf
        refine r_iinc S hx7 (k0 := 2) (lv2 := [(3, .int (zI x7)), (1, .ref (ad 27)), (2, .int (zI x4))]) dX11_nothing_33 hl rfl (by decide) rfl (fun ls hl => ?_)
        refine lv_goto (tgt := 9) S.1 S.2.1 dX11_nothing_36 (by decide) ?_
        exact ih x4 x7 _ _ _ hf hP hS (lv_sub hl [1, 2, 0] rfl)
      clear hf
      have hf := hq
      refine r_if_ne (tgt := 33) S dX11_nothing_24 (by decide) (fun c5 => ?_) (fun c5 => ?_)
      · have hf := (if_neg c5).symm.trans hf
        have e1 := Option.some.inj hf
        subst e1
        exact kJ0 _ _ _ hP hS (lv_sub hl [0, 1, 2] rfl)
      · have hf := (if_pos c5).symm.trans hf
        refine lv_iload_n S.1 S.2.1 dX11_nothing_27 rfl (lv_at hl 1 rfl) ?_
        refine r_iconst S dX11_nothing_28 ?_
        refine lv_iload_n S.1 S.2.1 dX11_nothing_29 rfl (lv_at hl 2 rfl) ?_
        refine r_ishl S dX11_nothing_30 ?_
        refine r_ior S dX11_nothing_31 ?_
        obtain ⟨x6, hx6, hf⟩ := nm_some hf
        refine r_istore_n S hx6 (lv2 := [(2, .int (zI x6)), (1, .ref (ad 27)), (3, .int (zI x3_))]) dX11_nothing_32 rfl hl (by decide) rfl (fun ls hl => ?_)
        have e1 := Option.some.inj hf
        subst e1
        exact kJ0 _ _ _ hP hS (lv_sub hl [1, 0, 2] rfl)
set_option maxHeartbeats 4000000 in
set_option maxRecDepth 100000 in
theorem c_X11_nothing (l : Launch) (D : va_G) (cy : Nat → ClassId) (ad : Nat → Nat) (hO : adOK 39 ad) (n : Nat) (σ : Mem) {v : Int} {τ : Mem} (hf : f_X11_nothing n σ = some (v, τ)) : Met l yX11_nothing wsX11_nothing rm_X11_nothing (va_Pc [.ref (ad 0)] (PreW D cy 39 (cellC cy ad) ad σ)) (QI D 39 (cellC cy ad) ad v τ) 0 0 (AC 39 ad) := by
  refine r_met (cc := cX11_nothing) (maxL := 4) (ret := (some .int)) (own := RX11) (by decide) rfl rfl [.ref (ad 0)] (Nat.le_of_ble_eq_true rfl) ?_
  intro p e s m below meth c ls S hK hP hlk hr hl
  have hS : va_S (AC 39 ad) s.heap s.heap [] := va_S.rf
  have hl : lv_has ls 4 [(0, .ref (ad 0))] := hl
  unfold f_X11_nothing at hf
  refine lv_aload_n S.1 S.2.1 dX11_nothing_0 rfl (lv_at hl 0 rfl) ?_
  obtain ⟨w3, σ2, hq1, hf⟩ := bL1_some hf
  refine r_callVR S hK hP hS (by decide) rfl rfl [] (c_X11_chartOfWord l D cy ad hO n σ hq1) (cw_X11_nothing_X11_chartOfWord S.2.2.2.2) rfl hl.1 (rest := []) rfl (Nat.le_of_ble_eq_true rfl) dX11_nothing_1 ⟨Nat.zero_le _, Nat.zero_le _⟩ (fun H locs hP hS => ?_)
  obtain ⟨hw4, hf⟩ := gd_some hf
  subst hw4
  refine lv_astore_n (lv' := [(1, .ref (ad 27)), (0, .ref (ad 0))]) S.1 S.2.1 dX11_nothing_4 rfl hl (by decide) rfl (fun ls hl => ?_)
  refine r_iconst S dX11_nothing_5 ?_
  refine r_istore_n S rfl (lv2 := [(2, .int (zI 0)), (1, .ref (ad 27)), (0, .ref (ad 0))]) dX11_nothing_6 rfl hl (by decide) rfl (fun ls hl => ?_)
  refine r_iconst S dX11_nothing_7 ?_
  refine r_istore_n S rfl (lv2 := [(3, .int (zI 0)), (2, .int (zI 0)), (1, .ref (ad 27)), (0, .ref (ad 0))]) dX11_nothing_8 rfl hl (by decide) rfl (fun ls hl => ?_)
  obtain ⟨x5, hq, hf⟩ := bV_some hf
  refine w_X11_nothing_L9 hO S hK n σ2 (fun x5 H locs ls he hP hS hl => ?_) n 0 0 _ _ _ hq hP hS (lv_sub hl [2, 1, 0] rfl)
  cases he
  refine lv_iload_n S.1 S.2.1 dX11_nothing_39 rfl (lv_at hl 0 rfl) ?_
  obtain ⟨e1, e2⟩ := inj2 hf
  subst e1
  subst e2
  exact e_I S hlk hP hS hr dX11_nothing_40
def rm_X11_rule : Room := { frames := 2, cells := 0, slots := 0, locals := 42 }
theorem k_X11_rule_1 : (.fieldLink RX11 19 "MendTexts" "rules" "LMendTexts$Grammar;" : Cond) ∈ wsX11_rule := List.mem_of_getElem? (i := 1) (by decide +kernel)
theorem h_X11_rule_X11 : ∀ w ∈ u_ws RX11 TX11 13, w ∈ wsX11_rule := mem_places _ [30, 31, 32, 33, 34, 35, 36, 37, 38, 39, 40, 41, 42] (by decide +kernel)
theorem cw_X11_rule_X11_codeOf {s : State} {args : Array Value} (hts : ∀ w ∈ wsX11_rule, w.before args s = true) : CallB rm_X11_rule s args RX11 141 yX11_codeOf cX11_codeOf 1 (some .int) wsX11_codeOf rm_X11_codeOf 0 0 1 ∧ (Cond.static yX11_codeOf).before args s = true := va_cwS 1 hts gX11_rule_X11_codeOf rfl rfl rfl (by decide +kernel) ⟨Nat.le_of_ble_eq_true rfl, Nat.le_of_ble_eq_true rfl⟩
theorem cw_X11_rule_X11_isName {s : State} {args : Array Value} (hts : ∀ w ∈ wsX11_rule, w.before args s = true) : CallB rm_X11_rule s args RX11 125 yX11_isName cX11_isName 1 (some .boolean) wsX11_isName rm_X11_isName 0 0 1 ∧ (Cond.static yX11_isName).before args s = true := va_cwS 1 hts gX11_rule_X11_isName rfl rfl rfl (by decide +kernel) ⟨Nat.le_of_ble_eq_true rfl, Nat.le_of_ble_eq_true rfl⟩
theorem cw_X11_rule_X4_countOf {s : State} {args : Array Value} (hts : ∀ w ∈ wsX11_rule, w.before args s = true) : CallW rm_X11_rule s args RX11 RX4 128 yX4_countOf cX4_countOf 2 (some .int) wsX4_countOf rm_X4_countOf 0 0 1 := cwV 1 hts gX11_rule_X4_countOf rfl rfl rfl (by decide +kernel) ⟨Nat.le_of_ble_eq_true rfl, Nat.le_of_ble_eq_true rfl⟩
theorem cw_X11_rule_X4_lengthOf {s : State} {args : Array Value} (hts : ∀ w ∈ wsX11_rule, w.before args s = true) : CallW rm_X11_rule s args RX11 RX4 135 yX4_lengthOf cX4_lengthOf 2 (some .int) wsX4_lengthOf rm_X4_lengthOf 0 0 1 := cwV 1 hts gX11_rule_X4_lengthOf rfl rfl rfl (by decide +kernel) ⟨Nat.le_of_ble_eq_true rfl, Nat.le_of_ble_eq_true rfl⟩
theorem cw_X11_rule_X4_signAt {s : State} {args : Array Value} (hts : ∀ w ∈ wsX11_rule, w.before args s = true) : CallW rm_X11_rule s args RX11 RX4 138 yX4_signAt cX4_signAt 4 (some .int) wsX4_signAt rm_X4_signAt 0 0 2 := cwV 2 hts gX11_rule_X4_signAt rfl rfl rfl (by decide +kernel) ⟨Nat.le_of_ble_eq_true rfl, Nat.le_of_ble_eq_true rfl⟩
theorem cw_X11_rule_X4_slotOf {s : State} {args : Array Value} (hts : ∀ w ∈ wsX11_rule, w.before args s = true) : CallW rm_X11_rule s args RX11 RX4 131 yX4_slotOf cX4_slotOf 3 (some .int) wsX4_slotOf rm_X4_slotOf 0 0 2 := cwV 2 hts gX11_rule_X4_slotOf rfl rfl rfl (by decide +kernel) ⟨Nat.le_of_ble_eq_true rfl, Nat.le_of_ble_eq_true rfl⟩
set_option maxHeartbeats 4000000 in
set_option maxRecDepth 100000 in
theorem c_X11_rule (l : Launch) (D : va_G) (cy : Nat → ClassId) (ad : Nat → Nat) (hO : adOK 39 ad) (a0 : Int) (a1 : Int) (a2 : Int) (σ : Mem) {v : Int} (hf : f_X11_rule a0 a1 a2 σ = some v) : Met l yX11_rule wsX11_rule rm_X11_rule (va_Pc [.ref (ad 0), .int (zI a0), .int (zI a1), .int (zI a2)] (PreW D cy 39 (cellC cy ad) ad σ)) (QI D 39 (cellC cy ad) ad v σ) 0 0 (AC 39 ad) := by
  refine r_met (cc := cX11_rule) (maxL := 6) (ret := (some .int)) (own := RX11) (by decide) rfl rfl [.ref (ad 0), .int (zI a0), .int (zI a1), .int (zI a2)] (Nat.le_of_ble_eq_true rfl) ?_
  intro p e s m below meth c ls S hK hP hlk hr hl
  have hS : va_S (AC 39 ad) s.heap s.heap [] := va_S.rf
  have hl : lv_has ls 6 [(0, .ref (ad 0)), (1, .int (zI a0)), (2, .int (zI a1)), (3, .int (zI a2))] := hl
  unfold f_X11_rule at hf
  refine lv_iload_n S.1 S.2.1 dX11_rule_0 rfl (lv_at hl 1 rfl) ?_
  obtain ⟨y2, hq1, hf⟩ := bV_some hf
  refine r_callSI S hK hP hS [.int (zI a0)] (c_X11_isName l D cy ad hO a0 σ hq1) (cw_X11_rule_X11_isName S.2.2.2.2) rfl hl.1 (rest := []) rfl (Nat.le_of_ble_eq_true rfl) dX11_rule_1 ⟨Nat.zero_le _, Nat.zero_le _⟩ (fun H locs hP hS => ?_)
  refine r_if_eq (tgt := 23) S dX11_rule_4 (by decide) (fun c3 => ?_) (fun c3 => ?_)
  · have hf := (if_pos c3).symm.trans hf
    refine r_iconst S dX11_rule_23 ?_
    have e1 := Option.some.inj hf
    subst e1
    exact e_I S hlk hP hS hr dX11_rule_24
  · have hf := (if_neg c3).symm.trans hf
    refine lv_iload_n S.1 S.2.1 dX11_rule_7 rfl (lv_at hl 2 rfl) ?_
    refine r_if_lt (tgt := 23) S dX11_rule_8 (by decide) (fun c4 => ?_) (fun c4 => ?_)
    · have hf := (if_pos c4).symm.trans hf
      refine r_iconst S dX11_rule_23 ?_
      have e1 := Option.some.inj hf
      subst e1
      exact e_I S hlk hP hS hr dX11_rule_24
    · have hf := (if_neg c4).symm.trans hf
      refine lv_iload_n S.1 S.2.1 dX11_rule_11 rfl (lv_at hl 2 rfl) ?_
      refine lv_aload_n S.1 S.2.1 dX11_rule_12 rfl (lv_at hl 0 rfl) ?_
      refine r_get S hK hP (by decide) rfl rfl h_X11_rule_X11 1 (by decide) k_X11_rule_1 rfl dX11_rule_13 ?_
      refine lv_iload_n S.1 S.2.1 dX11_rule_16 rfl (lv_at hl 1 rfl) ?_
      obtain ⟨y6, hq5, hf⟩ := bV_some hf
      refine r_callVI S hK hP hS (by decide) rfl rfl [.int (zI a0)] (c_X4_countOf l D cy ad hO 3 (by decide) a0 σ hq5) (cw_X11_rule_X4_countOf S.2.2.2.2) rfl hl.1 (rest := [.int (zI a1)]) rfl (Nat.le_of_ble_eq_true rfl) dX11_rule_17 ⟨Nat.zero_le _, Nat.zero_le _⟩ (fun H locs hP hS => ?_)
      refine lv_icmp_lt (tgt := 25) S.1 S.2.1 dX11_rule_20 (by decide) (fun c7 => ?_) (fun c7 => ?_)
      · have hf := (if_pos c7).symm.trans hf
        refine lv_aload_n S.1 S.2.1 dX11_rule_25 rfl (lv_at hl 0 rfl) ?_
        refine r_get S hK hP (by decide) rfl rfl h_X11_rule_X11 1 (by decide) k_X11_rule_1 rfl dX11_rule_26 ?_
        refine lv_iload_n S.1 S.2.1 dX11_rule_29 rfl (lv_at hl 1 rfl) ?_
        refine lv_iload_n S.1 S.2.1 dX11_rule_30 rfl (lv_at hl 2 rfl) ?_
        obtain ⟨y9, hq8, hf⟩ := bV_some hf
        refine r_callVI S hK hP hS (by decide) rfl rfl [.int (zI a0), .int (zI a1)] (c_X4_slotOf l D cy ad hO a0 a1 σ hq8) (cw_X11_rule_X4_slotOf S.2.2.2.2) rfl hl.1 (rest := []) rfl (Nat.le_of_ble_eq_true rfl) dX11_rule_31 ⟨Nat.zero_le _, Nat.zero_le _⟩ (fun H locs hP hS => ?_)
        refine r_istore S rfl (lv2 := [(4, .int (zI y9)), (0, .ref (ad 0)), (1, .int (zI a0)), (2, .int (zI a1)), (3, .int (zI a2))]) dX11_rule_34 hl (by decide) rfl (fun ls hl => ?_)
        refine lv_aload_n S.1 S.2.1 dX11_rule_36 rfl (lv_at hl 1 rfl) ?_
        refine r_get S hK hP (by decide) rfl rfl h_X11_rule_X11 1 (by decide) k_X11_rule_1 rfl dX11_rule_37 ?_
        refine lv_iload S.1 S.2.1 dX11_rule_40 (lv_at hl 0 rfl) ?_
        obtain ⟨y11, hq10, hf⟩ := bV_some hf
        refine r_callVI S hK hP hS (by decide) rfl rfl [.int (zI y9)] (c_X4_lengthOf l D cy ad hO 3 (by decide) y9 σ hq10) (cw_X11_rule_X4_lengthOf S.2.2.2.2) rfl hl.1 (rest := []) rfl (Nat.le_of_ble_eq_true rfl) dX11_rule_42 ⟨Nat.zero_le _, Nat.zero_le _⟩ (fun H locs hP hS => ?_)
        refine r_istore S rfl (lv2 := [(5, .int (zI y11)), (4, .int (zI y9)), (0, .ref (ad 0)), (1, .int (zI a0)), (2, .int (zI a1)), (3, .int (zI a2))]) dX11_rule_45 hl (by decide) rfl (fun ls hl => ?_)
        refine lv_iload_n S.1 S.2.1 dX11_rule_47 rfl (lv_at hl 5 rfl) ?_
        refine r_iconst S dX11_rule_48 ?_
        refine lv_icmp_ne (tgt := 55) S.1 S.2.1 dX11_rule_49 (by decide) (fun c12 => ?_) (fun c12 => ?_)
        · have hf := (if_neg c12).symm.trans hf
          refine lv_iload_n S.1 S.2.1 dX11_rule_55 rfl (lv_at hl 5 rfl) ?_
          refine r_if_lt (tgt := 81) S dX11_rule_56 (by decide) (fun c13 => ?_) (fun c13 => ?_)
          · have hf := (if_pos c13).symm.trans hf
            refine r_bipush S dX11_rule_81 (by decide) ?_
            have e1 := Option.some.inj hf
            subst e1
            exact e_I S hlk hP hS hr dX11_rule_83
          · have hf := (if_neg c13).symm.trans hf
            refine lv_iload_n S.1 S.2.1 dX11_rule_59 rfl (lv_at hl 5 rfl) ?_
            refine lv_iload S.1 S.2.1 dX11_rule_60 (lv_at hl 0 rfl) ?_
            refine lv_icmp_ge (tgt := 81) S.1 S.2.1 dX11_rule_62 (by decide) (fun c14 => ?_) (fun c14 => ?_)
            · have hf := (if_pos c14).symm.trans hf
              refine r_bipush S dX11_rule_81 (by decide) ?_
              have e1 := Option.some.inj hf
              subst e1
              exact e_I S hlk hP hS hr dX11_rule_83
            · have hf := (if_neg c14).symm.trans hf
              refine lv_aload_n S.1 S.2.1 dX11_rule_65 rfl (lv_at hl 2 rfl) ?_
              refine r_get S hK hP (by decide) rfl rfl h_X11_rule_X11 1 (by decide) k_X11_rule_1 rfl dX11_rule_66 ?_
              refine lv_iload S.1 S.2.1 dX11_rule_69 (lv_at hl 1 rfl) ?_
              refine lv_iload_n S.1 S.2.1 dX11_rule_71 rfl (lv_at hl 5 rfl) ?_
              obtain ⟨y16, hq15, hf⟩ := bV_some hf
              refine r_callVI S hK hP hS (by decide) rfl rfl [.int (zI y9), .int (zI a2)] (c_X4_signAt l D cy ad hO y9 a2 σ hq15) (cw_X11_rule_X4_signAt S.2.2.2.2) rfl hl.1 (rest := []) rfl (Nat.le_of_ble_eq_true rfl) dX11_rule_72 ⟨Nat.zero_le _, Nat.zero_le _⟩ (fun H locs hP hS => ?_)
              obtain ⟨y18, hq17, hf⟩ := bV_some hf
              refine r_callSI S hK hP hS [.int (zI y16)] (c_X11_codeOf l D cy ad hO y16 σ hq17) (cw_X11_rule_X11_codeOf S.2.2.2.2) rfl hl.1 (rest := []) rfl (Nat.le_of_ble_eq_true rfl) dX11_rule_75 ⟨Nat.zero_le _, Nat.zero_le _⟩ (fun H locs hP hS => ?_)
              refine lv_goto (tgt := 83) S.1 S.2.1 dX11_rule_78 (by decide) ?_
              have e1 := Option.some.inj hf
              subst e1
              exact e_I S hlk hP hS hr dX11_rule_83
        · have hf := (if_pos c12).symm.trans hf
          refine lv_iload S.1 S.2.1 dX11_rule_52 (lv_at hl 0 rfl) ?_
          have e1 := Option.some.inj hf
          subst e1
          exact e_I S hlk hP hS hr dX11_rule_54
      · have hf := (if_neg c7).symm.trans hf
        refine r_iconst S dX11_rule_23 ?_
        have e1 := Option.some.inj hf
        subst e1
        exact e_I S hlk hP hS hr dX11_rule_24
def rm_X5_add : Room := { frames := 0, cells := 0, slots := 0, locals := 0 }
theorem k_X5_add_1 : (.fieldLink RX5 15 "MendTexts$Pad" "count" "I" : Cond) ∈ wsX5_add := List.mem_of_getElem? (i := 1) (by decide +kernel)
theorem k_X5_add_2 : (.fieldLink RX5 11 "MendTexts$Pad" "signs" "[I" : Cond) ∈ wsX5_add := List.mem_of_getElem? (i := 2) (by decide +kernel)
theorem h_X5_add_X5 : ∀ w ∈ u_ws RX5 TX5 2, w ∈ wsX5_add := mem_places _ [3, 4] (by decide +kernel)
set_option maxHeartbeats 4000000 in
set_option maxRecDepth 100000 in
theorem c_X5_add (l : Launch) (D : va_G) (cy : Nat → ClassId) (ad : Nat → Nat) (hO : adOK 39 ad) (a0 : Int) (σ : Mem) {v : Int} {τ : Mem} (hf : f_X5_add a0 σ = some (v, τ)) : Met l yX5_add wsX5_add rm_X5_add (va_Pc [.ref (ad 1), .int (zI a0)] (PreW D cy 39 (cellC cy ad) ad σ)) (QI D 39 (cellC cy ad) ad v τ) 0 0 (AC 39 ad) := by
  refine r_met (cc := cX5_add) (maxL := 2) (ret := (some .boolean)) (own := RX5) (by decide) rfl rfl [.ref (ad 1), .int (zI a0)] (Nat.le_of_ble_eq_true rfl) ?_
  intro p e s m below meth c ls S hK hP hlk hr hl
  have hS : va_S (AC 39 ad) s.heap s.heap [] := va_S.rf
  have hl : lv_has ls 2 [(0, .ref (ad 1)), (1, .int (zI a0))] := hl
  unfold f_X5_add at hf
  refine lv_aload_n S.1 S.2.1 dX5_add_0 rfl (lv_at hl 0 rfl) ?_
  refine r_get S hK hP (by decide) rfl rfl h_X5_add_X5 1 (by decide) k_X5_add_1 rfl dX5_add_1 ?_
  refine r_if_lt (tgt := 16) S dX5_add_4 (by decide) (fun c1 => ?_) (fun c1 => ?_)
  · have hf := (if_pos c1).symm.trans hf
    refine r_iconst S dX5_add_16 ?_
    obtain ⟨e1, e2⟩ := inj2 hf
    subst e1
    subst e2
    exact e_Z S hlk hP hS (Or.inl rfl) hr dX5_add_17
  · have hf := (if_neg c1).symm.trans hf
    refine lv_aload_n S.1 S.2.1 dX5_add_7 rfl (lv_at hl 0 rfl) ?_
    refine r_get S hK hP (by decide) rfl rfl h_X5_add_X5 1 (by decide) k_X5_add_1 rfl dX5_add_8 ?_
    refine r_bipush S dX5_add_11 (by decide) ?_
    refine lv_icmp_lt (tgt := 18) S.1 S.2.1 dX5_add_13 (by decide) (fun c2 => ?_) (fun c2 => ?_)
    · have hf := (if_pos c2).symm.trans hf
      refine lv_aload_n S.1 S.2.1 dX5_add_18 rfl (lv_at hl 0 rfl) ?_
      refine r_get S hK hP (by decide) rfl rfl h_X5_add_X5 0 (by decide) k_X5_add_2 rfl dX5_add_19 ?_
      refine lv_aload_n S.1 S.2.1 dX5_add_22 rfl (lv_at hl 0 rfl) ?_
      refine r_get S hK hP (by decide) rfl rfl h_X5_add_X5 1 (by decide) k_X5_add_1 rfl dX5_add_23 ?_
      refine lv_iload_n S.1 S.2.1 dX5_add_26 rfl (lv_at hl 1 rfl) ?_
      obtain ⟨g3, hf⟩ := gd_some hf
      obtain ⟨σ4, hσ4, hf⟩ := nm_some hf
      refine r_iast S hK hP hO hS (by decide) (n := 60) (fun _ => rfl) (by decide) g3 hσ4 dX5_add_27 (fun H locs hP hS => ?_)
      refine lv_aload_n S.1 S.2.1 dX5_add_28 rfl (lv_at hl 0 rfl) ?_
      refine lv_dup S.1 S.2.1 dX5_add_29 rfl ?_
      refine r_get S hK hP (by decide) rfl rfl h_X5_add_X5 1 (by decide) k_X5_add_1 rfl dX5_add_30 ?_
      refine r_iconst S dX5_add_33 ?_
      refine r_iadd S dX5_add_34 ?_
      obtain ⟨σ5, hσ5, hf⟩ := nm_some hf
      refine r_put S hK hP hO hS (by decide) rfl rfl h_X5_add_X5 tyX5 tyX5_ok nmX5 1 (by decide) k_X5_add_1 rfl (tyX5_ok 1 (by decide)) rfl rfl (Nat.le_of_ble_eq_true rfl) hσ5 rfl dX5_add_35 (fun H locs hP hS => ?_)
      refine r_iconst S dX5_add_38 ?_
      obtain ⟨e1, e2⟩ := inj2 hf
      subst e1
      subst e2
      exact e_Z S hlk hP hS (Or.inr rfl) hr dX5_add_39
    · have hf := (if_neg c2).symm.trans hf
      refine r_iconst S dX5_add_16 ?_
      obtain ⟨e1, e2⟩ := inj2 hf
      subst e1
      subst e2
      exact e_Z S hlk hP hS (Or.inl rfl) hr dX5_add_17
def rm_X11_say : Room := { frames := 1, cells := 0, slots := 0, locals := 21 }
theorem k_X11_say_1 : (.fieldLink RX11 12 "MendTexts" "pad" "LMendTexts$Pad;" : Cond) ∈ wsX11_say := List.mem_of_getElem? (i := 1) (by decide +kernel)
theorem k_X11_say_2 : (.fieldLink RX11 99 "MendTexts$Pad" "count" "I" : Cond) ∈ wsX11_say := List.mem_of_getElem? (i := 2) (by decide +kernel)
theorem h_X11_say_X11 : ∀ w ∈ u_ws RX11 TX11 13, w ∈ wsX11_say := mem_places _ [10, 11, 12, 13, 14, 15, 16, 17, 18, 19, 20, 21, 22] (by decide +kernel)
theorem h_X11_say_X5 : ∀ w ∈ u_ws RX5 TX5 2, w ∈ wsX11_say := mem_places _ [23, 24] (by decide +kernel)
theorem cw_X11_say_X5_add {s : State} {args : Array Value} (hts : ∀ w ∈ wsX11_say, w.before args s = true) : CallW rm_X11_say s args RX11 RX5 95 yX5_add cX5_add 2 (some .boolean) wsX5_add rm_X5_add 0 0 1 := cwV 1 hts gX11_say_X5_add rfl rfl rfl (by decide +kernel) ⟨Nat.le_of_ble_eq_true rfl, Nat.le_of_ble_eq_true rfl⟩
set_option maxHeartbeats 4000000 in
set_option maxRecDepth 100000 in
theorem c_X11_say (l : Launch) (D : va_G) (cy : Nat → ClassId) (ad : Nat → Nat) (hO : adOK 39 ad) (a0 : Int) (σ : Mem) {v : Int} {τ : Mem} (hf : f_X11_say a0 σ = some (v, τ)) : Met l yX11_say wsX11_say rm_X11_say (va_Pc [.ref (ad 0), .int (zI a0)] (PreW D cy 39 (cellC cy ad) ad σ)) (QI D 39 (cellC cy ad) ad v τ) 0 0 (AC 39 ad) := by
  refine r_met (cc := cX11_say) (maxL := 2) (ret := (some .int)) (own := RX11) (by decide) rfl rfl [.ref (ad 0), .int (zI a0)] (Nat.le_of_ble_eq_true rfl) ?_
  intro p e s m below meth c ls S hK hP hlk hr hl
  have hS : va_S (AC 39 ad) s.heap s.heap [] := va_S.rf
  have hl : lv_has ls 2 [(0, .ref (ad 0)), (1, .int (zI a0))] := hl
  unfold f_X11_say at hf
  refine lv_iload_n S.1 S.2.1 dX11_say_0 rfl (lv_at hl 1 rfl) ?_
  refine r_bipush S dX11_say_1 (by decide) ?_
  refine lv_icmp_lt (tgt := 12) S.1 S.2.1 dX11_say_3 (by decide) (fun c1 => ?_) (fun c1 => ?_)
  · have hf := (if_pos c1).symm.trans hf
    refine r_bipush S dX11_say_12 (by decide) ?_
    obtain ⟨e1, e2⟩ := inj2 hf
    subst e1
    subst e2
    exact e_I S hlk hP hS hr dX11_say_14
  · have hf := (if_neg c1).symm.trans hf
    refine lv_iload_n S.1 S.2.1 dX11_say_6 rfl (lv_at hl 1 rfl) ?_
    refine r_bipush S dX11_say_7 (by decide) ?_
    refine lv_icmp_le (tgt := 15) S.1 S.2.1 dX11_say_9 (by decide) (fun c2 => ?_) (fun c2 => ?_)
    · have hf := (if_pos c2).symm.trans hf
      refine lv_aload_n S.1 S.2.1 dX11_say_15 rfl (lv_at hl 0 rfl) ?_
      refine r_get S hK hP (by decide) rfl rfl h_X11_say_X11 0 (by decide) k_X11_say_1 rfl dX11_say_16 ?_
      refine lv_iload_n S.1 S.2.1 dX11_say_19 rfl (lv_at hl 1 rfl) ?_
      obtain ⟨y5, σ4, hq3, hf⟩ := bL1_some hf
      refine r_callVI S hK hP hS (by decide) rfl rfl [.int (zI a0)] (c_X5_add l D cy ad hO a0 σ hq3) (cw_X11_say_X5_add S.2.2.2.2) rfl hl.1 (rest := []) rfl (Nat.le_of_ble_eq_true rfl) dX11_say_20 ⟨Nat.zero_le _, Nat.zero_le _⟩ (fun H locs hP hS => ?_)
      refine r_if_eq (tgt := 36) S dX11_say_23 (by decide) (fun c6 => ?_) (fun c6 => ?_)
      · have hf := (if_pos c6).symm.trans hf
        refine r_bipush S dX11_say_36 (by decide) ?_
        obtain ⟨e1, e2⟩ := inj2 hf
        subst e1
        subst e2
        exact e_I S hlk hP hS hr dX11_say_38
      · have hf := (if_neg c6).symm.trans hf
        refine lv_aload_n S.1 S.2.1 dX11_say_26 rfl (lv_at hl 0 rfl) ?_
        refine r_get S hK hP (by decide) rfl rfl h_X11_say_X11 0 (by decide) k_X11_say_1 rfl dX11_say_27 ?_
        refine r_get S hK hP (by decide) rfl rfl h_X11_say_X5 1 (by decide) k_X11_say_2 rfl dX11_say_30 ?_
        refine lv_goto (tgt := 38) S.1 S.2.1 dX11_say_33 (by decide) ?_
        obtain ⟨e1, e2⟩ := inj2 hf
        subst e1
        subst e2
        exact e_I S hlk hP hS hr dX11_say_38
    · have hf := (if_neg c2).symm.trans hf
      refine r_bipush S dX11_say_12 (by decide) ?_
      obtain ⟨e1, e2⟩ := inj2 hf
      subst e1
      subst e2
      exact e_I S hlk hP hS hr dX11_say_14
def rm_X11_text : Room := { frames := 7, cells := 0, slots := 0, locals := 177 }
theorem cw_X11_text_X11_lettersOf {s : State} {args : Array Value} (hts : ∀ w ∈ wsX11_text, w.before args s = true) : CallB rm_X11_text s args RX11 152 yX11_lettersOf cX11_lettersOf 4 (some .int) wsX11_lettersOf rm_X11_lettersOf 0 0 2 ∧ (Cond.static yX11_lettersOf).before args s = true := va_cwS 2 hts gX11_text_X11_lettersOf rfl rfl rfl (by decide +kernel) ⟨Nat.le_of_ble_eq_true rfl, Nat.le_of_ble_eq_true rfl⟩
theorem cw_X11_text_X11_refusalOf {s : State} {args : Array Value} (hts : ∀ w ∈ wsX11_text, w.before args s = true) : CallB rm_X11_text s args RX11 200 yX11_refusalOf cX11_refusalOf 2 (some .int) wsX11_refusalOf rm_X11_refusalOf 0 0 1 ∧ (Cond.static yX11_refusalOf).before args s = true := va_cwS 1 hts gX11_text_X11_refusalOf rfl rfl rfl (by decide +kernel) ⟨Nat.le_of_ble_eq_true rfl, Nat.le_of_ble_eq_true rfl⟩
theorem cw_X11_text_X11_textFit {s : State} {args : Array Value} (hts : ∀ w ∈ wsX11_text, w.before args s = true) : CallW rm_X11_text s args RX11 RX11 196 yX11_textFit cX11_textFit 1 (some .long) wsX11_textFit rm_X11_textFit 0 0 0 := cwV 0 hts gX11_text_X11_textFit rfl rfl rfl (by decide +kernel) ⟨Nat.le_of_ble_eq_true rfl, Nat.le_of_ble_eq_true rfl⟩
set_option maxHeartbeats 4000000 in
set_option maxRecDepth 100000 in
theorem c_X11_text (l : Launch) (D : va_G) (cy : Nat → ClassId) (ad : Nat → Nat) (hO : adOK 39 ad) (n : Nat) (a0 : Int) (σ : Mem) {v : Int} {τ : Mem} (hf : f_X11_text n a0 σ = some (v, τ)) : Met l yX11_text wsX11_text rm_X11_text (va_Pc [.ref (ad 0), .int (zI a0)] (PreW D cy 39 (cellC cy ad) ad σ)) (QI D 39 (cellC cy ad) ad v τ) 0 0 (AC 39 ad) := by
  refine r_met (cc := cX11_text) (maxL := 5) (ret := (some .int)) (own := RX11) (by decide) rfl rfl [.ref (ad 0), .int (zI a0)] (Nat.le_of_ble_eq_true rfl) ?_
  intro p e s m below meth c ls S hK hP hlk hr hl
  have hS : va_S (AC 39 ad) s.heap s.heap [] := va_S.rf
  have hl : lv_has ls 5 [(0, .ref (ad 0)), (1, .int (zI a0))] := hl
  unfold f_X11_text at hf
  refine lv_aload_n S.1 S.2.1 dX11_text_0 rfl (lv_at hl 0 rfl) ?_
  obtain ⟨y3, σ2, hq1, hf⟩ := bL1_some hf
  refine r_callVL S hK hP hS (by decide) rfl rfl [] (c_X11_textFit l D cy ad hO n σ hq1) (cw_X11_text_X11_textFit S.2.2.2.2) rfl hl.1 (rest := []) rfl (Nat.le_of_ble_eq_true rfl) dX11_text_1 ⟨Nat.zero_le _, Nat.zero_le _⟩ (fun H locs hP hS => ?_)
  refine r_lstore_n S rfl (lv2 := [(2, .long (zL y3)), (0, .ref (ad 0)), (1, .int (zI a0))]) dX11_text_4 rfl hl (by decide) rfl (fun ls hl => ?_)
  refine lv_lload_n S.1 S.2.1 dX11_text_5 rfl (lv_at hl 0 rfl) ?_
  obtain ⟨y5, hq4, hf⟩ := bV_some hf
  refine r_callSI S hK hP hS [.long (zL y3)] (c_X11_refusalOf l D cy ad hO y3 σ2 hq4) (cw_X11_text_X11_refusalOf S.2.2.2.2) rfl hl.1 (rest := []) rfl (Nat.le_of_ble_eq_true rfl) dX11_text_6 ⟨Nat.zero_le _, Nat.zero_le _⟩ (fun H locs hP hS => ?_)
  refine r_istore S rfl (lv2 := [(4, .int (zI y5)), (2, .long (zL y3)), (0, .ref (ad 0)), (1, .int (zI a0))]) dX11_text_9 hl (by decide) rfl (fun ls hl => ?_)
  refine lv_iload S.1 S.2.1 dX11_text_11 (lv_at hl 0 rfl) ?_
  refine r_if_eq (tgt := 21) S dX11_text_13 (by decide) (fun c6 => ?_) (fun c6 => ?_)
  · have hf := (if_pos c6).symm.trans hf
    refine lv_lload_n S.1 S.2.1 dX11_text_21 rfl (lv_at hl 1 rfl) ?_
    refine lv_iload_n S.1 S.2.1 dX11_text_22 rfl (lv_at hl 3 rfl) ?_
    obtain ⟨y8, hq7, hf⟩ := bV_some hf
    refine r_callSI S hK hP hS [.long (zL y3), .int (zI a0)] (c_X11_lettersOf l D cy ad hO y3 a0 σ2 hq7) (cw_X11_text_X11_lettersOf S.2.2.2.2) rfl hl.1 (rest := []) rfl (Nat.le_of_ble_eq_true rfl) dX11_text_23 ⟨Nat.zero_le _, Nat.zero_le _⟩ (fun H locs hP hS => ?_)
    obtain ⟨e1, e2⟩ := inj2 hf
    subst e1
    subst e2
    exact e_I S hlk hP hS hr dX11_text_26
  · have hf := (if_neg c6).symm.trans hf
    refine lv_iload S.1 S.2.1 dX11_text_16 (lv_at hl 0 rfl) ?_
    refine lv_goto (tgt := 26) S.1 S.2.1 dX11_text_18 (by decide) ?_
    obtain ⟨e1, e2⟩ := inj2 hf
    subst e1
    subst e2
    exact e_I S hlk hP hS hr dX11_text_26
