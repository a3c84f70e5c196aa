def rm_X3_lesser : Room := { frames := 0, cells := 0, slots := 0, locals := 0 }
theorem k_X3_lesser_1 : (.constantLong RX3 19 (9223372036854775807) : Cond) ∈ wsX3_lesser := List.mem_of_getElem? (i := 1) (by decide +kernel)
theorem k_X3_lesser_2 : (.constantLong RX3 21 (-16777216) : Cond) ∈ wsX3_lesser := List.mem_of_getElem? (i := 2) (by decide +kernel)
theorem k_X3_lesser_3 : (.constantLong RX3 13 (524287) : Cond) ∈ wsX3_lesser := List.mem_of_getElem? (i := 3) (by decide +kernel)
theorem k_X3_lesser_4 : (.constantLong RX3 23 (12) : Cond) ∈ wsX3_lesser := List.mem_of_getElem? (i := 4) (by decide +kernel)
theorem k_X3_lesser_5 : (.constantLong RX3 25 (2) : Cond) ∈ wsX3_lesser := List.mem_of_getElem? (i := 5) (by decide +kernel)
theorem k_X3_lesser_6 : (.constantLong RX3 27 (16777215) : Cond) ∈ wsX3_lesser := List.mem_of_getElem? (i := 6) (by decide +kernel)
set_option maxHeartbeats 4000000 in
set_option maxRecDepth 100000 in
theorem c_X3_lesser (l : Launch) (D : va_G) (cy : Nat → ClassId) (ad : Nat → Nat) (hO : adOK 39 ad) (a0 : Int) (a1 : Int) (a2 : Int) (σ : Mem) {v : Int} (hf : f_X3_lesser a0 a1 a2 = some v) : Met l yX3_lesser wsX3_lesser rm_X3_lesser (va_Pc [.long (zL a0), .long (zL a1), .long (zL a2)] (PreW D cy 39 (cellC cy ad) ad σ)) (QL D 39 (cellC cy ad) ad v σ) 0 0 (AC 39 ad) := by
  refine r_met (cc := cX3_lesser) (maxL := 10) (ret := (some .long)) (own := RX3) (by decide) rfl rfl [.long (zL a0), .long (zL a1), .long (zL a2)] (Nat.le_of_ble_eq_true rfl) ?_
  intro p e s m below meth c ls S hK hP hlk hr hl
  have hS : va_S (AC 39 ad) s.heap s.heap [] := va_S.rf
  have hl : lv_has ls 10 [(0, .long (zL a0)), (2, .long (zL a1)), (4, .long (zL a2))] := hl
  unfold f_X3_lesser at hf
  refine lv_lload_n S.1 S.2.1 dX3_lesser_0 rfl (lv_at hl 1 rfl) ?_
  refine r_ldc2 S 9223372036854775807 (by decide +kernel) k_X3_lesser_1 dX3_lesser_1 ?_
  refine r_lcmp S dX3_lesser_4 ?_
  refine r_if_eq (tgt := 17) S dX3_lesser_5 (by decide) (fun c1 => ?_) (fun c1 => ?_)
  · have hf := (if_pos c1).symm.trans hf
    refine lv_lload_n S.1 S.2.1 dX3_lesser_17 rfl (lv_at hl 0 rfl) ?_
    have e1 := Option.some.inj hf
    subst e1
    exact e_L S hlk hP hS hr dX3_lesser_18
  · have hf := (if_neg c1).symm.trans hf
    refine lv_lload S.1 S.2.1 dX3_lesser_8 (lv_at hl 2 rfl) ?_
    refine r_ldc2 S 9223372036854775807 (by decide +kernel) k_X3_lesser_1 dX3_lesser_10 ?_
    refine r_lcmp S dX3_lesser_13 ?_
    refine r_if_ne (tgt := 19) S dX3_lesser_14 (by decide) (fun c2 => ?_) (fun c2 => ?_)
    · have hf := (if_neg c2).symm.trans hf
      refine lv_lload_n S.1 S.2.1 dX3_lesser_19 rfl (lv_at hl 1 rfl) ?_
      refine r_ldc2 S (-16777216) (by decide +kernel) k_X3_lesser_2 dX3_lesser_20 ?_
      refine r_land S dX3_lesser_23 ?_
      refine lv_lload S.1 S.2.1 dX3_lesser_24 (lv_at hl 2 rfl) ?_
      refine r_ldc2 S (-16777216) (by decide +kernel) k_X3_lesser_2 dX3_lesser_26 ?_
      refine r_land S dX3_lesser_29 ?_
      refine r_ladd S dX3_lesser_30 ?_
      obtain ⟨x3, hx3, hf⟩ := nm_some hf
      refine r_lstore S hx3 (lv2 := [(6, .long (zL x3)), (0, .long (zL a0)), (2, .long (zL a1)), (4, .long (zL a2))]) dX3_lesser_31 hl (by decide) rfl (fun ls hl => ?_)
      refine lv_lload S.1 S.2.1 dX3_lesser_33 (lv_at hl 0 rfl) ?_
      refine lv_lload_n S.1 S.2.1 dX3_lesser_35 rfl (lv_at hl 1 rfl) ?_
      refine r_lcmp S dX3_lesser_36 ?_
      refine r_if_le (tgt := 42) S dX3_lesser_37 (by decide) (fun c4 => ?_) (fun c4 => ?_)
      · have hf := (if_pos c4).symm.trans hf
        refine lv_lload S.1 S.2.1 dX3_lesser_42 (lv_at hl 0 rfl) ?_
        refine r_bipush S dX3_lesser_44 (by decide) ?_
        refine r_lshr S dX3_lesser_46 ?_
        refine r_ldc2 S 524287 (by decide +kernel) k_X3_lesser_3 dX3_lesser_47 ?_
        refine r_land S dX3_lesser_50 ?_
        refine r_ldc2 S 12 (by decide +kernel) k_X3_lesser_4 dX3_lesser_51 ?_
        refine r_lcmp S dX3_lesser_54 ?_
        obtain ⟨x5, hq, hf⟩ := bV_some hf
        have kJ0 : ∀ (H : Heap) (locs : List Loc) (ls : Array Slot), va_P D vwCl (WW 39 (cellC cy ad) ad σ) H → va_S (AC 39 ad) s.heap H locs → lv_has ls 10 [(0, .long (zL a0)), (6, .long (zL x5))] → W p l e rm_X3_lesser s m ([.long (zL a0), .long (zL a1), .long (zL a2)] : List Value).toArray below meth c H locs 0 0 (MQ below (QL D 39 (cellC cy ad) ad v σ) ([.long (zL a0), .long (zL a1), .long (zL a2)] : List Value).toArray s 0 0 (AC 39 ad)) (F0 m 94 ls []) := by
          intro H locs ls hP hS hl
          refine lv_lload S.1 S.2.1 dX3_lesser_94 (lv_at hl 1 rfl) ?_
          refine lv_lload_n S.1 S.2.1 dX3_lesser_96 rfl (lv_at hl 0 rfl) ?_
          refine r_lcmp S dX3_lesser_97 ?_
          refine r_if_ge (tgt := 106) S dX3_lesser_98 (by decide) (fun c9 => ?_) (fun c9 => ?_)
          · have hf := (if_pos c9).symm.trans hf
            refine lv_lload_n S.1 S.2.1 dX3_lesser_106 rfl (lv_at hl 0 rfl) ?_
            have e1 := Option.some.inj hf
            subst e1
            exact e_L S hlk hP hS hr dX3_lesser_107
          · have hf := (if_neg c9).symm.trans hf
            refine lv_lload S.1 S.2.1 dX3_lesser_101 (lv_at hl 1 rfl) ?_
            refine lv_goto (tgt := 107) S.1 S.2.1 dX3_lesser_103 (by decide) ?_
            have e1 := Option.some.inj hf
            subst e1
            exact e_L S hlk hP hS hr dX3_lesser_107
        clear hf
        have hf := hq
        refine r_if_gt (tgt := 94) S dX3_lesser_55 (by decide) (fun c6 => ?_) (fun c6 => ?_)
        · have hf := (if_pos c6).symm.trans hf
          have e1 := Option.some.inj hf
          subst e1
          exact kJ0 _ _ _ hP hS (lv_sub hl [1, 0] rfl)
        · have hf := (if_neg c6).symm.trans hf
          refine r_ldc2 S 2 (by decide +kernel) k_X3_lesser_5 dX3_lesser_58 ?_
          refine lv_lload S.1 S.2.1 dX3_lesser_61 (lv_at hl 3 rfl) ?_
          refine r_bipush S dX3_lesser_63 (by decide) ?_
          refine r_lshr S dX3_lesser_65 ?_
          refine r_ldc2 S 524287 (by decide +kernel) k_X3_lesser_3 dX3_lesser_66 ?_
          refine r_land S dX3_lesser_69 ?_
          refine r_lmul S dX3_lesser_70 ?_
          obtain ⟨x7, hx7, hf⟩ := nm_some hf
          refine r_lstore S hx7 (lv2 := [(8, .long (zL x7)), (6, .long (zL x3)), (0, .long (zL a0)), (2, .long (zL a1)), (4, .long (zL a2))]) dX3_lesser_71 hl (by decide) rfl (fun ls hl => ?_)
          refine lv_lload S.1 S.2.1 dX3_lesser_73 (lv_at hl 1 rfl) ?_
          refine lv_lload_n S.1 S.2.1 dX3_lesser_75 rfl (lv_at hl 3 rfl) ?_
          refine r_ldc2 S 16777215 (by decide +kernel) k_X3_lesser_6 dX3_lesser_76 ?_
          refine r_land S dX3_lesser_79 ?_
          refine lv_lload S.1 S.2.1 dX3_lesser_80 (lv_at hl 0 rfl) ?_
          refine r_l2i S dX3_lesser_82 ?_
          refine r_lshl S dX3_lesser_83 ?_
          refine lv_lload S.1 S.2.1 dX3_lesser_84 (lv_at hl 4 rfl) ?_
          refine r_ldc2 S 16777215 (by decide +kernel) k_X3_lesser_6 dX3_lesser_86 ?_
          refine r_land S dX3_lesser_89 ?_
          refine r_lor S dX3_lesser_90 ?_
          refine r_lor S dX3_lesser_91 ?_
          obtain ⟨x8, hx8, hf⟩ := nm_some hf
          refine r_lstore S hx8 (lv2 := [(6, .long (zL x8)), (8, .long (zL x7)), (0, .long (zL a0)), (2, .long (zL a1)), (4, .long (zL a2))]) dX3_lesser_92 hl (by decide) rfl (fun ls hl => ?_)
          have e1 := Option.some.inj hf
          subst e1
          exact kJ0 _ _ _ hP hS (lv_sub hl [2, 0] rfl)
      · have hf := (if_neg c4).symm.trans hf
        refine lv_lload_n S.1 S.2.1 dX3_lesser_40 rfl (lv_at hl 1 rfl) ?_
        have e1 := Option.some.inj hf
        subst e1
        exact e_L S hlk hP hS hr dX3_lesser_41
    · have hf := (if_pos c2).symm.trans hf
      refine lv_lload_n S.1 S.2.1 dX3_lesser_17 rfl (lv_at hl 0 rfl) ?_
      have e1 := Option.some.inj hf
      subst e1
      exact e_L S hlk hP hS hr dX3_lesser_18
def rm_X0_ruleFit : Room := { frames := 1, cells := 0, slots := 0, locals := 29 }
theorem k_X0_ruleFit_1 : (.fieldLink RX0 21 "MendTexts$Chart" "grammar" "LMendTexts$Grammar;" : Cond) ∈ wsX0_ruleFit := List.mem_of_getElem? (i := 1) (by decide +kernel)
theorem k_X0_ruleFit_2 : (.fieldLink RX0 25 "MendTexts$Chart" "costs" "LMendTexts$Costs;" : Cond) ∈ wsX0_ruleFit := List.mem_of_getElem? (i := 2) (by decide +kernel)
theorem k_X0_ruleFit_3 : (.constantLong RX0 64 (9223372036854775807) : Cond) ∈ wsX0_ruleFit := List.mem_of_getElem? (i := 3) (by decide +kernel)
theorem h_X0_ruleFit_X0 : ∀ w ∈ u_ws RX0 TX0 5, w ∈ wsX0_ruleFit := mem_places _ [44, 45, 46, 47, 48] (by decide +kernel)
theorem cw_X0_ruleFit_X0_fitAt {s : State} {args : Array Value} (hts : ∀ w ∈ wsX0_ruleFit, w.before args s = true) : CallW rm_X0_ruleFit s args RX0 RX0 50 yX0_fitAt cX0_fitAt 2 (some .long) wsX0_fitAt rm_X0_fitAt 0 0 1 := cwV 1 hts gX0_ruleFit_X0_fitAt rfl rfl rfl (by decide +kernel) ⟨Nat.le_of_ble_eq_true rfl, Nat.le_of_ble_eq_true rfl⟩
theorem cw_X0_ruleFit_X0_setFit {s : State} {args : Array Value} (hts : ∀ w ∈ wsX0_ruleFit, w.before args s = true) : CallW rm_X0_ruleFit s args RX0 RX0 102 yX0_setFit cX0_setFit 7 none wsX0_setFit rm_X0_setFit 0 0 4 := cwV 4 hts gX0_ruleFit_X0_setFit rfl rfl rfl (by decide +kernel) ⟨Nat.le_of_ble_eq_true rfl, Nat.le_of_ble_eq_true rfl⟩
theorem cw_X0_ruleFit_X1_drop {s : State} {args : Array Value} (hts : ∀ w ∈ wsX0_ruleFit, w.before args s = true) : CallW rm_X0_ruleFit s args RX0 RX1 81 yX1_drop cX1_drop 1 (some .int) wsX1_drop rm_X1_drop 0 0 0 := cwV 0 hts gX0_ruleFit_X1_drop rfl rfl rfl (by decide +kernel) ⟨Nat.le_of_ble_eq_true rfl, Nat.le_of_ble_eq_true rfl⟩
theorem cw_X0_ruleFit_X3_lesser {s : State} {args : Array Value} (hts : ∀ w ∈ wsX0_ruleFit, w.before args s = true) : CallB rm_X0_ruleFit s args RX0 125 yX3_lesser cX3_lesser 10 (some .long) wsX3_lesser rm_X3_lesser 0 0 3 ∧ (Cond.static yX3_lesser).before args s = true := va_cwS 3 hts gX0_ruleFit_X3_lesser rfl rfl rfl (by decide +kernel) ⟨Nat.le_of_ble_eq_true rfl, Nat.le_of_ble_eq_true rfl⟩
theorem cw_X0_ruleFit_X3_ofNone {s : State} {args : Array Value} (hts : ∀ w ∈ wsX0_ruleFit, w.before args s = true) : CallB rm_X0_ruleFit s args RX0 122 yX3_ofNone cX3_ofNone 1 (some .long) wsX3_ofNone rm_X3_ofNone 0 0 1 ∧ (Cond.static yX3_ofNone).before args s = true := va_cwS 1 hts gX0_ruleFit_X3_ofNone rfl rfl rfl (by decide +kernel) ⟨Nat.le_of_ble_eq_true rfl, Nat.le_of_ble_eq_true rfl⟩
theorem cw_X0_ruleFit_X4_lengthOf {s : State} {args : Array Value} (hts : ∀ w ∈ wsX0_ruleFit, w.before args s = true) : CallW rm_X0_ruleFit s args RX0 RX4 70 yX4_lengthOf cX4_lengthOf 2 (some .int) wsX4_lengthOf rm_X4_lengthOf 0 0 1 := cwV 1 hts gX0_ruleFit_X4_lengthOf rfl rfl rfl (by decide +kernel) ⟨Nat.le_of_ble_eq_true rfl, Nat.le_of_ble_eq_true rfl⟩
theorem cw_X0_ruleFit_X4_signAt {s : State} {args : Array Value} (hts : ∀ w ∈ wsX0_ruleFit, w.before args s = true) : CallW rm_X0_ruleFit s args RX0 RX4 73 yX4_signAt cX4_signAt 4 (some .int) wsX4_signAt rm_X4_signAt 0 0 2 := cwV 2 hts gX0_ruleFit_X4_signAt rfl rfl rfl (by decide +kernel) ⟨Nat.le_of_ble_eq_true rfl, Nat.le_of_ble_eq_true rfl⟩
set_option maxHeartbeats 4000000 in
set_option maxRecDepth 100000 in
theorem w_X0_ruleFit_L113 {p : Program} {l : Launch} {e : Env} {s : State} {m : MethodId} {args : Array Value} {below : List Frame} {meth : Method} {c : Code} {Q : State → Prop} {D : va_G} {cy : Nat → ClassId} {ad : Nat → Nat} {H0 : Heap} (hO : adOK 39 ad) (S : CallFix p m c cX0_ruleFit 12 s args wsX0_ruleFit RX0) (hK : KK D cy s) (n : Nat) (x1_ : Int) (x2_ : Int) (x3_ : Int) (x4_ : Int) (x8_ : Int) (σ : Mem) {res : Int} (k0 : ∀ (y6_ : Int) (H2 : Heap) (locs2 : List Loc) (ls2 : Array Slot), res = y6_ → va_P D vwCl (WW 39 (cellC cy ad) ad σ) H2 → va_S (AC 39 ad) H0 H2 locs2 → lv_has ls2 12 [(0, .ref (ad 27)), (1, .int (zI x1_)), (2, .int (zI x2_)), (3, .int (zI x3_)), (4, .int (zI x4_)), (6, .long (zL y6_)), (8, .int (zI x8_))] → W p l e rm_X0_ruleFit s m args below meth c H2 locs2 0 0 Q (F0 m 150 ls2 [])) :
    ∀ (k : Nat) (x6_ : Int) (x9_ : Int) (x10_ : Int) (x11_ : Int) (H : Heap) (locs : List Loc) (ls : Array Slot), f_X0_ruleFit_L113 n x1_ x2_ x3_ x4_ x8_ σ k x6_ x9_ x10_ x11_ = some res → va_P D vwCl (WW 39 (cellC cy ad) ad σ) H → va_S (AC 39 ad) H0 H locs → lv_has ls 12 [(0, .ref (ad 27)), (1, .int (zI x1_)), (2, .int (zI x2_)), (3, .int (zI x3_)), (4, .int (zI x4_)), (6, .long (zL x6_)), (8, .int (zI x8_)), (9, .int (zI x9_)), (10, .int (zI x10_)), (11, .int (zI x11_))] → W p l e rm_X0_ruleFit s m args below meth c H locs 0 0 Q (F0 m 113 ls []) := by
  intro k
  induction k with
  | zero =>
    intro x6_ x9_ x10_ x11_ H locs ls hf
    have hf : none = some res := hf
    cases hf
  | succ k ih =>
    intro x6_ x9_ x10_ x11_ H locs ls hf hP hS hl
    rw [f_X0_ruleFit_L113] at hf
    refine lv_iload S.1 S.2.1 dX0_ruleFit_113 (lv_at hl 9 rfl) ?_
    refine lv_iload_n S.1 S.2.1 dX0_ruleFit_115 rfl (lv_at hl 3 rfl) ?_
    refine lv_icmp_gt (tgt := 150) S.1 S.2.1 dX0_ruleFit_116 (by decide) (fun c1 => ?_) (fun c1 => ?_)
    · have hf := (if_pos c1).symm.trans hf
      exact k0 _ _ _ _ (Option.some.inj hf).symm hP hS (lv_sub hl [0, 1, 2, 3, 4, 5, 6] rfl)
    · have hf := (if_neg c1).symm.trans hf
      refine lv_lload S.1 S.2.1 dX0_ruleFit_119 (lv_at hl 5 rfl) ?_
      refine lv_aload_n S.1 S.2.1 dX0_ruleFit_121 rfl (lv_at hl 0 rfl) ?_
      refine lv_iload S.1 S.2.1 dX0_ruleFit_122 (lv_at hl 7 rfl) ?_
      obtain ⟨y3, hq2, hf⟩ := bV_some hf
      refine r_callVL S hK hP hS (by decide) rfl rfl [.int (zI x9_)] (c_X0_fitAt l D cy ad hO x9_ σ hq2) (cw_X0_ruleFit_X0_fitAt S.2.2.2.2) rfl hl.1 (rest := [.long (zL x6_)]) rfl (Nat.le_of_ble_eq_true rfl) dX0_ruleFit_124 ⟨Nat.zero_le _, Nat.zero_le _⟩ (fun H locs hP hS => ?_)
      refine lv_aload_n S.1 S.2.1 dX0_ruleFit_127 rfl (lv_at hl 0 rfl) ?_
      refine lv_iload S.1 S.2.1 dX0_ruleFit_128 (lv_at hl 8 rfl) ?_
      obtain ⟨y5, hq4, hf⟩ := bV_some hf
      refine r_callVL S hK hP hS (by decide) rfl rfl [.int (zI x10_)] (c_X0_fitAt l D cy ad hO x10_ σ hq4) (cw_X0_ruleFit_X0_fitAt S.2.2.2.2) rfl hl.1 (rest := [.long (zL y3), .long (zL x6_)]) rfl (Nat.le_of_ble_eq_true rfl) dX0_ruleFit_130 ⟨Nat.zero_le _, Nat.zero_le _⟩ (fun H locs hP hS => ?_)
      obtain ⟨y7, hq6, hf⟩ := bV_some hf
      refine r_callSL S hK hP hS [.long (zL x6_), .long (zL y3), .long (zL y5)] (c_X3_lesser l D cy ad hO x6_ y3 y5 σ hq6) (cw_X0_ruleFit_X3_lesser S.2.2.2.2) rfl hl.1 (rest := []) rfl (Nat.le_of_ble_eq_true rfl) dX0_ruleFit_133 ⟨Nat.zero_le _, Nat.zero_le _⟩ (fun H locs hP hS => ?_)
      refine r_lstore S rfl (lv2 := [(6, .long (zL y7)), (0, .ref (ad 27)), (1, .int (zI x1_)), (2, .int (zI x2_)), (3, .int (zI x3_)), (4, .int (zI x4_)), (8, .int (zI x8_)), (9, .int (zI x9_)), (10, .int (zI x10_)), (11, .int (zI x11_))]) dX0_ruleFit_136 hl (by decide) rfl (fun ls hl => ?_)
      obtain ⟨x8, hx8, hf⟩ := nm_some hf
      refine r_iinc S hx8 (k0 := 7) (lv2 := [(9, .int (zI x8)), (6, .long (zL y7)), (0, .ref (ad 27)), (1, .int (zI x1_)), (2, .int (zI x2_)), (3, .int (zI x3_)), (4, .int (zI x4_)), (8, .int (zI x8_)), (10, .int (zI x10_)), (11, .int (zI x11_))]) dX0_ruleFit_138 hl rfl (by decide) rfl (fun ls hl => ?_)
      obtain ⟨x9, hx9, hf⟩ := nm_some hf
      refine r_iinc S hx9 (k0 := 8) (lv2 := [(10, .int (zI x9)), (9, .int (zI x8)), (6, .long (zL y7)), (0, .ref (ad 27)), (1, .int (zI x1_)), (2, .int (zI x2_)), (3, .int (zI x3_)), (4, .int (zI x4_)), (8, .int (zI x8_)), (11, .int (zI x11_))]) dX0_ruleFit_141 hl rfl (by decide) rfl (fun ls hl => ?_)
      obtain ⟨x10, hx10, hf⟩ := nm_some hf
      refine r_iinc S hx10 (k0 := 9) (lv2 := [(11, .int (zI x10)), (10, .int (zI x9)), (9, .int (zI x8)), (6, .long (zL y7)), (0, .ref (ad 27)), (1, .int (zI x1_)), (2, .int (zI x2_)), (3, .int (zI x3_)), (4, .int (zI x4_)), (8, .int (zI x8_))]) dX0_ruleFit_144 hl rfl (by decide) rfl (fun ls hl => ?_)
      refine lv_goto (tgt := 113) S.1 S.2.1 dX0_ruleFit_147 (by decide) ?_
      exact ih y7 x8 x9 x10 _ _ _ hf hP hS (lv_sub hl [4, 5, 6, 7, 8, 3, 9, 2, 1, 0] rfl)
set_option maxHeartbeats 4000000 in
set_option maxRecDepth 100000 in
theorem w_X0_ruleFit_L62 {p : Program} {l : Launch} {e : Env} {s : State} {m : MethodId} {args : Array Value} {below : List Frame} {meth : Method} {c : Code} {Q : State → Prop} {D : va_G} {cy : Nat → ClassId} {ad : Nat → Nat} {H0 : Heap} (hO : adOK 39 ad) (S : CallFix p m c cX0_ruleFit 12 s args wsX0_ruleFit RX0) (hK : KK D cy s) (n : Nat) (x1_ : Int) (x2_ : Int) (x3_ : Int) (x4_ : Int) {res : Int × Mem} (k0 : ∀ (y6_ : Int) (τ : Mem) (H2 : Heap) (locs2 : List Loc) (ls2 : Array Slot), res = (y6_, τ) → va_P D vwCl (WW 39 (cellC cy ad) ad τ) H2 → va_S (AC 39 ad) H0 H2 locs2 → lv_has ls2 12 [(6, .long (zL y6_))] → W p l e rm_X0_ruleFit s m args below meth c H2 locs2 0 0 Q (F0 m 188 ls2 [])) :
    ∀ (k : Nat) (x5_ : Int) (x6_ : Int) (x8_ : Int) (σ : Mem) (H : Heap) (locs : List Loc) (ls : Array Slot), f_X0_ruleFit_L62 n x1_ x2_ x3_ x4_ k x5_ x6_ x8_ σ = some res → va_P D vwCl (WW 39 (cellC cy ad) ad σ) H → va_S (AC 39 ad) H0 H locs → lv_has ls 12 [(0, .ref (ad 27)), (1, .int (zI x1_)), (2, .int (zI x2_)), (3, .int (zI x3_)), (4, .int (zI x4_)), (5, .int (zI x5_)), (6, .long (zL x6_)), (8, .int (zI x8_))] → W p l e rm_X0_ruleFit s m args below meth c H locs 0 0 Q (F0 m 62 ls []) := by
  intro k
  induction k with
  | zero =>
    intro x5_ x6_ x8_ σ H locs ls hf
    have hf : none = some res := hf
    cases hf
  | succ k ih =>
    intro x5_ x6_ x8_ σ H locs ls hf hP hS hl
    rw [f_X0_ruleFit_L62] at hf
    refine lv_iload S.1 S.2.1 dX0_ruleFit_62 (lv_at hl 7 rfl) ?_
    refine lv_iload S.1 S.2.1 dX0_ruleFit_64 (lv_at hl 4 rfl) ?_
    refine lv_icmp_ge (tgt := 188) S.1 S.2.1 dX0_ruleFit_66 (by decide) (fun c1 => ?_) (fun c1 => ?_)
    · have hf := (if_pos c1).symm.trans hf
      exact k0 _ _ _ _ _ (Option.some.inj hf).symm hP hS (lv_sub hl [6] rfl)
    · have hf := (if_neg c1).symm.trans hf
      refine lv_iload S.1 S.2.1 dX0_ruleFit_69 (lv_at hl 5 rfl) ?_
      refine r_bipush S dX0_ruleFit_71 (by decide) ?_
      refine r_imul S dX0_ruleFit_73 ?_
      refine lv_iload_n S.1 S.2.1 dX0_ruleFit_74 rfl (lv_at hl 2 rfl) ?_
      refine r_bipush S dX0_ruleFit_75 (by decide) ?_
      refine r_imul S dX0_ruleFit_77 ?_
      refine r_iadd S dX0_ruleFit_78 ?_
      refine lv_iload_n S.1 S.2.1 dX0_ruleFit_79 rfl (lv_at hl 2 rfl) ?_
      refine r_iadd S dX0_ruleFit_80 ?_
      obtain ⟨x2, hx2, hf⟩ := nm_some hf
      refine r_istore S hx2 (lv2 := [(9, .int (zI x2)), (0, .ref (ad 27)), (1, .int (zI x1_)), (2, .int (zI x2_)), (3, .int (zI x3_)), (4, .int (zI x4_)), (5, .int (zI x5_)), (6, .long (zL x6_)), (8, .int (zI x8_))]) dX0_ruleFit_81 hl (by decide) rfl (fun ls hl => ?_)
      refine lv_aload_n S.1 S.2.1 dX0_ruleFit_83 rfl (lv_at hl 1 rfl) ?_
      refine r_get S hK hP (by decide) rfl rfl h_X0_ruleFit_X0 0 (by decide) k_X0_ruleFit_1 rfl dX0_ruleFit_84 ?_
      refine lv_iload_n S.1 S.2.1 dX0_ruleFit_87 rfl (lv_at hl 2 rfl) ?_
      refine lv_iload S.1 S.2.1 dX0_ruleFit_88 (lv_at hl 8 rfl) ?_
      obtain ⟨y4, hq3, hf⟩ := bV_some hf
      refine r_callVI S hK hP hS (by decide) rfl rfl [.int (zI x1_), .int (zI x8_)] (c_X4_signAt l D cy ad hO x1_ x8_ σ hq3) (cw_X0_ruleFit_X4_signAt S.2.2.2.2) rfl hl.1 (rest := []) rfl (Nat.le_of_ble_eq_true rfl) dX0_ruleFit_90 ⟨Nat.zero_le _, Nat.zero_le _⟩ (fun H locs hP hS => ?_)
      refine r_bipush S dX0_ruleFit_93 (by decide) ?_
      refine r_imul S dX0_ruleFit_95 ?_
      refine lv_iload_n S.1 S.2.1 dX0_ruleFit_96 rfl (lv_at hl 3 rfl) ?_
      refine r_bipush S dX0_ruleFit_97 (by decide) ?_
      refine r_imul S dX0_ruleFit_99 ?_
      refine r_iadd S dX0_ruleFit_100 ?_
      refine lv_iload_n S.1 S.2.1 dX0_ruleFit_101 rfl (lv_at hl 4 rfl) ?_
      refine r_iadd S dX0_ruleFit_102 ?_
      obtain ⟨x5, hx5, hf⟩ := nm_some hf
      refine r_istore S hx5 (lv2 := [(10, .int (zI x5)), (9, .int (zI x2)), (0, .ref (ad 27)), (1, .int (zI x1_)), (2, .int (zI x2_)), (3, .int (zI x3_)), (4, .int (zI x4_)), (5, .int (zI x5_)), (6, .long (zL x6_)), (8, .int (zI x8_))]) dX0_ruleFit_103 hl (by decide) rfl (fun ls hl => ?_)
      refine r_ldc2 S 9223372036854775807 (by decide +kernel) k_X0_ruleFit_3 dX0_ruleFit_105 ?_
      refine r_lstore S rfl (lv2 := [(6, .long (zL 9223372036854775807)), (10, .int (zI x5)), (9, .int (zI x2)), (0, .ref (ad 27)), (1, .int (zI x1_)), (2, .int (zI x2_)), (3, .int (zI x3_)), (4, .int (zI x4_)), (5, .int (zI x5_)), (8, .int (zI x8_))]) dX0_ruleFit_108 hl (by decide) rfl (fun ls hl => ?_)
      refine lv_iload_n S.1 S.2.1 dX0_ruleFit_110 rfl (lv_at hl 5 rfl) ?_
      refine r_istore S rfl (lv2 := [(11, .int (zI x2_)), (6, .long (zL 9223372036854775807)), (10, .int (zI x5)), (9, .int (zI x2)), (0, .ref (ad 27)), (1, .int (zI x1_)), (2, .int (zI x2_)), (3, .int (zI x3_)), (4, .int (zI x4_)), (5, .int (zI x5_)), (8, .int (zI x8_))]) dX0_ruleFit_111 hl (by decide) rfl (fun ls hl => ?_)
      obtain ⟨x6, hq, hf⟩ := bV_some hf
      refine w_X0_ruleFit_L113 hO S hK n x1_ x2_ x3_ x4_ x8_ σ (fun x6 H locs ls he hP hS hl => ?_) n 9223372036854775807 x2 x5 x2_ _ _ _ hq hP hS (lv_sub hl [4, 5, 6, 7, 8, 1, 10, 3, 2, 0] rfl)
      cases he
      refine r_bipush S dX0_ruleFit_150 (by decide) ?_
      refine lv_iload_n S.1 S.2.1 dX0_ruleFit_152 rfl (lv_at hl 1 rfl) ?_
      refine r_iconst S dX0_ruleFit_153 ?_
      refine r_imul S dX0_ruleFit_154 ?_
      refine r_iadd S dX0_ruleFit_155 ?_
      refine lv_iload S.1 S.2.1 dX0_ruleFit_156 (lv_at hl 6 rfl) ?_
      refine r_iadd S dX0_ruleFit_158 ?_
      refine r_iconst S dX0_ruleFit_159 ?_
      refine r_isub S dX0_ruleFit_160 ?_
      obtain ⟨x7, hx7, hf⟩ := nm_some hf
      refine r_istore S hx7 (lv2 := [(5, .int (zI x7)), (0, .ref (ad 27)), (1, .int (zI x1_)), (2, .int (zI x2_)), (3, .int (zI x3_)), (4, .int (zI x4_)), (6, .long (zL x6)), (8, .int (zI x8_))]) dX0_ruleFit_161 hl (by decide) rfl (fun ls hl => ?_)
      refine lv_iload S.1 S.2.1 dX0_ruleFit_163 (lv_at hl 7 rfl) ?_
      refine r_iconst S dX0_ruleFit_165 ?_
      refine r_iadd S dX0_ruleFit_166 ?_
      refine lv_iload S.1 S.2.1 dX0_ruleFit_167 (lv_at hl 5 rfl) ?_
      obtain ⟨σ8, hq, hf⟩ := bV_some hf
      have kJ0 : ∀ (H : Heap) (locs : List Loc) (ls : Array Slot), va_P D vwCl (WW 39 (cellC cy ad) ad σ8) H → va_S (AC 39 ad) H0 H locs → lv_has ls 12 [(0, .ref (ad 27)), (1, .int (zI x1_)), (2, .int (zI x2_)), (3, .int (zI x3_)), (4, .int (zI x4_)), (5, .int (zI x7)), (6, .long (zL x6)), (8, .int (zI x8_))] → W p l e rm_X0_ruleFit s m args below meth c H locs 0 0 Q (F0 m 182 ls []) := by
        intro H locs ls hP hS hl
        obtain ⟨x12, hx12, hf⟩ := nm_some hf
        refine r_iinc S hx12 (k0 := 7) (lv2 := [(8, .int (zI x12)), (0, .ref (ad 27)), (1, .int (zI x1_)), (2, .int (zI x2_)), (3, .int (zI x3_)), (4, .int (zI x4_)), (5, .int (zI x7)), (6, .long (zL x6))]) dX0_ruleFit_182 hl rfl (by decide) rfl (fun ls hl => ?_)
        refine lv_goto (tgt := 62) S.1 S.2.1 dX0_ruleFit_185 (by decide) ?_
        exact ih x7 x6 x12 σ8 _ _ _ hf hP hS (lv_sub hl [1, 2, 3, 4, 5, 6, 7, 0] rfl)
      clear hf
      have hf := hq
      refine lv_icmp_ge (tgt := 182) S.1 S.2.1 dX0_ruleFit_169 (by decide) (fun c9 => ?_) (fun c9 => ?_)
      · have hf := (if_pos c9).symm.trans hf
        have e1 := Option.some.inj hf
        subst e1
        exact kJ0 _ _ _ hP hS (lv_sub hl [1, 2, 3, 4, 5, 0, 6, 7] rfl)
      · have hf := (if_neg c9).symm.trans hf
        refine lv_aload_n S.1 S.2.1 dX0_ruleFit_172 rfl (lv_at hl 1 rfl) ?_
        refine lv_iload S.1 S.2.1 dX0_ruleFit_173 (lv_at hl 0 rfl) ?_
        refine lv_iload_n S.1 S.2.1 dX0_ruleFit_175 rfl (lv_at hl 3 rfl) ?_
        refine lv_iload_n S.1 S.2.1 dX0_ruleFit_176 rfl (lv_at hl 4 rfl) ?_
        refine lv_lload S.1 S.2.1 dX0_ruleFit_177 (lv_at hl 6 rfl) ?_
        obtain ⟨σ11, hq10, hf⟩ := bV_some hf
        refine r_callVV S hK hP hS (by decide) rfl rfl [.int (zI x7), .int (zI x2_), .int (zI x3_), .long (zL x6)] (c_X0_setFit l D cy ad hO x7 x2_ x3_ x6 σ hq10) (cw_X0_ruleFit_X0_setFit S.2.2.2.2) rfl hl.1 (rest := []) rfl (Nat.le_of_ble_eq_true rfl) dX0_ruleFit_179 ⟨Nat.zero_le _, Nat.zero_le _⟩ (fun H locs hP hS => ?_)
        have e1 := Option.some.inj hf
        subst e1
        exact kJ0 _ _ _ hP hS (lv_sub hl [1, 2, 3, 4, 5, 0, 6, 7] rfl)
set_option maxHeartbeats 4000000 in
set_option maxRecDepth 100000 in
theorem c_X0_ruleFit (l : Launch) (D : va_G) (cy : Nat → ClassId) (ad : Nat → Nat) (hO : adOK 39 ad) (n : Nat) (a0 : Int) (a1 : Int) (a2 : Int) (σ : Mem) {v : Int} {τ : Mem} (hf : f_X0_ruleFit n a0 a1 a2 σ = some (v, τ)) : Met l yX0_ruleFit wsX0_ruleFit rm_X0_ruleFit (va_Pc [.ref (ad 27), .int (zI a0), .int (zI a1), .int (zI a2)] (PreW D cy 39 (cellC cy ad) ad σ)) (QL D 39 (cellC cy ad) ad v τ) 0 0 (AC 39 ad) := by
  refine r_met (cc := cX0_ruleFit) (maxL := 12) (ret := (some .long)) (own := RX0) (by decide) rfl rfl [.ref (ad 27), .int (zI a0), .int (zI a1), .int (zI a2)] (Nat.le_of_ble_eq_true rfl) ?_
  intro p e s m below meth c ls S hK hP hlk hr hl
  have hS : va_S (AC 39 ad) s.heap s.heap [] := va_S.rf
  have hl : lv_has ls 12 [(0, .ref (ad 27)), (1, .int (zI a0)), (2, .int (zI a1)), (3, .int (zI a2))] := hl
  unfold f_X0_ruleFit at hf
  refine lv_aload_n S.1 S.2.1 dX0_ruleFit_0 rfl (lv_at hl 0 rfl) ?_
  refine r_get S hK hP (by decide) rfl rfl h_X0_ruleFit_X0 0 (by decide) k_X0_ruleFit_1 rfl dX0_ruleFit_1 ?_
  refine lv_iload_n S.1 S.2.1 dX0_ruleFit_4 rfl (lv_at hl 1 rfl) ?_
  obtain ⟨y2, hq1, hf⟩ := bV_some hf
  refine r_callVI S hK hP hS (by decide) rfl rfl [.int (zI a0)] (c_X4_lengthOf l D cy ad hO 3 (by decide) a0 σ hq1) (cw_X0_ruleFit_X4_lengthOf S.2.2.2.2) rfl hl.1 (rest := []) rfl (Nat.le_of_ble_eq_true rfl) dX0_ruleFit_5 ⟨Nat.zero_le _, Nat.zero_le _⟩ (fun H locs hP hS => ?_)
  refine r_istore S rfl (lv2 := [(4, .int (zI y2)), (0, .ref (ad 27)), (1, .int (zI a0)), (2, .int (zI a1)), (3, .int (zI a2))]) dX0_ruleFit_8 hl (by decide) rfl (fun ls hl => ?_)
  refine lv_iload S.1 S.2.1 dX0_ruleFit_10 (lv_at hl 0 rfl) ?_
  refine r_if_ne (tgt := 30) S dX0_ruleFit_12 (by decide) (fun c3 => ?_) (fun c3 => ?_)
  · have hf := (if_neg c3).symm.trans hf
    refine lv_aload_n S.1 S.2.1 dX0_ruleFit_30 rfl (lv_at hl 1 rfl) ?_
    refine r_get S hK hP (by decide) rfl rfl h_X0_ruleFit_X0 0 (by decide) k_X0_ruleFit_1 rfl dX0_ruleFit_31 ?_
    refine lv_iload_n S.1 S.2.1 dX0_ruleFit_34 rfl (lv_at hl 2 rfl) ?_
    refine r_iconst S dX0_ruleFit_35 ?_
    obtain ⟨y5, hq4, hf⟩ := bV_some hf
    refine r_callVI S hK hP hS (by decide) rfl rfl [.int (zI a0), .int (zI 0)] (c_X4_signAt l D cy ad hO a0 0 σ hq4) (cw_X0_ruleFit_X4_signAt S.2.2.2.2) rfl hl.1 (rest := []) rfl (Nat.le_of_ble_eq_true rfl) dX0_ruleFit_36 ⟨Nat.zero_le _, Nat.zero_le _⟩ (fun H locs hP hS => ?_)
    refine r_istore S rfl (lv2 := [(5, .int (zI y5)), (4, .int (zI y2)), (0, .ref (ad 27)), (1, .int (zI a0)), (2, .int (zI a1)), (3, .int (zI a2))]) dX0_ruleFit_39 hl (by decide) rfl (fun ls hl => ?_)
    refine lv_aload_n S.1 S.2.1 dX0_ruleFit_41 rfl (lv_at hl 2 rfl) ?_
    refine lv_iload S.1 S.2.1 dX0_ruleFit_42 (lv_at hl 0 rfl) ?_
    refine r_bipush S dX0_ruleFit_44 (by decide) ?_
    refine r_imul S dX0_ruleFit_46 ?_
    refine lv_iload_n S.1 S.2.1 dX0_ruleFit_47 rfl (lv_at hl 4 rfl) ?_
    refine r_bipush S dX0_ruleFit_48 (by decide) ?_
    refine r_imul S dX0_ruleFit_50 ?_
    refine r_iadd S dX0_ruleFit_51 ?_
    refine lv_iload_n S.1 S.2.1 dX0_ruleFit_52 rfl (lv_at hl 5 rfl) ?_
    refine r_iadd S dX0_ruleFit_53 ?_
    obtain ⟨y7, hq6, hf⟩ := bV_some hf
    refine r_callVL S hK hP hS (by decide) rfl rfl [.int (zI (((y5 * 49) + (a1 * 7)) + a2))] (c_X0_fitAt l D cy ad hO (((y5 * 49) + (a1 * 7)) + a2) σ hq6) (cw_X0_ruleFit_X0_fitAt S.2.2.2.2) rfl hl.1 (rest := []) rfl (Nat.le_of_ble_eq_true rfl) dX0_ruleFit_54 ⟨Nat.zero_le _, Nat.zero_le _⟩ (fun H locs hP hS => ?_)
    refine r_lstore S rfl (lv2 := [(6, .long (zL y7)), (5, .int (zI y5)), (4, .int (zI y2)), (0, .ref (ad 27)), (1, .int (zI a0)), (2, .int (zI a1)), (3, .int (zI a2))]) dX0_ruleFit_57 hl (by decide) rfl (fun ls hl => ?_)
    refine r_iconst S dX0_ruleFit_59 ?_
    refine r_istore S rfl (lv2 := [(8, .int (zI 1)), (6, .long (zL y7)), (5, .int (zI y5)), (4, .int (zI y2)), (0, .ref (ad 27)), (1, .int (zI a0)), (2, .int (zI a1)), (3, .int (zI a2))]) dX0_ruleFit_60 hl (by decide) rfl (fun ls hl => ?_)
    obtain ⟨x8, σ9, hq, hf⟩ := bL1_some hf
    refine w_X0_ruleFit_L62 hO S hK n a0 a1 a2 y2 (fun x8 σ9 H locs ls he hP hS hl => ?_) n y5 y7 1 σ _ _ _ hq hP hS (lv_sub hl [4, 5, 6, 7, 3, 2, 1, 0] rfl)
    cases he
    refine lv_lload S.1 S.2.1 dX0_ruleFit_188 (lv_at hl 0 rfl) ?_
    obtain ⟨e1, e2⟩ := inj2 hf
    subst e1
    subst e2
    exact e_L S hlk hP hS hr dX0_ruleFit_190
  · have hf := (if_pos c3).symm.trans hf
    refine lv_iload_n S.1 S.2.1 dX0_ruleFit_15 rfl (lv_at hl 4 rfl) ?_
    refine lv_iload_n S.1 S.2.1 dX0_ruleFit_16 rfl (lv_at hl 3 rfl) ?_
    refine r_isub S dX0_ruleFit_17 ?_
    refine lv_aload_n S.1 S.2.1 dX0_ruleFit_18 rfl (lv_at hl 1 rfl) ?_
    refine r_get S hK hP (by decide) rfl rfl h_X0_ruleFit_X0 1 (by decide) k_X0_ruleFit_2 rfl dX0_ruleFit_19 ?_
    obtain ⟨y11, hq10, hf⟩ := bV_some hf
    refine r_callVI S hK hP hS (by decide) rfl rfl [] (c_X1_drop l D cy ad hO σ hq10) (cw_X0_ruleFit_X1_drop S.2.2.2.2) rfl hl.1 (rest := [.int (zI (a2 - a1))]) rfl (Nat.le_of_ble_eq_true rfl) dX0_ruleFit_22 ⟨Nat.zero_le _, Nat.zero_le _⟩ (fun H locs hP hS => ?_)
    refine r_imul S dX0_ruleFit_25 ?_
    obtain ⟨y13, hq12, hf⟩ := bV_some hf
    refine r_callSL S hK hP hS [.int (zI ((a2 - a1) * y11))] (c_X3_ofNone l D cy ad hO ((a2 - a1) * y11) σ hq12) (cw_X0_ruleFit_X3_ofNone S.2.2.2.2) rfl hl.1 (rest := []) rfl (Nat.le_of_ble_eq_true rfl) dX0_ruleFit_26 ⟨Nat.zero_le _, Nat.zero_le _⟩ (fun H locs hP hS => ?_)
    obtain ⟨e1, e2⟩ := inj2 hf
    subst e1
    subst e2
    exact e_L S hlk hP hS hr dX0_ruleFit_29
def rm_X0_lessen : Room := { frames := 2, cells := 0, slots := 0, locals := 60 }
theorem k_X0_lessen_1 : (.fieldLink RX0 21 "MendTexts$Chart" "grammar" "LMendTexts$Grammar;" : Cond) ∈ wsX0_lessen := List.mem_of_getElem? (i := 1) (by decide +kernel)
theorem k_X0_lessen_2 : (.methodLink RX0 119 Lib.MathLoose.min_long.x : Cond) ∈ wsX0_lessen := List.mem_of_getElem? (i := 2) (by decide +kernel)
theorem k_X0_lessen_3 : (.static Lib.MathLoose.min_long.x : Cond) ∈ wsX0_lessen := List.mem_of_getElem? (i := 3) (by decide +kernel)
theorem k_X0_lessen_4 : (.initialized "java/lang/Math" : Cond) ∈ wsX0_lessen := List.mem_of_getElem? (i := 4) (by decide +kernel)
theorem k_X0_lessen_5 : (.code Lib.MathLoose.min_long.x Lib.MathLoose.min_long.code 4 (some .long) : Cond) ∈ wsX0_lessen := List.mem_of_getElem? (i := 5) (by decide +kernel)
theorem h_X0_lessen_X0 : ∀ w ∈ u_ws RX0 TX0 5, w ∈ wsX0_lessen := mem_places _ [69, 70, 71, 72, 73] (by decide +kernel)
theorem cw_X0_lessen_X0_fitOf {s : State} {args : Array Value} (hts : ∀ w ∈ wsX0_lessen, w.before args s = true) : CallW rm_X0_lessen s args RX0 RX0 54 yX0_fitOf cX0_fitOf 4 (some .long) wsX0_fitOf rm_X0_fitOf 0 0 3 := cwV 3 hts gX0_lessen_X0_fitOf rfl rfl rfl (by decide +kernel) ⟨Nat.le_of_ble_eq_true rfl, Nat.le_of_ble_eq_true rfl⟩
theorem cw_X0_lessen_X0_ruleFit {s : State} {args : Array Value} (hts : ∀ w ∈ wsX0_lessen, w.before args s = true) : CallW rm_X0_lessen s args RX0 RX0 116 yX0_ruleFit cX0_ruleFit 12 (some .long) wsX0_ruleFit rm_X0_ruleFit 0 0 3 := cwV 3 hts gX0_lessen_X0_ruleFit rfl rfl rfl (by decide +kernel) ⟨Nat.le_of_ble_eq_true rfl, Nat.le_of_ble_eq_true rfl⟩
theorem cw_X0_lessen_X0_setFit {s : State} {args : Array Value} (hts : ∀ w ∈ wsX0_lessen, w.before args s = true) : CallW rm_X0_lessen s args RX0 RX0 102 yX0_setFit cX0_setFit 7 none wsX0_setFit rm_X0_setFit 0 0 4 := cwV 4 hts gX0_lessen_X0_setFit rfl rfl rfl (by decide +kernel) ⟨Nat.le_of_ble_eq_true rfl, Nat.le_of_ble_eq_true rfl⟩
theorem cw_X0_lessen_X4_countOf {s : State} {args : Array Value} (hts : ∀ w ∈ wsX0_lessen, w.before args s = true) : CallW rm_X0_lessen s args RX0 RX4 110 yX4_countOf cX4_countOf 2 (some .int) wsX4_countOf rm_X4_countOf 0 0 1 := cwV 1 hts gX0_lessen_X4_countOf rfl rfl rfl (by decide +kernel) ⟨Nat.le_of_ble_eq_true rfl, Nat.le_of_ble_eq_true rfl⟩
theorem cw_X0_lessen_X4_slotOf {s : State} {args : Array Value} (hts : ∀ w ∈ wsX0_lessen, w.before args s = true) : CallW rm_X0_lessen s args RX0 RX4 113 yX4_slotOf cX4_slotOf 3 (some .int) wsX4_slotOf rm_X4_slotOf 0 0 2 := cwV 2 hts gX0_lessen_X4_slotOf rfl rfl rfl (by decide +kernel) ⟨Nat.le_of_ble_eq_true rfl, Nat.le_of_ble_eq_true rfl⟩
set_option maxHeartbeats 4000000 in
set_option maxRecDepth 100000 in
theorem w_X0_lessen_L28 {p : Program} {l : Launch} {e : Env} {s : State} {m : MethodId} {args : Array Value} {below : List Frame} {meth : Method} {c : Code} {Q : State → Prop} {D : va_G} {cy : Nat → ClassId} {ad : Nat → Nat} {H0 : Heap} (hO : adOK 39 ad) (S : CallFix p m c cX0_lessen 10 s args wsX0_lessen RX0) (hK : KK D cy s) (n : Nat) (x1_ : Int) (x2_ : Int) (x3_ : Int) (x4_ : Int) (x8_ : Int) {res : Int × Mem} (k0 : ∀ (y6_ : Int) (τ : Mem) (H2 : Heap) (locs2 : List Loc) (ls2 : Array Slot), res = (y6_, τ) → va_P D vwCl (WW 39 (cellC cy ad) ad τ) H2 → va_S (AC 39 ad) H0 H2 locs2 → lv_has ls2 10 [(0, .ref (ad 27)), (1, .int (zI x1_)), (2, .int (zI x2_)), (3, .int (zI x3_)), (4, .long (zL x4_)), (6, .long (zL y6_))] → W p l e rm_X0_lessen s m args below meth c H2 locs2 0 0 Q (F0 m 64 ls2 [])) :
    ∀ (k : Nat) (x6_ : Int) (x9_ : Int) (σ : Mem) (H : Heap) (locs : List Loc) (ls : Array Slot), f_X0_lessen_L28 n x1_ x2_ x3_ x4_ x8_ k x6_ x9_ σ = some res → va_P D vwCl (WW 39 (cellC cy ad) ad σ) H → va_S (AC 39 ad) H0 H locs → lv_has ls 10 [(0, .ref (ad 27)), (1, .int (zI x1_)), (2, .int (zI x2_)), (3, .int (zI x3_)), (4, .long (zL x4_)), (6, .long (zL x6_)), (8, .int (zI x8_)), (9, .int (zI x9_))] → W p l e rm_X0_lessen s m args below meth c H locs 0 0 Q (F0 m 28 ls []) := by
  intro k
  induction k with
  | zero =>
    intro x6_ x9_ σ H locs ls hf
    have hf : none = some res := hf
    cases hf
  | succ k ih =>
    intro x6_ x9_ σ H locs ls hf hP hS hl
    rw [f_X0_lessen_L28] at hf
    refine lv_iload S.1 S.2.1 dX0_lessen_28 (lv_at hl 7 rfl) ?_
    refine lv_iload S.1 S.2.1 dX0_lessen_30 (lv_at hl 6 rfl) ?_
    refine lv_icmp_ge (tgt := 64) S.1 S.2.1 dX0_lessen_32 (by decide) (fun c1 => ?_) (fun c1 => ?_)
    · have hf := (if_pos c1).symm.trans hf
      exact k0 _ _ _ _ _ (Option.some.inj hf).symm hP hS (lv_sub hl [0, 1, 2, 3, 4, 5] rfl)
    · have hf := (if_neg c1).symm.trans hf
      refine lv_lload S.1 S.2.1 dX0_lessen_35 (lv_at hl 5 rfl) ?_
      refine lv_aload_n S.1 S.2.1 dX0_lessen_37 rfl (lv_at hl 0 rfl) ?_
      refine lv_aload_n S.1 S.2.1 dX0_lessen_38 rfl (lv_at hl 0 rfl) ?_
      refine r_get S hK hP (by decide) rfl rfl h_X0_lessen_X0 0 (by decide) k_X0_lessen_1 rfl dX0_lessen_39 ?_
      refine lv_iload_n S.1 S.2.1 dX0_lessen_42 rfl (lv_at hl 1 rfl) ?_
      refine lv_iload S.1 S.2.1 dX0_lessen_43 (lv_at hl 7 rfl) ?_
      obtain ⟨y3, hq2, hf⟩ := bV_some hf
      refine r_callVI S hK hP hS (by decide) rfl rfl [.int (zI x1_), .int (zI x9_)] (c_X4_slotOf l D cy ad hO x1_ x9_ σ hq2) (cw_X0_lessen_X4_slotOf S.2.2.2.2) rfl hl.1 (rest := [.ref (ad 27), .long (zL x6_)]) rfl (Nat.le_of_ble_eq_true rfl) dX0_lessen_45 ⟨Nat.zero_le _, Nat.zero_le _⟩ (fun H locs hP hS => ?_)
      refine lv_iload_n S.1 S.2.1 dX0_lessen_48 rfl (lv_at hl 2 rfl) ?_
      refine lv_iload_n S.1 S.2.1 dX0_lessen_49 rfl (lv_at hl 3 rfl) ?_
      obtain ⟨y6, σ5, hq4, hf⟩ := bL1_some hf
      refine r_callVL S hK hP hS (by decide) rfl rfl [.int (zI y3), .int (zI x2_), .int (zI x3_)] (c_X0_ruleFit l D cy ad hO n y3 x2_ x3_ σ hq4) (cw_X0_lessen_X0_ruleFit S.2.2.2.2) rfl hl.1 (rest := [.long (zL x6_)]) rfl (Nat.le_of_ble_eq_true rfl) dX0_lessen_50 ⟨Nat.zero_le _, Nat.zero_le _⟩ (fun H locs hP hS => ?_)
      refine r_mminl S hl.1 k_X0_lessen_2 k_X0_lessen_3 k_X0_lessen_4 k_X0_lessen_5 ⟨Nat.le_of_ble_eq_true rfl, Nat.le_of_ble_eq_true rfl⟩ ⟨Nat.zero_le _, Nat.zero_le _⟩ dX0_lessen_53 ?_
      obtain ⟨x7, hx7, hf⟩ := nm_some hf
      refine r_lstore S hx7 (lv2 := [(6, .long (zL x7)), (0, .ref (ad 27)), (1, .int (zI x1_)), (2, .int (zI x2_)), (3, .int (zI x3_)), (4, .long (zL x4_)), (8, .int (zI x8_)), (9, .int (zI x9_))]) dX0_lessen_56 hl (by decide) rfl (fun ls hl => ?_)
      obtain ⟨x8, hx8, hf⟩ := nm_some hf
      refine r_iinc S hx8 (k0 := 7) (lv2 := [(9, .int (zI x8)), (6, .long (zL x7)), (0, .ref (ad 27)), (1, .int (zI x1_)), (2, .int (zI x2_)), (3, .int (zI x3_)), (4, .long (zL x4_)), (8, .int (zI x8_))]) dX0_lessen_58 hl rfl (by decide) rfl (fun ls hl => ?_)
      refine lv_goto (tgt := 28) S.1 S.2.1 dX0_lessen_61 (by decide) ?_
      exact ih x7 x8 σ5 _ _ _ hf hP hS (lv_sub hl [2, 3, 4, 5, 6, 1, 7, 0] rfl)
set_option maxHeartbeats 4000000 in
set_option maxRecDepth 100000 in
theorem c_X0_lessen (l : Launch) (D : va_G) (cy : Nat → ClassId) (ad : Nat → Nat) (hO : adOK 39 ad) (n : Nat) (a0 : Int) (a1 : Int) (a2 : Int) (σ : Mem) {v : Int} {τ : Mem} (hf : f_X0_lessen n a0 a1 a2 σ = some (v, τ)) : Met l yX0_lessen wsX0_lessen rm_X0_lessen (va_Pc [.ref (ad 27), .int (zI a0), .int (zI a1), .int (zI a2)] (PreW D cy 39 (cellC cy ad) ad σ)) (QI D 39 (cellC cy ad) ad v τ) 0 0 (AC 39 ad) := by
  refine r_met (cc := cX0_lessen) (maxL := 10) (ret := (some .boolean)) (own := RX0) (by decide) rfl rfl [.ref (ad 27), .int (zI a0), .int (zI a1), .int (zI a2)] (Nat.le_of_ble_eq_true rfl) ?_
  intro p e s m below meth c ls S hK hP hlk hr hl
  have hS : va_S (AC 39 ad) s.heap s.heap [] := va_S.rf
  have hl : lv_has ls 10 [(0, .ref (ad 27)), (1, .int (zI a0)), (2, .int (zI a1)), (3, .int (zI a2))] := hl
  unfold f_X0_lessen at hf
  refine lv_aload_n S.1 S.2.1 dX0_lessen_0 rfl (lv_at hl 0 rfl) ?_
  refine r_iconst S dX0_lessen_1 ?_
  refine lv_iload_n S.1 S.2.1 dX0_lessen_2 rfl (lv_at hl 1 rfl) ?_
  refine r_iadd S dX0_lessen_3 ?_
  refine lv_iload_n S.1 S.2.1 dX0_lessen_4 rfl (lv_at hl 2 rfl) ?_
  refine lv_iload_n S.1 S.2.1 dX0_lessen_5 rfl (lv_at hl 3 rfl) ?_
  obtain ⟨y2, hq1, hf⟩ := bV_some hf
  refine r_callVL S hK hP hS (by decide) rfl rfl [.int (zI (4 + a0)), .int (zI a1), .int (zI a2)] (c_X0_fitOf l D cy ad hO (4 + a0) a1 a2 σ hq1) (cw_X0_lessen_X0_fitOf S.2.2.2.2) rfl hl.1 (rest := []) rfl (Nat.le_of_ble_eq_true rfl) dX0_lessen_6 ⟨Nat.zero_le _, Nat.zero_le _⟩ (fun H locs hP hS => ?_)
  refine r_lstore S rfl (lv2 := [(4, .long (zL y2)), (0, .ref (ad 27)), (1, .int (zI a0)), (2, .int (zI a1)), (3, .int (zI a2))]) dX0_lessen_9 hl (by decide) rfl (fun ls hl => ?_)
  refine lv_lload S.1 S.2.1 dX0_lessen_11 (lv_at hl 0 rfl) ?_
  refine r_lstore S rfl (lv2 := [(6, .long (zL y2)), (4, .long (zL y2)), (0, .ref (ad 27)), (1, .int (zI a0)), (2, .int (zI a1)), (3, .int (zI a2))]) dX0_lessen_13 hl (by decide) rfl (fun ls hl => ?_)
  refine lv_aload_n S.1 S.2.1 dX0_lessen_15 rfl (lv_at hl 2 rfl) ?_
  refine r_get S hK hP (by decide) rfl rfl h_X0_lessen_X0 0 (by decide) k_X0_lessen_1 rfl dX0_lessen_16 ?_
  refine lv_iload_n S.1 S.2.1 dX0_lessen_19 rfl (lv_at hl 3 rfl) ?_
  obtain ⟨y4, hq3, hf⟩ := bV_some hf
  refine r_callVI S hK hP hS (by decide) rfl rfl [.int (zI a0)] (c_X4_countOf l D cy ad hO 3 (by decide) a0 σ hq3) (cw_X0_lessen_X4_countOf S.2.2.2.2) rfl hl.1 (rest := []) rfl (Nat.le_of_ble_eq_true rfl) dX0_lessen_20 ⟨Nat.zero_le _, Nat.zero_le _⟩ (fun H locs hP hS => ?_)
  refine r_istore S rfl (lv2 := [(8, .int (zI y4)), (6, .long (zL y2)), (4, .long (zL y2)), (0, .ref (ad 27)), (1, .int (zI a0)), (2, .int (zI a1)), (3, .int (zI a2))]) dX0_lessen_23 hl (by decide) rfl (fun ls hl => ?_)
  refine r_iconst S dX0_lessen_25 ?_
  refine r_istore S rfl (lv2 := [(9, .int (zI 0)), (8, .int (zI y4)), (6, .long (zL y2)), (4, .long (zL y2)), (0, .ref (ad 27)), (1, .int (zI a0)), (2, .int (zI a1)), (3, .int (zI a2))]) dX0_lessen_26 hl (by decide) rfl (fun ls hl => ?_)
  obtain ⟨x5, σ6, hq, hf⟩ := bL1_some hf
  refine w_X0_lessen_L28 hO S hK n a0 a1 a2 y2 y4 (fun x5 σ6 H locs ls he hP hS hl => ?_) n y2 0 σ _ _ _ hq hP hS (lv_sub hl [4, 5, 6, 7, 3, 2, 1, 0] rfl)
  cases he
  refine lv_aload_n S.1 S.2.1 dX0_lessen_64 rfl (lv_at hl 0 rfl) ?_
  refine r_iconst S dX0_lessen_65 ?_
  refine lv_iload_n S.1 S.2.1 dX0_lessen_66 rfl (lv_at hl 1 rfl) ?_
  refine r_iadd S dX0_lessen_67 ?_
  refine lv_iload_n S.1 S.2.1 dX0_lessen_68 rfl (lv_at hl 2 rfl) ?_
  refine lv_iload_n S.1 S.2.1 dX0_lessen_69 rfl (lv_at hl 3 rfl) ?_
  refine lv_lload S.1 S.2.1 dX0_lessen_70 (lv_at hl 5 rfl) ?_
  obtain ⟨σ8, hq7, hf⟩ := bV_some hf
  refine r_callVV S hK hP hS (by decide) rfl rfl [.int (zI (4 + a0)), .int (zI a1), .int (zI a2), .long (zL x5)] (c_X0_setFit l D cy ad hO (4 + a0) a1 a2 x5 σ6 hq7) (cw_X0_lessen_X0_setFit S.2.2.2.2) rfl hl.1 (rest := []) rfl (Nat.le_of_ble_eq_true rfl) dX0_lessen_72 ⟨Nat.zero_le _, Nat.zero_le _⟩ (fun H locs hP hS => ?_)
  refine lv_lload S.1 S.2.1 dX0_lessen_75 (lv_at hl 5 rfl) ?_
  refine lv_lload S.1 S.2.1 dX0_lessen_77 (lv_at hl 4 rfl) ?_
  refine r_lcmp S dX0_lessen_79 ?_
  refine r_if_ge (tgt := 87) S dX0_lessen_80 (by decide) (fun c9 => ?_) (fun c9 => ?_)
  · have hf := (if_pos c9).symm.trans hf
    refine r_iconst S dX0_lessen_87 ?_
    obtain ⟨e1, e2⟩ := inj2 hf
    subst e1
    subst e2
    exact e_Z S hlk hP hS (Or.inl rfl) hr dX0_lessen_88
  · have hf := (if_neg c9).symm.trans hf
    refine r_iconst S dX0_lessen_83 ?_
    refine lv_goto (tgt := 88) S.1 S.2.1 dX0_lessen_84 (by decide) ?_
    obtain ⟨e1, e2⟩ := inj2 hf
    subst e1
    subst e2
    exact e_Z S hlk hP hS (Or.inr rfl) hr dX0_lessen_88
def rm_X0_settle : Room := { frames := 3, cells := 0, slots := 0, locals := 89 }
theorem k_X0_settle_1 : (.constantLong RX0 64 (9223372036854775807) : Cond) ∈ wsX0_settle := List.mem_of_getElem? (i := 1) (by decide +kernel)
theorem k_X0_settle_2 : (.fieldLink RX0 17 "MendTexts$Chart" "users" "[I" : Cond) ∈ wsX0_settle := List.mem_of_getElem? (i := 2) (by decide +kernel)
theorem h_X0_settle_X0 : ∀ w ∈ u_ws RX0 TX0 5, w ∈ wsX0_settle := mem_places _ [74, 75, 76, 77, 78] (by decide +kernel)
theorem cw_X0_settle_X0_lessen {s : State} {args : Array Value} (hts : ∀ w ∈ wsX0_settle, w.before args s = true) : CallW rm_X0_settle s args RX0 RX0 106 yX0_lessen cX0_lessen 10 (some .boolean) wsX0_lessen rm_X0_lessen 0 0 3 := cwV 3 hts gX0_settle_X0_lessen rfl rfl rfl (by decide +kernel) ⟨Nat.le_of_ble_eq_true rfl, Nat.le_of_ble_eq_true rfl⟩
theorem cw_X0_settle_X0_setFit {s : State} {args : Array Value} (hts : ∀ w ∈ wsX0_settle, w.before args s = true) : CallW rm_X0_settle s args RX0 RX0 102 yX0_setFit cX0_setFit 7 none wsX0_setFit rm_X0_setFit 0 0 4 := cwV 4 hts gX0_settle_X0_setFit rfl rfl rfl (by decide +kernel) ⟨Nat.le_of_ble_eq_true rfl, Nat.le_of_ble_eq_true rfl⟩
set_option maxHeartbeats 4000000 in
set_option maxRecDepth 100000 in
theorem w_X0_settle_L2 {p : Program} {l : Launch} {e : Env} {s : State} {m : MethodId} {args : Array Value} {below : List Frame} {meth : Method} {c : Code} {Q : State → Prop} {D : va_G} {cy : Nat → ClassId} {ad : Nat → Nat} {H0 : Heap} (hO : adOK 39 ad) (S : CallFix p m c cX0_settle 6 s args wsX0_settle RX0) (hK : KK D cy s) (n : Nat) (x1_ : Int) (x2_ : Int) {res : Mem} (k0 : ∀ (τ : Mem) (H2 : Heap) (locs2 : List Loc) (ls2 : Array Slot), res = τ → va_P D vwCl (WW 39 (cellC cy ad) ad τ) H2 → va_S (AC 39 ad) H0 H2 locs2 → lv_has ls2 6 [(0, .ref (ad 27)), (1, .int (zI x1_)), (2, .int (zI x2_))] → W p l e rm_X0_settle s m args below meth c H2 locs2 0 0 Q (F0 m 26 ls2 [])) :
    ∀ (k : Nat) (x3_ : Int) (σ : Mem) (H : Heap) (locs : List Loc) (ls : Array Slot), f_X0_settle_L2 n x1_ x2_ k x3_ σ = some res → va_P D vwCl (WW 39 (cellC cy ad) ad σ) H → va_S (AC 39 ad) H0 H locs → lv_has ls 6 [(0, .ref (ad 27)), (1, .int (zI x1_)), (2, .int (zI x2_)), (3, .int (zI x3_))] → W p l e rm_X0_settle s m args below meth c H locs 0 0 Q (F0 m 2 ls []) := by
  intro k
  induction k with
  | zero =>
    intro x3_ σ H locs ls hf
    have hf : none = some res := hf
    cases hf
  | succ k ih =>
    intro x3_ σ H locs ls hf hP hS hl
    rw [f_X0_settle_L2] at hf
    refine lv_iload_n S.1 S.2.1 dX0_settle_2 rfl (lv_at hl 3 rfl) ?_
    refine r_bipush S dX0_settle_3 (by decide) ?_
    refine lv_icmp_ge (tgt := 26) S.1 S.2.1 dX0_settle_5 (by decide) (fun c1 => ?_) (fun c1 => ?_)
    · have hf := (if_pos c1).symm.trans hf
      exact k0 _ _ _ _ (Option.some.inj hf).symm hP hS (lv_sub hl [0, 1, 2] rfl)
    · have hf := (if_neg c1).symm.trans hf
      refine lv_aload_n S.1 S.2.1 dX0_settle_8 rfl (lv_at hl 0 rfl) ?_
      refine r_iconst S dX0_settle_9 ?_
      refine lv_iload_n S.1 S.2.1 dX0_settle_10 rfl (lv_at hl 3 rfl) ?_
      refine r_iadd S dX0_settle_11 ?_
      refine lv_iload_n S.1 S.2.1 dX0_settle_12 rfl (lv_at hl 1 rfl) ?_
      refine lv_iload_n S.1 S.2.1 dX0_settle_13 rfl (lv_at hl 2 rfl) ?_
      refine r_ldc2 S 9223372036854775807 (by decide +kernel) k_X0_settle_1 dX0_settle_14 ?_
      obtain ⟨σ3, hq2, hf⟩ := bV_some hf
      refine r_callVV S hK hP hS (by decide) rfl rfl [.int (zI (4 + x3_)), .int (zI x1_), .int (zI x2_), .long (zL 9223372036854775807)] (c_X0_setFit l D cy ad hO (4 + x3_) x1_ x2_ 9223372036854775807 σ hq2) (cw_X0_settle_X0_setFit S.2.2.2.2) rfl hl.1 (rest := []) rfl (Nat.le_of_ble_eq_true rfl) dX0_settle_17 ⟨Nat.zero_le _, Nat.zero_le _⟩ (fun H locs hP hS => ?_)
      obtain ⟨x4, hx4, hf⟩ := nm_some hf
      refine r_iinc S hx4 (k0 := 3) (lv2 := [(3, .int (zI x4)), (0, .ref (ad 27)), (1, .int (zI x1_)), (2, .int (zI x2_))]) dX0_settle_20 hl rfl (by decide) rfl (fun ls hl => ?_)
      refine lv_goto (tgt := 2) S.1 S.2.1 dX0_settle_23 (by decide) ?_
      exact ih x4 σ3 _ _ _ hf hP hS (lv_sub hl [1, 2, 3, 0] rfl)
set_option maxHeartbeats 4000000 in
set_option maxRecDepth 100000 in
theorem w_X0_settle_L46 {p : Program} {l : Launch} {e : Env} {s : State} {m : MethodId} {args : Array Value} {below : List Frame} {meth : Method} {c : Code} {Q : State → Prop} {D : va_G} {cy : Nat → ClassId} {ad : Nat → Nat} {H0 : Heap} (hO : adOK 39 ad) (S : CallFix p m c cX0_settle 6 s args wsX0_settle RX0) (hK : KK D cy s) (n : Nat) (x1_ : Int) (x2_ : Int) (x4_ : Int) {res : Int × Mem} (k0 : ∀ (y3_ : Int) (τ : Mem) (H2 : Heap) (locs2 : List Loc) (ls2 : Array Slot), res = (y3_, τ) → va_P D vwCl (WW 39 (cellC cy ad) ad τ) H2 → va_S (AC 39 ad) H0 H2 locs2 → lv_has ls2 6 [(0, .ref (ad 27)), (1, .int (zI x1_)), (2, .int (zI x2_)), (3, .int (zI y3_)), (4, .int (zI x4_))] → W p l e rm_X0_settle s m args below meth c H2 locs2 0 0 Q (F0 m 100 ls2 [])) :
    ∀ (k : Nat) (x3_ : Int) (x5_ : Int) (σ : Mem) (H : Heap) (locs : List Loc) (ls : Array Slot), f_X0_settle_L46 n x1_ x2_ x4_ k x3_ x5_ σ = some res → va_P D vwCl (WW 39 (cellC cy ad) ad σ) H → va_S (AC 39 ad) H0 H locs → lv_has ls 6 [(0, .ref (ad 27)), (1, .int (zI x1_)), (2, .int (zI x2_)), (3, .int (zI x3_)), (4, .int (zI x4_)), (5, .int (zI x5_))] → W p l e rm_X0_settle s m args below meth c H locs 0 0 Q (F0 m 46 ls []) := by
  intro k
  induction k with
  | zero =>
    intro x3_ x5_ σ H locs ls hf
    have hf : none = some res := hf
    cases hf
  | succ k ih =>
    intro x3_ x5_ σ H locs ls hf hP hS hl
    rw [f_X0_settle_L46] at hf
    refine lv_iload S.1 S.2.1 dX0_settle_46 (lv_at hl 5 rfl) ?_
    refine r_if_lt (tgt := 100) S dX0_settle_48 (by decide) (fun c1 => ?_) (fun c1 => ?_)
    · have hf := (if_pos c1).symm.trans hf
      exact k0 _ _ _ _ _ (Option.some.inj hf).symm hP hS (lv_sub hl [0, 1, 2, 3, 4] rfl)
    · have hf := (if_neg c1).symm.trans hf
      refine lv_iload_n S.1 S.2.1 dX0_settle_51 rfl (lv_at hl 3 rfl) ?_
      refine lv_iload S.1 S.2.1 dX0_settle_52 (lv_at hl 5 rfl) ?_
      refine r_ishr S dX0_settle_54 ?_
      refine r_iconst S dX0_settle_55 ?_
      refine r_iand S dX0_settle_56 ?_
      obtain ⟨x2, σ3, hq, hf⟩ := bL1_some hf
      have kJ0 : ∀ (H : Heap) (locs : List Loc) (ls : Array Slot), va_P D vwCl (WW 39 (cellC cy ad) ad σ3) H → va_S (AC 39 ad) H0 H locs → lv_has ls 6 [(0, .ref (ad 27)), (1, .int (zI x1_)), (2, .int (zI x2_)), (3, .int (zI x2)), (4, .int (zI x4_)), (5, .int (zI x5_))] → W p l e rm_X0_settle s m args below meth c H locs 0 0 Q (F0 m 94 ls []) := by
        intro H locs ls hP hS hl
        obtain ⟨x13, hx13, hf⟩ := nm_some hf
        refine r_iinc S hx13 (k0 := 5) (lv2 := [(5, .int (zI x13)), (0, .ref (ad 27)), (1, .int (zI x1_)), (2, .int (zI x2_)), (3, .int (zI x2)), (4, .int (zI x4_))]) dX0_settle_94 hl rfl (by decide) rfl (fun ls hl => ?_)
        refine lv_goto (tgt := 46) S.1 S.2.1 dX0_settle_97 (by decide) ?_
        exact ih x2 x13 σ3 _ _ _ hf hP hS (lv_sub hl [1, 2, 3, 4, 5, 0] rfl)
      clear hf
      have hf := hq
      refine r_if_eq (tgt := 94) S dX0_settle_57 (by decide) (fun c4 => ?_) (fun c4 => ?_)
      · have hf := (if_pos c4).symm.trans hf
        obtain ⟨e1, e2⟩ := inj2 hf
        subst e1
        subst e2
        exact kJ0 _ _ _ hP hS (lv_sub hl [0, 1, 2, 3, 4, 5] rfl)
      · have hf := (if_neg c4).symm.trans hf
        refine lv_iload_n S.1 S.2.1 dX0_settle_60 rfl (lv_at hl 3 rfl) ?_
        refine r_iconst S dX0_settle_61 ?_
        refine lv_iload S.1 S.2.1 dX0_settle_62 (lv_at hl 5 rfl) ?_
        refine r_ishl S dX0_settle_64 ?_
        refine r_iconst S dX0_settle_65 ?_
        refine r_ixor S dX0_settle_66 ?_
        refine r_iand S dX0_settle_67 ?_
        obtain ⟨x5, hx5, hf⟩ := nm_some hf
        refine r_istore_n S hx5 (lv2 := [(3, .int (zI x5)), (0, .ref (ad 27)), (1, .int (zI x1_)), (2, .int (zI x2_)), (4, .int (zI x4_)), (5, .int (zI x5_))]) dX0_settle_68 rfl hl (by decide) rfl (fun ls hl => ?_)
        refine lv_iload_n S.1 S.2.1 dX0_settle_69 rfl (lv_at hl 0 rfl) ?_
        refine lv_aload_n S.1 S.2.1 dX0_settle_70 rfl (lv_at hl 1 rfl) ?_
        refine lv_iload S.1 S.2.1 dX0_settle_71 (lv_at hl 5 rfl) ?_
        refine lv_iload_n S.1 S.2.1 dX0_settle_73 rfl (lv_at hl 2 rfl) ?_
        refine lv_iload_n S.1 S.2.1 dX0_settle_74 rfl (lv_at hl 3 rfl) ?_
        obtain ⟨y8, σ7, hq6, hf⟩ := bL1_some hf
        refine r_callVI S hK hP hS (by decide) rfl rfl [.int (zI x5_), .int (zI x1_), .int (zI x2_)] (c_X0_lessen l D cy ad hO n x5_ x1_ x2_ σ hq6) (cw_X0_settle_X0_lessen S.2.2.2.2) rfl hl.1 (rest := [.int (zI x5)]) rfl (Nat.le_of_ble_eq_true rfl) dX0_settle_75 ⟨Nat.zero_le _, Nat.zero_le _⟩ (fun H locs hP hS => ?_)
        obtain ⟨v9, hq, hf⟩ := bV_some hf
        have kJ0 : ∀ (H : Heap) (locs : List Loc) (ls : Array Slot), va_P D vwCl (WW 39 (cellC cy ad) ad σ7) H → va_S (AC 39 ad) H0 H locs → lv_has ls 6 [(0, .ref (ad 27)), (1, .int (zI x1_)), (2, .int (zI x2_)), (4, .int (zI x4_)), (5, .int (zI x5_))] → W p l e rm_X0_settle s m args below meth c H locs 0 0 Q (F0 m 92 ls [.int (zI v9), .int (zI x5)]) := by
          intro H locs ls hP hS hl
          refine r_ior S dX0_settle_92 ?_
          obtain ⟨x12, hx12, hf⟩ := nm_some hf
          refine r_istore_n S hx12 (lv2 := [(3, .int (zI x12)), (0, .ref (ad 27)), (1, .int (zI x1_)), (2, .int (zI x2_)), (4, .int (zI x4_)), (5, .int (zI x5_))]) dX0_settle_93 rfl hl (by decide) rfl (fun ls hl => ?_)
          obtain ⟨e1, e2⟩ := inj2 hf
          subst e1
          subst e2
          exact kJ0 _ _ _ hP hS (lv_sub hl [1, 2, 3, 0, 4, 5] rfl)
        clear hf
        have hf := hq
        refine r_if_eq (tgt := 91) S dX0_settle_78 (by decide) (fun c10 => ?_) (fun c10 => ?_)
        · have hf := (if_pos c10).symm.trans hf
          refine r_iconst S dX0_settle_91 ?_
          have e1 := Option.some.inj hf
          subst e1
          exact kJ0 _ _ _ hP hS (lv_sub hl [1, 2, 3, 4, 5] rfl)
        · have hf := (if_neg c10).symm.trans hf
          refine lv_aload_n S.1 S.2.1 dX0_settle_81 rfl (lv_at hl 1 rfl) ?_
          refine r_get S hK hP (by decide) rfl rfl h_X0_settle_X0 4 (by decide) k_X0_settle_2 rfl dX0_settle_82 ?_
          refine lv_iload S.1 S.2.1 dX0_settle_85 (lv_at hl 5 rfl) ?_
          obtain ⟨g11, hf⟩ := gd_some hf
          refine r_iald S hK hP (by decide) (n := 6) (fun _ => rfl) (by decide) g11 dX0_settle_87 ?_
          refine lv_goto (tgt := 92) S.1 S.2.1 dX0_settle_88 (by decide) ?_
          have e1 := Option.some.inj hf
          subst e1
          exact kJ0 _ _ _ hP hS (lv_sub hl [1, 2, 3, 4, 5] rfl)
set_option maxHeartbeats 4000000 in
set_option maxRecDepth 100000 in
theorem w_X0_settle_L32 {p : Program} {l : Launch} {e : Env} {s : State} {m : MethodId} {args : Array Value} {below : List Frame} {meth : Method} {c : Code} {Q : State → Prop} {D : va_G} {cy : Nat → ClassId} {ad : Nat → Nat} {H0 : Heap} (hO : adOK 39 ad) (S : CallFix p m c cX0_settle 6 s args wsX0_settle RX0) (hK : KK D cy s) (n : Nat) (x1_ : Int) (x2_ : Int) {res : Mem} (k0 : ∀ (τ : Mem) (H2 : Heap) (locs2 : List Loc) (ls2 : Array Slot), res = τ → va_P D vwCl (WW 39 (cellC cy ad) ad τ) H2 → va_S (AC 39 ad) H0 H2 locs2 → lv_has ls2 6 [] → W p l e rm_X0_settle s m args below meth c H2 locs2 0 0 Q (F0 m 106 ls2 [])) :
    ∀ (k : Nat) (x3_ : Int) (x4_ : Int) (σ : Mem) (H : Heap) (locs : List Loc) (ls : Array Slot), f_X0_settle_L32 n x1_ x2_ k x3_ x4_ σ = some res → va_P D vwCl (WW 39 (cellC cy ad) ad σ) H → va_S (AC 39 ad) H0 H locs → lv_has ls 6 [(0, .ref (ad 27)), (1, .int (zI x1_)), (2, .int (zI x2_)), (3, .int (zI x3_)), (4, .int (zI x4_))] → W p l e rm_X0_settle s m args below meth c H locs 0 0 Q (F0 m 32 ls []) := by
  intro k
  induction k with
  | zero =>
    intro x3_ x4_ σ H locs ls hf
    have hf : none = some res := hf
    cases hf
  | succ k ih =>
    intro x3_ x4_ σ H locs ls hf hP hS hl
    rw [f_X0_settle_L32] at hf
    refine lv_iload_n S.1 S.2.1 dX0_settle_32 rfl (lv_at hl 3 rfl) ?_
    refine r_if_eq (tgt := 106) S dX0_settle_33 (by decide) (fun c1 => ?_) (fun c1 => ?_)
    · have hf := (if_pos c1).symm.trans hf
      exact k0 _ _ _ _ (Option.some.inj hf).symm hP hS (lv_sub hl [] rfl)
    · have hf := (if_neg c1).symm.trans hf
      refine lv_iload S.1 S.2.1 dX0_settle_36 (lv_at hl 4 rfl) ?_
      refine r_bipush S dX0_settle_38 (by decide) ?_
      refine lv_icmp_gt (tgt := 106) S.1 S.2.1 dX0_settle_40 (by decide) (fun c2 => ?_) (fun c2 => ?_)
      · have hf := (if_pos c2).symm.trans hf
        exact k0 _ _ _ _ (Option.some.inj hf).symm hP hS (lv_sub hl [] rfl)
      · have hf := (if_neg c2).symm.trans hf
        refine r_iconst S dX0_settle_43 ?_
        refine r_istore S rfl (lv2 := [(5, .int (zI 5)), (0, .ref (ad 27)), (1, .int (zI x1_)), (2, .int (zI x2_)), (3, .int (zI x3_)), (4, .int (zI x4_))]) dX0_settle_44 hl (by decide) rfl (fun ls hl => ?_)
        obtain ⟨x3, σ4, hq, hf⟩ := bL1_some hf
        refine w_X0_settle_L46 hO S hK n x1_ x2_ x4_ (fun x3 σ4 H locs ls he hP hS hl => ?_) n x3_ 5 σ _ _ _ hq hP hS (lv_sub hl [1, 2, 3, 4, 5, 0] rfl)
        cases he
        obtain ⟨x5, hx5, hf⟩ := nm_some hf
        refine r_iinc S hx5 (k0 := 4) (lv2 := [(4, .int (zI x5)), (0, .ref (ad 27)), (1, .int (zI x1_)), (2, .int (zI x2_)), (3, .int (zI x3))]) dX0_settle_100 hl rfl (by decide) rfl (fun ls hl => ?_)
        refine lv_goto (tgt := 32) S.1 S.2.1 dX0_settle_103 (by decide) ?_
        exact ih x3 x5 σ4 _ _ _ hf hP hS (lv_sub hl [1, 2, 3, 4, 0] rfl)
set_option maxHeartbeats 4000000 in
set_option maxRecDepth 100000 in
theorem c_X0_settle (l : Launch) (D : va_G) (cy : Nat → ClassId) (ad : Nat → Nat) (hO : adOK 39 ad) (n : Nat) (a0 : Int) (a1 : Int) (σ : Mem) {τ : Mem} (hf : f_X0_settle n a0 a1 σ = some τ) : Met l yX0_settle wsX0_settle rm_X0_settle (va_Pc [.ref (ad 27), .int (zI a0), .int (zI a1)] (PreW D cy 39 (cellC cy ad) ad σ)) (QV D 39 (cellC cy ad) ad τ) 0 0 (AC 39 ad) := by
  refine r_met (cc := cX0_settle) (maxL := 6) (ret := none) (own := RX0) (by decide) rfl rfl [.ref (ad 27), .int (zI a0), .int (zI a1)] (Nat.le_of_ble_eq_true rfl) ?_
  intro p e s m below meth c ls S hK hP hlk hr hl
  have hS : va_S (AC 39 ad) s.heap s.heap [] := va_S.rf
  have hl : lv_has ls 6 [(0, .ref (ad 27)), (1, .int (zI a0)), (2, .int (zI a1))] := hl
  unfold f_X0_settle at hf
  refine r_iconst S dX0_settle_0 ?_
  refine r_istore_n S rfl (lv2 := [(3, .int (zI 0)), (0, .ref (ad 27)), (1, .int (zI a0)), (2, .int (zI a1))]) dX0_settle_1 rfl hl (by decide) rfl (fun ls hl => ?_)
  obtain ⟨σ1, hq, hf⟩ := bV_some hf
  refine w_X0_settle_L2 hO S hK n a0 a1 (fun σ1 H locs ls he hP hS hl => ?_) n 0 σ _ _ _ hq hP hS (lv_sub hl [1, 2, 3, 0] rfl)
  cases he
  refine r_bipush S dX0_settle_26 (by decide) ?_
  refine r_istore_n S rfl (lv2 := [(3, .int (zI 63)), (0, .ref (ad 27)), (1, .int (zI a0)), (2, .int (zI a1))]) dX0_settle_28 rfl hl (by decide) rfl (fun ls hl => ?_)
  refine r_iconst S dX0_settle_29 ?_
  refine r_istore S rfl (lv2 := [(4, .int (zI 0)), (3, .int (zI 63)), (0, .ref (ad 27)), (1, .int (zI a0)), (2, .int (zI a1))]) dX0_settle_30 hl (by decide) rfl (fun ls hl => ?_)
  obtain ⟨σ2, hq, hf⟩ := bV_some hf
  refine w_X0_settle_L32 hO S hK n a0 a1 (fun σ2 H locs ls he hP hS hl => ?_) n 63 0 σ1 _ _ _ hq hP hS (lv_sub hl [2, 3, 4, 1, 0] rfl)
  cases he
  have e1 := Option.some.inj hf
  subst e1
  exact e_V S hlk hP hS hr dX0_settle_106
def rm_X0_fill : Room := { frames := 4, cells := 0, slots := 0, locals := 114 }
theorem k_X0_fill_1 : (.fieldLink RX0 29 "MendTexts$Chart" "word" "LMendTexts$Word;" : Cond) ∈ wsX0_fill := List.mem_of_getElem? (i := 1) (by decide +kernel)
theorem k_X0_fill_2 : (.fieldLink RX0 21 "MendTexts$Chart" "grammar" "LMendTexts$Grammar;" : Cond) ∈ wsX0_fill := List.mem_of_getElem? (i := 2) (by decide +kernel)
theorem k_X0_fill_3 : (.fieldLink RX0 17 "MendTexts$Chart" "users" "[I" : Cond) ∈ wsX0_fill := List.mem_of_getElem? (i := 3) (by decide +kernel)
theorem k_X0_fill_4 : (.fieldLink RX0 40 "MendTexts$Word" "length" "I" : Cond) ∈ wsX0_fill := List.mem_of_getElem? (i := 4) (by decide +kernel)
theorem h_X0_fill_X0 : ∀ w ∈ u_ws RX0 TX0 5, w ∈ wsX0_fill := mem_places _ [126, 127, 128, 129, 130] (by decide +kernel)
theorem h_X0_fill_X10 : ∀ w ∈ u_ws RX10 TX10 2, w ∈ wsX0_fill := mem_places _ [131, 132] (by decide +kernel)
theorem cw_X0_fill_X0_fillLetters {s : State} {args : Array Value} (hts : ∀ w ∈ wsX0_fill, w.before args s = true) : CallW rm_X0_fill s args RX0 RX0 37 yX0_fillLetters cX0_fillLetters 4 none wsX0_fillLetters rm_X0_fillLetters 0 0 0 := cwV 0 hts gX0_fill_X0_fillLetters rfl rfl rfl (by decide +kernel) ⟨Nat.le_of_ble_eq_true rfl, Nat.le_of_ble_eq_true rfl⟩
theorem cw_X0_fill_X0_settle {s : State} {args : Array Value} (hts : ∀ w ∈ wsX0_fill, w.before args s = true) : CallW rm_X0_fill s args RX0 RX0 46 yX0_settle cX0_settle 6 none wsX0_settle rm_X0_settle 0 0 2 := cwV 2 hts gX0_fill_X0_settle rfl rfl rfl (by decide +kernel) ⟨Nat.le_of_ble_eq_true rfl, Nat.le_of_ble_eq_true rfl⟩
theorem cw_X0_fill_X4_findUsers {s : State} {args : Array Value} (hts : ∀ w ∈ wsX0_fill, w.before args s = true) : CallW rm_X0_fill s args RX0 RX4 33 yX4_findUsers cX4_findUsers 5 none wsX4_findUsers rm_X4_findUsers 0 0 1 := cwV 1 hts gX0_fill_X4_findUsers rfl rfl rfl (by decide +kernel) ⟨Nat.le_of_ble_eq_true rfl, Nat.le_of_ble_eq_true rfl⟩
set_option maxHeartbeats 4000000 in
set_option maxRecDepth 100000 in
theorem w_X0_fill_L35 {p : Program} {l : Launch} {e : Env} {s : State} {m : MethodId} {args : Array Value} {below : List Frame} {meth : Method} {c : Code} {Q : State → Prop} {D : va_G} {cy : Nat → ClassId} {ad : Nat → Nat} {H0 : Heap} (hO : adOK 39 ad) (S : CallFix p m c cX0_fill 4 s args wsX0_fill RX0) (hK : KK D cy s) (n : Nat) (w0 : Nat) (hw0 : isW w0) (x2_ : Int) {res : Mem} (k0 : ∀ (τ : Mem) (H2 : Heap) (locs2 : List Loc) (ls2 : Array Slot), res = τ → va_P D vwCl (WW 39 (cellC cy ad) ad τ) H2 → va_S (AC 39 ad) H0 H2 locs2 → lv_has ls2 4 [(0, .ref (ad 27)), (2, .int (zI x2_))] → W p l e rm_X0_fill s m args below meth c H2 locs2 0 0 Q (F0 m 62 ls2 [])) :
    ∀ (k : Nat) (x3_ : Int) (σ : Mem) (H : Heap) (locs : List Loc) (ls : Array Slot), f_X0_fill_L35 n w0 x2_ k x3_ σ = some res → va_P D vwCl (WW 39 (cellC cy ad) ad σ) H → va_S (AC 39 ad) H0 H locs → lv_has ls 4 [(0, .ref (ad 27)), (2, .int (zI x2_)), (3, .int (zI x3_))] → W p l e rm_X0_fill s m args below meth c H locs 0 0 Q (F0 m 35 ls []) := by
  intro k
  induction k with
  | zero =>
    intro x3_ σ H locs ls hf
    have hf : none = some res := hf
    cases hf
  | succ k ih =>
    intro x3_ σ H locs ls hf hP hS hl
    rw [f_X0_fill_L35] at hf
    refine lv_iload_n S.1 S.2.1 dX0_fill_35 rfl (lv_at hl 2 rfl) ?_
    refine lv_iload_n S.1 S.2.1 dX0_fill_36 rfl (lv_at hl 1 rfl) ?_
    refine r_iadd S dX0_fill_37 ?_
    refine lv_aload_n S.1 S.2.1 dX0_fill_38 rfl (lv_at hl 0 rfl) ?_
    obtain ⟨hw1, hf⟩ := gd_some hf
    refine r_get S hK hP (by decide) rfl rfl h_X0_fill_X0 2 (by decide) k_X0_fill_1 rfl dX0_fill_39 ?_
    refine r_get S hK hP (ltW hw1) (cellW cy ad hw1 _) rfl h_X0_fill_X10 1 (by decide) k_X0_fill_4 rfl dX0_fill_42 ?_
    refine lv_icmp_gt (tgt := 62) S.1 S.2.1 dX0_fill_45 (by decide) (fun c2 => ?_) (fun c2 => ?_)
    · have hf := (if_pos c2).symm.trans hf
      exact k0 _ _ _ _ (Option.some.inj hf).symm hP hS (lv_sub hl [0, 1] rfl)
    · have hf := (if_neg c2).symm.trans hf
      refine lv_aload_n S.1 S.2.1 dX0_fill_48 rfl (lv_at hl 0 rfl) ?_
      refine lv_iload_n S.1 S.2.1 dX0_fill_49 rfl (lv_at hl 2 rfl) ?_
      refine lv_iload_n S.1 S.2.1 dX0_fill_50 rfl (lv_at hl 2 rfl) ?_
      refine lv_iload_n S.1 S.2.1 dX0_fill_51 rfl (lv_at hl 1 rfl) ?_
      refine r_iadd S dX0_fill_52 ?_
      obtain ⟨σ4, hq3, hf⟩ := bV_some hf
      refine r_callVV S hK hP hS (by decide) rfl rfl [.int (zI x3_), .int (zI (x3_ + x2_))] (c_X0_settle l D cy ad hO n x3_ (x3_ + x2_) σ hq3) (cw_X0_fill_X0_settle S.2.2.2.2) rfl hl.1 (rest := []) rfl (Nat.le_of_ble_eq_true rfl) dX0_fill_53 ⟨Nat.zero_le _, Nat.zero_le _⟩ (fun H locs hP hS => ?_)
      obtain ⟨x5, hx5, hf⟩ := nm_some hf
      refine r_iinc S hx5 (k0 := 2) (lv2 := [(3, .int (zI x5)), (0, .ref (ad 27)), (2, .int (zI x2_))]) dX0_fill_56 hl rfl (by decide) rfl (fun ls hl => ?_)
      refine lv_goto (tgt := 35) S.1 S.2.1 dX0_fill_59 (by decide) ?_
      exact ih x5 σ4 _ _ _ hf hP hS (lv_sub hl [1, 2, 0] rfl)
set_option maxHeartbeats 4000000 in
set_option maxRecDepth 100000 in
theorem w_X0_fill_L22 {p : Program} {l : Launch} {e : Env} {s : State} {m : MethodId} {args : Array Value} {below : List Frame} {meth : Method} {c : Code} {Q : State → Prop} {D : va_G} {cy : Nat → ClassId} {ad : Nat → Nat} {H0 : Heap} (hO : adOK 39 ad) (S : CallFix p m c cX0_fill 4 s args wsX0_fill RX0) (hK : KK D cy s) (n : Nat) (w0 : Nat) (hw0 : isW w0) {res : Mem} (k0 : ∀ (τ : Mem) (H2 : Heap) (locs2 : List Loc) (ls2 : Array Slot), res = τ → va_P D vwCl (WW 39 (cellC cy ad) ad τ) H2 → va_S (AC 39 ad) H0 H2 locs2 → lv_has ls2 4 [] → W p l e rm_X0_fill s m args below meth c H2 locs2 0 0 Q (F0 m 68 ls2 [])) :
    ∀ (k : Nat) (x2_ : Int) (σ : Mem) (H : Heap) (locs : List Loc) (ls : Array Slot), f_X0_fill_L22 n w0 k x2_ σ = some res → va_P D vwCl (WW 39 (cellC cy ad) ad σ) H → va_S (AC 39 ad) H0 H locs → lv_has ls 4 [(0, .ref (ad 27)), (2, .int (zI x2_))] → W p l e rm_X0_fill s m args below meth c H locs 0 0 Q (F0 m 22 ls []) := by
  intro k
  induction k with
  | zero =>
    intro x2_ σ H locs ls hf
    have hf : none = some res := hf
    cases hf
  | succ k ih =>
    intro x2_ σ H locs ls hf hP hS hl
    rw [f_X0_fill_L22] at hf
    refine lv_iload_n S.1 S.2.1 dX0_fill_22 rfl (lv_at hl 1 rfl) ?_
    refine lv_aload_n S.1 S.2.1 dX0_fill_23 rfl (lv_at hl 0 rfl) ?_
    obtain ⟨hw1, hf⟩ := gd_some hf
    refine r_get S hK hP (by decide) rfl rfl h_X0_fill_X0 2 (by decide) k_X0_fill_1 rfl dX0_fill_24 ?_
    refine r_get S hK hP (ltW hw1) (cellW cy ad hw1 _) rfl h_X0_fill_X10 1 (by decide) k_X0_fill_4 rfl dX0_fill_27 ?_
    refine lv_icmp_gt (tgt := 68) S.1 S.2.1 dX0_fill_30 (by decide) (fun c2 => ?_) (fun c2 => ?_)
    · have hf := (if_pos c2).symm.trans hf
      exact k0 _ _ _ _ (Option.some.inj hf).symm hP hS (lv_sub hl [] rfl)
    · have hf := (if_neg c2).symm.trans hf
      refine r_iconst S dX0_fill_33 ?_
      refine r_istore_n S rfl (lv2 := [(3, .int (zI 0)), (0, .ref (ad 27)), (2, .int (zI x2_))]) dX0_fill_34 rfl hl (by decide) rfl (fun ls hl => ?_)
      obtain ⟨σ3, hq, hf⟩ := bV_some hf
      refine w_X0_fill_L35 hO S hK n w0 hw0 x2_ (fun σ3 H locs ls he hP hS hl => ?_) n 0 σ _ _ _ hq hP hS (lv_sub hl [1, 2, 0] rfl)
      cases he
      obtain ⟨x4, hx4, hf⟩ := nm_some hf
      refine r_iinc S hx4 (k0 := 1) (lv2 := [(2, .int (zI x4)), (0, .ref (ad 27))]) dX0_fill_62 hl rfl (by decide) rfl (fun ls hl => ?_)
      refine lv_goto (tgt := 22) S.1 S.2.1 dX0_fill_65 (by decide) ?_
      exact ih x4 σ3 _ _ _ hf hP hS (lv_sub hl [1, 0] rfl)
set_option maxHeartbeats 4000000 in
set_option maxRecDepth 100000 in
theorem c_X0_fill (l : Launch) (D : va_G) (cy : Nat → ClassId) (ad : Nat → Nat) (hO : adOK 39 ad) (n : Nat) (w0 : Nat) (hw0 : isW w0) (σ : Mem) {τ : Mem} (hf : f_X0_fill n w0 σ = some τ) : Met l yX0_fill wsX0_fill rm_X0_fill (va_Pc [.ref (ad 27), .ref (ad w0)] (PreW D cy 39 (cellC cy ad) ad σ)) (QV D 39 (cellC cy ad) ad τ) 0 0 (AC 39 ad) := by
  refine r_met (cc := cX0_fill) (maxL := 4) (ret := none) (own := RX0) (by decide) rfl rfl [.ref (ad 27), .ref (ad w0)] (Nat.le_of_ble_eq_true rfl) ?_
  intro p e s m below meth c ls S hK hP hlk hr hl
  have hS : va_S (AC 39 ad) s.heap s.heap [] := va_S.rf
  have hl : lv_has ls 4 [(0, .ref (ad 27)), (1, .ref (ad w0))] := hl
  unfold f_X0_fill at hf
  refine lv_aload_n S.1 S.2.1 dX0_fill_0 rfl (lv_at hl 0 rfl) ?_
  refine lv_aload_n S.1 S.2.1 dX0_fill_1 rfl (lv_at hl 1 rfl) ?_
  obtain ⟨σ1, hσ1, hf⟩ := nm_some hf
  refine r_put S hK hP hO hS (by decide) rfl rfl h_X0_fill_X0 tyX0 tyX0_ok nmX0 2 (by decide) k_X0_fill_1 rfl (tyX0_ok 2 (by decide)) rfl rfl (Nat.le_of_ble_eq_true rfl) hσ1 rfl dX0_fill_2 (fun H locs hP hS => ?_)
  refine lv_aload_n S.1 S.2.1 dX0_fill_5 rfl (lv_at hl 0 rfl) ?_
  refine r_get S hK hP (by decide) rfl rfl h_X0_fill_X0 0 (by decide) k_X0_fill_2 rfl dX0_fill_6 ?_
  refine lv_aload_n S.1 S.2.1 dX0_fill_9 rfl (lv_at hl 0 rfl) ?_
  refine r_get S hK hP (by decide) rfl rfl h_X0_fill_X0 4 (by decide) k_X0_fill_3 rfl dX0_fill_10 ?_
  obtain ⟨σ3, hq2, hf⟩ := bV_some hf
  refine r_callVV S hK hP hS (by decide) rfl rfl [.ref (ad 29)] (c_X4_findUsers l D cy ad hO n σ1 hq2) (cw_X0_fill_X4_findUsers S.2.2.2.2) rfl hl.1 (rest := []) rfl (Nat.le_of_ble_eq_true rfl) dX0_fill_13 ⟨Nat.zero_le _, Nat.zero_le _⟩ (fun H locs hP hS => ?_)
  refine lv_aload_n S.1 S.2.1 dX0_fill_16 rfl (lv_at hl 0 rfl) ?_
  obtain ⟨σ5, hq4, hf⟩ := bV_some hf
  refine r_callVV S hK hP hS (by decide) rfl rfl [] (c_X0_fillLetters l D cy ad hO n σ3 hq4) (cw_X0_fill_X0_fillLetters S.2.2.2.2) rfl hl.1 (rest := []) rfl (Nat.le_of_ble_eq_true rfl) dX0_fill_17 ⟨Nat.zero_le _, Nat.zero_le _⟩ (fun H locs hP hS => ?_)
  refine r_iconst S dX0_fill_20 ?_
  refine r_istore_n S rfl (lv2 := [(2, .int (zI 0)), (0, .ref (ad 27)), (1, .ref (ad w0))]) dX0_fill_21 rfl hl (by decide) rfl (fun ls hl => ?_)
  obtain ⟨σ6, hq, hf⟩ := bV_some hf
  refine w_X0_fill_L22 hO S hK n w0 hw0 (fun σ6 H locs ls he hP hS hl => ?_) n 0 σ5 _ _ _ hq hP hS (lv_sub hl [1, 0] rfl)
  cases he
  have e1 := Option.some.inj hf
  subst e1
  exact e_V S hlk hP hS hr dX0_fill_68
def rm_X3_costOf : Room := { frames := 0, cells := 0, slots := 0, locals := 0 }
set_option maxHeartbeats 4000000 in
set_option maxRecDepth 100000 in
theorem c_X3_costOf (l : Launch) (D : va_G) (cy : Nat → ClassId) (ad : Nat → Nat) (hO : adOK 39 ad) (a0 : Int) (σ : Mem) {v : Int} (hf : f_X3_costOf a0 = some v) : Met l yX3_costOf wsX3_costOf rm_X3_costOf (va_Pc [.long (zL a0)] (PreW D cy 39 (cellC cy ad) ad σ)) (QI D 39 (cellC cy ad) ad v σ) 0 0 (AC 39 ad) := by
  refine r_met (cc := cX3_costOf) (maxL := 2) (ret := (some .int)) (own := RX3) (by decide) rfl rfl [.long (zL a0)] (Nat.le_of_ble_eq_true rfl) ?_
  intro p e s m below meth c ls S hK hP hlk hr hl
  have hS : va_S (AC 39 ad) s.heap s.heap [] := va_S.rf
  have hl : lv_has ls 2 [(0, .long (zL a0))] := hl
  unfold f_X3_costOf at hf
  refine lv_lload_n S.1 S.2.1 dX3_costOf_0 rfl (lv_at hl 0 rfl) ?_
  refine r_bipush S dX3_costOf_1 (by decide) ?_
  refine r_lshr S dX3_costOf_3 ?_
  refine r_l2i S dX3_costOf_4 ?_
  have e1 := Option.some.inj hf
  subst e1
  exact e_I S hlk hP hS hr dX3_costOf_5
def rm_X0_fitsAsItIs : Room := { frames := 2, cells := 0, slots := 0, locals := 44 }
theorem k_X0_fitsAsItIs_1 : (.constantLong RX0 64 (9223372036854775807) : Cond) ∈ wsX0_fitsAsItIs := List.mem_of_getElem? (i := 1) (by decide +kernel)
theorem cw_X0_fitsAsItIs_X0_fitOf {s : State} {args : Array Value} (hts : ∀ w ∈ wsX0_fitsAsItIs, w.before args s = true) : CallW rm_X0_fitsAsItIs s args RX0 RX0 54 yX0_fitOf cX0_fitOf 4 (some .long) wsX0_fitOf rm_X0_fitOf 0 0 3 := cwV 3 hts gX0_fitsAsItIs_X0_fitOf rfl rfl rfl (by decide +kernel) ⟨Nat.le_of_ble_eq_true rfl, Nat.le_of_ble_eq_true rfl⟩
theorem cw_X0_fitsAsItIs_X3_costOf {s : State} {args : Array Value} (hts : ∀ w ∈ wsX0_fitsAsItIs, w.before args s = true) : CallB rm_X0_fitsAsItIs s args RX0 66 yX3_costOf cX3_costOf 2 (some .int) wsX3_costOf rm_X3_costOf 0 0 1 ∧ (Cond.static yX3_costOf).before args s = true := va_cwS 1 hts gX0_fitsAsItIs_X3_costOf rfl rfl rfl (by decide +kernel) ⟨Nat.le_of_ble_eq_true rfl, Nat.le_of_ble_eq_true rfl⟩
set_option maxHeartbeats 4000000 in
set_option maxRecDepth 100000 in
theorem c_X0_fitsAsItIs (l : Launch) (D : va_G) (cy : Nat → ClassId) (ad : Nat → Nat) (hO : adOK 39 ad) (a0 : Int) (a1 : Int) (a2 : Int) (σ : Mem) {v : Int} (hf : f_X0_fitsAsItIs a0 a1 a2 σ = some v) : Met l yX0_fitsAsItIs wsX0_fitsAsItIs rm_X0_fitsAsItIs (va_Pc [.ref (ad 27), .int (zI a0), .int (zI a1), .int (zI a2)] (PreW D cy 39 (cellC cy ad) ad σ)) (QI D 39 (cellC cy ad) ad v σ) 0 0 (AC 39 ad) := by
  refine r_met (cc := cX0_fitsAsItIs) (maxL := 6) (ret := (some .boolean)) (own := RX0) (by decide) rfl rfl [.ref (ad 27), .int (zI a0), .int (zI a1), .int (zI a2)] (Nat.le_of_ble_eq_true rfl) ?_
  intro p e s m below meth c ls S hK hP hlk hr hl
  have hS : va_S (AC 39 ad) s.heap s.heap [] := va_S.rf
  have hl : lv_has ls 6 [(0, .ref (ad 27)), (1, .int (zI a0)), (2, .int (zI a1)), (3, .int (zI a2))] := hl
  unfold f_X0_fitsAsItIs at hf
  refine lv_aload_n S.1 S.2.1 dX0_fitsAsItIs_0 rfl (lv_at hl 0 rfl) ?_
  refine lv_iload_n S.1 S.2.1 dX0_fitsAsItIs_1 rfl (lv_at hl 1 rfl) ?_
  refine lv_iload_n S.1 S.2.1 dX0_fitsAsItIs_2 rfl (lv_at hl 2 rfl) ?_
  refine lv_iload_n S.1 S.2.1 dX0_fitsAsItIs_3 rfl (lv_at hl 3 rfl) ?_
  obtain ⟨y2, hq1, hf⟩ := bV_some hf
  refine r_callVL S hK hP hS (by decide) rfl rfl [.int (zI a0), .int (zI a1), .int (zI a2)] (c_X0_fitOf l D cy ad hO a0 a1 a2 σ hq1) (cw_X0_fitsAsItIs_X0_fitOf S.2.2.2.2) rfl hl.1 (rest := []) rfl (Nat.le_of_ble_eq_true rfl) dX0_fitsAsItIs_4 ⟨Nat.zero_le _, Nat.zero_le _⟩ (fun H locs hP hS => ?_)
  refine r_lstore S rfl (lv2 := [(4, .long (zL y2)), (0, .ref (ad 27)), (1, .int (zI a0)), (2, .int (zI a1)), (3, .int (zI a2))]) dX0_fitsAsItIs_7 hl (by decide) rfl (fun ls hl => ?_)
  refine lv_lload S.1 S.2.1 dX0_fitsAsItIs_9 (lv_at hl 0 rfl) ?_
  refine r_ldc2 S 9223372036854775807 (by decide +kernel) k_X0_fitsAsItIs_1 dX0_fitsAsItIs_11 ?_
  refine r_lcmp S dX0_fitsAsItIs_14 ?_
  refine r_if_eq (tgt := 30) S dX0_fitsAsItIs_15 (by decide) (fun c3 => ?_) (fun c3 => ?_)
  · have hf := (if_pos c3).symm.trans hf
    refine r_iconst S dX0_fitsAsItIs_30 ?_
    have e1 := Option.some.inj hf
    subst e1
    exact e_Z S hlk hP hS (Or.inl rfl) hr dX0_fitsAsItIs_31
  · have hf := (if_neg c3).symm.trans hf
    refine lv_lload S.1 S.2.1 dX0_fitsAsItIs_18 (lv_at hl 0 rfl) ?_
    obtain ⟨y5, hq4, hf⟩ := bV_some hf
    refine r_callSI S hK hP hS [.long (zL y2)] (c_X3_costOf l D cy ad hO y2 σ hq4) (cw_X0_fitsAsItIs_X3_costOf S.2.2.2.2) rfl hl.1 (rest := []) rfl (Nat.le_of_ble_eq_true rfl) dX0_fitsAsItIs_20 ⟨Nat.zero_le _, Nat.zero_le _⟩ (fun H locs hP hS => ?_)
    refine r_if_ne (tgt := 30) S dX0_fitsAsItIs_23 (by decide) (fun c6 => ?_) (fun c6 => ?_)
    · have hf := (if_neg c6).symm.trans hf
      refine r_iconst S dX0_fitsAsItIs_30 ?_
      have e1 := Option.some.inj hf
      subst e1
      exact e_Z S hlk hP hS (Or.inl rfl) hr dX0_fitsAsItIs_31
    · have hf := (if_pos c6).symm.trans hf
      refine r_iconst S dX0_fitsAsItIs_26 ?_
      refine lv_goto (tgt := 31) S.1 S.2.1 dX0_fitsAsItIs_27 (by decide) ?_
      have e1 := Option.some.inj hf
      subst e1
      exact e_Z S hlk hP hS (Or.inr rfl) hr dX0_fitsAsItIs_31
def rm_X0_leastOf : Room := { frames := 2, cells := 0, slots := 0, locals := 44 }
theorem cw_X0_leastOf_X0_fitOf {s : State} {args : Array Value} (hts : ∀ w ∈ wsX0_leastOf, w.before args s = true) : CallW rm_X0_leastOf s args RX0 RX0 54 yX0_fitOf cX0_fitOf 4 (some .long) wsX0_fitOf rm_X0_fitOf 0 0 3 := cwV 3 hts gX0_leastOf_X0_fitOf rfl rfl rfl (by decide +kernel) ⟨Nat.le_of_ble_eq_true rfl, Nat.le_of_ble_eq_true rfl⟩
set_option maxHeartbeats 4000000 in
set_option maxRecDepth 100000 in
theorem c_X0_leastOf (l : Launch) (D : va_G) (cy : Nat → ClassId) (ad : Nat → Nat) (hO : adOK 39 ad) (a0 : Int) (σ : Mem) {v : Int} (hf : f_X0_leastOf a0 σ = some v) : Met l yX0_leastOf wsX0_leastOf rm_X0_leastOf (va_Pc [.ref (ad 27), .int (zI a0)] (PreW D cy 39 (cellC cy ad) ad σ)) (QL D 39 (cellC cy ad) ad v σ) 0 0 (AC 39 ad) := by
  refine r_met (cc := cX0_leastOf) (maxL := 2) (ret := (some .long)) (own := RX0) (by decide) rfl rfl [.ref (ad 27), .int (zI a0)] (Nat.le_of_ble_eq_true rfl) ?_
  intro p e s m below meth c ls S hK hP hlk hr hl
  have hS : va_S (AC 39 ad) s.heap s.heap [] := va_S.rf
  have hl : lv_has ls 2 [(0, .ref (ad 27)), (1, .int (zI a0))] := hl
  unfold f_X0_leastOf at hf
  refine lv_aload_n S.1 S.2.1 dX0_leastOf_0 rfl (lv_at hl 0 rfl) ?_
  refine r_iconst S dX0_leastOf_1 ?_
  refine lv_iload_n S.1 S.2.1 dX0_leastOf_2 rfl (lv_at hl 1 rfl) ?_
  refine r_iadd S dX0_leastOf_3 ?_
  refine r_iconst S dX0_leastOf_4 ?_
  refine r_iconst S dX0_leastOf_5 ?_
  obtain ⟨y2, hq1, hf⟩ := bV_some hf
  refine r_callVL S hK hP hS (by decide) rfl rfl [.int (zI (4 + a0)), .int (zI 0), .int (zI 0)] (c_X0_fitOf l D cy ad hO (4 + a0) 0 0 σ hq1) (cw_X0_leastOf_X0_fitOf S.2.2.2.2) rfl hl.1 (rest := []) rfl (Nat.le_of_ble_eq_true rfl) dX0_leastOf_6 ⟨Nat.zero_le _, Nat.zero_le _⟩ (fun H locs hP hS => ?_)
  have e1 := Option.some.inj hf
  subst e1
  exact e_L S hlk hP hS hr dX0_leastOf_9
def rm_X0_length : Room := { frames := 0, cells := 0, slots := 0, locals := 0 }
theorem k_X0_length_1 : (.fieldLink RX0 29 "MendTexts$Chart" "word" "LMendTexts$Word;" : Cond) ∈ wsX0_length := List.mem_of_getElem? (i := 1) (by decide +kernel)
theorem k_X0_length_2 : (.fieldLink RX0 40 "MendTexts$Word" "length" "I" : Cond) ∈ wsX0_length := List.mem_of_getElem? (i := 2) (by decide +kernel)
theorem h_X0_length_X0 : ∀ w ∈ u_ws RX0 TX0 5, w ∈ wsX0_length := mem_places _ [3, 4, 5, 6, 7] (by decide +kernel)
theorem h_X0_length_X10 : ∀ w ∈ u_ws RX10 TX10 2, w ∈ wsX0_length := mem_places _ [8, 9] (by decide +kernel)
set_option maxHeartbeats 4000000 in
set_option maxRecDepth 100000 in
theorem c_X0_length (l : Launch) (D : va_G) (cy : Nat → ClassId) (ad : Nat → Nat) (hO : adOK 39 ad) (σ : Mem) {v : Int} (hf : f_X0_length σ = some v) : Met l yX0_length wsX0_length rm_X0_length (va_Pc [.ref (ad 27)] (PreW D cy 39 (cellC cy ad) ad σ)) (QI D 39 (cellC cy ad) ad v σ) 0 0 (AC 39 ad) := by
  refine r_met (cc := cX0_length) (maxL := 1) (ret := (some .int)) (own := RX0) (by decide) rfl rfl [.ref (ad 27)] (Nat.le_of_ble_eq_true rfl) ?_
  intro p e s m below meth c ls S hK hP hlk hr hl
  have hS : va_S (AC 39 ad) s.heap s.heap [] := va_S.rf
  have hl : lv_has ls 1 [(0, .ref (ad 27))] := hl
  unfold f_X0_length at hf
  refine lv_aload_n S.1 S.2.1 dX0_length_0 rfl (lv_at hl 0 rfl) ?_
  obtain ⟨hw1, hf⟩ := gd_some hf
  refine r_get S hK hP (by decide) rfl rfl h_X0_length_X0 2 (by decide) k_X0_length_1 rfl dX0_length_1 ?_
  refine r_get S hK hP (ltW hw1) (cellW cy ad hw1 _) rfl h_X0_length_X10 1 (by decide) k_X0_length_2 rfl dX0_length_4 ?_
  have e1 := Option.some.inj hf
  subst e1
  exact e_I S hlk hP hS hr dX0_length_7
def rm_X0_letterStandsAt : Room := { frames := 1, cells := 0, slots := 0, locals := 21 }
theorem k_X0_letterStandsAt_1 : (.fieldLink RX0 29 "MendTexts$Chart" "word" "LMendTexts$Word;" : Cond) ∈ wsX0_letterStandsAt := List.mem_of_getElem? (i := 1) (by decide +kernel)
theorem h_X0_letterStandsAt_X0 : ∀ w ∈ u_ws RX0 TX0 5, w ∈ wsX0_letterStandsAt := mem_places _ [9, 10, 11, 12, 13] (by decide +kernel)
theorem cw_X0_letterStandsAt_X10_letterAt {s : State} {args : Array Value} (hts : ∀ w ∈ wsX0_letterStandsAt, w.before args s = true) : CallW rm_X0_letterStandsAt s args RX0 RX10 58 yX10_letterAt cX10_letterAt 2 (some .int) wsX10_letterAt rm_X10_letterAt 0 0 1 := cwV 1 hts gX0_letterStandsAt_X10_letterAt rfl rfl rfl (by decide +kernel) ⟨Nat.le_of_ble_eq_true rfl, Nat.le_of_ble_eq_true rfl⟩
set_option maxHeartbeats 4000000 in
set_option maxRecDepth 100000 in
theorem c_X0_letterStandsAt (l : Launch) (D : va_G) (cy : Nat → ClassId) (ad : Nat → Nat) (hO : adOK 39 ad) (a0 : Int) (a1 : Int) (σ : Mem) {v : Int} (hf : f_X0_letterStandsAt a0 a1 σ = some v) : Met l yX0_letterStandsAt wsX0_letterStandsAt rm_X0_letterStandsAt (va_Pc [.ref (ad 27), .int (zI a0), .int (zI a1)] (PreW D cy 39 (cellC cy ad) ad σ)) (QI D 39 (cellC cy ad) ad v σ) 0 0 (AC 39 ad) := by
  refine r_met (cc := cX0_letterStandsAt) (maxL := 3) (ret := (some .boolean)) (own := RX0) (by decide) rfl rfl [.ref (ad 27), .int (zI a0), .int (zI a1)] (Nat.le_of_ble_eq_true rfl) ?_
  intro p e s m below meth c ls S hK hP hlk hr hl
  have hS : va_S (AC 39 ad) s.heap s.heap [] := va_S.rf
  have hl : lv_has ls 3 [(0, .ref (ad 27)), (1, .int (zI a0)), (2, .int (zI a1))] := hl
  unfold f_X0_letterStandsAt at hf
  refine lv_aload_n S.1 S.2.1 dX0_letterStandsAt_0 rfl (lv_at hl 0 rfl) ?_
  obtain ⟨hw1, hf⟩ := gd_some hf
  refine r_get S hK hP (by decide) rfl rfl h_X0_letterStandsAt_X0 2 (by decide) k_X0_letterStandsAt_1 rfl dX0_letterStandsAt_1 ?_
  refine lv_iload_n S.1 S.2.1 dX0_letterStandsAt_4 rfl (lv_at hl 2 rfl) ?_
  obtain ⟨y3, hq2, hf⟩ := bV_some hf
  refine r_callVI S hK hP hS (ltW hw1) (cellW cy ad hw1 _) rfl [.int (zI a1)] (c_X10_letterAt l D cy ad hO ((σ 27 2).toNat) hw1 a1 σ hq2) (cw_X0_letterStandsAt_X10_letterAt S.2.2.2.2) rfl hl.1 (rest := []) rfl (Nat.le_of_ble_eq_true rfl) dX0_letterStandsAt_5 ⟨Nat.zero_le _, Nat.zero_le _⟩ (fun H locs hP hS => ?_)
  refine lv_iload_n S.1 S.2.1 dX0_letterStandsAt_8 rfl (lv_at hl 1 rfl) ?_
  refine lv_icmp_ne (tgt := 16) S.1 S.2.1 dX0_letterStandsAt_9 (by decide) (fun c4 => ?_) (fun c4 => ?_)
  · have hf := (if_neg c4).symm.trans hf
    refine r_iconst S dX0_letterStandsAt_16 ?_
    have e1 := Option.some.inj hf
    subst e1
    exact e_Z S hlk hP hS (Or.inl rfl) hr dX0_letterStandsAt_17
  · have hf := (if_pos c4).symm.trans hf
    refine r_iconst S dX0_letterStandsAt_12 ?_
    refine lv_goto (tgt := 17) S.1 S.2.1 dX0_letterStandsAt_13 (by decide) ?_
    have e1 := Option.some.inj hf
    subst e1
    exact e_Z S hlk hP hS (Or.inr rfl) hr dX0_letterStandsAt_17
def rm_X10_add : Room := { frames := 0, cells := 0, slots := 0, locals := 0 }
theorem k_X10_add_1 : (.fieldLink RX10 7 "MendTexts$Word" "length" "I" : Cond) ∈ wsX10_add := List.mem_of_getElem? (i := 1) (by decide +kernel)
theorem k_X10_add_2 : (.fieldLink RX10 13 "MendTexts$Word" "letters" "[I" : Cond) ∈ wsX10_add := List.mem_of_getElem? (i := 2) (by decide +kernel)
theorem h_X10_add_X10 : ∀ w ∈ u_ws RX10 TX10 2, w ∈ wsX10_add := mem_places _ [3, 4] (by decide +kernel)
set_option maxHeartbeats 4000000 in
set_option maxRecDepth 100000 in
theorem c_X10_add (l : Launch) (D : va_G) (cy : Nat → ClassId) (ad : Nat → Nat) (hO : adOK 39 ad) (w : Nat) (hw : isW w) (a0 : Int) (σ : Mem) {τ : Mem} (hf : f_X10_add w a0 σ = some τ) : Met l yX10_add wsX10_add rm_X10_add (va_Pc [.ref (ad w), .int (zI a0)] (PreW D cy 39 (cellC cy ad) ad σ)) (QV D 39 (cellC cy ad) ad τ) 0 0 (AC 39 ad) := by
  refine r_met (cc := cX10_add) (maxL := 2) (ret := none) (own := RX10) (by decide) rfl rfl [.ref (ad w), .int (zI a0)] (Nat.le_of_ble_eq_true rfl) ?_
  intro p e s m below meth c ls S hK hP hlk hr hl
  have hS : va_S (AC 39 ad) s.heap s.heap [] := va_S.rf
  have hl : lv_has ls 2 [(0, .ref (ad w)), (1, .int (zI a0))] := hl
  unfold f_X10_add at hf
  refine lv_aload_n S.1 S.2.1 dX10_add_0 rfl (lv_at hl 0 rfl) ?_
  refine r_get S hK hP (ltW hw) (cellW cy ad hw _) rfl h_X10_add_X10 1 (by decide) k_X10_add_1 rfl dX10_add_1 ?_
  refine r_if_lt (tgt := 39) S dX10_add_4 (by decide) (fun c1 => ?_) (fun c1 => ?_)
  · have hf := (if_pos c1).symm.trans hf
    have e1 := Option.some.inj hf
    subst e1
    exact e_V S hlk hP hS hr dX10_add_39
  · have hf := (if_neg c1).symm.trans hf
    refine lv_aload_n S.1 S.2.1 dX10_add_7 rfl (lv_at hl 0 rfl) ?_
    refine r_get S hK hP (ltW hw) (cellW cy ad hw _) rfl h_X10_add_X10 1 (by decide) k_X10_add_1 rfl dX10_add_8 ?_
    refine lv_aload_n S.1 S.2.1 dX10_add_11 rfl (lv_at hl 0 rfl) ?_
    refine r_get S hK hP (ltW hw) (cellW cy ad hw _) rfl h_X10_add_X10 0 (by decide) k_X10_add_2 rfl dX10_add_12 ?_
    refine r_alen S hK hP (ltW1 hw) (n := lenW w) (cellWA cy ad hw) dX10_add_15 ?_
    refine lv_icmp_ge (tgt := 39) S.1 S.2.1 dX10_add_16 (by decide) (fun c2 => ?_) (fun c2 => ?_)
    · have hf := (if_pos c2).symm.trans hf
      have e1 := Option.some.inj hf
      subst e1
      exact e_V S hlk hP hS hr dX10_add_39
    · have hf := (if_neg c2).symm.trans hf
      refine lv_aload_n S.1 S.2.1 dX10_add_19 rfl (lv_at hl 0 rfl) ?_
      refine r_get S hK hP (ltW hw) (cellW cy ad hw _) rfl h_X10_add_X10 0 (by decide) k_X10_add_2 rfl dX10_add_20 ?_
      refine lv_aload_n S.1 S.2.1 dX10_add_23 rfl (lv_at hl 0 rfl) ?_
      refine r_get S hK hP (ltW hw) (cellW cy ad hw _) rfl h_X10_add_X10 1 (by decide) k_X10_add_1 rfl dX10_add_24 ?_
      refine lv_iload_n S.1 S.2.1 dX10_add_27 rfl (lv_at hl 1 rfl) ?_
      obtain ⟨g3, hf⟩ := gd_some hf
      obtain ⟨σ4, hσ4, hf⟩ := nm_some hf
      refine r_iast S hK hP hO hS (ltW1 hw) (n := lenW w) (cellWA cy ad hw) (lenW_lt _) g3 hσ4 dX10_add_28 (fun H locs hP hS => ?_)
      refine lv_aload_n S.1 S.2.1 dX10_add_29 rfl (lv_at hl 0 rfl) ?_
      refine lv_dup S.1 S.2.1 dX10_add_30 rfl ?_
      refine r_get S hK hP (ltW hw) (cellW cy ad hw _) rfl h_X10_add_X10 1 (by decide) k_X10_add_1 rfl dX10_add_31 ?_
      refine r_iconst S dX10_add_34 ?_
      refine r_iadd S dX10_add_35 ?_
      obtain ⟨σ5, hσ5, hf⟩ := nm_some hf
      refine r_put S hK hP hO hS (ltW hw) (cellW cy ad hw _) rfl h_X10_add_X10 tyX10 tyX10_ok nmX10 1 (by decide) k_X10_add_1 rfl (tyX10_ok 1 (by decide)) rfl rfl (Nat.le_of_ble_eq_true rfl) hσ5 (putX10_1 cy ad hw) dX10_add_36 (fun H locs hP hS => ?_)
      have e1 := Option.some.inj hf
      subst e1
      exact e_V S hlk hP hS hr dX10_add_39
def rm_X10_clear : Room := { frames := 0, cells := 0, slots := 0, locals := 0 }
theorem k_X10_clear_1 : (.fieldLink RX10 7 "MendTexts$Word" "length" "I" : Cond) ∈ wsX10_clear := List.mem_of_getElem? (i := 1) (by decide +kernel)
theorem h_X10_clear_X10 : ∀ w ∈ u_ws RX10 TX10 2, w ∈ wsX10_clear := mem_places _ [2, 3] (by decide +kernel)
set_option maxHeartbeats 4000000 in
set_option maxRecDepth 100000 in
theorem c_X10_clear (l : Launch) (D : va_G) (cy : Nat → ClassId) (ad : Nat → Nat) (hO : adOK 39 ad) (w : Nat) (hw : isW w) (σ : Mem) {τ : Mem} (hf : f_X10_clear w σ = some τ) : Met l yX10_clear wsX10_clear rm_X10_clear (va_Pc [.ref (ad w)] (PreW D cy 39 (cellC cy ad) ad σ)) (QV D 39 (cellC cy ad) ad τ) 0 0 (AC 39 ad) := by
  refine r_met (cc := cX10_clear) (maxL := 1) (ret := none) (own := RX10) (by decide) rfl rfl [.ref (ad w)] (Nat.le_of_ble_eq_true rfl) ?_
  intro p e s m below meth c ls S hK hP hlk hr hl
  have hS : va_S (AC 39 ad) s.heap s.heap [] := va_S.rf
  have hl : lv_has ls 1 [(0, .ref (ad w))] := hl
  unfold f_X10_clear at hf
  refine lv_aload_n S.1 S.2.1 dX10_clear_0 rfl (lv_at hl 0 rfl) ?_
  refine r_iconst S dX10_clear_1 ?_
  obtain ⟨σ1, hσ1, hf⟩ := nm_some hf
  refine r_put S hK hP hO hS (ltW hw) (cellW cy ad hw _) rfl h_X10_clear_X10 tyX10 tyX10_ok nmX10 1 (by decide) k_X10_clear_1 rfl (tyX10_ok 1 (by decide)) rfl rfl (Nat.le_of_ble_eq_true rfl) hσ1 (putX10_1 cy ad hw) dX10_clear_2 (fun H locs hP hS => ?_)
  have e1 := Option.some.inj hf
  subst e1
  exact e_V S hlk hP hS hr dX10_clear_5
def rm_X10_copy : Room := { frames := 1, cells := 0, slots := 0, locals := 21 }
theorem k_X10_copy_1 : (.fieldLink RX10 7 "MendTexts$Word" "length" "I" : Cond) ∈ wsX10_copy := List.mem_of_getElem? (i := 1) (by decide +kernel)
theorem h_X10_copy_X10 : ∀ w ∈ u_ws RX10 TX10 2, w ∈ wsX10_copy := mem_places _ [16, 17] (by decide +kernel)
theorem cw_X10_copy_X10_add {s : State} {args : Array Value} (hts : ∀ w ∈ wsX10_copy, w.before args s = true) : CallW rm_X10_copy s args RX10 RX10 24 yX10_add cX10_add 2 none wsX10_add rm_X10_add 0 0 1 := cwV 1 hts gX10_copy_X10_add rfl rfl rfl (by decide +kernel) ⟨Nat.le_of_ble_eq_true rfl, Nat.le_of_ble_eq_true rfl⟩
theorem cw_X10_copy_X10_clear {s : State} {args : Array Value} (hts : ∀ w ∈ wsX10_copy, w.before args s = true) : CallW rm_X10_copy s args RX10 RX10 17 yX10_clear cX10_clear 1 none wsX10_clear rm_X10_clear 0 0 0 := cwV 0 hts gX10_copy_X10_clear rfl rfl rfl (by decide +kernel) ⟨Nat.le_of_ble_eq_true rfl, Nat.le_of_ble_eq_true rfl⟩
theorem cw_X10_copy_X10_letterAt {s : State} {args : Array Value} (hts : ∀ w ∈ wsX10_copy, w.before args s = true) : CallW rm_X10_copy s args RX10 RX10 20 yX10_letterAt cX10_letterAt 2 (some .int) wsX10_letterAt rm_X10_letterAt 0 0 1 := cwV 1 hts gX10_copy_X10_letterAt rfl rfl rfl (by decide +kernel) ⟨Nat.le_of_ble_eq_true rfl, Nat.le_of_ble_eq_true rfl⟩
set_option maxHeartbeats 4000000 in
set_option maxRecDepth 100000 in
theorem w_X10_copy_L6 {p : Program} {l : Launch} {e : Env} {s : State} {m : MethodId} {args : Array Value} {below : List Frame} {meth : Method} {c : Code} {Q : State → Prop} {D : va_G} {cy : Nat → ClassId} {ad : Nat → Nat} {H0 : Heap} (hO : adOK 39 ad) (S : CallFix p m c cX10_copy 3 s args wsX10_copy RX10) (hK : KK D cy s) (n : Nat) (w : Nat) (hw : isW w) (w0 : Nat) (hw0 : isW w0) {res : Mem} (k0 : ∀ (τ : Mem) (H2 : Heap) (locs2 : List Loc) (ls2 : Array Slot), res = τ → va_P D vwCl (WW 39 (cellC cy ad) ad τ) H2 → va_S (AC 39 ad) H0 H2 locs2 → lv_has ls2 3 [] → W p l e rm_X10_copy s m args below meth c H2 locs2 0 0 Q (F0 m 29 ls2 [])) :
    ∀ (k : Nat) (x2_ : Int) (σ : Mem) (H : Heap) (locs : List Loc) (ls : Array Slot), f_X10_copy_L6 n w w0 k x2_ σ = some res → va_P D vwCl (WW 39 (cellC cy ad) ad σ) H → va_S (AC 39 ad) H0 H locs → lv_has ls 3 [(0, .ref (ad w)), (1, .ref (ad w0)), (2, .int (zI x2_))] → W p l e rm_X10_copy s m args below meth c H locs 0 0 Q (F0 m 6 ls []) := by
  intro k
  induction k with
  | zero =>
    intro x2_ σ H locs ls hf
    have hf : none = some res := hf
    cases hf
  | succ k ih =>
    intro x2_ σ H locs ls hf hP hS hl
    rw [f_X10_copy_L6] at hf
    refine lv_iload_n S.1 S.2.1 dX10_copy_6 rfl (lv_at hl 2 rfl) ?_
    refine lv_aload_n S.1 S.2.1 dX10_copy_7 rfl (lv_at hl 1 rfl) ?_
    refine r_get S hK hP (ltW hw0) (cellW cy ad hw0 _) rfl h_X10_copy_X10 1 (by decide) k_X10_copy_1 rfl dX10_copy_8 ?_
    refine lv_icmp_ge (tgt := 29) S.1 S.2.1 dX10_copy_11 (by decide) (fun c1 => ?_) (fun c1 => ?_)
    · have hf := (if_pos c1).symm.trans hf
      exact k0 _ _ _ _ (Option.some.inj hf).symm hP hS (lv_sub hl [] rfl)
    · have hf := (if_neg c1).symm.trans hf
      refine lv_aload_n S.1 S.2.1 dX10_copy_14 rfl (lv_at hl 0 rfl) ?_
      refine lv_aload_n S.1 S.2.1 dX10_copy_15 rfl (lv_at hl 1 rfl) ?_
      refine lv_iload_n S.1 S.2.1 dX10_copy_16 rfl (lv_at hl 2 rfl) ?_
      obtain ⟨y3, hq2, hf⟩ := bV_some hf
      refine r_callVI S hK hP hS (ltW hw0) (cellW cy ad hw0 _) rfl [.int (zI x2_)] (c_X10_letterAt l D cy ad hO w0 hw0 x2_ σ hq2) (cw_X10_copy_X10_letterAt S.2.2.2.2) rfl hl.1 (rest := [.ref (ad w)]) rfl (Nat.le_of_ble_eq_true rfl) dX10_copy_17 ⟨Nat.zero_le _, Nat.zero_le _⟩ (fun H locs hP hS => ?_)
      obtain ⟨σ5, hq4, hf⟩ := bV_some hf
      refine r_callVV S hK hP hS (ltW hw) (cellW cy ad hw _) rfl [.int (zI y3)] (c_X10_add l D cy ad hO w hw y3 σ hq4) (cw_X10_copy_X10_add S.2.2.2.2) rfl hl.1 (rest := []) rfl (Nat.le_of_ble_eq_true rfl) dX10_copy_20 ⟨Nat.zero_le _, Nat.zero_le _⟩ (fun H locs hP hS => ?_)
      obtain ⟨x6, hx6, hf⟩ := nm_some hf
      refine r_iinc S hx6 (k0 := 2) (lv2 := [(2, .int (zI x6)), (0, .ref (ad w)), (1, .ref (ad w0))]) dX10_copy_23 hl rfl (by decide) rfl (fun ls hl => ?_)
      refine lv_goto (tgt := 6) S.1 S.2.1 dX10_copy_26 (by decide) ?_
      exact ih x6 σ5 _ _ _ hf hP hS (lv_sub hl [1, 2, 0] rfl)
set_option maxHeartbeats 4000000 in
set_option maxRecDepth 100000 in
theorem c_X10_copy (l : Launch) (D : va_G) (cy : Nat → ClassId) (ad : Nat → Nat) (hO : adOK 39 ad) (n : Nat) (w : Nat) (hw : isW w) (w0 : Nat) (hw0 : isW w0) (σ : Mem) {τ : Mem} (hf : f_X10_copy n w w0 σ = some τ) : Met l yX10_copy wsX10_copy rm_X10_copy (va_Pc [.ref (ad w), .ref (ad w0)] (PreW D cy 39 (cellC cy ad) ad σ)) (QV D 39 (cellC cy ad) ad τ) 0 0 (AC 39 ad) := by
  refine r_met (cc := cX10_copy) (maxL := 3) (ret := none) (own := RX10) (by decide) rfl rfl [.ref (ad w), .ref (ad w0)] (Nat.le_of_ble_eq_true rfl) ?_
  intro p e s m below meth c ls S hK hP hlk hr hl
  have hS : va_S (AC 39 ad) s.heap s.heap [] := va_S.rf
  have hl : lv_has ls 3 [(0, .ref (ad w)), (1, .ref (ad w0))] := hl
  unfold f_X10_copy at hf
  refine lv_aload_n S.1 S.2.1 dX10_copy_0 rfl (lv_at hl 0 rfl) ?_
  obtain ⟨σ2, hq1, hf⟩ := bV_some hf
  refine r_callVV S hK hP hS (ltW hw) (cellW cy ad hw _) rfl [] (c_X10_clear l D cy ad hO w hw σ hq1) (cw_X10_copy_X10_clear S.2.2.2.2) rfl hl.1 (rest := []) rfl (Nat.le_of_ble_eq_true rfl) dX10_copy_1 ⟨Nat.zero_le _, Nat.zero_le _⟩ (fun H locs hP hS => ?_)
  refine r_iconst S dX10_copy_4 ?_
  refine r_istore_n S rfl (lv2 := [(2, .int (zI 0)), (0, .ref (ad w)), (1, .ref (ad w0))]) dX10_copy_5 rfl hl (by decide) rfl (fun ls hl => ?_)
  obtain ⟨σ3, hq, hf⟩ := bV_some hf
  refine w_X10_copy_L6 hO S hK n w hw w0 hw0 (fun σ3 H locs ls he hP hS hl => ?_) n 0 σ2 _ _ _ hq hP hS (lv_sub hl [1, 2, 0] rfl)
  cases he
  have e1 := Option.some.inj hf
  subst e1
  exact e_V S hlk hP hS hr dX10_copy_29
def rm_X11_chartOfWord : Room := { frames := 5, cells := 0, slots := 0, locals := 137 }
theorem k_X11_chartOfWord_1 : (.fieldLink RX11 91 "MendTexts" "chartIsOfWord" "Z" : Cond) ∈ wsX11_chartOfWord := List.mem_of_getElem? (i := 1) (by decide +kernel)
theorem k_X11_chartOfWord_2 : (.fieldLink RX11 57 "MendTexts" "chart" "LMendTexts$Chart;" : Cond) ∈ wsX11_chartOfWord := List.mem_of_getElem? (i := 2) (by decide +kernel)
theorem k_X11_chartOfWord_3 : (.fieldLink RX11 38 "MendTexts" "typed" "LMendTexts$Word;" : Cond) ∈ wsX11_chartOfWord := List.mem_of_getElem? (i := 3) (by decide +kernel)
theorem h_X11_chartOfWord_X11 : ∀ w ∈ u_ws RX11 TX11 13, w ∈ wsX11_chartOfWord := mem_places _ [133, 134, 135, 136, 137, 138, 139, 140, 141, 142, 143, 144, 145] (by decide +kernel)
theorem cw_X11_chartOfWord_X0_fill {s : State} {args : Array Value} (hts : ∀ w ∈ wsX11_chartOfWord, w.before args s = true) : CallW rm_X11_chartOfWord s args RX11 RX0 261 yX0_fill cX0_fill 4 none wsX0_fill rm_X0_fill 0 0 1 := cwV 1 hts gX11_chartOfWord_X0_fill rfl rfl rfl (by decide +kernel) ⟨Nat.le_of_ble_eq_true rfl, Nat.le_of_ble_eq_true rfl⟩
set_option maxHeartbeats 4000000 in
set_option maxRecDepth 100000 in
theorem c_X11_chartOfWord (l : Launch) (D : va_G) (cy : Nat → ClassId) (ad : Nat → Nat) (hO : adOK 39 ad) (n : Nat) (σ : Mem) {v : Nat} {τ : Mem} (hf : f_X11_chartOfWord n σ = some (v, τ)) : Met l yX11_chartOfWord wsX11_chartOfWord rm_X11_chartOfWord (va_Pc [.ref (ad 0)] (PreW D cy 39 (cellC cy ad) ad σ)) (QR D 39 (cellC cy ad) ad v τ) 0 0 (AC 39 ad) := by
  refine r_met (cc := cX11_chartOfWord) (maxL := 1) (ret := (some (.object "MendTexts$Chart"))) (own := RX11) (by decide) rfl rfl [.ref (ad 0)] (Nat.le_of_ble_eq_true rfl) ?_
  intro p e s m below meth c ls S hK hP hlk hr hl
  have hS : va_S (AC 39 ad) s.heap s.heap [] := va_S.rf
  have hl : lv_has ls 1 [(0, .ref (ad 0))] := hl
  unfold f_X11_chartOfWord at hf
  refine lv_aload_n S.1 S.2.1 dX11_chartOfWord_0 rfl (lv_at hl 0 rfl) ?_
  refine r_get S hK hP (by decide) rfl rfl h_X11_chartOfWord_X11 12 (by decide) k_X11_chartOfWord_1 rfl dX11_chartOfWord_1 ?_
  refine r_if_ne (tgt := 23) S dX11_chartOfWord_4 (by decide) (fun c1 => ?_) (fun c1 => ?_)
  · have hf := (if_neg c1).symm.trans hf
    refine lv_aload_n S.1 S.2.1 dX11_chartOfWord_23 rfl (lv_at hl 0 rfl) ?_
    refine r_get S hK hP (by decide) rfl rfl h_X11_chartOfWord_X11 7 (by decide) k_X11_chartOfWord_2 rfl dX11_chartOfWord_24 ?_
    obtain ⟨e1, e2⟩ := inj2 hf
    subst e1
    subst e2
    exact e_R S hlk hP hS hr dX11_chartOfWord_27
  · have hf := (if_pos c1).symm.trans hf
    refine lv_aload_n S.1 S.2.1 dX11_chartOfWord_7 rfl (lv_at hl 0 rfl) ?_
    refine r_get S hK hP (by decide) rfl rfl h_X11_chartOfWord_X11 7 (by decide) k_X11_chartOfWord_2 rfl dX11_chartOfWord_8 ?_
    refine lv_aload_n S.1 S.2.1 dX11_chartOfWord_11 rfl (lv_at hl 0 rfl) ?_
    refine r_get S hK hP (by decide) rfl rfl h_X11_chartOfWord_X11 4 (by decide) k_X11_chartOfWord_3 rfl dX11_chartOfWord_12 ?_
    obtain ⟨σ3, hq2, hf⟩ := bV_some hf
    refine r_callVV S hK hP hS (by decide) rfl rfl [.ref (ad 13)] (c_X0_fill l D cy ad hO n 13 (by decide) σ hq2) (cw_X11_chartOfWord_X0_fill S.2.2.2.2) rfl hl.1 (rest := []) rfl (Nat.le_of_ble_eq_true rfl) dX11_chartOfWord_15 ⟨Nat.zero_le _, Nat.zero_le _⟩ (fun H locs hP hS => ?_)
    refine lv_aload_n S.1 S.2.1 dX11_chartOfWord_18 rfl (lv_at hl 0 rfl) ?_
    refine r_iconst S dX11_chartOfWord_19 ?_
    obtain ⟨σ4, hσ4, hf⟩ := nm_some hf
    refine r_put S hK hP hO hS (by decide) rfl rfl h_X11_chartOfWord_X11 tyX11 tyX11_ok nmX11 12 (by decide) k_X11_chartOfWord_1 rfl (tyX11_ok 12 (by decide)) (by decide) (by decide) (Nat.le_of_ble_eq_true rfl) hσ4 rfl dX11_chartOfWord_20 (fun H locs hP hS => ?_)
    refine lv_aload_n S.1 S.2.1 dX11_chartOfWord_23 rfl (lv_at hl 0 rfl) ?_
    refine r_get S hK hP (by decide) rfl rfl h_X11_chartOfWord_X11 7 (by decide) k_X11_chartOfWord_2 rfl dX11_chartOfWord_24 ?_
    obtain ⟨e1, e2⟩ := inj2 hf
    subst e1
    subst e2
    exact e_R S hlk hP hS hr dX11_chartOfWord_27
def rm_X11_codeOf : Room := { frames := 0, cells := 0, slots := 0, locals := 0 }
set_option maxHeartbeats 4000000 in
set_option maxRecDepth 100000 in
theorem c_X11_codeOf (l : Launch) (D : va_G) (cy : Nat → ClassId) (ad : Nat → Nat) (hO : adOK 39 ad) (a0 : Int) (σ : Mem) {v : Int} (hf : f_X11_codeOf a0 = some v) : Met l yX11_codeOf wsX11_codeOf rm_X11_codeOf (va_Pc [.int (zI a0)] (PreW D cy 39 (cellC cy ad) ad σ)) (QI D 39 (cellC cy ad) ad v σ) 0 0 (AC 39 ad) := by
  refine r_met (cc := cX11_codeOf) (maxL := 1) (ret := (some .int)) (own := RX11) (by decide) rfl rfl [.int (zI a0)] (Nat.le_of_ble_eq_true rfl) ?_
  intro p e s m below meth c ls S hK hP hlk hr hl
  have hS : va_S (AC 39 ad) s.heap s.heap [] := va_S.rf
  have hl : lv_has ls 1 [(0, .int (zI a0))] := hl
  unfold f_X11_codeOf at hf
  refine lv_iload_n S.1 S.2.1 dX11_codeOf_0 rfl (lv_at hl 0 rfl) ?_
  refine r_iconst S dX11_codeOf_1 ?_
  refine lv_icmp_ge (tgt := 9) S.1 S.2.1 dX11_codeOf_2 (by decide) (fun c1 => ?_) (fun c1 => ?_)
  · have hf := (if_pos c1).symm.trans hf
    refine r_bipush S dX11_codeOf_9 (by decide) ?_
    refine lv_iload_n S.1 S.2.1 dX11_codeOf_11 rfl (lv_at hl 0 rfl) ?_
    refine r_iadd S dX11_codeOf_12 ?_
    refine r_iconst S dX11_codeOf_13 ?_
    refine r_isub S dX11_codeOf_14 ?_
    have e1 := Option.some.inj hf
    subst e1
    exact e_I S hlk hP hS hr dX11_codeOf_15
  · have hf := (if_neg c1).symm.trans hf
    refine lv_iload_n S.1 S.2.1 dX11_codeOf_5 rfl (lv_at hl 0 rfl) ?_
    refine lv_goto (tgt := 15) S.1 S.2.1 dX11_codeOf_6 (by decide) ?_
    have e1 := Option.some.inj hf
    subst e1
    exact e_I S hlk hP hS hr dX11_codeOf_15
def rm_X1_of : Room := { frames := 0, cells := 0, slots := 0, locals := 0 }
theorem k_X1_of_1 : (.fieldLink RX1 7 "MendTexts$Costs" "values" "[I" : Cond) ∈ wsX1_of := List.mem_of_getElem? (i := 1) (by decide +kernel)
theorem h_X1_of_X1 : ∀ w ∈ u_ws RX1 TX1 1, w ∈ wsX1_of := mem_places _ [2] (by decide +kernel)
set_option maxHeartbeats 4000000 in
set_option maxRecDepth 100000 in
theorem c_X1_of (l : Launch) (D : va_G) (cy : Nat → ClassId) (ad : Nat → Nat) (hO : adOK 39 ad) (a0 : Int) (σ : Mem) {v : Int} (hf : f_X1_of a0 σ = some v) : Met l yX1_of wsX1_of rm_X1_of (va_Pc [.ref (ad 11), .int (zI a0)] (PreW D cy 39 (cellC cy ad) ad σ)) (QI D 39 (cellC cy ad) ad v σ) 0 0 (AC 39 ad) := by
  refine r_met (cc := cX1_of) (maxL := 2) (ret := (some .int)) (own := RX1) (by decide) rfl rfl [.ref (ad 11), .int (zI a0)] (Nat.le_of_ble_eq_true rfl) ?_
  intro p e s m below meth c ls S hK hP hlk hr hl
  have hS : va_S (AC 39 ad) s.heap s.heap [] := va_S.rf
  have hl : lv_has ls 2 [(0, .ref (ad 11)), (1, .int (zI a0))] := hl
  unfold f_X1_of at hf
  refine lv_iload_n S.1 S.2.1 dX1_of_0 rfl (lv_at hl 1 rfl) ?_
  refine r_if_lt (tgt := 18) S dX1_of_1 (by decide) (fun c1 => ?_) (fun c1 => ?_)
  · have hf := (if_pos c1).symm.trans hf
    refine r_iconst S dX1_of_18 ?_
    have e1 := Option.some.inj hf
    subst e1
    exact e_I S hlk hP hS hr dX1_of_19
  · have hf := (if_neg c1).symm.trans hf
    refine lv_iload_n S.1 S.2.1 dX1_of_4 rfl (lv_at hl 1 rfl) ?_
    refine r_iconst S dX1_of_5 ?_
    refine lv_icmp_ge (tgt := 18) S.1 S.2.1 dX1_of_6 (by decide) (fun c2 => ?_) (fun c2 => ?_)
    · have hf := (if_pos c2).symm.trans hf
      refine r_iconst S dX1_of_18 ?_
      have e1 := Option.some.inj hf
      subst e1
      exact e_I S hlk hP hS hr dX1_of_19
    · have hf := (if_neg c2).symm.trans hf
      refine lv_aload_n S.1 S.2.1 dX1_of_9 rfl (lv_at hl 0 rfl) ?_
      refine r_get S hK hP (by decide) rfl rfl h_X1_of_X1 0 (by decide) k_X1_of_1 rfl dX1_of_10 ?_
      refine lv_iload_n S.1 S.2.1 dX1_of_13 rfl (lv_at hl 1 rfl) ?_
      obtain ⟨g3, hf⟩ := gd_some hf
      refine r_iald S hK hP (by decide) (n := 3) (fun _ => rfl) (by decide) g3 dX1_of_14 ?_
      refine lv_goto (tgt := 19) S.1 S.2.1 dX1_of_15 (by decide) ?_
      have e1 := Option.some.inj hf
      subst e1
      exact e_I S hlk hP hS hr dX1_of_19
