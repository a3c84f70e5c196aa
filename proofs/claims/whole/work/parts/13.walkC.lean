def rm_X6_farOfSign : Room := { frames := 2, cells := 0, slots := 0, locals := 43 }
theorem k_X6_farOfSign_1 : (.fieldLink RX6 17 "MendTexts$Reach" "chart" "LMendTexts$Chart;" : Cond) ∈ wsX6_farOfSign := List.mem_of_getElem? (i := 1) (by decide +kernel)
theorem k_X6_farOfSign_2 : (.fieldLink RX6 11 "MendTexts$Reach" "far" "[I" : Cond) ∈ wsX6_farOfSign := List.mem_of_getElem? (i := 2) (by decide +kernel)
theorem h_X6_farOfSign_X6 : ∀ w ∈ u_ws RX6 TX6 2, w ∈ wsX6_farOfSign := mem_places _ [16, 17] (by decide +kernel)
theorem cw_X6_farOfSign_X0_letterStandsAt {s : State} {args : Array Value} (hts : ∀ w ∈ wsX6_farOfSign, w.before args s = true) : CallW rm_X6_farOfSign s args RX6 RX0 75 yX0_letterStandsAt cX0_letterStandsAt 3 (some .boolean) wsX0_letterStandsAt rm_X0_letterStandsAt 0 0 2 := cwV 2 hts gX6_farOfSign_X0_letterStandsAt rfl rfl rfl (by decide +kernel) ⟨Nat.le_of_ble_eq_true rfl, Nat.le_of_ble_eq_true rfl⟩
set_option maxHeartbeats 4000000 in
set_option maxRecDepth 100000 in
theorem c_X6_farOfSign (l : Launch) (D : va_G) (cy : Nat → ClassId) (ad : Nat → Nat) (hO : adOK 39 ad) (a0 : Int) (a1 : Int) (σ : Mem) {v : Int} (hf : f_X6_farOfSign a0 a1 σ = some v) : Met l yX6_farOfSign wsX6_farOfSign rm_X6_farOfSign (va_Pc [.ref (ad 30), .int (zI a0), .int (zI a1)] (PreW D cy 39 (cellC cy ad) ad σ)) (QI D 39 (cellC cy ad) ad v σ) 0 0 (AC 39 ad) := by
  refine r_met (cc := cX6_farOfSign) (maxL := 4) (ret := (some .int)) (own := RX6) (by decide) rfl rfl [.ref (ad 30), .int (zI a0), .int (zI a1)] (Nat.le_of_ble_eq_true rfl) ?_
  intro p e s m below meth c ls S hK hP hlk hr hl
  have hS : va_S (AC 39 ad) s.heap s.heap [] := va_S.rf
  have hl : lv_has ls 4 [(0, .ref (ad 30)), (1, .int (zI a0)), (2, .int (zI a1))] := hl
  unfold f_X6_farOfSign at hf
  refine lv_iload_n S.1 S.2.1 dX6_farOfSign_0 rfl (lv_at hl 1 rfl) ?_
  refine r_iconst S dX6_farOfSign_1 ?_
  refine lv_icmp_ge (tgt := 25) S.1 S.2.1 dX6_farOfSign_2 (by decide) (fun c1 => ?_) (fun c1 => ?_)
  · have hf := (if_pos c1).symm.trans hf
    refine lv_iload_n S.1 S.2.1 dX6_farOfSign_25 rfl (lv_at hl 1 rfl) ?_
    refine r_iconst S dX6_farOfSign_26 ?_
    refine r_isub S dX6_farOfSign_27 ?_
    refine r_bipush S dX6_farOfSign_28 (by decide) ?_
    refine r_imul S dX6_farOfSign_30 ?_
    refine lv_iload_n S.1 S.2.1 dX6_farOfSign_31 rfl (lv_at hl 2 rfl) ?_
    refine r_iadd S dX6_farOfSign_32 ?_
    obtain ⟨x2, hx2, hf⟩ := nm_some hf
    refine r_istore_n S hx2 (lv2 := [(3, .int (zI x2)), (0, .ref (ad 30)), (1, .int (zI a0)), (2, .int (zI a1))]) dX6_farOfSign_33 rfl hl (by decide) rfl (fun ls hl => ?_)
    refine lv_iload_n S.1 S.2.1 dX6_farOfSign_34 rfl (lv_at hl 0 rfl) ?_
    refine r_if_lt (tgt := 56) S dX6_farOfSign_35 (by decide) (fun c3 => ?_) (fun c3 => ?_)
    · have hf := (if_pos c3).symm.trans hf
      refine r_iconst S dX6_farOfSign_56 ?_
      have e1 := Option.some.inj hf
      subst e1
      exact e_I S hlk hP hS hr dX6_farOfSign_57
    · have hf := (if_neg c3).symm.trans hf
      refine lv_iload_n S.1 S.2.1 dX6_farOfSign_38 rfl (lv_at hl 0 rfl) ?_
      refine lv_aload_n S.1 S.2.1 dX6_farOfSign_39 rfl (lv_at hl 1 rfl) ?_
      refine r_get S hK hP (by decide) rfl rfl h_X6_farOfSign_X6 1 (by decide) k_X6_farOfSign_2 rfl dX6_farOfSign_40 ?_
      refine r_alen S hK hP (by decide) (n := 42) (fun _ => rfl) dX6_farOfSign_43 ?_
      refine lv_icmp_ge (tgt := 56) S.1 S.2.1 dX6_farOfSign_44 (by decide) (fun c4 => ?_) (fun c4 => ?_)
      · have hf := (if_pos c4).symm.trans hf
        refine r_iconst S dX6_farOfSign_56 ?_
        have e1 := Option.some.inj hf
        subst e1
        exact e_I S hlk hP hS hr dX6_farOfSign_57
      · have hf := (if_neg c4).symm.trans hf
        refine lv_aload_n S.1 S.2.1 dX6_farOfSign_47 rfl (lv_at hl 1 rfl) ?_
        refine r_get S hK hP (by decide) rfl rfl h_X6_farOfSign_X6 1 (by decide) k_X6_farOfSign_2 rfl dX6_farOfSign_48 ?_
        refine lv_iload_n S.1 S.2.1 dX6_farOfSign_51 rfl (lv_at hl 0 rfl) ?_
        obtain ⟨g5, hf⟩ := gd_some hf
        refine r_iald S hK hP (by decide) (n := 42) (fun _ => rfl) (by decide) g5 dX6_farOfSign_52 ?_
        refine lv_goto (tgt := 57) S.1 S.2.1 dX6_farOfSign_53 (by decide) ?_
        have e1 := Option.some.inj hf
        subst e1
        exact e_I S hlk hP hS hr dX6_farOfSign_57
  · have hf := (if_neg c1).symm.trans hf
    refine lv_aload_n S.1 S.2.1 dX6_farOfSign_5 rfl (lv_at hl 0 rfl) ?_
    refine r_get S hK hP (by decide) rfl rfl h_X6_farOfSign_X6 0 (by decide) k_X6_farOfSign_1 rfl dX6_farOfSign_6 ?_
    refine lv_iload_n S.1 S.2.1 dX6_farOfSign_9 rfl (lv_at hl 1 rfl) ?_
    refine lv_iload_n S.1 S.2.1 dX6_farOfSign_10 rfl (lv_at hl 2 rfl) ?_
    obtain ⟨y7, hq6, hf⟩ := bV_some hf
    refine r_callVI S hK hP hS (by decide) rfl rfl [.int (zI a0), .int (zI a1)] (c_X0_letterStandsAt l D cy ad hO a0 a1 σ hq6) (cw_X6_farOfSign_X0_letterStandsAt S.2.2.2.2) rfl hl.1 (rest := []) rfl (Nat.le_of_ble_eq_true rfl) dX6_farOfSign_11 ⟨Nat.zero_le _, Nat.zero_le _⟩ (fun H locs hP hS => ?_)
    refine r_if_eq (tgt := 23) S dX6_farOfSign_14 (by decide) (fun c8 => ?_) (fun c8 => ?_)
    · have hf := (if_pos c8).symm.trans hf
      refine lv_iload_n S.1 S.2.1 dX6_farOfSign_23 rfl (lv_at hl 2 rfl) ?_
      have e1 := Option.some.inj hf
      subst e1
      exact e_I S hlk hP hS hr dX6_farOfSign_24
    · have hf := (if_neg c8).symm.trans hf
      refine lv_iload_n S.1 S.2.1 dX6_farOfSign_17 rfl (lv_at hl 2 rfl) ?_
      refine r_iconst S dX6_farOfSign_18 ?_
      refine r_iadd S dX6_farOfSign_19 ?_
      refine lv_goto (tgt := 24) S.1 S.2.1 dX6_farOfSign_20 (by decide) ?_
      have e1 := Option.some.inj hf
      subst e1
      exact e_I S hlk hP hS hr dX6_farOfSign_24
def rm_X6_farFrom : Room := { frames := 3, cells := 0, slots := 0, locals := 66 }
theorem k_X6_farFrom_1 : (.fieldLink RX6 17 "MendTexts$Reach" "chart" "LMendTexts$Chart;" : Cond) ∈ wsX6_farFrom := List.mem_of_getElem? (i := 1) (by decide +kernel)
theorem k_X6_farFrom_2 : (.methodLink RX6 67 Lib.Math.max.name : Cond) ∈ wsX6_farFrom := List.mem_of_getElem? (i := 2) (by decide +kernel)
theorem k_X6_farFrom_3 : (.static Lib.Math.max.name : Cond) ∈ wsX6_farFrom := List.mem_of_getElem? (i := 3) (by decide +kernel)
theorem k_X6_farFrom_4 : (.initialized "java/lang/Math" : Cond) ∈ wsX6_farFrom := List.mem_of_getElem? (i := 4) (by decide +kernel)
theorem k_X6_farFrom_5 : (.code Lib.Math.max.name Lib.Math.max.code 2 (some .int) : Cond) ∈ wsX6_farFrom := List.mem_of_getElem? (i := 5) (by decide +kernel)
theorem h_X6_farFrom_X6 : ∀ w ∈ u_ws RX6 TX6 2, w ∈ wsX6_farFrom := mem_places _ [30, 31] (by decide +kernel)
theorem cw_X6_farFrom_X0_length {s : State} {args : Array Value} (hts : ∀ w ∈ wsX6_farFrom, w.before args s = true) : CallW rm_X6_farFrom s args RX6 RX0 27 yX0_length cX0_length 1 (some .int) wsX0_length rm_X0_length 0 0 0 := cwV 0 hts gX6_farFrom_X0_length rfl rfl rfl (by decide +kernel) ⟨Nat.le_of_ble_eq_true rfl, Nat.le_of_ble_eq_true rfl⟩
theorem cw_X6_farFrom_X6_farOfSign {s : State} {args : Array Value} (hts : ∀ w ∈ wsX6_farFrom, w.before args s = true) : CallW rm_X6_farFrom s args RX6 RX6 35 yX6_farOfSign cX6_farOfSign 4 (some .int) wsX6_farOfSign rm_X6_farOfSign 0 0 2 := cwV 2 hts gX6_farFrom_X6_farOfSign rfl rfl rfl (by decide +kernel) ⟨Nat.le_of_ble_eq_true rfl, Nat.le_of_ble_eq_true rfl⟩
set_option maxHeartbeats 4000000 in
set_option maxRecDepth 100000 in
theorem w_X6_farFrom_L5 {p : Program} {l : Launch} {e : Env} {s : State} {m : MethodId} {args : Array Value} {below : List Frame} {meth : Method} {c : Code} {Q : State → Prop} {D : va_G} {cy : Nat → ClassId} {ad : Nat → Nat} {H0 : Heap} (hO : adOK 39 ad) (S : CallFix p m c cX6_farFrom 5 s args wsX6_farFrom RX6) (hK : KK D cy s) (n : Nat) (x1_ : Int) (x2_ : Int) (σ : Mem) {res : Int} (k0 : ∀ (y3_ : Int) (H2 : Heap) (locs2 : List Loc) (ls2 : Array Slot), res = y3_ → va_P D vwCl (WW 39 (cellC cy ad) ad σ) H2 → va_S (AC 39 ad) H0 H2 locs2 → lv_has ls2 5 [(3, .int (zI y3_))] → W p l e rm_X6_farFrom s m args below meth c H2 locs2 0 0 Q (F0 m 44 ls2 [])) :
    ∀ (k : Nat) (x3_ : Int) (x4_ : Int) (H : Heap) (locs : List Loc) (ls : Array Slot), f_X6_farFrom_L5 n x1_ x2_ σ k x3_ x4_ = some res → va_P D vwCl (WW 39 (cellC cy ad) ad σ) H → va_S (AC 39 ad) H0 H locs → lv_has ls 5 [(0, .ref (ad 30)), (1, .int (zI x1_)), (2, .int (zI x2_)), (3, .int (zI x3_)), (4, .int (zI x4_))] → W p l e rm_X6_farFrom s m args below meth c H locs 0 0 Q (F0 m 5 ls []) := by
  intro k
  induction k with
  | zero =>
    intro x3_ x4_ H locs ls hf
    have hf : none = some res := hf
    cases hf
  | succ k ih =>
    intro x3_ x4_ H locs ls hf hP hS hl
    rw [f_X6_farFrom_L5] at hf
    refine lv_iload S.1 S.2.1 dX6_farFrom_5 (lv_at hl 4 rfl) ?_
    refine lv_aload_n S.1 S.2.1 dX6_farFrom_7 rfl (lv_at hl 0 rfl) ?_
    refine r_get S hK hP (by decide) rfl rfl h_X6_farFrom_X6 0 (by decide) k_X6_farFrom_1 rfl dX6_farFrom_8 ?_
    obtain ⟨y2, hq1, hf⟩ := bV_some hf
    refine r_callVI S hK hP hS (by decide) rfl rfl [] (c_X0_length l D cy ad hO σ hq1) (cw_X6_farFrom_X0_length S.2.2.2.2) rfl hl.1 (rest := [.int (zI x4_)]) rfl (Nat.le_of_ble_eq_true rfl) dX6_farFrom_11 ⟨Nat.zero_le _, Nat.zero_le _⟩ (fun H locs hP hS => ?_)
    refine lv_icmp_gt (tgt := 44) S.1 S.2.1 dX6_farFrom_14 (by decide) (fun c3 => ?_) (fun c3 => ?_)
    · have hf := (if_pos c3).symm.trans hf
      exact k0 _ _ _ _ (Option.some.inj hf).symm hP hS (lv_sub hl [3] rfl)
    · have hf := (if_neg c3).symm.trans hf
      refine lv_iload_n S.1 S.2.1 dX6_farFrom_17 rfl (lv_at hl 1 rfl) ?_
      refine lv_iload S.1 S.2.1 dX6_farFrom_18 (lv_at hl 4 rfl) ?_
      refine r_ishr S dX6_farFrom_20 ?_
      refine r_iconst S dX6_farFrom_21 ?_
      refine r_iand S dX6_farFrom_22 ?_
      obtain ⟨x4, hq, hf⟩ := bV_some hf
      have kJ0 : ∀ (H : Heap) (locs : List Loc) (ls : Array Slot), va_P D vwCl (WW 39 (cellC cy ad) ad σ) H → va_S (AC 39 ad) H0 H locs → lv_has ls 5 [(0, .ref (ad 30)), (1, .int (zI x1_)), (2, .int (zI x2_)), (3, .int (zI x4)), (4, .int (zI x4_))] → W p l e rm_X6_farFrom s m args below meth c H locs 0 0 Q (F0 m 38 ls []) := by
        intro H locs ls hP hS hl
        obtain ⟨x9, hx9, hf⟩ := nm_some hf
        refine r_iinc S hx9 (k0 := 4) (lv2 := [(4, .int (zI x9)), (0, .ref (ad 30)), (1, .int (zI x1_)), (2, .int (zI x2_)), (3, .int (zI x4))]) dX6_farFrom_38 hl rfl (by decide) rfl (fun ls hl => ?_)
        refine lv_goto (tgt := 5) S.1 S.2.1 dX6_farFrom_41 (by decide) ?_
        exact ih x4 x9 _ _ _ hf hP hS (lv_sub hl [1, 2, 3, 4, 0] rfl)
      clear hf
      have hf := hq
      refine r_if_eq (tgt := 38) S dX6_farFrom_23 (by decide) (fun c5 => ?_) (fun c5 => ?_)
      · have hf := (if_pos c5).symm.trans hf
        have e1 := Option.some.inj hf
        subst e1
        exact kJ0 _ _ _ hP hS (lv_sub hl [0, 1, 2, 3, 4] rfl)
      · have hf := (if_neg c5).symm.trans hf
        refine lv_iload_n S.1 S.2.1 dX6_farFrom_26 rfl (lv_at hl 3 rfl) ?_
        refine lv_aload_n S.1 S.2.1 dX6_farFrom_27 rfl (lv_at hl 0 rfl) ?_
        refine lv_iload_n S.1 S.2.1 dX6_farFrom_28 rfl (lv_at hl 2 rfl) ?_
        refine lv_iload S.1 S.2.1 dX6_farFrom_29 (lv_at hl 4 rfl) ?_
        obtain ⟨y7, hq6, hf⟩ := bV_some hf
        refine r_callVI S hK hP hS (by decide) rfl rfl [.int (zI x2_), .int (zI x4_)] (c_X6_farOfSign l D cy ad hO x2_ x4_ σ hq6) (cw_X6_farFrom_X6_farOfSign S.2.2.2.2) rfl hl.1 (rest := [.int (zI x3_)]) rfl (Nat.le_of_ble_eq_true rfl) dX6_farFrom_31 ⟨Nat.zero_le _, Nat.zero_le _⟩ (fun H locs hP hS => ?_)
        refine r_mmax S hl.1 k_X6_farFrom_2 k_X6_farFrom_3 k_X6_farFrom_4 k_X6_farFrom_5 ⟨Nat.le_of_ble_eq_true rfl, Nat.le_of_ble_eq_true rfl⟩ ⟨Nat.zero_le _, Nat.zero_le _⟩ dX6_farFrom_34 ?_
        obtain ⟨x8, hx8, hf⟩ := nm_some hf
        refine r_istore_n S hx8 (lv2 := [(3, .int (zI x8)), (0, .ref (ad 30)), (1, .int (zI x1_)), (2, .int (zI x2_)), (4, .int (zI x4_))]) dX6_farFrom_37 rfl hl (by decide) rfl (fun ls hl => ?_)
        have e1 := Option.some.inj hf
        subst e1
        exact kJ0 _ _ _ hP hS (lv_sub hl [1, 2, 3, 0, 4] rfl)
set_option maxHeartbeats 4000000 in
set_option maxRecDepth 100000 in
theorem c_X6_farFrom (l : Launch) (D : va_G) (cy : Nat → ClassId) (ad : Nat → Nat) (hO : adOK 39 ad) (n : Nat) (a0 : Int) (a1 : Int) (σ : Mem) {v : Int} (hf : f_X6_farFrom n a0 a1 σ = some v) : Met l yX6_farFrom wsX6_farFrom rm_X6_farFrom (va_Pc [.ref (ad 30), .int (zI a0), .int (zI a1)] (PreW D cy 39 (cellC cy ad) ad σ)) (QI D 39 (cellC cy ad) ad v σ) 0 0 (AC 39 ad) := by
  refine r_met (cc := cX6_farFrom) (maxL := 5) (ret := (some .int)) (own := RX6) (by decide) rfl rfl [.ref (ad 30), .int (zI a0), .int (zI a1)] (Nat.le_of_ble_eq_true rfl) ?_
  intro p e s m below meth c ls S hK hP hlk hr hl
  have hS : va_S (AC 39 ad) s.heap s.heap [] := va_S.rf
  have hl : lv_has ls 5 [(0, .ref (ad 30)), (1, .int (zI a0)), (2, .int (zI a1))] := hl
  unfold f_X6_farFrom at hf
  refine r_iconst S dX6_farFrom_0 ?_
  obtain ⟨x1, hx1, hf⟩ := nm_some hf
  refine r_istore_n S hx1 (lv2 := [(3, .int (zI x1)), (0, .ref (ad 30)), (1, .int (zI a0)), (2, .int (zI a1))]) dX6_farFrom_1 rfl hl (by decide) rfl (fun ls hl => ?_)
  refine r_iconst S dX6_farFrom_2 ?_
  refine r_istore S rfl (lv2 := [(4, .int (zI 0)), (3, .int (zI x1)), (0, .ref (ad 30)), (1, .int (zI a0)), (2, .int (zI a1))]) dX6_farFrom_3 hl (by decide) rfl (fun ls hl => ?_)
  obtain ⟨x2, hq, hf⟩ := bV_some hf
  refine w_X6_farFrom_L5 hO S hK n a0 a1 σ (fun x2 H locs ls he hP hS hl => ?_) n x1 0 _ _ _ hq hP hS (lv_sub hl [2, 3, 4, 1, 0] rfl)
  cases he
  refine lv_iload_n S.1 S.2.1 dX6_farFrom_44 rfl (lv_at hl 0 rfl) ?_
  have e1 := Option.some.inj hf
  subst e1
  exact e_I S hlk hP hS hr dX6_farFrom_45
def rm_X6_endsBehind : Room := { frames := 3, cells := 0, slots := 0, locals := 69 }
theorem k_X6_endsBehind_1 : (.fieldLink RX6 17 "MendTexts$Reach" "chart" "LMendTexts$Chart;" : Cond) ∈ wsX6_endsBehind := List.mem_of_getElem? (i := 1) (by decide +kernel)
theorem h_X6_endsBehind_X6 : ∀ w ∈ u_ws RX6 TX6 2, w ∈ wsX6_endsBehind := mem_places _ [27, 28] (by decide +kernel)
theorem cw_X6_endsBehind_X0_fitsAsItIs {s : State} {args : Array Value} (hts : ∀ w ∈ wsX6_endsBehind, w.before args s = true) : CallW rm_X6_endsBehind s args RX6 RX0 79 yX0_fitsAsItIs cX0_fitsAsItIs 6 (some .boolean) wsX0_fitsAsItIs rm_X0_fitsAsItIs 0 0 3 := cwV 3 hts gX6_endsBehind_X0_fitsAsItIs rfl rfl rfl (by decide +kernel) ⟨Nat.le_of_ble_eq_true rfl, Nat.le_of_ble_eq_true rfl⟩
theorem cw_X6_endsBehind_X0_length {s : State} {args : Array Value} (hts : ∀ w ∈ wsX6_endsBehind, w.before args s = true) : CallW rm_X6_endsBehind s args RX6 RX0 27 yX0_length cX0_length 1 (some .int) wsX0_length rm_X0_length 0 0 0 := cwV 0 hts gX6_endsBehind_X0_length rfl rfl rfl (by decide +kernel) ⟨Nat.le_of_ble_eq_true rfl, Nat.le_of_ble_eq_true rfl⟩
set_option maxHeartbeats 4000000 in
set_option maxRecDepth 100000 in
theorem w_X6_endsBehind_L21 {p : Program} {l : Launch} {e : Env} {s : State} {m : MethodId} {args : Array Value} {below : List Frame} {meth : Method} {c : Code} {Q : State → Prop} {D : va_G} {cy : Nat → ClassId} {ad : Nat → Nat} {H0 : Heap} (hO : adOK 39 ad) (S : CallFix p m c cX6_endsBehind 6 s args wsX6_endsBehind RX6) (hK : KK D cy s) (n : Nat) (x1_ : Int) (x2_ : Int) (x4_ : Int) (σ : Mem) {res : Int} (k0 : ∀ (y3_ : Int) (H2 : Heap) (locs2 : List Loc) (ls2 : Array Slot), res = y3_ → va_P D vwCl (WW 39 (cellC cy ad) ad σ) H2 → va_S (AC 39 ad) H0 H2 locs2 → lv_has ls2 6 [(0, .ref (ad 30)), (1, .int (zI x1_)), (2, .int (zI x2_)), (3, .int (zI y3_)), (4, .int (zI x4_))] → W p l e rm_X6_endsBehind s m args below meth c H2 locs2 0 0 Q (F0 m 70 ls2 [])) :
    ∀ (k : Nat) (x3_ : Int) (x5_ : Int) (H : Heap) (locs : List Loc) (ls : Array Slot), f_X6_endsBehind_L21 n x1_ x2_ x4_ σ k x3_ x5_ = some res → va_P D vwCl (WW 39 (cellC cy ad) ad σ) H → va_S (AC 39 ad) H0 H locs → lv_has ls 6 [(0, .ref (ad 30)), (1, .int (zI x1_)), (2, .int (zI x2_)), (3, .int (zI x3_)), (4, .int (zI x4_)), (5, .int (zI x5_))] → W p l e rm_X6_endsBehind s m args below meth c H locs 0 0 Q (F0 m 21 ls []) := by
  intro k
  induction k with
  | zero =>
    intro x3_ x5_ H locs ls hf
    have hf : none = some res := hf
    cases hf
  | succ k ih =>
    intro x3_ x5_ H locs ls hf hP hS hl
    rw [f_X6_endsBehind_L21] at hf
    refine lv_iload_n S.1 S.2.1 dX6_endsBehind_21 rfl (lv_at hl 1 rfl) ?_
    refine lv_iload S.1 S.2.1 dX6_endsBehind_22 (lv_at hl 4 rfl) ?_
    refine r_ishr S dX6_endsBehind_24 ?_
    refine r_iconst S dX6_endsBehind_25 ?_
    refine r_iand S dX6_endsBehind_26 ?_
    refine r_if_eq (tgt := 70) S dX6_endsBehind_27 (by decide) (fun c1 => ?_) (fun c1 => ?_)
    · have hf := (if_pos c1).symm.trans hf
      exact k0 _ _ _ _ (Option.some.inj hf).symm hP hS (lv_sub hl [0, 1, 2, 3, 4] rfl)
    · have hf := (if_neg c1).symm.trans hf
      refine lv_iload S.1 S.2.1 dX6_endsBehind_30 (lv_at hl 5 rfl) ?_
      refine lv_aload_n S.1 S.2.1 dX6_endsBehind_32 rfl (lv_at hl 0 rfl) ?_
      refine r_get S hK hP (by decide) rfl rfl h_X6_endsBehind_X6 0 (by decide) k_X6_endsBehind_1 rfl dX6_endsBehind_33 ?_
      obtain ⟨y3, hq2, hf⟩ := bV_some hf
      refine r_callVI S hK hP hS (by decide) rfl rfl [] (c_X0_length l D cy ad hO σ hq2) (cw_X6_endsBehind_X0_length S.2.2.2.2) rfl hl.1 (rest := [.int (zI x5_)]) rfl (Nat.le_of_ble_eq_true rfl) dX6_endsBehind_36 ⟨Nat.zero_le _, Nat.zero_le _⟩ (fun H locs hP hS => ?_)
      refine lv_icmp_gt (tgt := 70) S.1 S.2.1 dX6_endsBehind_39 (by decide) (fun c4 => ?_) (fun c4 => ?_)
      · have hf := (if_pos c4).symm.trans hf
        exact k0 _ _ _ _ (Option.some.inj hf).symm hP hS (lv_sub hl [0, 1, 2, 3, 4] rfl)
      · have hf := (if_neg c4).symm.trans hf
        refine lv_aload_n S.1 S.2.1 dX6_endsBehind_42 rfl (lv_at hl 0 rfl) ?_
        refine r_get S hK hP (by decide) rfl rfl h_X6_endsBehind_X6 0 (by decide) k_X6_endsBehind_1 rfl dX6_endsBehind_43 ?_
        refine lv_iload_n S.1 S.2.1 dX6_endsBehind_46 rfl (lv_at hl 2 rfl) ?_
        refine lv_iload S.1 S.2.1 dX6_endsBehind_47 (lv_at hl 4 rfl) ?_
        refine lv_iload S.1 S.2.1 dX6_endsBehind_49 (lv_at hl 5 rfl) ?_
        obtain ⟨y6, hq5, hf⟩ := bV_some hf
        refine r_callVI S hK hP hS (by decide) rfl rfl [.int (zI x2_), .int (zI x4_), .int (zI x5_)] (c_X0_fitsAsItIs l D cy ad hO x2_ x4_ x5_ σ hq5) (cw_X6_endsBehind_X0_fitsAsItIs S.2.2.2.2) rfl hl.1 (rest := []) rfl (Nat.le_of_ble_eq_true rfl) dX6_endsBehind_51 ⟨Nat.zero_le _, Nat.zero_le _⟩ (fun H locs hP hS => ?_)
        obtain ⟨x7, hq, hf⟩ := bV_some hf
        have kJ0 : ∀ (H : Heap) (locs : List Loc) (ls : Array Slot), va_P D vwCl (WW 39 (cellC cy ad) ad σ) H → va_S (AC 39 ad) H0 H locs → lv_has ls 6 [(0, .ref (ad 30)), (1, .int (zI x1_)), (2, .int (zI x2_)), (3, .int (zI x7)), (4, .int (zI x4_)), (5, .int (zI x5_))] → W p l e rm_X6_endsBehind s m args below meth c H locs 0 0 Q (F0 m 64 ls []) := by
          intro H locs ls hP hS hl
          obtain ⟨x10, hx10, hf⟩ := nm_some hf
          refine r_iinc S hx10 (k0 := 5) (lv2 := [(5, .int (zI x10)), (0, .ref (ad 30)), (1, .int (zI x1_)), (2, .int (zI x2_)), (3, .int (zI x7)), (4, .int (zI x4_))]) dX6_endsBehind_64 hl rfl (by decide) rfl (fun ls hl => ?_)
          refine lv_goto (tgt := 21) S.1 S.2.1 dX6_endsBehind_67 (by decide) ?_
          exact ih x7 x10 _ _ _ hf hP hS (lv_sub hl [1, 2, 3, 4, 5, 0] rfl)
        clear hf
        have hf := hq
        refine r_if_eq (tgt := 64) S dX6_endsBehind_54 (by decide) (fun c8 => ?_) (fun c8 => ?_)
        · have hf := (if_pos c8).symm.trans hf
          have e1 := Option.some.inj hf
          subst e1
          exact kJ0 _ _ _ hP hS (lv_sub hl [0, 1, 2, 3, 4, 5] rfl)
        · have hf := (if_neg c8).symm.trans hf
          refine lv_iload_n S.1 S.2.1 dX6_endsBehind_57 rfl (lv_at hl 3 rfl) ?_
          refine r_iconst S dX6_endsBehind_58 ?_
          refine lv_iload S.1 S.2.1 dX6_endsBehind_59 (lv_at hl 5 rfl) ?_
          refine r_ishl S dX6_endsBehind_61 ?_
          refine r_ior S dX6_endsBehind_62 ?_
          obtain ⟨x9, hx9, hf⟩ := nm_some hf
          refine r_istore_n S hx9 (lv2 := [(3, .int (zI x9)), (0, .ref (ad 30)), (1, .int (zI x1_)), (2, .int (zI x2_)), (4, .int (zI x4_)), (5, .int (zI x5_))]) dX6_endsBehind_63 rfl hl (by decide) rfl (fun ls hl => ?_)
          have e1 := Option.some.inj hf
          subst e1
          exact kJ0 _ _ _ hP hS (lv_sub hl [1, 2, 3, 0, 4, 5] rfl)
set_option maxHeartbeats 4000000 in
set_option maxRecDepth 100000 in
theorem w_X6_endsBehind_L5 {p : Program} {l : Launch} {e : Env} {s : State} {m : MethodId} {args : Array Value} {below : List Frame} {meth : Method} {c : Code} {Q : State → Prop} {D : va_G} {cy : Nat → ClassId} {ad : Nat → Nat} {H0 : Heap} (hO : adOK 39 ad) (S : CallFix p m c cX6_endsBehind 6 s args wsX6_endsBehind RX6) (hK : KK D cy s) (n : Nat) (x1_ : Int) (x2_ : Int) (σ : Mem) {res : Int} (k0 : ∀ (y3_ : Int) (H2 : Heap) (locs2 : List Loc) (ls2 : Array Slot), res = y3_ → va_P D vwCl (WW 39 (cellC cy ad) ad σ) H2 → va_S (AC 39 ad) H0 H2 locs2 → lv_has ls2 6 [(3, .int (zI y3_))] → W p l e rm_X6_endsBehind s m args below meth c H2 locs2 0 0 Q (F0 m 76 ls2 [])) :
    ∀ (k : Nat) (x3_ : Int) (x4_ : Int) (H : Heap) (locs : List Loc) (ls : Array Slot), f_X6_endsBehind_L5 n x1_ x2_ σ k x3_ x4_ = some res → va_P D vwCl (WW 39 (cellC cy ad) ad σ) H → va_S (AC 39 ad) H0 H locs → lv_has ls 6 [(0, .ref (ad 30)), (1, .int (zI x1_)), (2, .int (zI x2_)), (3, .int (zI x3_)), (4, .int (zI x4_))] → W p l e rm_X6_endsBehind s m args below meth c H locs 0 0 Q (F0 m 5 ls []) := by
  intro k
  induction k with
  | zero =>
    intro x3_ x4_ H locs ls hf
    have hf : none = some res := hf
    cases hf
  | succ k ih =>
    intro x3_ x4_ H locs ls hf hP hS hl
    rw [f_X6_endsBehind_L5] at hf
    refine lv_iload S.1 S.2.1 dX6_endsBehind_5 (lv_at hl 4 rfl) ?_
    refine lv_aload_n S.1 S.2.1 dX6_endsBehind_7 rfl (lv_at hl 0 rfl) ?_
    refine r_get S hK hP (by decide) rfl rfl h_X6_endsBehind_X6 0 (by decide) k_X6_endsBehind_1 rfl dX6_endsBehind_8 ?_
    obtain ⟨y2, hq1, hf⟩ := bV_some hf
    refine r_callVI S hK hP hS (by decide) rfl rfl [] (c_X0_length l D cy ad hO σ hq1) (cw_X6_endsBehind_X0_length S.2.2.2.2) rfl hl.1 (rest := [.int (zI x4_)]) rfl (Nat.le_of_ble_eq_true rfl) dX6_endsBehind_11 ⟨Nat.zero_le _, Nat.zero_le _⟩ (fun H locs hP hS => ?_)
    refine lv_icmp_gt (tgt := 76) S.1 S.2.1 dX6_endsBehind_14 (by decide) (fun c3 => ?_) (fun c3 => ?_)
    · have hf := (if_pos c3).symm.trans hf
      exact k0 _ _ _ _ (Option.some.inj hf).symm hP hS (lv_sub hl [3] rfl)
    · have hf := (if_neg c3).symm.trans hf
      refine lv_iload S.1 S.2.1 dX6_endsBehind_17 (lv_at hl 4 rfl) ?_
      refine r_istore S rfl (lv2 := [(5, .int (zI x4_)), (0, .ref (ad 30)), (1, .int (zI x1_)), (2, .int (zI x2_)), (3, .int (zI x3_)), (4, .int (zI x4_))]) dX6_endsBehind_19 hl (by decide) rfl (fun ls hl => ?_)
      obtain ⟨x4, hq, hf⟩ := bV_some hf
      refine w_X6_endsBehind_L21 hO S hK n x1_ x2_ x4_ σ (fun x4 H locs ls he hP hS hl => ?_) n x3_ x4_ _ _ _ hq hP hS (lv_sub hl [1, 2, 3, 4, 5, 0] rfl)
      cases he
      obtain ⟨x5, hx5, hf⟩ := nm_some hf
      refine r_iinc S hx5 (k0 := 4) (lv2 := [(4, .int (zI x5)), (0, .ref (ad 30)), (1, .int (zI x1_)), (2, .int (zI x2_)), (3, .int (zI x4))]) dX6_endsBehind_70 hl rfl (by decide) rfl (fun ls hl => ?_)
      refine lv_goto (tgt := 5) S.1 S.2.1 dX6_endsBehind_73 (by decide) ?_
      exact ih x4 x5 _ _ _ hf hP hS (lv_sub hl [1, 2, 3, 4, 0] rfl)
set_option maxHeartbeats 4000000 in
set_option maxRecDepth 100000 in
theorem c_X6_endsBehind (l : Launch) (D : va_G) (cy : Nat → ClassId) (ad : Nat → Nat) (hO : adOK 39 ad) (n : Nat) (a0 : Int) (a1 : Int) (σ : Mem) {v : Int} (hf : f_X6_endsBehind n a0 a1 σ = some v) : Met l yX6_endsBehind wsX6_endsBehind rm_X6_endsBehind (va_Pc [.ref (ad 30), .int (zI a0), .int (zI a1)] (PreW D cy 39 (cellC cy ad) ad σ)) (QI D 39 (cellC cy ad) ad v σ) 0 0 (AC 39 ad) := by
  refine r_met (cc := cX6_endsBehind) (maxL := 6) (ret := (some .int)) (own := RX6) (by decide) rfl rfl [.ref (ad 30), .int (zI a0), .int (zI a1)] (Nat.le_of_ble_eq_true rfl) ?_
  intro p e s m below meth c ls S hK hP hlk hr hl
  have hS : va_S (AC 39 ad) s.heap s.heap [] := va_S.rf
  have hl : lv_has ls 6 [(0, .ref (ad 30)), (1, .int (zI a0)), (2, .int (zI a1))] := hl
  unfold f_X6_endsBehind at hf
  refine r_iconst S dX6_endsBehind_0 ?_
  refine r_istore_n S rfl (lv2 := [(3, .int (zI 0)), (0, .ref (ad 30)), (1, .int (zI a0)), (2, .int (zI a1))]) dX6_endsBehind_1 rfl hl (by decide) rfl (fun ls hl => ?_)
  refine r_iconst S dX6_endsBehind_2 ?_
  refine r_istore S rfl (lv2 := [(4, .int (zI 0)), (3, .int (zI 0)), (0, .ref (ad 30)), (1, .int (zI a0)), (2, .int (zI a1))]) dX6_endsBehind_3 hl (by decide) rfl (fun ls hl => ?_)
  obtain ⟨x1, hq, hf⟩ := bV_some hf
  refine w_X6_endsBehind_L5 hO S hK n a0 a1 σ (fun x1 H locs ls he hP hS hl => ?_) n 0 0 _ _ _ hq hP hS (lv_sub hl [2, 3, 4, 1, 0] rfl)
  cases he
  refine lv_iload_n S.1 S.2.1 dX6_endsBehind_76 rfl (lv_at hl 0 rfl) ?_
  have e1 := Option.some.inj hf
  subst e1
  exact e_I S hlk hP hS hr dX6_endsBehind_77
def rm_X6_farOfRule : Room := { frames := 4, cells := 0, slots := 0, locals := 94 }
theorem k_X6_farOfRule_1 : (.fieldLink RX6 17 "MendTexts$Reach" "chart" "LMendTexts$Chart;" : Cond) ∈ wsX6_farOfRule := List.mem_of_getElem? (i := 1) (by decide +kernel)
theorem k_X6_farOfRule_2 : (.fieldLink RX6 39 "MendTexts$Chart" "grammar" "LMendTexts$Grammar;" : Cond) ∈ wsX6_farOfRule := List.mem_of_getElem? (i := 2) (by decide +kernel)
theorem k_X6_farOfRule_3 : (.methodLink RX6 67 Lib.Math.max.name : Cond) ∈ wsX6_farOfRule := List.mem_of_getElem? (i := 3) (by decide +kernel)
theorem k_X6_farOfRule_4 : (.static Lib.Math.max.name : Cond) ∈ wsX6_farOfRule := List.mem_of_getElem? (i := 4) (by decide +kernel)
theorem k_X6_farOfRule_5 : (.initialized "java/lang/Math" : Cond) ∈ wsX6_farOfRule := List.mem_of_getElem? (i := 5) (by decide +kernel)
theorem k_X6_farOfRule_6 : (.code Lib.Math.max.name Lib.Math.max.code 2 (some .int) : Cond) ∈ wsX6_farOfRule := List.mem_of_getElem? (i := 6) (by decide +kernel)
theorem h_X6_farOfRule_X6 : ∀ w ∈ u_ws RX6 TX6 2, w ∈ wsX6_farOfRule := mem_places _ [75, 76] (by decide +kernel)
theorem h_X6_farOfRule_X0 : ∀ w ∈ u_ws RX0 TX0 5, w ∈ wsX6_farOfRule := mem_places _ [77, 78, 79, 80, 81] (by decide +kernel)
theorem cw_X6_farOfRule_X0_comesToWords {s : State} {args : Array Value} (hts : ∀ w ∈ wsX6_farOfRule, w.before args s = true) : CallW rm_X6_farOfRule s args RX6 RX0 55 yX0_comesToWords cX0_comesToWords 3 (some .boolean) wsX0_comesToWords rm_X0_comesToWords 0 0 1 := cwV 1 hts gX6_farOfRule_X0_comesToWords rfl rfl rfl (by decide +kernel) ⟨Nat.le_of_ble_eq_true rfl, Nat.le_of_ble_eq_true rfl⟩
theorem cw_X6_farOfRule_X4_lengthOf {s : State} {args : Array Value} (hts : ∀ w ∈ wsX6_farOfRule, w.before args s = true) : CallW rm_X6_farOfRule s args RX6 RX4 58 yX4_lengthOf cX4_lengthOf 2 (some .int) wsX4_lengthOf rm_X4_lengthOf 0 0 1 := cwV 1 hts gX6_farOfRule_X4_lengthOf rfl rfl rfl (by decide +kernel) ⟨Nat.le_of_ble_eq_true rfl, Nat.le_of_ble_eq_true rfl⟩
theorem cw_X6_farOfRule_X4_signAt {s : State} {args : Array Value} (hts : ∀ w ∈ wsX6_farOfRule, w.before args s = true) : CallW rm_X6_farOfRule s args RX6 RX4 61 yX4_signAt cX4_signAt 4 (some .int) wsX4_signAt rm_X4_signAt 0 0 2 := cwV 2 hts gX6_farOfRule_X4_signAt rfl rfl rfl (by decide +kernel) ⟨Nat.le_of_ble_eq_true rfl, Nat.le_of_ble_eq_true rfl⟩
theorem cw_X6_farOfRule_X6_endsBehind {s : State} {args : Array Value} (hts : ∀ w ∈ wsX6_farOfRule, w.before args s = true) : CallW rm_X6_farOfRule s args RX6 RX6 72 yX6_endsBehind cX6_endsBehind 6 (some .int) wsX6_endsBehind rm_X6_endsBehind 0 0 2 := cwV 2 hts gX6_farOfRule_X6_endsBehind rfl rfl rfl (by decide +kernel) ⟨Nat.le_of_ble_eq_true rfl, Nat.le_of_ble_eq_true rfl⟩
theorem cw_X6_farOfRule_X6_farFrom {s : State} {args : Array Value} (hts : ∀ w ∈ wsX6_farOfRule, w.before args s = true) : CallW rm_X6_farOfRule s args RX6 RX6 64 yX6_farFrom cX6_farFrom 5 (some .int) wsX6_farFrom rm_X6_farFrom 0 0 2 := cwV 2 hts gX6_farOfRule_X6_farFrom rfl rfl rfl (by decide +kernel) ⟨Nat.le_of_ble_eq_true rfl, Nat.le_of_ble_eq_true rfl⟩
set_option maxHeartbeats 4000000 in
set_option maxRecDepth 100000 in
theorem w_X6_farOfRule_L23 {p : Program} {l : Launch} {e : Env} {s : State} {m : MethodId} {args : Array Value} {below : List Frame} {meth : Method} {c : Code} {Q : State → Prop} {D : va_G} {cy : Nat → ClassId} {ad : Nat → Nat} {H0 : Heap} (hO : adOK 39 ad) (S : CallFix p m c cX6_farOfRule 7 s args wsX6_farOfRule RX6) (hK : KK D cy s) (n : Nat) (x1_ : Int) (σ : Mem) {res : Int} (k0 : ∀ (y3_ : Int) (H2 : Heap) (locs2 : List Loc) (ls2 : Array Slot), res = y3_ → va_P D vwCl (WW 39 (cellC cy ad) ad σ) H2 → va_S (AC 39 ad) H0 H2 locs2 → lv_has ls2 7 [(3, .int (zI y3_))] → W p l e rm_X6_farOfRule s m args below meth c H2 locs2 0 0 Q (F0 m 83 ls2 [])) :
    ∀ (k : Nat) (x3_ : Int) (x4_ : Int) (x5_ : Int) (H : Heap) (locs : List Loc) (ls : Array Slot), f_X6_farOfRule_L23 n x1_ σ k x3_ x4_ x5_ = some res → va_P D vwCl (WW 39 (cellC cy ad) ad σ) H → va_S (AC 39 ad) H0 H locs → lv_has ls 7 [(0, .ref (ad 30)), (1, .int (zI x1_)), (3, .int (zI x3_)), (4, .int (zI x4_)), (5, .int (zI x5_))] → W p l e rm_X6_farOfRule s m args below meth c H locs 0 0 Q (F0 m 23 ls []) := by
  intro k
  induction k with
  | zero =>
    intro x3_ x4_ x5_ H locs ls hf
    have hf : none = some res := hf
    cases hf
  | succ k ih =>
    intro x3_ x4_ x5_ H locs ls hf hP hS hl
    rw [f_X6_farOfRule_L23] at hf
    refine lv_iload S.1 S.2.1 dX6_farOfRule_23 (lv_at hl 4 rfl) ?_
    refine lv_aload_n S.1 S.2.1 dX6_farOfRule_25 rfl (lv_at hl 0 rfl) ?_
    refine r_get S hK hP (by decide) rfl rfl h_X6_farOfRule_X6 0 (by decide) k_X6_farOfRule_1 rfl dX6_farOfRule_26 ?_
    refine r_get S hK hP (by decide) rfl rfl h_X6_farOfRule_X0 0 (by decide) k_X6_farOfRule_2 rfl dX6_farOfRule_29 ?_
    refine lv_iload_n S.1 S.2.1 dX6_farOfRule_32 rfl (lv_at hl 1 rfl) ?_
    obtain ⟨y2, hq1, hf⟩ := bV_some hf
    refine r_callVI S hK hP hS (by decide) rfl rfl [.int (zI x1_)] (c_X4_lengthOf l D cy ad hO 3 (by decide) x1_ σ hq1) (cw_X6_farOfRule_X4_lengthOf S.2.2.2.2) rfl hl.1 (rest := [.int (zI x5_)]) rfl (Nat.le_of_ble_eq_true rfl) dX6_farOfRule_33 ⟨Nat.zero_le _, Nat.zero_le _⟩ (fun H locs hP hS => ?_)
    refine lv_icmp_ge (tgt := 83) S.1 S.2.1 dX6_farOfRule_36 (by decide) (fun c3 => ?_) (fun c3 => ?_)
    · have hf := (if_pos c3).symm.trans hf
      exact k0 _ _ _ _ (Option.some.inj hf).symm hP hS (lv_sub hl [2] rfl)
    · have hf := (if_neg c3).symm.trans hf
      refine lv_aload_n S.1 S.2.1 dX6_farOfRule_39 rfl (lv_at hl 0 rfl) ?_
      refine r_get S hK hP (by decide) rfl rfl h_X6_farOfRule_X6 0 (by decide) k_X6_farOfRule_1 rfl dX6_farOfRule_40 ?_
      refine r_get S hK hP (by decide) rfl rfl h_X6_farOfRule_X0 0 (by decide) k_X6_farOfRule_2 rfl dX6_farOfRule_43 ?_
      refine lv_iload_n S.1 S.2.1 dX6_farOfRule_46 rfl (lv_at hl 1 rfl) ?_
      refine lv_iload S.1 S.2.1 dX6_farOfRule_47 (lv_at hl 4 rfl) ?_
      obtain ⟨y5, hq4, hf⟩ := bV_some hf
      refine r_callVI S hK hP hS (by decide) rfl rfl [.int (zI x1_), .int (zI x5_)] (c_X4_signAt l D cy ad hO x1_ x5_ σ hq4) (cw_X6_farOfRule_X4_signAt S.2.2.2.2) rfl hl.1 (rest := []) rfl (Nat.le_of_ble_eq_true rfl) dX6_farOfRule_49 ⟨Nat.zero_le _, Nat.zero_le _⟩ (fun H locs hP hS => ?_)
      refine r_istore S rfl (lv2 := [(6, .int (zI y5)), (0, .ref (ad 30)), (1, .int (zI x1_)), (3, .int (zI x3_)), (4, .int (zI x4_)), (5, .int (zI x5_))]) dX6_farOfRule_52 hl (by decide) rfl (fun ls hl => ?_)
      refine lv_iload_n S.1 S.2.1 dX6_farOfRule_54 rfl (lv_at hl 3 rfl) ?_
      refine lv_aload_n S.1 S.2.1 dX6_farOfRule_55 rfl (lv_at hl 1 rfl) ?_
      refine lv_iload S.1 S.2.1 dX6_farOfRule_56 (lv_at hl 4 rfl) ?_
      refine lv_iload S.1 S.2.1 dX6_farOfRule_58 (lv_at hl 0 rfl) ?_
      obtain ⟨y7, hq6, hf⟩ := bV_some hf
      refine r_callVI S hK hP hS (by decide) rfl rfl [.int (zI x4_), .int (zI y5)] (c_X6_farFrom l D cy ad hO n x4_ y5 σ hq6) (cw_X6_farOfRule_X6_farFrom S.2.2.2.2) rfl hl.1 (rest := [.int (zI x3_)]) rfl (Nat.le_of_ble_eq_true rfl) dX6_farOfRule_60 ⟨Nat.zero_le _, Nat.zero_le _⟩ (fun H locs hP hS => ?_)
      refine r_mmax S hl.1 k_X6_farOfRule_3 k_X6_farOfRule_4 k_X6_farOfRule_5 k_X6_farOfRule_6 ⟨Nat.le_of_ble_eq_true rfl, Nat.le_of_ble_eq_true rfl⟩ ⟨Nat.zero_le _, Nat.zero_le _⟩ dX6_farOfRule_63 ?_
      obtain ⟨x8, hx8, hf⟩ := nm_some hf
      refine r_istore_n S hx8 (lv2 := [(3, .int (zI x8)), (6, .int (zI y5)), (0, .ref (ad 30)), (1, .int (zI x1_)), (4, .int (zI x4_)), (5, .int (zI x5_))]) dX6_farOfRule_66 rfl hl (by decide) rfl (fun ls hl => ?_)
      refine lv_aload_n S.1 S.2.1 dX6_farOfRule_67 rfl (lv_at hl 2 rfl) ?_
      refine lv_iload S.1 S.2.1 dX6_farOfRule_68 (lv_at hl 4 rfl) ?_
      refine lv_iload S.1 S.2.1 dX6_farOfRule_70 (lv_at hl 1 rfl) ?_
      obtain ⟨y10, hq9, hf⟩ := bV_some hf
      refine r_callVI S hK hP hS (by decide) rfl rfl [.int (zI x4_), .int (zI y5)] (c_X6_endsBehind l D cy ad hO n x4_ y5 σ hq9) (cw_X6_farOfRule_X6_endsBehind S.2.2.2.2) rfl hl.1 (rest := []) rfl (Nat.le_of_ble_eq_true rfl) dX6_farOfRule_72 ⟨Nat.zero_le _, Nat.zero_le _⟩ (fun H locs hP hS => ?_)
      refine r_istore S rfl (lv2 := [(4, .int (zI y10)), (3, .int (zI x8)), (6, .int (zI y5)), (0, .ref (ad 30)), (1, .int (zI x1_)), (5, .int (zI x5_))]) dX6_farOfRule_75 hl (by decide) rfl (fun ls hl => ?_)
      obtain ⟨x11, hx11, hf⟩ := nm_some hf
      refine r_iinc S hx11 (k0 := 5) (lv2 := [(5, .int (zI x11)), (4, .int (zI y10)), (3, .int (zI x8)), (6, .int (zI y5)), (0, .ref (ad 30)), (1, .int (zI x1_))]) dX6_farOfRule_77 hl rfl (by decide) rfl (fun ls hl => ?_)
      refine lv_goto (tgt := 23) S.1 S.2.1 dX6_farOfRule_80 (by decide) ?_
      exact ih x8 y10 x11 _ _ _ hf hP hS (lv_sub hl [4, 5, 2, 1, 0] rfl)
set_option maxHeartbeats 4000000 in
set_option maxRecDepth 100000 in
theorem c_X6_farOfRule (l : Launch) (D : va_G) (cy : Nat → ClassId) (ad : Nat → Nat) (hO : adOK 39 ad) (n : Nat) (a0 : Int) (a1 : Int) (σ : Mem) {v : Int} (hf : f_X6_farOfRule n a0 a1 σ = some v) : Met l yX6_farOfRule wsX6_farOfRule rm_X6_farOfRule (va_Pc [.ref (ad 30), .int (zI a0), .int (zI a1)] (PreW D cy 39 (cellC cy ad) ad σ)) (QI D 39 (cellC cy ad) ad v σ) 0 0 (AC 39 ad) := by
  refine r_met (cc := cX6_farOfRule) (maxL := 7) (ret := (some .int)) (own := RX6) (by decide) rfl rfl [.ref (ad 30), .int (zI a0), .int (zI a1)] (Nat.le_of_ble_eq_true rfl) ?_
  intro p e s m below meth c ls S hK hP hlk hr hl
  have hS : va_S (AC 39 ad) s.heap s.heap [] := va_S.rf
  have hl : lv_has ls 7 [(0, .ref (ad 30)), (1, .int (zI a0)), (2, .int (zI a1))] := hl
  unfold f_X6_farOfRule at hf
  refine lv_aload_n S.1 S.2.1 dX6_farOfRule_0 rfl (lv_at hl 0 rfl) ?_
  refine r_get S hK hP (by decide) rfl rfl h_X6_farOfRule_X6 0 (by decide) k_X6_farOfRule_1 rfl dX6_farOfRule_1 ?_
  refine lv_iload_n S.1 S.2.1 dX6_farOfRule_4 rfl (lv_at hl 1 rfl) ?_
  obtain ⟨y2, hq1, hf⟩ := bV_some hf
  refine r_callVI S hK hP hS (by decide) rfl rfl [.int (zI a0)] (c_X0_comesToWords l D cy ad hO n a0 σ hq1) (cw_X6_farOfRule_X0_comesToWords S.2.2.2.2) rfl hl.1 (rest := []) rfl (Nat.le_of_ble_eq_true rfl) dX6_farOfRule_5 ⟨Nat.zero_le _, Nat.zero_le _⟩ (fun H locs hP hS => ?_)
  refine r_if_ne (tgt := 13) S dX6_farOfRule_8 (by decide) (fun c3 => ?_) (fun c3 => ?_)
  · have hf := (if_neg c3).symm.trans hf
    refine lv_iload_n S.1 S.2.1 dX6_farOfRule_13 rfl (lv_at hl 2 rfl) ?_
    refine r_istore_n S rfl (lv2 := [(3, .int (zI a1)), (0, .ref (ad 30)), (1, .int (zI a0)), (2, .int (zI a1))]) dX6_farOfRule_14 rfl hl (by decide) rfl (fun ls hl => ?_)
    refine r_iconst S dX6_farOfRule_15 ?_
    refine lv_iload_n S.1 S.2.1 dX6_farOfRule_16 rfl (lv_at hl 3 rfl) ?_
    refine r_ishl S dX6_farOfRule_17 ?_
    obtain ⟨x4, hx4, hf⟩ := nm_some hf
    refine r_istore S hx4 (lv2 := [(4, .int (zI x4)), (3, .int (zI a1)), (0, .ref (ad 30)), (1, .int (zI a0)), (2, .int (zI a1))]) dX6_farOfRule_18 hl (by decide) rfl (fun ls hl => ?_)
    refine r_iconst S dX6_farOfRule_20 ?_
    refine r_istore S rfl (lv2 := [(5, .int (zI 0)), (4, .int (zI x4)), (3, .int (zI a1)), (0, .ref (ad 30)), (1, .int (zI a0)), (2, .int (zI a1))]) dX6_farOfRule_21 hl (by decide) rfl (fun ls hl => ?_)
    obtain ⟨x5, hq, hf⟩ := bV_some hf
    refine w_X6_farOfRule_L23 hO S hK n a0 σ (fun x5 H locs ls he hP hS hl => ?_) n a1 x4 0 _ _ _ hq hP hS (lv_sub hl [3, 4, 2, 1, 0] rfl)
    cases he
    refine lv_iload_n S.1 S.2.1 dX6_farOfRule_83 rfl (lv_at hl 0 rfl) ?_
    have e1 := Option.some.inj hf
    subst e1
    exact e_I S hlk hP hS hr dX6_farOfRule_84
  · have hf := (if_pos c3).symm.trans hf
    refine r_iconst S dX6_farOfRule_11 ?_
    have e1 := Option.some.inj hf
    subst e1
    exact e_I S hlk hP hS hr dX6_farOfRule_12
def rm_X6_sweep : Room := { frames := 5, cells := 0, slots := 0, locals := 120 }
theorem k_X6_sweep_1 : (.fieldLink RX6 17 "MendTexts$Reach" "chart" "LMendTexts$Chart;" : Cond) ∈ wsX6_sweep := List.mem_of_getElem? (i := 1) (by decide +kernel)
theorem k_X6_sweep_2 : (.fieldLink RX6 39 "MendTexts$Chart" "grammar" "LMendTexts$Grammar;" : Cond) ∈ wsX6_sweep := List.mem_of_getElem? (i := 2) (by decide +kernel)
theorem k_X6_sweep_3 : (.fieldLink RX6 11 "MendTexts$Reach" "far" "[I" : Cond) ∈ wsX6_sweep := List.mem_of_getElem? (i := 3) (by decide +kernel)
theorem h_X6_sweep_X6 : ∀ w ∈ u_ws RX6 TX6 2, w ∈ wsX6_sweep := mem_places _ [92, 93] (by decide +kernel)
theorem h_X6_sweep_X0 : ∀ w ∈ u_ws RX0 TX0 5, w ∈ wsX6_sweep := mem_places _ [94, 95, 96, 97, 98] (by decide +kernel)
theorem cw_X6_sweep_X4_countOf {s : State} {args : Array Value} (hts : ∀ w ∈ wsX6_sweep, w.before args s = true) : CallW rm_X6_sweep s args RX6 RX4 43 yX4_countOf cX4_countOf 2 (some .int) wsX4_countOf rm_X4_countOf 0 0 1 := cwV 1 hts gX6_sweep_X4_countOf rfl rfl rfl (by decide +kernel) ⟨Nat.le_of_ble_eq_true rfl, Nat.le_of_ble_eq_true rfl⟩
theorem cw_X6_sweep_X4_slotOf {s : State} {args : Array Value} (hts : ∀ w ∈ wsX6_sweep, w.before args s = true) : CallW rm_X6_sweep s args RX6 RX4 49 yX4_slotOf cX4_slotOf 3 (some .int) wsX4_slotOf rm_X4_slotOf 0 0 2 := cwV 2 hts gX6_sweep_X4_slotOf rfl rfl rfl (by decide +kernel) ⟨Nat.le_of_ble_eq_true rfl, Nat.le_of_ble_eq_true rfl⟩
theorem cw_X6_sweep_X6_farOfRule {s : State} {args : Array Value} (hts : ∀ w ∈ wsX6_sweep, w.before args s = true) : CallW rm_X6_sweep s args RX6 RX6 52 yX6_farOfRule cX6_farOfRule 7 (some .int) wsX6_farOfRule rm_X6_farOfRule 0 0 2 := cwV 2 hts gX6_sweep_X6_farOfRule rfl rfl rfl (by decide +kernel) ⟨Nat.le_of_ble_eq_true rfl, Nat.le_of_ble_eq_true rfl⟩
set_option maxHeartbeats 4000000 in
set_option maxRecDepth 100000 in
theorem w_X6_sweep_L19 {p : Program} {l : Launch} {e : Env} {s : State} {m : MethodId} {args : Array Value} {below : List Frame} {meth : Method} {c : Code} {Q : State → Prop} {D : va_G} {cy : Nat → ClassId} {ad : Nat → Nat} {H0 : Heap} (hO : adOK 39 ad) (S : CallFix p m c cX6_sweep 7 s args wsX6_sweep RX6) (hK : KK D cy s) (n : Nat) (x1_ : Int) (x3_ : Int) (x4_ : Int) {res : Int × Mem} (k0 : ∀ (y2_ : Int) (τ : Mem) (H2 : Heap) (locs2 : List Loc) (ls2 : Array Slot), res = (y2_, τ) → va_P D vwCl (WW 39 (cellC cy ad) ad τ) H2 → va_S (AC 39 ad) H0 H2 locs2 → lv_has ls2 7 [(0, .ref (ad 30)), (1, .int (zI x1_)), (2, .int (zI y2_)), (3, .int (zI x3_))] → W p l e rm_X6_sweep s m args below meth c H2 locs2 0 0 Q (F0 m 99 ls2 [])) :
    ∀ (k : Nat) (x2_ : Int) (x5_ : Int) (σ : Mem) (H : Heap) (locs : List Loc) (ls : Array Slot), f_X6_sweep_L19 n x1_ x3_ x4_ k x2_ x5_ σ = some res → va_P D vwCl (WW 39 (cellC cy ad) ad σ) H → va_S (AC 39 ad) H0 H locs → lv_has ls 7 [(0, .ref (ad 30)), (1, .int (zI x1_)), (2, .int (zI x2_)), (3, .int (zI x3_)), (4, .int (zI x4_)), (5, .int (zI x5_))] → W p l e rm_X6_sweep s m args below meth c H locs 0 0 Q (F0 m 19 ls []) := by
  intro k
  induction k with
  | zero =>
    intro x2_ x5_ σ H locs ls hf
    have hf : none = some res := hf
    cases hf
  | succ k ih =>
    intro x2_ x5_ σ H locs ls hf hP hS hl
    rw [f_X6_sweep_L19] at hf
    refine lv_iload S.1 S.2.1 dX6_sweep_19 (lv_at hl 5 rfl) ?_
    refine lv_aload_n S.1 S.2.1 dX6_sweep_21 rfl (lv_at hl 0 rfl) ?_
    refine r_get S hK hP (by decide) rfl rfl h_X6_sweep_X6 0 (by decide) k_X6_sweep_1 rfl dX6_sweep_22 ?_
    refine r_get S hK hP (by decide) rfl rfl h_X6_sweep_X0 0 (by decide) k_X6_sweep_2 rfl dX6_sweep_25 ?_
    refine lv_iload_n S.1 S.2.1 dX6_sweep_28 rfl (lv_at hl 3 rfl) ?_
    obtain ⟨y2, hq1, hf⟩ := bV_some hf
    refine r_callVI S hK hP hS (by decide) rfl rfl [.int (zI x3_)] (c_X4_countOf l D cy ad hO 3 (by decide) x3_ σ hq1) (cw_X6_sweep_X4_countOf S.2.2.2.2) rfl hl.1 (rest := [.int (zI x5_)]) rfl (Nat.le_of_ble_eq_true rfl) dX6_sweep_29 ⟨Nat.zero_le _, Nat.zero_le _⟩ (fun H locs hP hS => ?_)
    refine lv_icmp_ge (tgt := 99) S.1 S.2.1 dX6_sweep_32 (by decide) (fun c3 => ?_) (fun c3 => ?_)
    · have hf := (if_pos c3).symm.trans hf
      exact k0 _ _ _ _ _ (Option.some.inj hf).symm hP hS (lv_sub hl [0, 1, 2, 3] rfl)
    · have hf := (if_neg c3).symm.trans hf
      refine lv_aload_n S.1 S.2.1 dX6_sweep_35 rfl (lv_at hl 0 rfl) ?_
      refine lv_aload_n S.1 S.2.1 dX6_sweep_36 rfl (lv_at hl 0 rfl) ?_
      refine r_get S hK hP (by decide) rfl rfl h_X6_sweep_X6 0 (by decide) k_X6_sweep_1 rfl dX6_sweep_37 ?_
      refine r_get S hK hP (by decide) rfl rfl h_X6_sweep_X0 0 (by decide) k_X6_sweep_2 rfl dX6_sweep_40 ?_
      refine lv_iload_n S.1 S.2.1 dX6_sweep_43 rfl (lv_at hl 3 rfl) ?_
      refine lv_iload S.1 S.2.1 dX6_sweep_44 (lv_at hl 5 rfl) ?_
      obtain ⟨y5, hq4, hf⟩ := bV_some hf
      refine r_callVI S hK hP hS (by decide) rfl rfl [.int (zI x3_), .int (zI x5_)] (c_X4_slotOf l D cy ad hO x3_ x5_ σ hq4) (cw_X6_sweep_X4_slotOf S.2.2.2.2) rfl hl.1 (rest := [.ref (ad 30)]) rfl (Nat.le_of_ble_eq_true rfl) dX6_sweep_46 ⟨Nat.zero_le _, Nat.zero_le _⟩ (fun H locs hP hS => ?_)
      refine lv_iload_n S.1 S.2.1 dX6_sweep_49 rfl (lv_at hl 1 rfl) ?_
      obtain ⟨y7, hq6, hf⟩ := bV_some hf
      refine r_callVI S hK hP hS (by decide) rfl rfl [.int (zI y5), .int (zI x1_)] (c_X6_farOfRule l D cy ad hO n y5 x1_ σ hq6) (cw_X6_sweep_X6_farOfRule S.2.2.2.2) rfl hl.1 (rest := []) rfl (Nat.le_of_ble_eq_true rfl) dX6_sweep_50 ⟨Nat.zero_le _, Nat.zero_le _⟩ (fun H locs hP hS => ?_)
      refine r_istore S rfl (lv2 := [(6, .int (zI y7)), (0, .ref (ad 30)), (1, .int (zI x1_)), (2, .int (zI x2_)), (3, .int (zI x3_)), (4, .int (zI x4_)), (5, .int (zI x5_))]) dX6_sweep_53 hl (by decide) rfl (fun ls hl => ?_)
      refine lv_iload S.1 S.2.1 dX6_sweep_55 (lv_at hl 5 rfl) ?_
      obtain ⟨x8, σ9, hq, hf⟩ := bL1_some hf
      have kJ0 : ∀ (H : Heap) (locs : List Loc) (ls : Array Slot), va_P D vwCl (WW 39 (cellC cy ad) ad σ9) H → va_S (AC 39 ad) H0 H locs → lv_has ls 7 [(0, .ref (ad 30)), (1, .int (zI x1_)), (2, .int (zI x8)), (3, .int (zI x3_)), (4, .int (zI x4_)), (5, .int (zI x5_))] → W p l e rm_X6_sweep s m args below meth c H locs 0 0 Q (F0 m 93 ls []) := by
        intro H locs ls hP hS hl
        obtain ⟨x15, hx15, hf⟩ := nm_some hf
        refine r_iinc S hx15 (k0 := 5) (lv2 := [(5, .int (zI x15)), (0, .ref (ad 30)), (1, .int (zI x1_)), (2, .int (zI x8)), (3, .int (zI x3_)), (4, .int (zI x4_))]) dX6_sweep_93 hl rfl (by decide) rfl (fun ls hl => ?_)
        refine lv_goto (tgt := 19) S.1 S.2.1 dX6_sweep_96 (by decide) ?_
        exact ih x8 x15 σ9 _ _ _ hf hP hS (lv_sub hl [1, 2, 3, 4, 5, 0] rfl)
      clear hf
      have hf := hq
      refine r_if_lt (tgt := 93) S dX6_sweep_57 (by decide) (fun c10 => ?_) (fun c10 => ?_)
      · have hf := (if_pos c10).symm.trans hf
        obtain ⟨e1, e2⟩ := inj2 hf
        subst e1
        subst e2
        exact kJ0 _ _ _ hP hS (lv_sub hl [1, 2, 3, 4, 5, 6] rfl)
      · have hf := (if_neg c10).symm.trans hf
        refine lv_iload S.1 S.2.1 dX6_sweep_60 (lv_at hl 5 rfl) ?_
        refine lv_aload_n S.1 S.2.1 dX6_sweep_62 rfl (lv_at hl 1 rfl) ?_
        refine r_get S hK hP (by decide) rfl rfl h_X6_sweep_X6 1 (by decide) k_X6_sweep_3 rfl dX6_sweep_63 ?_
        refine r_alen S hK hP (by decide) (n := 42) (fun _ => rfl) dX6_sweep_66 ?_
        refine lv_icmp_ge (tgt := 93) S.1 S.2.1 dX6_sweep_67 (by decide) (fun c11 => ?_) (fun c11 => ?_)
        · have hf := (if_pos c11).symm.trans hf
          obtain ⟨e1, e2⟩ := inj2 hf
          subst e1
          subst e2
          exact kJ0 _ _ _ hP hS (lv_sub hl [1, 2, 3, 4, 5, 6] rfl)
        · have hf := (if_neg c11).symm.trans hf
          refine lv_iload S.1 S.2.1 dX6_sweep_70 (lv_at hl 0 rfl) ?_
          refine lv_aload_n S.1 S.2.1 dX6_sweep_72 rfl (lv_at hl 1 rfl) ?_
          refine r_get S hK hP (by decide) rfl rfl h_X6_sweep_X6 1 (by decide) k_X6_sweep_3 rfl dX6_sweep_73 ?_
          refine lv_iload S.1 S.2.1 dX6_sweep_76 (lv_at hl 5 rfl) ?_
          obtain ⟨g12, hf⟩ := gd_some hf
          refine r_iald S hK hP (by decide) (n := 42) (fun _ => rfl) (by decide) g12 dX6_sweep_78 ?_
          refine lv_icmp_le (tgt := 93) S.1 S.2.1 dX6_sweep_79 (by decide) (fun c13 => ?_) (fun c13 => ?_)
          · have hf := (if_pos c13).symm.trans hf
            obtain ⟨e1, e2⟩ := inj2 hf
            subst e1
            subst e2
            exact kJ0 _ _ _ hP hS (lv_sub hl [1, 2, 3, 4, 5, 6] rfl)
          · have hf := (if_neg c13).symm.trans hf
            refine lv_aload_n S.1 S.2.1 dX6_sweep_82 rfl (lv_at hl 1 rfl) ?_
            refine r_get S hK hP (by decide) rfl rfl h_X6_sweep_X6 1 (by decide) k_X6_sweep_3 rfl dX6_sweep_83 ?_
            refine lv_iload S.1 S.2.1 dX6_sweep_86 (lv_at hl 5 rfl) ?_
            refine lv_iload S.1 S.2.1 dX6_sweep_88 (lv_at hl 0 rfl) ?_
            obtain ⟨σ14, hσ14, hf⟩ := nm_some hf
            refine r_iast S hK hP hO hS (by decide) (n := 42) (fun _ => rfl) (by decide) g12 hσ14 dX6_sweep_90 (fun H locs hP hS => ?_)
            refine r_iconst S dX6_sweep_91 ?_
            refine r_istore_n S rfl (lv2 := [(2, .int (zI 1)), (6, .int (zI y7)), (0, .ref (ad 30)), (1, .int (zI x1_)), (3, .int (zI x3_)), (4, .int (zI x4_)), (5, .int (zI x5_))]) dX6_sweep_92 rfl hl (by decide) rfl (fun ls hl => ?_)
            obtain ⟨e1, e2⟩ := inj2 hf
            subst e1
            subst e2
            exact kJ0 _ _ _ hP hS (lv_sub hl [2, 3, 0, 4, 5, 6] rfl)
set_option maxHeartbeats 4000000 in
set_option maxRecDepth 100000 in
theorem w_X6_sweep_L4 {p : Program} {l : Launch} {e : Env} {s : State} {m : MethodId} {args : Array Value} {below : List Frame} {meth : Method} {c : Code} {Q : State → Prop} {D : va_G} {cy : Nat → ClassId} {ad : Nat → Nat} {H0 : Heap} (hO : adOK 39 ad) (S : CallFix p m c cX6_sweep 7 s args wsX6_sweep RX6) (hK : KK D cy s) (n : Nat) (x1_ : Int) {res : Int × Mem} (k0 : ∀ (y2_ : Int) (τ : Mem) (H2 : Heap) (locs2 : List Loc) (ls2 : Array Slot), res = (y2_, τ) → va_P D vwCl (WW 39 (cellC cy ad) ad τ) H2 → va_S (AC 39 ad) H0 H2 locs2 → lv_has ls2 7 [(2, .int (zI y2_))] → W p l e rm_X6_sweep s m args below meth c H2 locs2 0 0 Q (F0 m 105 ls2 [])) :
    ∀ (k : Nat) (x2_ : Int) (x3_ : Int) (σ : Mem) (H : Heap) (locs : List Loc) (ls : Array Slot), f_X6_sweep_L4 n x1_ k x2_ x3_ σ = some res → va_P D vwCl (WW 39 (cellC cy ad) ad σ) H → va_S (AC 39 ad) H0 H locs → lv_has ls 7 [(0, .ref (ad 30)), (1, .int (zI x1_)), (2, .int (zI x2_)), (3, .int (zI x3_))] → W p l e rm_X6_sweep s m args below meth c H locs 0 0 Q (F0 m 4 ls []) := by
  intro k
  induction k with
  | zero =>
    intro x2_ x3_ σ H locs ls hf
    have hf : none = some res := hf
    cases hf
  | succ k ih =>
    intro x2_ x3_ σ H locs ls hf hP hS hl
    rw [f_X6_sweep_L4] at hf
    refine lv_iload_n S.1 S.2.1 dX6_sweep_4 rfl (lv_at hl 3 rfl) ?_
    refine r_if_lt (tgt := 105) S dX6_sweep_5 (by decide) (fun c1 => ?_) (fun c1 => ?_)
    · have hf := (if_pos c1).symm.trans hf
      exact k0 _ _ _ _ _ (Option.some.inj hf).symm hP hS (lv_sub hl [2] rfl)
    · have hf := (if_neg c1).symm.trans hf
      refine lv_iload_n S.1 S.2.1 dX6_sweep_8 rfl (lv_at hl 3 rfl) ?_
      refine r_bipush S dX6_sweep_9 (by decide) ?_
      refine r_imul S dX6_sweep_11 ?_
      refine lv_iload_n S.1 S.2.1 dX6_sweep_12 rfl (lv_at hl 1 rfl) ?_
      refine r_iadd S dX6_sweep_13 ?_
      obtain ⟨x2, hx2, hf⟩ := nm_some hf
      refine r_istore S hx2 (lv2 := [(4, .int (zI x2)), (0, .ref (ad 30)), (1, .int (zI x1_)), (2, .int (zI x2_)), (3, .int (zI x3_))]) dX6_sweep_14 hl (by decide) rfl (fun ls hl => ?_)
      refine r_iconst S dX6_sweep_16 ?_
      refine r_istore S rfl (lv2 := [(5, .int (zI 0)), (4, .int (zI x2)), (0, .ref (ad 30)), (1, .int (zI x1_)), (2, .int (zI x2_)), (3, .int (zI x3_))]) dX6_sweep_17 hl (by decide) rfl (fun ls hl => ?_)
      obtain ⟨x3, σ4, hq, hf⟩ := bL1_some hf
      refine w_X6_sweep_L19 hO S hK n x1_ x3_ x2 (fun x3 σ4 H locs ls he hP hS hl => ?_) n x2_ 0 σ _ _ _ hq hP hS (lv_sub hl [2, 3, 4, 5, 1, 0] rfl)
      cases he
      obtain ⟨x5, hx5, hf⟩ := nm_some hf
      refine r_iinc S hx5 (k0 := 3) (lv2 := [(3, .int (zI x5)), (0, .ref (ad 30)), (1, .int (zI x1_)), (2, .int (zI x3))]) dX6_sweep_99 hl rfl (by decide) rfl (fun ls hl => ?_)
      refine lv_goto (tgt := 4) S.1 S.2.1 dX6_sweep_102 (by decide) ?_
      exact ih x3 x5 σ4 _ _ _ hf hP hS (lv_sub hl [1, 2, 3, 0] rfl)
set_option maxHeartbeats 4000000 in
set_option maxRecDepth 100000 in
theorem c_X6_sweep (l : Launch) (D : va_G) (cy : Nat → ClassId) (ad : Nat → Nat) (hO : adOK 39 ad) (n : Nat) (a0 : Int) (σ : Mem) {v : Int} {τ : Mem} (hf : f_X6_sweep n a0 σ = some (v, τ)) : Met l yX6_sweep wsX6_sweep rm_X6_sweep (va_Pc [.ref (ad 30), .int (zI a0)] (PreW D cy 39 (cellC cy ad) ad σ)) (QI D 39 (cellC cy ad) ad v τ) 0 0 (AC 39 ad) := by
  refine r_met (cc := cX6_sweep) (maxL := 7) (ret := (some .boolean)) (own := RX6) (by decide) rfl rfl [.ref (ad 30), .int (zI a0)] (Nat.le_of_ble_eq_true rfl) ?_
  intro p e s m below meth c ls S hK hP hlk hr hl
  have hS : va_S (AC 39 ad) s.heap s.heap [] := va_S.rf
  have hl : lv_has ls 7 [(0, .ref (ad 30)), (1, .int (zI a0))] := hl
  unfold f_X6_sweep at hf
  refine r_iconst S dX6_sweep_0 ?_
  refine r_istore_n S rfl (lv2 := [(2, .int (zI 0)), (0, .ref (ad 30)), (1, .int (zI a0))]) dX6_sweep_1 rfl hl (by decide) rfl (fun ls hl => ?_)
  refine r_iconst S dX6_sweep_2 ?_
  refine r_istore_n S rfl (lv2 := [(3, .int (zI 5)), (2, .int (zI 0)), (0, .ref (ad 30)), (1, .int (zI a0))]) dX6_sweep_3 rfl hl (by decide) rfl (fun ls hl => ?_)
  obtain ⟨x1, σ2, hq, hf⟩ := bL1_some hf
  refine w_X6_sweep_L4 hO S hK n a0 (fun x1 σ2 H locs ls he hP hS hl => ?_) n 0 5 σ _ _ _ hq hP hS (lv_sub hl [2, 3, 1, 0] rfl)
  cases he
  refine lv_iload_n S.1 S.2.1 dX6_sweep_105 rfl (lv_at hl 0 rfl) ?_
  obtain ⟨hb3, hf⟩ := gd_some hf
  obtain ⟨e1, e2⟩ := inj2 hf
  subst e1
  subst e2
  exact e_Z S hlk hP hS hb3 hr dX6_sweep_106
def rm_X6_farthest : Room := { frames := 6, cells := 0, slots := 0, locals := 146 }
theorem k_X6_farthest_1 : (.fieldLink RX6 11 "MendTexts$Reach" "far" "[I" : Cond) ∈ wsX6_farthest := List.mem_of_getElem? (i := 1) (by decide +kernel)
theorem k_X6_farthest_2 : (.fieldLink RX6 17 "MendTexts$Reach" "chart" "LMendTexts$Chart;" : Cond) ∈ wsX6_farthest := List.mem_of_getElem? (i := 2) (by decide +kernel)
theorem h_X6_farthest_X6 : ∀ w ∈ u_ws RX6 TX6 2, w ∈ wsX6_farthest := mem_places _ [100, 101] (by decide +kernel)
theorem cw_X6_farthest_J7_fill_53178 {s : State} {args : Array Value} (hts : ∀ w ∈ wsX6_farthest, w.before args s = true) : CallB rm_X6_farthest s args RX6 21 yJ7_fill_53178 cJ7_fill_53178 4 none wsJ7_fill_53178 rm_J7_fill 0 0 2 ∧ (Cond.static yJ7_fill_53178).before args s = true := va_cwS 2 hts gX6_farthest_J7_fill_53178 rfl rfl rfl (by decide +kernel) ⟨Nat.le_of_ble_eq_true rfl, Nat.le_of_ble_eq_true rfl⟩
theorem cw_X6_farthest_X0_length {s : State} {args : Array Value} (hts : ∀ w ∈ wsX6_farthest, w.before args s = true) : CallW rm_X6_farthest s args RX6 RX0 27 yX0_length cX0_length 1 (some .int) wsX0_length rm_X0_length 0 0 0 := cwV 0 hts gX6_farthest_X0_length rfl rfl rfl (by decide +kernel) ⟨Nat.le_of_ble_eq_true rfl, Nat.le_of_ble_eq_true rfl⟩
theorem cw_X6_farthest_X6_farOfSign {s : State} {args : Array Value} (hts : ∀ w ∈ wsX6_farthest, w.before args s = true) : CallW rm_X6_farthest s args RX6 RX6 35 yX6_farOfSign cX6_farOfSign 4 (some .int) wsX6_farOfSign rm_X6_farOfSign 0 0 2 := cwV 2 hts gX6_farthest_X6_farOfSign rfl rfl rfl (by decide +kernel) ⟨Nat.le_of_ble_eq_true rfl, Nat.le_of_ble_eq_true rfl⟩
theorem cw_X6_farthest_X6_sweep {s : State} {args : Array Value} (hts : ∀ w ∈ wsX6_farthest, w.before args s = true) : CallW rm_X6_farthest s args RX6 RX6 31 yX6_sweep cX6_sweep 7 (some .boolean) wsX6_sweep rm_X6_sweep 0 0 1 := cwV 1 hts gX6_farthest_X6_sweep rfl rfl rfl (by decide +kernel) ⟨Nat.le_of_ble_eq_true rfl, Nat.le_of_ble_eq_true rfl⟩
set_option maxHeartbeats 4000000 in
set_option maxRecDepth 100000 in
theorem w_X6_farthest_L25 {p : Program} {l : Launch} {e : Env} {s : State} {m : MethodId} {args : Array Value} {below : List Frame} {meth : Method} {c : Code} {Q : State → Prop} {D : va_G} {cy : Nat → ClassId} {ad : Nat → Nat} {H0 : Heap} (hO : adOK 39 ad) (S : CallFix p m c cX6_farthest 5 s args wsX6_farthest RX6) (hK : KK D cy s) (n : Nat) (x1_ : Int) (x2_ : Int) {res : Mem} (k0 : ∀ (τ : Mem) (H2 : Heap) (locs2 : List Loc) (ls2 : Array Slot), res = τ → va_P D vwCl (WW 39 (cellC cy ad) ad τ) H2 → va_S (AC 39 ad) H0 H2 locs2 → lv_has ls2 5 [(0, .ref (ad 30)), (1, .int (zI x1_)), (2, .int (zI x2_))] → W p l e rm_X6_farthest s m args below meth c H2 locs2 0 0 Q (F0 m 48 ls2 [])) :
    ∀ (k : Nat) (x3_ : Int) (x4_ : Int) (σ : Mem) (H : Heap) (locs : List Loc) (ls : Array Slot), f_X6_farthest_L25 n x1_ x2_ k x3_ x4_ σ = some res → va_P D vwCl (WW 39 (cellC cy ad) ad σ) H → va_S (AC 39 ad) H0 H locs → lv_has ls 5 [(0, .ref (ad 30)), (1, .int (zI x1_)), (2, .int (zI x2_)), (3, .int (zI x3_)), (4, .int (zI x4_))] → W p l e rm_X6_farthest s m args below meth c H locs 0 0 Q (F0 m 25 ls []) := by
  intro k
  induction k with
  | zero =>
    intro x3_ x4_ σ H locs ls hf
    have hf : none = some res := hf
    cases hf
  | succ k ih =>
    intro x3_ x4_ σ H locs ls hf hP hS hl
    rw [f_X6_farthest_L25] at hf
    refine lv_iload_n S.1 S.2.1 dX6_farthest_25 rfl (lv_at hl 3 rfl) ?_
    refine r_if_eq (tgt := 48) S dX6_farthest_26 (by decide) (fun c1 => ?_) (fun c1 => ?_)
    · have hf := (if_pos c1).symm.trans hf
      exact k0 _ _ _ _ (Option.some.inj hf).symm hP hS (lv_sub hl [0, 1, 2] rfl)
    · have hf := (if_neg c1).symm.trans hf
      refine lv_iload S.1 S.2.1 dX6_farthest_29 (lv_at hl 4 rfl) ?_
      refine r_bipush S dX6_farthest_31 (by decide) ?_
      refine lv_icmp_ge (tgt := 48) S.1 S.2.1 dX6_farthest_33 (by decide) (fun c2 => ?_) (fun c2 => ?_)
      · have hf := (if_pos c2).symm.trans hf
        exact k0 _ _ _ _ (Option.some.inj hf).symm hP hS (lv_sub hl [0, 1, 2] rfl)
      · have hf := (if_neg c2).symm.trans hf
        refine lv_aload_n S.1 S.2.1 dX6_farthest_36 rfl (lv_at hl 0 rfl) ?_
        refine lv_iload_n S.1 S.2.1 dX6_farthest_37 rfl (lv_at hl 2 rfl) ?_
        obtain ⟨y5, σ4, hq3, hf⟩ := bL1_some hf
        refine r_callVI S hK hP hS (by decide) rfl rfl [.int (zI x2_)] (c_X6_sweep l D cy ad hO n x2_ σ hq3) (cw_X6_farthest_X6_sweep S.2.2.2.2) rfl hl.1 (rest := []) rfl (Nat.le_of_ble_eq_true rfl) dX6_farthest_38 ⟨Nat.zero_le _, Nat.zero_le _⟩ (fun H locs hP hS => ?_)
        refine r_istore_n S rfl (lv2 := [(3, .int (zI y5)), (0, .ref (ad 30)), (1, .int (zI x1_)), (2, .int (zI x2_)), (4, .int (zI x4_))]) dX6_farthest_41 rfl hl (by decide) rfl (fun ls hl => ?_)
        obtain ⟨x6, hx6, hf⟩ := nm_some hf
        refine r_iinc S hx6 (k0 := 4) (lv2 := [(4, .int (zI x6)), (3, .int (zI y5)), (0, .ref (ad 30)), (1, .int (zI x1_)), (2, .int (zI x2_))]) dX6_farthest_42 hl rfl (by decide) rfl (fun ls hl => ?_)
        refine lv_goto (tgt := 25) S.1 S.2.1 dX6_farthest_45 (by decide) ?_
        exact ih y5 x6 σ4 _ _ _ hf hP hS (lv_sub hl [2, 3, 4, 1, 0] rfl)
set_option maxHeartbeats 4000000 in
set_option maxRecDepth 100000 in
theorem w_X6_farthest_L16 {p : Program} {l : Launch} {e : Env} {s : State} {m : MethodId} {args : Array Value} {below : List Frame} {meth : Method} {c : Code} {Q : State → Prop} {D : va_G} {cy : Nat → ClassId} {ad : Nat → Nat} {H0 : Heap} (hO : adOK 39 ad) (S : CallFix p m c cX6_farthest 5 s args wsX6_farthest RX6) (hK : KK D cy s) (n : Nat) (x1_ : Int) {res : Mem} (k0 : ∀ (τ : Mem) (H2 : Heap) (locs2 : List Loc) (ls2 : Array Slot), res = τ → va_P D vwCl (WW 39 (cellC cy ad) ad τ) H2 → va_S (AC 39 ad) H0 H2 locs2 → lv_has ls2 5 [(0, .ref (ad 30)), (1, .int (zI x1_))] → W p l e rm_X6_farthest s m args below meth c H2 locs2 0 0 Q (F0 m 54 ls2 [])) :
    ∀ (k : Nat) (x2_ : Int) (σ : Mem) (H : Heap) (locs : List Loc) (ls : Array Slot), f_X6_farthest_L16 n x1_ k x2_ σ = some res → va_P D vwCl (WW 39 (cellC cy ad) ad σ) H → va_S (AC 39 ad) H0 H locs → lv_has ls 5 [(0, .ref (ad 30)), (1, .int (zI x1_)), (2, .int (zI x2_))] → W p l e rm_X6_farthest s m args below meth c H locs 0 0 Q (F0 m 16 ls []) := by
  intro k
  induction k with
  | zero =>
    intro x2_ σ H locs ls hf
    have hf : none = some res := hf
    cases hf
  | succ k ih =>
    intro x2_ σ H locs ls hf hP hS hl
    rw [f_X6_farthest_L16] at hf
    refine lv_iload_n S.1 S.2.1 dX6_farthest_16 rfl (lv_at hl 2 rfl) ?_
    refine r_if_lt (tgt := 54) S dX6_farthest_17 (by decide) (fun c1 => ?_) (fun c1 => ?_)
    · have hf := (if_pos c1).symm.trans hf
      exact k0 _ _ _ _ (Option.some.inj hf).symm hP hS (lv_sub hl [0, 1] rfl)
    · have hf := (if_neg c1).symm.trans hf
      refine r_iconst S dX6_farthest_20 ?_
      refine r_istore_n S rfl (lv2 := [(3, .int (zI 1)), (0, .ref (ad 30)), (1, .int (zI x1_)), (2, .int (zI x2_))]) dX6_farthest_21 rfl hl (by decide) rfl (fun ls hl => ?_)
      refine r_iconst S dX6_farthest_22 ?_
      refine r_istore S rfl (lv2 := [(4, .int (zI 0)), (3, .int (zI 1)), (0, .ref (ad 30)), (1, .int (zI x1_)), (2, .int (zI x2_))]) dX6_farthest_23 hl (by decide) rfl (fun ls hl => ?_)
      obtain ⟨σ2, hq, hf⟩ := bV_some hf
      refine w_X6_farthest_L25 hO S hK n x1_ x2_ (fun σ2 H locs ls he hP hS hl => ?_) n 1 0 σ _ _ _ hq hP hS (lv_sub hl [2, 3, 4, 1, 0] rfl)
      cases he
      obtain ⟨x3, hx3, hf⟩ := nm_some hf
      refine r_iinc S hx3 (k0 := 2) (lv2 := [(2, .int (zI x3)), (0, .ref (ad 30)), (1, .int (zI x1_))]) dX6_farthest_48 hl rfl (by decide) rfl (fun ls hl => ?_)
      refine lv_goto (tgt := 16) S.1 S.2.1 dX6_farthest_51 (by decide) ?_
      exact ih x3 σ2 _ _ _ hf hP hS (lv_sub hl [1, 2, 0] rfl)
set_option maxHeartbeats 4000000 in
set_option maxRecDepth 100000 in
theorem c_X6_farthest (l : Launch) (D : va_G) (cy : Nat → ClassId) (ad : Nat → Nat) (hO : adOK 39 ad) (n : Nat) (a0 : Int) (σ : Mem) {v : Int} {τ : Mem} (hf : f_X6_farthest n a0 σ = some (v, τ)) : Met l yX6_farthest wsX6_farthest rm_X6_farthest (va_Pc [.ref (ad 30), .int (zI a0)] (PreW D cy 39 (cellC cy ad) ad σ)) (QI D 39 (cellC cy ad) ad v τ) 0 0 (AC 39 ad) := by
  refine r_met (cc := cX6_farthest) (maxL := 5) (ret := (some .int)) (own := RX6) (by decide) rfl rfl [.ref (ad 30), .int (zI a0)] (Nat.le_of_ble_eq_true rfl) ?_
  intro p e s m below meth c ls S hK hP hlk hr hl
  have hS : va_S (AC 39 ad) s.heap s.heap [] := va_S.rf
  have hl : lv_has ls 5 [(0, .ref (ad 30)), (1, .int (zI a0))] := hl
  unfold f_X6_farthest at hf
  refine lv_aload_n S.1 S.2.1 dX6_farthest_0 rfl (lv_at hl 0 rfl) ?_
  refine r_get S hK hP (by decide) rfl rfl h_X6_farthest_X6 1 (by decide) k_X6_farthest_1 rfl dX6_farthest_1 ?_
  refine r_iconst S dX6_farthest_4 ?_
  obtain ⟨σ1, hσ1, hf⟩ := nm_some hf
  refine r_callSV S hK hP hS [.ref (ad 31), .int (zI ((-1)))] (c_J7_fill l D cy 39 (cell := cellC cy ad) ad hO (k := 31) 42 (by decide) (fun _ => rfl) (by decide) ((-1)) _ hσ1) (cw_X6_farthest_J7_fill_53178 S.2.2.2.2) rfl hl.1 (rest := []) rfl (Nat.le_of_ble_eq_true rfl) dX6_farthest_5 ⟨Nat.zero_le _, Nat.zero_le _⟩ (fun H locs hP hS => ?_)
  refine lv_aload_n S.1 S.2.1 dX6_farthest_8 rfl (lv_at hl 0 rfl) ?_
  refine r_get S hK hP (by decide) rfl rfl h_X6_farthest_X6 0 (by decide) k_X6_farthest_2 rfl dX6_farthest_9 ?_
  obtain ⟨y3, hq2, hf⟩ := bV_some hf
  refine r_callVI S hK hP hS (by decide) rfl rfl [] (c_X0_length l D cy ad hO σ1 hq2) (cw_X6_farthest_X0_length S.2.2.2.2) rfl hl.1 (rest := []) rfl (Nat.le_of_ble_eq_true rfl) dX6_farthest_12 ⟨Nat.zero_le _, Nat.zero_le _⟩ (fun H locs hP hS => ?_)
  refine r_istore_n S rfl (lv2 := [(2, .int (zI y3)), (0, .ref (ad 30)), (1, .int (zI a0))]) dX6_farthest_15 rfl hl (by decide) rfl (fun ls hl => ?_)
  obtain ⟨σ4, hq, hf⟩ := bV_some hf
  refine w_X6_farthest_L16 hO S hK n a0 (fun σ4 H locs ls he hP hS hl => ?_) n y3 σ1 _ _ _ hq hP hS (lv_sub hl [1, 2, 0] rfl)
  cases he
  refine lv_aload_n S.1 S.2.1 dX6_farthest_54 rfl (lv_at hl 0 rfl) ?_
  refine r_iconst S dX6_farthest_55 ?_
  refine lv_iload_n S.1 S.2.1 dX6_farthest_56 rfl (lv_at hl 1 rfl) ?_
  refine r_iadd S dX6_farthest_57 ?_
  refine r_iconst S dX6_farthest_58 ?_
  obtain ⟨y6, hq5, hf⟩ := bV_some hf
  refine r_callVI S hK hP hS (by decide) rfl rfl [.int (zI (4 + a0)), .int (zI 0)] (c_X6_farOfSign l D cy ad hO (4 + a0) 0 σ4 hq5) (cw_X6_farthest_X6_farOfSign S.2.2.2.2) rfl hl.1 (rest := []) rfl (Nat.le_of_ble_eq_true rfl) dX6_farthest_59 ⟨Nat.zero_le _, Nat.zero_le _⟩ (fun H locs hP hS => ?_)
  obtain ⟨e1, e2⟩ := inj2 hf
  subst e1
  subst e2
  exact e_I S hlk hP hS hr dX6_farthest_62
def rm_X11_first : Room := { frames := 7, cells := 0, slots := 0, locals := 170 }
theorem k_X11_first_1 : (.fieldLink RX11 66 "MendTexts" "reach" "LMendTexts$Reach;" : Cond) ∈ wsX11_first := List.mem_of_getElem? (i := 1) (by decide +kernel)
theorem k_X11_first_2 : (.fieldLink RX11 38 "MendTexts" "typed" "LMendTexts$Word;" : Cond) ∈ wsX11_first := List.mem_of_getElem? (i := 2) (by decide +kernel)
theorem k_X11_first_3 : (.fieldLink RX11 171 "MendTexts$Word" "length" "I" : Cond) ∈ wsX11_first := List.mem_of_getElem? (i := 3) (by decide +kernel)
theorem h_X11_first_X11 : ∀ w ∈ u_ws RX11 TX11 13, w ∈ wsX11_first := mem_places _ [195, 196, 197, 198, 199, 200, 201, 202, 203, 204, 205, 206, 207] (by decide +kernel)
theorem h_X11_first_X10 : ∀ w ∈ u_ws RX10 TX10 2, w ∈ wsX11_first := mem_places _ [208, 209] (by decide +kernel)
theorem cw_X11_first_X11_chartOfWord {s : State} {args : Array Value} (hts : ∀ w ∈ wsX11_first, w.before args s = true) : CallW rm_X11_first s args RX11 RX11 144 yX11_chartOfWord cX11_chartOfWord 1 (some (.object "MendTexts$Chart")) wsX11_chartOfWord rm_X11_chartOfWord 0 0 0 := cwV 0 hts gX11_first_X11_chartOfWord rfl rfl rfl (by decide +kernel) ⟨Nat.le_of_ble_eq_true rfl, Nat.le_of_ble_eq_true rfl⟩
theorem cw_X11_first_X11_isName {s : State} {args : Array Value} (hts : ∀ w ∈ wsX11_first, w.before args s = true) : CallB rm_X11_first s args RX11 125 yX11_isName cX11_isName 1 (some .boolean) wsX11_isName rm_X11_isName 0 0 1 ∧ (Cond.static yX11_isName).before args s = true := va_cwS 1 hts gX11_first_X11_isName rfl rfl rfl (by decide +kernel) ⟨Nat.le_of_ble_eq_true rfl, Nat.le_of_ble_eq_true rfl⟩
theorem cw_X11_first_X6_farthest {s : State} {args : Array Value} (hts : ∀ w ∈ wsX11_first, w.before args s = true) : CallW rm_X11_first s args RX11 RX6 178 yX6_farthest cX6_farthest 5 (some .int) wsX6_farthest rm_X6_farthest 0 0 1 := cwV 1 hts gX11_first_X6_farthest rfl rfl rfl (by decide +kernel) ⟨Nat.le_of_ble_eq_true rfl, Nat.le_of_ble_eq_true rfl⟩
set_option maxHeartbeats 4000000 in
set_option maxRecDepth 100000 in
theorem c_X11_first (l : Launch) (D : va_G) (cy : Nat → ClassId) (ad : Nat → Nat) (hO : adOK 39 ad) (n : Nat) (a0 : Int) (σ : Mem) {v : Int} {τ : Mem} (hf : f_X11_first n a0 σ = some (v, τ)) : Met l yX11_first wsX11_first rm_X11_first (va_Pc [.ref (ad 0), .int (zI a0)] (PreW D cy 39 (cellC cy ad) ad σ)) (QI D 39 (cellC cy ad) ad v τ) 0 0 (AC 39 ad) := by
  refine r_met (cc := cX11_first) (maxL := 3) (ret := (some .int)) (own := RX11) (by decide) rfl rfl [.ref (ad 0), .int (zI a0)] (Nat.le_of_ble_eq_true rfl) ?_
  intro p e s m below meth c ls S hK hP hlk hr hl
  have hS : va_S (AC 39 ad) s.heap s.heap [] := va_S.rf
  have hl : lv_has ls 3 [(0, .ref (ad 0)), (1, .int (zI a0))] := hl
  unfold f_X11_first at hf
  refine lv_iload_n S.1 S.2.1 dX11_first_0 rfl (lv_at hl 1 rfl) ?_
  obtain ⟨y2, hq1, hf⟩ := bV_some hf
  refine r_callSI S hK hP hS [.int (zI a0)] (c_X11_isName l D cy ad hO a0 σ hq1) (cw_X11_first_X11_isName S.2.2.2.2) rfl hl.1 (rest := []) rfl (Nat.le_of_ble_eq_true rfl) dX11_first_1 ⟨Nat.zero_le _, Nat.zero_le _⟩ (fun H locs hP hS => ?_)
  refine r_if_ne (tgt := 9) S dX11_first_4 (by decide) (fun c3 => ?_) (fun c3 => ?_)
  · have hf := (if_neg c3).symm.trans hf
    refine lv_aload_n S.1 S.2.1 dX11_first_9 rfl (lv_at hl 0 rfl) ?_
    obtain ⟨w6, σ5, hq4, hf⟩ := bL1_some hf
    refine r_callVR S hK hP hS (by decide) rfl rfl [] (c_X11_chartOfWord l D cy ad hO n σ hq4) (cw_X11_first_X11_chartOfWord S.2.2.2.2) rfl hl.1 (rest := []) rfl (Nat.le_of_ble_eq_true rfl) dX11_first_10 ⟨Nat.zero_le _, Nat.zero_le _⟩ (fun H locs hP hS => ?_)
    obtain ⟨hw7, hf⟩ := gd_some hf
    subst hw7
    refine lv_pop S.1 S.2.1 dX11_first_13 rfl ?_
    refine lv_aload_n S.1 S.2.1 dX11_first_14 rfl (lv_at hl 0 rfl) ?_
    refine r_get S hK hP (by decide) rfl rfl h_X11_first_X11 8 (by decide) k_X11_first_1 rfl dX11_first_15 ?_
    refine lv_iload_n S.1 S.2.1 dX11_first_18 rfl (lv_at hl 1 rfl) ?_
    obtain ⟨y10, σ9, hq8, hf⟩ := bL1_some hf
    refine r_callVI S hK hP hS (by decide) rfl rfl [.int (zI a0)] (c_X6_farthest l D cy ad hO n a0 σ5 hq8) (cw_X11_first_X6_farthest S.2.2.2.2) rfl hl.1 (rest := []) rfl (Nat.le_of_ble_eq_true rfl) dX11_first_19 ⟨Nat.zero_le _, Nat.zero_le _⟩ (fun H locs hP hS => ?_)
    refine r_istore_n S rfl (lv2 := [(2, .int (zI y10)), (0, .ref (ad 0)), (1, .int (zI a0))]) dX11_first_22 rfl hl (by decide) rfl (fun ls hl => ?_)
    refine lv_iload_n S.1 S.2.1 dX11_first_23 rfl (lv_at hl 0 rfl) ?_
    refine lv_aload_n S.1 S.2.1 dX11_first_24 rfl (lv_at hl 1 rfl) ?_
    refine r_get S hK hP (by decide) rfl rfl h_X11_first_X11 4 (by decide) k_X11_first_2 rfl dX11_first_25 ?_
    refine r_get S hK hP (by decide) rfl rfl h_X11_first_X10 1 (by decide) k_X11_first_3 rfl dX11_first_28 ?_
    refine lv_icmp_ne (tgt := 39) S.1 S.2.1 dX11_first_31 (by decide) (fun c11 => ?_) (fun c11 => ?_)
    · have hf := (if_neg c11).symm.trans hf
      refine lv_iload_n S.1 S.2.1 dX11_first_39 rfl (lv_at hl 0 rfl) ?_
      refine r_iconst S dX11_first_40 ?_
      refine r_iadd S dX11_first_41 ?_
      obtain ⟨e1, e2⟩ := inj2 hf
      subst e1
      subst e2
      exact e_I S hlk hP hS hr dX11_first_42
    · have hf := (if_pos c11).symm.trans hf
      refine r_bipush S dX11_first_34 (by decide) ?_
      refine lv_goto (tgt := 42) S.1 S.2.1 dX11_first_36 (by decide) ?_
      obtain ⟨e1, e2⟩ := inj2 hf
      subst e1
      subst e2
      exact e_I S hlk hP hS hr dX11_first_42
  · have hf := (if_pos c3).symm.trans hf
    refine r_iconst S dX11_first_7 ?_
    obtain ⟨e1, e2⟩ := inj2 hf
    subst e1
    subst e2
    exact e_I S hlk hP hS hr dX11_first_8
def rm_X11_forget : Room := { frames := 1, cells := 0, slots := 0, locals := 20 }
theorem k_X11_forget_1 : (.fieldLink RX11 48 "MendTexts" "examples" "LMendTexts$Examples;" : Cond) ∈ wsX11_forget := List.mem_of_getElem? (i := 1) (by decide +kernel)
theorem k_X11_forget_2 : (.fieldLink RX11 229 "MendTexts$Examples" "count" "I" : Cond) ∈ wsX11_forget := List.mem_of_getElem? (i := 2) (by decide +kernel)
theorem k_X11_forget_3 : (.fieldLink RX11 87 "MendTexts" "search" "LMendTexts$Search;" : Cond) ∈ wsX11_forget := List.mem_of_getElem? (i := 3) (by decide +kernel)
theorem h_X11_forget_X11 : ∀ w ∈ u_ws RX11 TX11 13, w ∈ wsX11_forget := mem_places _ [10, 11, 12, 13, 14, 15, 16, 17, 18, 19, 20, 21, 22] (by decide +kernel)
theorem h_X11_forget_X2 : ∀ w ∈ u_ws RX2 TX2 3, w ∈ wsX11_forget := mem_places _ [23, 24, 25] (by decide +kernel)
theorem cw_X11_forget_X9_forgetBest {s : State} {args : Array Value} (hts : ∀ w ∈ wsX11_forget, w.before args s = true) : CallW rm_X11_forget s args RX11 RX9 226 yX9_forgetBest cX9_forgetBest 1 none wsX9_forgetBest rm_X9_forgetBest 0 0 0 := cwV 0 hts gX11_forget_X9_forgetBest rfl rfl rfl (by decide +kernel) ⟨Nat.le_of_ble_eq_true rfl, Nat.le_of_ble_eq_true rfl⟩
set_option maxHeartbeats 4000000 in
set_option maxRecDepth 100000 in
theorem c_X11_forget (l : Launch) (D : va_G) (cy : Nat → ClassId) (ad : Nat → Nat) (hO : adOK 39 ad) (σ : Mem) {v : Int} {τ : Mem} (hf : f_X11_forget σ = some (v, τ)) : Met l yX11_forget wsX11_forget rm_X11_forget (va_Pc [.ref (ad 0)] (PreW D cy 39 (cellC cy ad) ad σ)) (QI D 39 (cellC cy ad) ad v τ) 0 0 (AC 39 ad) := by
  refine r_met (cc := cX11_forget) (maxL := 2) (ret := (some .int)) (own := RX11) (by decide) rfl rfl [.ref (ad 0)] (Nat.le_of_ble_eq_true rfl) ?_
  intro p e s m below meth c ls S hK hP hlk hr hl
  have hS : va_S (AC 39 ad) s.heap s.heap [] := va_S.rf
  have hl : lv_has ls 2 [(0, .ref (ad 0))] := hl
  unfold f_X11_forget at hf
  refine lv_aload_n S.1 S.2.1 dX11_forget_0 rfl (lv_at hl 0 rfl) ?_
  refine r_get S hK hP (by decide) rfl rfl h_X11_forget_X11 6 (by decide) k_X11_forget_1 rfl dX11_forget_1 ?_
  refine r_get S hK hP (by decide) rfl rfl h_X11_forget_X2 2 (by decide) k_X11_forget_2 rfl dX11_forget_4 ?_
  obtain ⟨x1, hx1, hf⟩ := nm_some hf
  refine r_istore_n S hx1 (lv2 := [(1, .int (zI x1)), (0, .ref (ad 0))]) dX11_forget_7 rfl hl (by decide) rfl (fun ls hl => ?_)
  refine lv_aload_n S.1 S.2.1 dX11_forget_8 rfl (lv_at hl 1 rfl) ?_
  refine r_get S hK hP (by decide) rfl rfl h_X11_forget_X11 6 (by decide) k_X11_forget_1 rfl dX11_forget_9 ?_
  refine r_iconst S dX11_forget_12 ?_
  obtain ⟨σ2, hσ2, hf⟩ := nm_some hf
  refine r_put S hK hP hO hS (by decide) rfl rfl h_X11_forget_X2 tyX2 tyX2_ok nmX2 2 (by decide) k_X11_forget_2 rfl (tyX2_ok 2 (by decide)) rfl rfl (Nat.le_of_ble_eq_true rfl) hσ2 rfl dX11_forget_13 (fun H locs hP hS => ?_)
  refine lv_aload_n S.1 S.2.1 dX11_forget_16 rfl (lv_at hl 1 rfl) ?_
  refine r_get S hK hP (by decide) rfl rfl h_X11_forget_X11 11 (by decide) k_X11_forget_3 rfl dX11_forget_17 ?_
  obtain ⟨σ4, hq3, hf⟩ := bV_some hf
  refine r_callVV S hK hP hS (by decide) rfl rfl [] (c_X9_forgetBest l D cy ad hO σ2 hq3) (cw_X11_forget_X9_forgetBest S.2.2.2.2) rfl hl.1 (rest := []) rfl (Nat.le_of_ble_eq_true rfl) dX11_forget_20 ⟨Nat.zero_le _, Nat.zero_le _⟩ (fun H locs hP hS => ?_)
  refine lv_iload_n S.1 S.2.1 dX11_forget_23 rfl (lv_at hl 0 rfl) ?_
  obtain ⟨e1, e2⟩ := inj2 hf
  subst e1
  subst e2
  exact e_I S hlk hP hS hr dX11_forget_24
def rm_X4_copy : Room := { frames := 1, cells := 0, slots := 0, locals := 60 }
theorem k_X4_copy_1 : (.fieldLink RX4 11 "MendTexts$Grammar" "counts" "[I" : Cond) ∈ wsX4_copy := List.mem_of_getElem? (i := 1) (by decide +kernel)
theorem k_X4_copy_2 : (.methodLink RX4 40 arraycopyName : Cond) ∈ wsX4_copy := List.mem_of_getElem? (i := 2) (by decide +kernel)
theorem k_X4_copy_3 : (.native arraycopyName : Cond) ∈ wsX4_copy := List.mem_of_getElem? (i := 3) (by decide +kernel)
theorem k_X4_copy_4 : (.static arraycopyName : Cond) ∈ wsX4_copy := List.mem_of_getElem? (i := 4) (by decide +kernel)
theorem k_X4_copy_5 : (.initialized "java/lang/System" : Cond) ∈ wsX4_copy := List.mem_of_getElem? (i := 5) (by decide +kernel)
theorem k_X4_copy_6 : (.fieldLink RX4 15 "MendTexts$Grammar" "lengths" "[I" : Cond) ∈ wsX4_copy := List.mem_of_getElem? (i := 6) (by decide +kernel)
theorem k_X4_copy_7 : (.fieldLink RX4 18 "MendTexts$Grammar" "signs" "[I" : Cond) ∈ wsX4_copy := List.mem_of_getElem? (i := 7) (by decide +kernel)
theorem k_X4_copy_8 : (.fieldLink RX4 21 "MendTexts$Grammar" "namesTold" "I" : Cond) ∈ wsX4_copy := List.mem_of_getElem? (i := 8) (by decide +kernel)
theorem k_X4_copy_9 : (.fieldLink RX4 25 "MendTexts$Grammar" "start" "I" : Cond) ∈ wsX4_copy := List.mem_of_getElem? (i := 9) (by decide +kernel)
theorem h_X4_copy_X4 : ∀ w ∈ u_ws RX4 TX4 7, w ∈ wsX4_copy := mem_places _ [10, 11, 12, 13, 14, 15, 16] (by decide +kernel)
set_option maxHeartbeats 4000000 in
set_option maxRecDepth 100000 in
theorem c_X4_copy (l : Launch) (D : va_G) (cy : Nat → ClassId) (ad : Nat → Nat) (hO : adOK 39 ad) (σ : Mem) {τ : Mem} (hf : f_X4_copy σ = some τ) : Met l yX4_copy wsX4_copy rm_X4_copy (va_Pc [.ref (ad 3), .ref (ad 7)] (PreW D cy 39 (cellC cy ad) ad σ)) (QV D 39 (cellC cy ad) ad τ) 0 0 (AC 39 ad) := by
  refine r_met (cc := cX4_copy) (maxL := 2) (ret := none) (own := RX4) (by decide) rfl rfl [.ref (ad 3), .ref (ad 7)] (Nat.le_of_ble_eq_true rfl) ?_
  intro p e s m below meth c ls S hK hP hlk hr hl
  have hS : va_S (AC 39 ad) s.heap s.heap [] := va_S.rf
  have hl : lv_has ls 2 [(0, .ref (ad 3)), (1, .ref (ad 7))] := hl
  unfold f_X4_copy at hf
  refine lv_aload_n S.1 S.2.1 dX4_copy_0 rfl (lv_at hl 1 rfl) ?_
  refine r_get S hK hP (by decide) rfl rfl h_X4_copy_X4 0 (by decide) k_X4_copy_1 rfl dX4_copy_1 ?_
  refine r_iconst S dX4_copy_4 ?_
  refine lv_aload_n S.1 S.2.1 dX4_copy_5 rfl (lv_at hl 0 rfl) ?_
  refine r_get S hK hP (by decide) rfl rfl h_X4_copy_X4 0 (by decide) k_X4_copy_1 rfl dX4_copy_6 ?_
  refine r_iconst S dX4_copy_9 ?_
  refine r_bipush S dX4_copy_10 (by decide) ?_
  obtain ⟨σ1, hσ1, hf⟩ := nm_some hf
  refine r_copy S hK hP hO hS hl.1 k_X4_copy_2 k_X4_copy_3 k_X4_copy_4 k_X4_copy_5 (by decide) (by decide) (n := 6) (n2 := 6) (fun _ => rfl) (fun _ => rfl) (by decide) ⟨Nat.le_of_ble_eq_true rfl, Nat.le_of_ble_eq_true rfl⟩ hσ1 dX4_copy_12 (fun H locs hP hS => ?_)
  refine lv_aload_n S.1 S.2.1 dX4_copy_15 rfl (lv_at hl 1 rfl) ?_
  refine r_get S hK hP (by decide) rfl rfl h_X4_copy_X4 1 (by decide) k_X4_copy_6 rfl dX4_copy_16 ?_
  refine r_iconst S dX4_copy_19 ?_
  refine lv_aload_n S.1 S.2.1 dX4_copy_20 rfl (lv_at hl 0 rfl) ?_
  refine r_get S hK hP (by decide) rfl rfl h_X4_copy_X4 1 (by decide) k_X4_copy_6 rfl dX4_copy_21 ?_
  refine r_iconst S dX4_copy_24 ?_
  refine r_bipush S dX4_copy_25 (by decide) ?_
  obtain ⟨σ2, hσ2, hf⟩ := nm_some hf
  refine r_copy S hK hP hO hS hl.1 k_X4_copy_2 k_X4_copy_3 k_X4_copy_4 k_X4_copy_5 (by decide) (by decide) (n := 25) (n2 := 25) (fun _ => rfl) (fun _ => rfl) (by decide) ⟨Nat.le_of_ble_eq_true rfl, Nat.le_of_ble_eq_true rfl⟩ hσ2 dX4_copy_27 (fun H locs hP hS => ?_)
  refine lv_aload_n S.1 S.2.1 dX4_copy_30 rfl (lv_at hl 1 rfl) ?_
  refine r_get S hK hP (by decide) rfl rfl h_X4_copy_X4 2 (by decide) k_X4_copy_7 rfl dX4_copy_31 ?_
  refine r_iconst S dX4_copy_34 ?_
  refine lv_aload_n S.1 S.2.1 dX4_copy_35 rfl (lv_at hl 0 rfl) ?_
  refine r_get S hK hP (by decide) rfl rfl h_X4_copy_X4 2 (by decide) k_X4_copy_7 rfl dX4_copy_36 ?_
  refine r_iconst S dX4_copy_39 ?_
  refine r_bipush S dX4_copy_40 (by decide) ?_
  obtain ⟨σ3, hσ3, hf⟩ := nm_some hf
  refine r_copy S hK hP hO hS hl.1 k_X4_copy_2 k_X4_copy_3 k_X4_copy_4 k_X4_copy_5 (by decide) (by decide) (n := 100) (n2 := 100) (fun _ => rfl) (fun _ => rfl) (by decide) ⟨Nat.le_of_ble_eq_true rfl, Nat.le_of_ble_eq_true rfl⟩ hσ3 dX4_copy_42 (fun H locs hP hS => ?_)
  refine lv_aload_n S.1 S.2.1 dX4_copy_45 rfl (lv_at hl 0 rfl) ?_
  refine lv_aload_n S.1 S.2.1 dX4_copy_46 rfl (lv_at hl 1 rfl) ?_
  refine r_get S hK hP (by decide) rfl rfl h_X4_copy_X4 3 (by decide) k_X4_copy_8 rfl dX4_copy_47 ?_
  obtain ⟨σ4, hσ4, hf⟩ := nm_some hf
  refine r_put S hK hP hO hS (by decide) rfl rfl h_X4_copy_X4 tyX4 tyX4_ok nmX4 3 (by decide) k_X4_copy_8 rfl (tyX4_ok 3 (by decide)) rfl rfl (Nat.le_of_ble_eq_true rfl) hσ4 rfl dX4_copy_50 (fun H locs hP hS => ?_)
  refine lv_aload_n S.1 S.2.1 dX4_copy_53 rfl (lv_at hl 0 rfl) ?_
  refine lv_aload_n S.1 S.2.1 dX4_copy_54 rfl (lv_at hl 1 rfl) ?_
  refine r_get S hK hP (by decide) rfl rfl h_X4_copy_X4 4 (by decide) k_X4_copy_9 rfl dX4_copy_55 ?_
  obtain ⟨σ5, hσ5, hf⟩ := nm_some hf
  refine r_put S hK hP hO hS (by decide) rfl rfl h_X4_copy_X4 tyX4 tyX4_ok nmX4 4 (by decide) k_X4_copy_9 rfl (tyX4_ok 4 (by decide)) rfl rfl (Nat.le_of_ble_eq_true rfl) hσ5 rfl dX4_copy_58 (fun H locs hP hS => ?_)
  have e1 := Option.some.inj hf
  subst e1
  exact e_V S hlk hP hS hr dX4_copy_61
def rm_X11_grammar : Room := { frames := 7, cells := 0, slots := 0, locals := 153 }
theorem k_X11_grammar_1 : (.fieldLink RX11 12 "MendTexts" "pad" "LMendTexts$Pad;" : Cond) ∈ wsX11_grammar := List.mem_of_getElem? (i := 1) (by decide +kernel)
theorem k_X11_grammar_2 : (.fieldLink RX11 23 "MendTexts" "draft" "LMendTexts$Grammar;" : Cond) ∈ wsX11_grammar := List.mem_of_getElem? (i := 2) (by decide +kernel)
theorem k_X11_grammar_3 : (.fieldLink RX11 19 "MendTexts" "rules" "LMendTexts$Grammar;" : Cond) ∈ wsX11_grammar := List.mem_of_getElem? (i := 3) (by decide +kernel)
theorem k_X11_grammar_4 : (.fieldLink RX11 99 "MendTexts$Pad" "count" "I" : Cond) ∈ wsX11_grammar := List.mem_of_getElem? (i := 4) (by decide +kernel)
theorem k_X11_grammar_5 : (.fieldLink RX11 116 "MendTexts$Grammar" "namesTold" "I" : Cond) ∈ wsX11_grammar := List.mem_of_getElem? (i := 5) (by decide +kernel)
theorem h_X11_grammar_X11 : ∀ w ∈ u_ws RX11 TX11 13, w ∈ wsX11_grammar := mem_places _ [119, 120, 121, 122, 123, 124, 125, 126, 127, 128, 129, 130, 131] (by decide +kernel)
theorem h_X11_grammar_X5 : ∀ w ∈ u_ws RX5 TX5 2, w ∈ wsX11_grammar := mem_places _ [132, 133] (by decide +kernel)
theorem h_X11_grammar_X4 : ∀ w ∈ u_ws RX4 TX4 7, w ∈ wsX11_grammar := mem_places _ [134, 135, 136, 137, 138, 139, 140] (by decide +kernel)
theorem cw_X11_grammar_J6_bitCount_0f7a4 {s : State} {args : Array Value} (hts : ∀ w ∈ wsX11_grammar, w.before args s = true) : CallB rm_X11_grammar s args RX11 119 yJ6_bitCount_0f7a4 cJ6_bitCount_0f7a4 1 (some .int) wsJ6_bitCount_0f7a4 rm_J6_bitCount_0f7a4 0 0 1 ∧ (Cond.static yJ6_bitCount_0f7a4).before args s = true := va_cwS 1 hts gX11_grammar_J6_bitCount_0f7a4 rfl rfl rfl (by decide +kernel) ⟨Nat.le_of_ble_eq_true rfl, Nat.le_of_ble_eq_true rfl⟩
theorem cw_X11_grammar_X11_forgetAnswers {s : State} {args : Array Value} (hts : ∀ w ∈ wsX11_grammar, w.before args s = true) : CallW rm_X11_grammar s args RX11 RX11 113 yX11_forgetAnswers cX11_forgetAnswers 1 none wsX11_forgetAnswers rm_X11_forgetAnswers 0 0 0 := cwV 0 hts gX11_grammar_X11_forgetAnswers rfl rfl rfl (by decide +kernel) ⟨Nat.le_of_ble_eq_true rfl, Nat.le_of_ble_eq_true rfl⟩
theorem cw_X11_grammar_X4_copy {s : State} {args : Array Value} (hts : ∀ w ∈ wsX11_grammar, w.before args s = true) : CallW rm_X11_grammar s args RX11 RX4 109 yX4_copy cX4_copy 2 none wsX4_copy rm_X4_copy 0 0 1 := cwV 1 hts gX11_grammar_X4_copy rfl rfl rfl (by decide +kernel) ⟨Nat.le_of_ble_eq_true rfl, Nat.le_of_ble_eq_true rfl⟩
theorem cw_X11_grammar_X8_read {s : State} {args : Array Value} (hts : ∀ w ∈ wsX11_grammar, w.before args s = true) : CallB rm_X11_grammar s args RX11 103 yX8_read cX8_read 4 (some .int) wsX8_read rm_X8_read 0 0 2 ∧ (Cond.static yX8_read).before args s = true := va_cwS 2 hts gX11_grammar_X8_read rfl rfl rfl (by decide +kernel) ⟨Nat.le_of_ble_eq_true rfl, Nat.le_of_ble_eq_true rfl⟩
set_option maxHeartbeats 4000000 in
set_option maxRecDepth 100000 in
theorem c_X11_grammar (l : Launch) (D : va_G) (cy : Nat → ClassId) (ad : Nat → Nat) (hO : adOK 39 ad) (n : Nat) (σ : Mem) {v : Int} {τ : Mem} (hf : f_X11_grammar n σ = some (v, τ)) : Met l yX11_grammar wsX11_grammar rm_X11_grammar (va_Pc [.ref (ad 0)] (PreW D cy 39 (cellC cy ad) ad σ)) (QI D 39 (cellC cy ad) ad v τ) 0 0 (AC 39 ad) := by
  refine r_met (cc := cX11_grammar) (maxL := 1) (ret := (some .int)) (own := RX11) (by decide) rfl rfl [.ref (ad 0)] (Nat.le_of_ble_eq_true rfl) ?_
  intro p e s m below meth c ls S hK hP hlk hr hl
  have hS : va_S (AC 39 ad) s.heap s.heap [] := va_S.rf
  have hl : lv_has ls 1 [(0, .ref (ad 0))] := hl
  unfold f_X11_grammar at hf
  refine lv_aload_n S.1 S.2.1 dX11_grammar_0 rfl (lv_at hl 0 rfl) ?_
  refine r_get S hK hP (by decide) rfl rfl h_X11_grammar_X11 0 (by decide) k_X11_grammar_1 rfl dX11_grammar_1 ?_
  refine lv_aload_n S.1 S.2.1 dX11_grammar_4 rfl (lv_at hl 0 rfl) ?_
  refine r_get S hK hP (by decide) rfl rfl h_X11_grammar_X11 2 (by decide) k_X11_grammar_2 rfl dX11_grammar_5 ?_
  obtain ⟨y3, σ2, hq1, hf⟩ := bL1_some hf
  refine r_callSI S hK hP hS [.ref (ad 1), .ref (ad 7)] (c_X8_read l D cy ad hO n σ hq1) (cw_X11_grammar_X8_read S.2.2.2.2) rfl hl.1 (rest := []) rfl (Nat.le_of_ble_eq_true rfl) dX11_grammar_8 ⟨Nat.zero_le _, Nat.zero_le _⟩ (fun H locs hP hS => ?_)
  refine r_bipush S dX11_grammar_11 (by decide) ?_
  refine lv_icmp_eq (tgt := 19) S.1 S.2.1 dX11_grammar_13 (by decide) (fun c4 => ?_) (fun c4 => ?_)
  · have hf := (if_pos c4).symm.trans hf
    refine lv_aload_n S.1 S.2.1 dX11_grammar_19 rfl (lv_at hl 0 rfl) ?_
    refine r_get S hK hP (by decide) rfl rfl h_X11_grammar_X11 1 (by decide) k_X11_grammar_3 rfl dX11_grammar_20 ?_
    refine lv_aload_n S.1 S.2.1 dX11_grammar_23 rfl (lv_at hl 0 rfl) ?_
    refine r_get S hK hP (by decide) rfl rfl h_X11_grammar_X11 2 (by decide) k_X11_grammar_2 rfl dX11_grammar_24 ?_
    obtain ⟨σ6, hq5, hf⟩ := bV_some hf
    refine r_callVV S hK hP hS (by decide) rfl rfl [.ref (ad 7)] (c_X4_copy l D cy ad hO σ2 hq5) (cw_X11_grammar_X4_copy S.2.2.2.2) rfl hl.1 (rest := []) rfl (Nat.le_of_ble_eq_true rfl) dX11_grammar_27 ⟨Nat.zero_le _, Nat.zero_le _⟩ (fun H locs hP hS => ?_)
    refine lv_aload_n S.1 S.2.1 dX11_grammar_30 rfl (lv_at hl 0 rfl) ?_
    refine r_get S hK hP (by decide) rfl rfl h_X11_grammar_X11 0 (by decide) k_X11_grammar_1 rfl dX11_grammar_31 ?_
    refine r_iconst S dX11_grammar_34 ?_
    obtain ⟨σ7, hσ7, hf⟩ := nm_some hf
    refine r_put S hK hP hO hS (by decide) rfl rfl h_X11_grammar_X5 tyX5 tyX5_ok nmX5 1 (by decide) k_X11_grammar_4 rfl (tyX5_ok 1 (by decide)) rfl rfl (Nat.le_of_ble_eq_true rfl) hσ7 rfl dX11_grammar_35 (fun H locs hP hS => ?_)
    refine lv_aload_n S.1 S.2.1 dX11_grammar_38 rfl (lv_at hl 0 rfl) ?_
    obtain ⟨σ9, hq8, hf⟩ := bV_some hf
    refine r_callVV S hK hP hS (by decide) rfl rfl [] (c_X11_forgetAnswers l D cy ad hO σ7 hq8) (cw_X11_grammar_X11_forgetAnswers S.2.2.2.2) rfl hl.1 (rest := []) rfl (Nat.le_of_ble_eq_true rfl) dX11_grammar_39 ⟨Nat.zero_le _, Nat.zero_le _⟩ (fun H locs hP hS => ?_)
    refine lv_aload_n S.1 S.2.1 dX11_grammar_42 rfl (lv_at hl 0 rfl) ?_
    refine r_get S hK hP (by decide) rfl rfl h_X11_grammar_X11 1 (by decide) k_X11_grammar_3 rfl dX11_grammar_43 ?_
    refine r_get S hK hP (by decide) rfl rfl h_X11_grammar_X4 3 (by decide) k_X11_grammar_5 rfl dX11_grammar_46 ?_
    obtain ⟨y11, hq10, hf⟩ := bV_some hf
    refine r_callSI S hK hP hS [.int (zI (σ9 3 3))] (c_J6_bitCount_0f7a4 l D cy ad hO (σ9 3 3) σ9 hq10) (cw_X11_grammar_J6_bitCount_0f7a4 S.2.2.2.2) rfl hl.1 (rest := []) rfl (Nat.le_of_ble_eq_true rfl) dX11_grammar_49 ⟨Nat.zero_le _, Nat.zero_le _⟩ (fun H locs hP hS => ?_)
    obtain ⟨e1, e2⟩ := inj2 hf
    subst e1
    subst e2
    exact e_I S hlk hP hS hr dX11_grammar_52
  · have hf := (if_neg c4).symm.trans hf
    refine r_bipush S dX11_grammar_16 (by decide) ?_
    obtain ⟨e1, e2⟩ := inj2 hf
    subst e1
    subst e2
    exact e_I S hlk hP hS hr dX11_grammar_18
def rm_X11_is : Room := { frames := 6, cells := 0, slots := 0, locals := 157 }
theorem k_X11_is_1 : (.fieldLink RX11 38 "MendTexts" "typed" "LMendTexts$Word;" : Cond) ∈ wsX11_is := List.mem_of_getElem? (i := 1) (by decide +kernel)
theorem k_X11_is_2 : (.fieldLink RX11 171 "MendTexts$Word" "length" "I" : Cond) ∈ wsX11_is := List.mem_of_getElem? (i := 2) (by decide +kernel)
theorem h_X11_is_X11 : ∀ w ∈ u_ws RX11 TX11 13, w ∈ wsX11_is := mem_places _ [146, 147, 148, 149, 150, 151, 152, 153, 154, 155, 156, 157, 158] (by decide +kernel)
theorem h_X11_is_X10 : ∀ w ∈ u_ws RX10 TX10 2, w ∈ wsX11_is := mem_places _ [159, 160] (by decide +kernel)
theorem cw_X11_is_X0_fitsAsItIs {s : State} {args : Array Value} (hts : ∀ w ∈ wsX11_is, w.before args s = true) : CallW rm_X11_is s args RX11 RX0 174 yX0_fitsAsItIs cX0_fitsAsItIs 6 (some .boolean) wsX0_fitsAsItIs rm_X0_fitsAsItIs 0 0 3 := cwV 3 hts gX11_is_X0_fitsAsItIs rfl rfl rfl (by decide +kernel) ⟨Nat.le_of_ble_eq_true rfl, Nat.le_of_ble_eq_true rfl⟩
theorem cw_X11_is_X11_chartOfWord {s : State} {args : Array Value} (hts : ∀ w ∈ wsX11_is, w.before args s = true) : CallW rm_X11_is s args RX11 RX11 144 yX11_chartOfWord cX11_chartOfWord 1 (some (.object "MendTexts$Chart")) wsX11_chartOfWord rm_X11_chartOfWord 0 0 0 := cwV 0 hts gX11_is_X11_chartOfWord rfl rfl rfl (by decide +kernel) ⟨Nat.le_of_ble_eq_true rfl, Nat.le_of_ble_eq_true rfl⟩
theorem cw_X11_is_X11_isName {s : State} {args : Array Value} (hts : ∀ w ∈ wsX11_is, w.before args s = true) : CallB rm_X11_is s args RX11 125 yX11_isName cX11_isName 1 (some .boolean) wsX11_isName rm_X11_isName 0 0 1 ∧ (Cond.static yX11_isName).before args s = true := va_cwS 1 hts gX11_is_X11_isName rfl rfl rfl (by decide +kernel) ⟨Nat.le_of_ble_eq_true rfl, Nat.le_of_ble_eq_true rfl⟩
set_option maxHeartbeats 4000000 in
set_option maxRecDepth 100000 in
theorem c_X11_is (l : Launch) (D : va_G) (cy : Nat → ClassId) (ad : Nat → Nat) (hO : adOK 39 ad) (n : Nat) (a0 : Int) (σ : Mem) {v : Int} {τ : Mem} (hf : f_X11_is n a0 σ = some (v, τ)) : Met l yX11_is wsX11_is rm_X11_is (va_Pc [.ref (ad 0), .int (zI a0)] (PreW D cy 39 (cellC cy ad) ad σ)) (QI D 39 (cellC cy ad) ad v τ) 0 0 (AC 39 ad) := by
  refine r_met (cc := cX11_is) (maxL := 2) (ret := (some .int)) (own := RX11) (by decide) rfl rfl [.ref (ad 0), .int (zI a0)] (Nat.le_of_ble_eq_true rfl) ?_
  intro p e s m below meth c ls S hK hP hlk hr hl
  have hS : va_S (AC 39 ad) s.heap s.heap [] := va_S.rf
  have hl : lv_has ls 2 [(0, .ref (ad 0)), (1, .int (zI a0))] := hl
  unfold f_X11_is at hf
  refine lv_iload_n S.1 S.2.1 dX11_is_0 rfl (lv_at hl 1 rfl) ?_
  obtain ⟨y2, hq1, hf⟩ := bV_some hf
  refine r_callSI S hK hP hS [.int (zI a0)] (c_X11_isName l D cy ad hO a0 σ hq1) (cw_X11_is_X11_isName S.2.2.2.2) rfl hl.1 (rest := []) rfl (Nat.le_of_ble_eq_true rfl) dX11_is_1 ⟨Nat.zero_le _, Nat.zero_le _⟩ (fun H locs hP hS => ?_)
  refine r_if_ne (tgt := 9) S dX11_is_4 (by decide) (fun c3 => ?_) (fun c3 => ?_)
  · have hf := (if_neg c3).symm.trans hf
    refine lv_aload_n S.1 S.2.1 dX11_is_9 rfl (lv_at hl 0 rfl) ?_
    obtain ⟨w6, σ5, hq4, hf⟩ := bL1_some hf
    refine r_callVR S hK hP hS (by decide) rfl rfl [] (c_X11_chartOfWord l D cy ad hO n σ hq4) (cw_X11_is_X11_chartOfWord S.2.2.2.2) rfl hl.1 (rest := []) rfl (Nat.le_of_ble_eq_true rfl) dX11_is_10 ⟨Nat.zero_le _, Nat.zero_le _⟩ (fun H locs hP hS => ?_)
    obtain ⟨hw7, hf⟩ := gd_some hf
    subst hw7
    refine r_iconst S dX11_is_13 ?_
    refine lv_iload_n S.1 S.2.1 dX11_is_14 rfl (lv_at hl 1 rfl) ?_
    refine r_iadd S dX11_is_15 ?_
    refine r_iconst S dX11_is_16 ?_
    refine lv_aload_n S.1 S.2.1 dX11_is_17 rfl (lv_at hl 0 rfl) ?_
    refine r_get S hK hP (by decide) rfl rfl h_X11_is_X11 4 (by decide) k_X11_is_1 rfl dX11_is_18 ?_
    refine r_get S hK hP (by decide) rfl rfl h_X11_is_X10 1 (by decide) k_X11_is_2 rfl dX11_is_21 ?_
    obtain ⟨y9, hq8, hf⟩ := bV_some hf
    refine r_callVI S hK hP hS (by decide) rfl rfl [.int (zI (4 + a0)), .int (zI 0), .int (zI (σ5 13 1))] (c_X0_fitsAsItIs l D cy ad hO (4 + a0) 0 (σ5 13 1) σ5 hq8) (cw_X11_is_X0_fitsAsItIs S.2.2.2.2) rfl hl.1 (rest := []) rfl (Nat.le_of_ble_eq_true rfl) dX11_is_24 ⟨Nat.zero_le _, Nat.zero_le _⟩ (fun H locs hP hS => ?_)
    refine r_if_eq (tgt := 34) S dX11_is_27 (by decide) (fun c10 => ?_) (fun c10 => ?_)
    · have hf := (if_pos c10).symm.trans hf
      refine r_iconst S dX11_is_34 ?_
      obtain ⟨e1, e2⟩ := inj2 hf
      subst e1
      subst e2
      exact e_I S hlk hP hS hr dX11_is_35
    · have hf := (if_neg c10).symm.trans hf
      refine r_iconst S dX11_is_30 ?_
      refine lv_goto (tgt := 35) S.1 S.2.1 dX11_is_31 (by decide) ?_
      obtain ⟨e1, e2⟩ := inj2 hf
      subst e1
      subst e2
      exact e_I S hlk hP hS hr dX11_is_35
  · have hf := (if_pos c3).symm.trans hf
    refine r_iconst S dX11_is_7 ?_
    obtain ⟨e1, e2⟩ := inj2 hf
    subst e1
    subst e2
    exact e_I S hlk hP hS hr dX11_is_8
def rm_X11_textFit : Room := { frames := 6, cells := 0, slots := 0, locals := 157 }
theorem k_X11_textFit_1 : (.fieldLink RX11 19 "MendTexts" "rules" "LMendTexts$Grammar;" : Cond) ∈ wsX11_textFit := List.mem_of_getElem? (i := 1) (by decide +kernel)
theorem k_X11_textFit_2 : (.fieldLink RX11 253 "MendTexts$Grammar" "start" "I" : Cond) ∈ wsX11_textFit := List.mem_of_getElem? (i := 2) (by decide +kernel)
theorem k_X11_textFit_3 : (.fieldLink RX11 38 "MendTexts" "typed" "LMendTexts$Word;" : Cond) ∈ wsX11_textFit := List.mem_of_getElem? (i := 3) (by decide +kernel)
theorem k_X11_textFit_4 : (.fieldLink RX11 171 "MendTexts$Word" "length" "I" : Cond) ∈ wsX11_textFit := List.mem_of_getElem? (i := 4) (by decide +kernel)
theorem h_X11_textFit_X11 : ∀ w ∈ u_ws RX11 TX11 13, w ∈ wsX11_textFit := mem_places _ [141, 142, 143, 144, 145, 146, 147, 148, 149, 150, 151, 152, 153] (by decide +kernel)
theorem h_X11_textFit_X4 : ∀ w ∈ u_ws RX4 TX4 7, w ∈ wsX11_textFit := mem_places _ [154, 155, 156, 157, 158, 159, 160] (by decide +kernel)
theorem h_X11_textFit_X10 : ∀ w ∈ u_ws RX10 TX10 2, w ∈ wsX11_textFit := mem_places _ [161, 162] (by decide +kernel)
theorem cw_X11_textFit_X0_fitOf {s : State} {args : Array Value} (hts : ∀ w ∈ wsX11_textFit, w.before args s = true) : CallW rm_X11_textFit s args RX11 RX0 188 yX0_fitOf cX0_fitOf 4 (some .long) wsX0_fitOf rm_X0_fitOf 0 0 3 := cwV 3 hts gX11_textFit_X0_fitOf rfl rfl rfl (by decide +kernel) ⟨Nat.le_of_ble_eq_true rfl, Nat.le_of_ble_eq_true rfl⟩
theorem cw_X11_textFit_X11_chartOfWord {s : State} {args : Array Value} (hts : ∀ w ∈ wsX11_textFit, w.before args s = true) : CallW rm_X11_textFit s args RX11 RX11 144 yX11_chartOfWord cX11_chartOfWord 1 (some (.object "MendTexts$Chart")) wsX11_chartOfWord rm_X11_chartOfWord 0 0 0 := cwV 0 hts gX11_textFit_X11_chartOfWord rfl rfl rfl (by decide +kernel) ⟨Nat.le_of_ble_eq_true rfl, Nat.le_of_ble_eq_true rfl⟩
set_option maxHeartbeats 4000000 in
set_option maxRecDepth 100000 in
theorem c_X11_textFit (l : Launch) (D : va_G) (cy : Nat → ClassId) (ad : Nat → Nat) (hO : adOK 39 ad) (n : Nat) (σ : Mem) {v : Int} {τ : Mem} (hf : f_X11_textFit n σ = some (v, τ)) : Met l yX11_textFit wsX11_textFit rm_X11_textFit (va_Pc [.ref (ad 0)] (PreW D cy 39 (cellC cy ad) ad σ)) (QL D 39 (cellC cy ad) ad v τ) 0 0 (AC 39 ad) := by
  refine r_met (cc := cX11_textFit) (maxL := 1) (ret := (some .long)) (own := RX11) (by decide) rfl rfl [.ref (ad 0)] (Nat.le_of_ble_eq_true rfl) ?_
  intro p e s m below meth c ls S hK hP hlk hr hl
  have hS : va_S (AC 39 ad) s.heap s.heap [] := va_S.rf
  have hl : lv_has ls 1 [(0, .ref (ad 0))] := hl
  unfold f_X11_textFit at hf
  refine lv_aload_n S.1 S.2.1 dX11_textFit_0 rfl (lv_at hl 0 rfl) ?_
  obtain ⟨w3, σ2, hq1, hf⟩ := bL1_some hf
  refine r_callVR S hK hP hS (by decide) rfl rfl [] (c_X11_chartOfWord l D cy ad hO n σ hq1) (cw_X11_textFit_X11_chartOfWord S.2.2.2.2) rfl hl.1 (rest := []) rfl (Nat.le_of_ble_eq_true rfl) dX11_textFit_1 ⟨Nat.zero_le _, Nat.zero_le _⟩ (fun H locs hP hS => ?_)
  obtain ⟨hw4, hf⟩ := gd_some hf
  subst hw4
  refine r_iconst S dX11_textFit_4 ?_
  refine lv_aload_n S.1 S.2.1 dX11_textFit_5 rfl (lv_at hl 0 rfl) ?_
  refine r_get S hK hP (by decide) rfl rfl h_X11_textFit_X11 1 (by decide) k_X11_textFit_1 rfl dX11_textFit_6 ?_
  refine r_get S hK hP (by decide) rfl rfl h_X11_textFit_X4 4 (by decide) k_X11_textFit_2 rfl dX11_textFit_9 ?_
  refine r_iadd S dX11_textFit_12 ?_
  refine r_iconst S dX11_textFit_13 ?_
  refine lv_aload_n S.1 S.2.1 dX11_textFit_14 rfl (lv_at hl 0 rfl) ?_
  refine r_get S hK hP (by decide) rfl rfl h_X11_textFit_X11 4 (by decide) k_X11_textFit_3 rfl dX11_textFit_15 ?_
  refine r_get S hK hP (by decide) rfl rfl h_X11_textFit_X10 1 (by decide) k_X11_textFit_4 rfl dX11_textFit_18 ?_
  obtain ⟨y6, hq5, hf⟩ := bV_some hf
  refine r_callVL S hK hP hS (by decide) rfl rfl [.int (zI (4 + (σ2 3 4))), .int (zI 0), .int (zI (σ2 13 1))] (c_X0_fitOf l D cy ad hO (4 + (σ2 3 4)) 0 (σ2 13 1) σ2 hq5) (cw_X11_textFit_X0_fitOf S.2.2.2.2) rfl hl.1 (rest := []) rfl (Nat.le_of_ble_eq_true rfl) dX11_textFit_21 ⟨Nat.zero_le _, Nat.zero_le _⟩ (fun H locs hP hS => ?_)
  obtain ⟨e1, e2⟩ := inj2 hf
  subst e1
  subst e2
  exact e_L S hlk hP hS hr dX11_textFit_24
def rm_X3_lengthOf : Room := { frames := 0, cells := 0, slots := 0, locals := 0 }
theorem k_X3_lengthOf_1 : (.constantLong RX3 13 (524287) : Cond) ∈ wsX3_lengthOf := List.mem_of_getElem? (i := 1) (by decide +kernel)
set_option maxHeartbeats 4000000 in
set_option maxRecDepth 100000 in
theorem c_X3_lengthOf (l : Launch) (D : va_G) (cy : Nat → ClassId) (ad : Nat → Nat) (hO : adOK 39 ad) (a0 : Int) (σ : Mem) {v : Int} (hf : f_X3_lengthOf a0 = some v) : Met l yX3_lengthOf wsX3_lengthOf rm_X3_lengthOf (va_Pc [.long (zL a0)] (PreW D cy 39 (cellC cy ad) ad σ)) (QI D 39 (cellC cy ad) ad v σ) 0 0 (AC 39 ad) := by
  refine r_met (cc := cX3_lengthOf) (maxL := 2) (ret := (some .int)) (own := RX3) (by decide) rfl rfl [.long (zL a0)] (Nat.le_of_ble_eq_true rfl) ?_
  intro p e s m below meth c ls S hK hP hlk hr hl
  have hS : va_S (AC 39 ad) s.heap s.heap [] := va_S.rf
  have hl : lv_has ls 2 [(0, .long (zL a0))] := hl
  unfold f_X3_lengthOf at hf
  refine lv_lload_n S.1 S.2.1 dX3_lengthOf_0 rfl (lv_at hl 0 rfl) ?_
  refine r_bipush S dX3_lengthOf_1 (by decide) ?_
  refine r_lshr S dX3_lengthOf_3 ?_
  refine r_ldc2 S 524287 (by decide +kernel) k_X3_lengthOf_1 dX3_lengthOf_4 ?_
  refine r_land S dX3_lengthOf_7 ?_
  refine r_l2i S dX3_lengthOf_8 ?_
  have e1 := Option.some.inj hf
  subst e1
  exact e_I S hlk hP hS hr dX3_lengthOf_9
def rm_X11_refusalOf : Room := { frames := 1, cells := 0, slots := 0, locals := 21 }
theorem k_X11_refusalOf_1 : (.constantLong RX11 158 (9223372036854775807) : Cond) ∈ wsX11_refusalOf := List.mem_of_getElem? (i := 1) (by decide +kernel)
theorem cw_X11_refusalOf_X3_lengthOf {s : State} {args : Array Value} (hts : ∀ w ∈ wsX11_refusalOf, w.before args s = true) : CallB rm_X11_refusalOf s args RX11 256 yX3_lengthOf cX3_lengthOf 2 (some .int) wsX3_lengthOf rm_X3_lengthOf 0 0 1 ∧ (Cond.static yX3_lengthOf).before args s = true := va_cwS 1 hts gX11_refusalOf_X3_lengthOf rfl rfl rfl (by decide +kernel) ⟨Nat.le_of_ble_eq_true rfl, Nat.le_of_ble_eq_true rfl⟩
set_option maxHeartbeats 4000000 in
set_option maxRecDepth 100000 in
theorem c_X11_refusalOf (l : Launch) (D : va_G) (cy : Nat → ClassId) (ad : Nat → Nat) (hO : adOK 39 ad) (a0 : Int) (σ : Mem) {v : Int} (hf : f_X11_refusalOf a0 = some v) : Met l yX11_refusalOf wsX11_refusalOf rm_X11_refusalOf (va_Pc [.long (zL a0)] (PreW D cy 39 (cellC cy ad) ad σ)) (QI D 39 (cellC cy ad) ad v σ) 0 0 (AC 39 ad) := by
  refine r_met (cc := cX11_refusalOf) (maxL := 2) (ret := (some .int)) (own := RX11) (by decide) rfl rfl [.long (zL a0)] (Nat.le_of_ble_eq_true rfl) ?_
  intro p e s m below meth c ls S hK hP hlk hr hl
  have hS : va_S (AC 39 ad) s.heap s.heap [] := va_S.rf
  have hl : lv_has ls 2 [(0, .long (zL a0))] := hl
  unfold f_X11_refusalOf at hf
  refine lv_lload_n S.1 S.2.1 dX11_refusalOf_0 rfl (lv_at hl 0 rfl) ?_
  refine r_ldc2 S 9223372036854775807 (by decide +kernel) k_X11_refusalOf_1 dX11_refusalOf_1 ?_
  refine r_lcmp S dX11_refusalOf_4 ?_
  refine r_if_ne (tgt := 11) S dX11_refusalOf_5 (by decide) (fun c1 => ?_) (fun c1 => ?_)
  · have hf := (if_neg c1).symm.trans hf
    refine lv_lload_n S.1 S.2.1 dX11_refusalOf_11 rfl (lv_at hl 0 rfl) ?_
    obtain ⟨y3, hq2, hf⟩ := bV_some hf
    refine r_callSI S hK hP hS [.long (zL a0)] (c_X3_lengthOf l D cy ad hO a0 σ hq2) (cw_X11_refusalOf_X3_lengthOf S.2.2.2.2) rfl hl.1 (rest := []) rfl (Nat.le_of_ble_eq_true rfl) dX11_refusalOf_12 ⟨Nat.zero_le _, Nat.zero_le _⟩ (fun H locs hP hS => ?_)
    refine r_bipush S dX11_refusalOf_15 (by decide) ?_
    refine lv_icmp_le (tgt := 25) S.1 S.2.1 dX11_refusalOf_17 (by decide) (fun c4 => ?_) (fun c4 => ?_)
    · have hf := (if_pos c4).symm.trans hf
      refine r_iconst S dX11_refusalOf_25 ?_
      have e1 := Option.some.inj hf
      subst e1
      exact e_I S hlk hP hS hr dX11_refusalOf_26
    · have hf := (if_neg c4).symm.trans hf
      refine r_bipush S dX11_refusalOf_20 (by decide) ?_
      refine lv_goto (tgt := 26) S.1 S.2.1 dX11_refusalOf_22 (by decide) ?_
      have e1 := Option.some.inj hf
      subst e1
      exact e_I S hlk hP hS hr dX11_refusalOf_26
  · have hf := (if_pos c1).symm.trans hf
    refine r_bipush S dX11_refusalOf_8 (by decide) ?_
    have e1 := Option.some.inj hf
    subst e1
    exact e_I S hlk hP hS hr dX11_refusalOf_10
def rm_X3_letterAt : Room := { frames := 1, cells := 0, slots := 0, locals := 21 }
theorem cw_X3_letterAt_X3_lengthOf {s : State} {args : Array Value} (hts : ∀ w ∈ wsX3_letterAt, w.before args s = true) : CallB rm_X3_letterAt s args RX3 15 yX3_lengthOf cX3_lengthOf 2 (some .int) wsX3_lengthOf rm_X3_lengthOf 0 0 1 ∧ (Cond.static yX3_lengthOf).before args s = true := va_cwS 1 hts gX3_letterAt_X3_lengthOf rfl rfl rfl (by decide +kernel) ⟨Nat.le_of_ble_eq_true rfl, Nat.le_of_ble_eq_true rfl⟩
set_option maxHeartbeats 4000000 in
set_option maxRecDepth 100000 in
theorem c_X3_letterAt (l : Launch) (D : va_G) (cy : Nat → ClassId) (ad : Nat → Nat) (hO : adOK 39 ad) (a0 : Int) (a1 : Int) (σ : Mem) {v : Int} (hf : f_X3_letterAt a0 a1 = some v) : Met l yX3_letterAt wsX3_letterAt rm_X3_letterAt (va_Pc [.long (zL a0), .int (zI a1)] (PreW D cy 39 (cellC cy ad) ad σ)) (QI D 39 (cellC cy ad) ad v σ) 0 0 (AC 39 ad) := by
  refine r_met (cc := cX3_letterAt) (maxL := 3) (ret := (some .int)) (own := RX3) (by decide) rfl rfl [.long (zL a0), .int (zI a1)] (Nat.le_of_ble_eq_true rfl) ?_
  intro p e s m below meth c ls S hK hP hlk hr hl
  have hS : va_S (AC 39 ad) s.heap s.heap [] := va_S.rf
  have hl : lv_has ls 3 [(0, .long (zL a0)), (2, .int (zI a1))] := hl
  unfold f_X3_letterAt at hf
  refine lv_lload_n S.1 S.2.1 dX3_letterAt_0 rfl (lv_at hl 0 rfl) ?_
  refine r_iconst S dX3_letterAt_1 ?_
  refine lv_lload_n S.1 S.2.1 dX3_letterAt_2 rfl (lv_at hl 0 rfl) ?_
  obtain ⟨y2, hq1, hf⟩ := bV_some hf
  refine r_callSI S hK hP hS [.long (zL a0)] (c_X3_lengthOf l D cy ad hO a0 σ hq1) (cw_X3_letterAt_X3_lengthOf S.2.2.2.2) rfl hl.1 (rest := [.int (zI 2), .long (zL a0)]) rfl (Nat.le_of_ble_eq_true rfl) dX3_letterAt_3 ⟨Nat.zero_le _, Nat.zero_le _⟩ (fun H locs hP hS => ?_)
  refine r_iconst S dX3_letterAt_6 ?_
  refine r_isub S dX3_letterAt_7 ?_
  refine lv_iload_n S.1 S.2.1 dX3_letterAt_8 rfl (lv_at hl 1 rfl) ?_
  refine r_isub S dX3_letterAt_9 ?_
  refine r_imul S dX3_letterAt_10 ?_
  refine r_lshr S dX3_letterAt_11 ?_
  refine r_l2i S dX3_letterAt_12 ?_
  refine r_iconst S dX3_letterAt_13 ?_
  refine r_iand S dX3_letterAt_14 ?_
  have e1 := Option.some.inj hf
  subst e1
  exact e_I S hlk hP hS hr dX3_letterAt_15
def rm_X11_readText : Room := { frames := 2, cells := 0, slots := 0, locals := 43 }
theorem k_X11_readText_1 : (.fieldLink RX11 42 "MendTexts" "mended" "LMendTexts$Word;" : Cond) ∈ wsX11_readText := List.mem_of_getElem? (i := 1) (by decide +kernel)
theorem h_X11_readText_X11 : ∀ w ∈ u_ws RX11 TX11 13, w ∈ wsX11_readText := mem_places _ [22, 23, 24, 25, 26, 27, 28, 29, 30, 31, 32, 33, 34] (by decide +kernel)
theorem cw_X11_readText_X10_add {s : State} {args : Array Value} (hts : ∀ w ∈ wsX11_readText, w.before args s = true) : CallW rm_X11_readText s args RX11 RX10 169 yX10_add cX10_add 2 none wsX10_add rm_X10_add 0 0 1 := cwV 1 hts gX11_readText_X10_add rfl rfl rfl (by decide +kernel) ⟨Nat.le_of_ble_eq_true rfl, Nat.le_of_ble_eq_true rfl⟩
theorem cw_X11_readText_X10_clear {s : State} {args : Array Value} (hts : ∀ w ∈ wsX11_readText, w.before args s = true) : CallW rm_X11_readText s args RX11 RX10 164 yX10_clear cX10_clear 1 none wsX10_clear rm_X10_clear 0 0 0 := cwV 0 hts gX11_readText_X10_clear rfl rfl rfl (by decide +kernel) ⟨Nat.le_of_ble_eq_true rfl, Nat.le_of_ble_eq_true rfl⟩
theorem cw_X11_readText_X3_lengthOf {s : State} {args : Array Value} (hts : ∀ w ∈ wsX11_readText, w.before args s = true) : CallB rm_X11_readText s args RX11 256 yX3_lengthOf cX3_lengthOf 2 (some .int) wsX3_lengthOf rm_X3_lengthOf 0 0 1 ∧ (Cond.static yX3_lengthOf).before args s = true := va_cwS 1 hts gX11_readText_X3_lengthOf rfl rfl rfl (by decide +kernel) ⟨Nat.le_of_ble_eq_true rfl, Nat.le_of_ble_eq_true rfl⟩
theorem cw_X11_readText_X3_letterAt {s : State} {args : Array Value} (hts : ∀ w ∈ wsX11_readText, w.before args s = true) : CallB rm_X11_readText s args RX11 258 yX3_letterAt cX3_letterAt 3 (some .int) wsX3_letterAt rm_X3_letterAt 0 0 2 ∧ (Cond.static yX3_letterAt).before args s = true := va_cwS 2 hts gX11_readText_X3_letterAt rfl rfl rfl (by decide +kernel) ⟨Nat.le_of_ble_eq_true rfl, Nat.le_of_ble_eq_true rfl⟩
set_option maxHeartbeats 4000000 in
set_option maxRecDepth 100000 in
theorem w_X11_readText_L9 {p : Program} {l : Launch} {e : Env} {s : State} {m : MethodId} {args : Array Value} {below : List Frame} {meth : Method} {c : Code} {Q : State → Prop} {D : va_G} {cy : Nat → ClassId} {ad : Nat → Nat} {H0 : Heap} (hO : adOK 39 ad) (S : CallFix p m c cX11_readText 4 s args wsX11_readText RX11) (hK : KK D cy s) (n : Nat) (x1_ : Int) {res : Mem} (k0 : ∀ (τ : Mem) (H2 : Heap) (locs2 : List Loc) (ls2 : Array Slot), res = τ → va_P D vwCl (WW 39 (cellC cy ad) ad τ) H2 → va_S (AC 39 ad) H0 H2 locs2 → lv_has ls2 4 [] → W p l e rm_X11_readText s m args below meth c H2 locs2 0 0 Q (F0 m 41 ls2 [])) :
    ∀ (k : Nat) (x3_ : Int) (σ : Mem) (H : Heap) (locs : List Loc) (ls : Array Slot), f_X11_readText_L9 n x1_ k x3_ σ = some res → va_P D vwCl (WW 39 (cellC cy ad) ad σ) H → va_S (AC 39 ad) H0 H locs → lv_has ls 4 [(0, .ref (ad 0)), (1, .long (zL x1_)), (3, .int (zI x3_))] → W p l e rm_X11_readText s m args below meth c H locs 0 0 Q (F0 m 9 ls []) := by
  intro k
  induction k with
  | zero =>
    intro x3_ σ H locs ls hf
    have hf : none = some res := hf
    cases hf
  | succ k ih =>
    intro x3_ σ H locs ls hf hP hS hl
    rw [f_X11_readText_L9] at hf
    refine lv_iload_n S.1 S.2.1 dX11_readText_9 rfl (lv_at hl 2 rfl) ?_
    refine r_bipush S dX11_readText_10 (by decide) ?_
    refine lv_icmp_ge (tgt := 41) S.1 S.2.1 dX11_readText_12 (by decide) (fun c1 => ?_) (fun c1 => ?_)
    · have hf := (if_pos c1).symm.trans hf
      exact k0 _ _ _ _ (Option.some.inj hf).symm hP hS (lv_sub hl [] rfl)
    · have hf := (if_neg c1).symm.trans hf
      refine lv_iload_n S.1 S.2.1 dX11_readText_15 rfl (lv_at hl 2 rfl) ?_
      refine lv_lload_n S.1 S.2.1 dX11_readText_16 rfl (lv_at hl 1 rfl) ?_
      obtain ⟨y3, hq2, hf⟩ := bV_some hf
      refine r_callSI S hK hP hS [.long (zL x1_)] (c_X3_lengthOf l D cy ad hO x1_ σ hq2) (cw_X11_readText_X3_lengthOf S.2.2.2.2) rfl hl.1 (rest := [.int (zI x3_)]) rfl (Nat.le_of_ble_eq_true rfl) dX11_readText_17 ⟨Nat.zero_le _, Nat.zero_le _⟩ (fun H locs hP hS => ?_)
      refine lv_icmp_ge (tgt := 41) S.1 S.2.1 dX11_readText_20 (by decide) (fun c4 => ?_) (fun c4 => ?_)
      · have hf := (if_pos c4).symm.trans hf
        exact k0 _ _ _ _ (Option.some.inj hf).symm hP hS (lv_sub hl [] rfl)
      · have hf := (if_neg c4).symm.trans hf
        refine lv_aload_n S.1 S.2.1 dX11_readText_23 rfl (lv_at hl 0 rfl) ?_
        refine r_get S hK hP (by decide) rfl rfl h_X11_readText_X11 5 (by decide) k_X11_readText_1 rfl dX11_readText_24 ?_
        refine lv_lload_n S.1 S.2.1 dX11_readText_27 rfl (lv_at hl 1 rfl) ?_
        refine lv_iload_n S.1 S.2.1 dX11_readText_28 rfl (lv_at hl 2 rfl) ?_
        obtain ⟨y6, hq5, hf⟩ := bV_some hf
        refine r_callSI S hK hP hS [.long (zL x1_), .int (zI x3_)] (c_X3_letterAt l D cy ad hO x1_ x3_ σ hq5) (cw_X11_readText_X3_letterAt S.2.2.2.2) rfl hl.1 (rest := [.ref (ad 15)]) rfl (Nat.le_of_ble_eq_true rfl) dX11_readText_29 ⟨Nat.zero_le _, Nat.zero_le _⟩ (fun H locs hP hS => ?_)
        obtain ⟨σ8, hq7, hf⟩ := bV_some hf
        refine r_callVV S hK hP hS (by decide) rfl rfl [.int (zI y6)] (c_X10_add l D cy ad hO 15 (by decide) y6 σ hq7) (cw_X11_readText_X10_add S.2.2.2.2) rfl hl.1 (rest := []) rfl (Nat.le_of_ble_eq_true rfl) dX11_readText_32 ⟨Nat.zero_le _, Nat.zero_le _⟩ (fun H locs hP hS => ?_)
        obtain ⟨x9, hx9, hf⟩ := nm_some hf
        refine r_iinc S hx9 (k0 := 2) (lv2 := [(3, .int (zI x9)), (0, .ref (ad 0)), (1, .long (zL x1_))]) dX11_readText_35 hl rfl (by decide) rfl (fun ls hl => ?_)
        refine lv_goto (tgt := 9) S.1 S.2.1 dX11_readText_38 (by decide) ?_
        exact ih x9 σ8 _ _ _ hf hP hS (lv_sub hl [1, 2, 0] rfl)
set_option maxHeartbeats 4000000 in
set_option maxRecDepth 100000 in
theorem c_X11_readText (l : Launch) (D : va_G) (cy : Nat → ClassId) (ad : Nat → Nat) (hO : adOK 39 ad) (n : Nat) (a0 : Int) (σ : Mem) {τ : Mem} (hf : f_X11_readText n a0 σ = some τ) : Met l yX11_readText wsX11_readText rm_X11_readText (va_Pc [.ref (ad 0), .long (zL a0)] (PreW D cy 39 (cellC cy ad) ad σ)) (QV D 39 (cellC cy ad) ad τ) 0 0 (AC 39 ad) := by
  refine r_met (cc := cX11_readText) (maxL := 4) (ret := none) (own := RX11) (by decide) rfl rfl [.ref (ad 0), .long (zL a0)] (Nat.le_of_ble_eq_true rfl) ?_
  intro p e s m below meth c ls S hK hP hlk hr hl
  have hS : va_S (AC 39 ad) s.heap s.heap [] := va_S.rf
  have hl : lv_has ls 4 [(0, .ref (ad 0)), (1, .long (zL a0))] := hl
  unfold f_X11_readText at hf
  refine lv_aload_n S.1 S.2.1 dX11_readText_0 rfl (lv_at hl 0 rfl) ?_
  refine r_get S hK hP (by decide) rfl rfl h_X11_readText_X11 5 (by decide) k_X11_readText_1 rfl dX11_readText_1 ?_
  obtain ⟨σ2, hq1, hf⟩ := bV_some hf
  refine r_callVV S hK hP hS (by decide) rfl rfl [] (c_X10_clear l D cy ad hO 15 (by decide) σ hq1) (cw_X11_readText_X10_clear S.2.2.2.2) rfl hl.1 (rest := []) rfl (Nat.le_of_ble_eq_true rfl) dX11_readText_4 ⟨Nat.zero_le _, Nat.zero_le _⟩ (fun H locs hP hS => ?_)
  refine r_iconst S dX11_readText_7 ?_
  refine r_istore_n S rfl (lv2 := [(3, .int (zI 0)), (0, .ref (ad 0)), (1, .long (zL a0))]) dX11_readText_8 rfl hl (by decide) rfl (fun ls hl => ?_)
  obtain ⟨σ3, hq, hf⟩ := bV_some hf
  refine w_X11_readText_L9 hO S hK n a0 (fun σ3 H locs ls he hP hS hl => ?_) n 0 σ2 _ _ _ hq hP hS (lv_sub hl [1, 2, 0] rfl)
  cases he
  have e1 := Option.some.inj hf
  subst e1
  exact e_V S hlk hP hS hr dX11_readText_41
