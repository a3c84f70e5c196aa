def rm_J6_bitCount_0f7a4 : Room := { frames := 0, cells := 0, slots := 0, locals := 0 }
theorem k_J6_bitCount_0f7a4_1 : (.constant RJ6 265 (1431655765) : Cond) ∈ wsJ6_bitCount_0f7a4 := List.mem_of_getElem? (i := 1) (by decide +kernel)
theorem k_J6_bitCount_0f7a4_2 : (.constant RJ6 266 (858993459) : Cond) ∈ wsJ6_bitCount_0f7a4 := List.mem_of_getElem? (i := 2) (by decide +kernel)
theorem k_J6_bitCount_0f7a4_3 : (.constant RJ6 267 (252645135) : Cond) ∈ wsJ6_bitCount_0f7a4 := List.mem_of_getElem? (i := 3) (by decide +kernel)
set_option maxHeartbeats 4000000 in
set_option maxRecDepth 100000 in
theorem c_J6_bitCount_0f7a4 (l : Launch) (D : va_G) (cy : Nat → ClassId) (ad : Nat → Nat) (hO : adOK 39 ad) (a0 : Int) (σ : Mem) {v : Int} (hf : f_J6_bitCount_0f7a4 a0 = some v) : Met l yJ6_bitCount_0f7a4 wsJ6_bitCount_0f7a4 rm_J6_bitCount_0f7a4 (va_Pc [.int (zI a0)] (PreW D cy 39 (cellC cy ad) ad σ)) (QI D 39 (cellC cy ad) ad v σ) 0 0 (AC 39 ad) := by
  refine r_met (cc := cJ6_bitCount_0f7a4) (maxL := 1) (ret := (some .int)) (own := RJ6) (by decide) rfl rfl [.int (zI a0)] (Nat.le_of_ble_eq_true rfl) ?_
  intro p e s m below meth c ls S hK hP hlk hr hl
  have hS : va_S (AC 39 ad) s.heap s.heap [] := va_S.rf
  have hl : lv_has ls 1 [(0, .int (zI a0))] := hl
  unfold f_J6_bitCount_0f7a4 at hf
  refine lv_iload_n S.1 S.2.1 dJ6_bitCount_0f7a4_0 rfl (lv_at hl 0 rfl) ?_
  refine lv_iload_n S.1 S.2.1 dJ6_bitCount_0f7a4_1 rfl (lv_at hl 0 rfl) ?_
  refine r_iconst S dJ6_bitCount_0f7a4_2 ?_
  refine r_iushr S dJ6_bitCount_0f7a4_3 ?_
  refine r_ldcw S 1431655765 (by decide +kernel) k_J6_bitCount_0f7a4_1 dJ6_bitCount_0f7a4_4 ?_
  refine r_iand S dJ6_bitCount_0f7a4_7 ?_
  refine r_isub S dJ6_bitCount_0f7a4_8 ?_
  obtain ⟨x1, hx1, hf⟩ := nm_some hf
  refine r_istore_n S hx1 (lv2 := [(0, .int (zI x1))]) dJ6_bitCount_0f7a4_9 rfl hl (by decide) rfl (fun ls hl => ?_)
  refine lv_iload_n S.1 S.2.1 dJ6_bitCount_0f7a4_10 rfl (lv_at hl 0 rfl) ?_
  refine r_ldcw S 858993459 (by decide +kernel) k_J6_bitCount_0f7a4_2 dJ6_bitCount_0f7a4_11 ?_
  refine r_iand S dJ6_bitCount_0f7a4_14 ?_
  refine lv_iload_n S.1 S.2.1 dJ6_bitCount_0f7a4_15 rfl (lv_at hl 0 rfl) ?_
  refine r_iconst S dJ6_bitCount_0f7a4_16 ?_
  refine r_iushr S dJ6_bitCount_0f7a4_17 ?_
  refine r_ldcw S 858993459 (by decide +kernel) k_J6_bitCount_0f7a4_2 dJ6_bitCount_0f7a4_18 ?_
  refine r_iand S dJ6_bitCount_0f7a4_21 ?_
  refine r_iadd S dJ6_bitCount_0f7a4_22 ?_
  obtain ⟨x2, hx2, hf⟩ := nm_some hf
  refine r_istore_n S hx2 (lv2 := [(0, .int (zI x2))]) dJ6_bitCount_0f7a4_23 rfl hl (by decide) rfl (fun ls hl => ?_)
  refine lv_iload_n S.1 S.2.1 dJ6_bitCount_0f7a4_24 rfl (lv_at hl 0 rfl) ?_
  refine lv_iload_n S.1 S.2.1 dJ6_bitCount_0f7a4_25 rfl (lv_at hl 0 rfl) ?_
  refine r_iconst S dJ6_bitCount_0f7a4_26 ?_
  refine r_iushr S dJ6_bitCount_0f7a4_27 ?_
  refine r_iadd S dJ6_bitCount_0f7a4_28 ?_
  refine r_ldcw S 252645135 (by decide +kernel) k_J6_bitCount_0f7a4_3 dJ6_bitCount_0f7a4_29 ?_
  refine r_iand S dJ6_bitCount_0f7a4_32 ?_
  obtain ⟨x3, hx3, hf⟩ := nm_some hf
  refine r_istore_n S hx3 (lv2 := [(0, .int (zI x3))]) dJ6_bitCount_0f7a4_33 rfl hl (by decide) rfl (fun ls hl => ?_)
  refine lv_iload_n S.1 S.2.1 dJ6_bitCount_0f7a4_34 rfl (lv_at hl 0 rfl) ?_
  refine lv_iload_n S.1 S.2.1 dJ6_bitCount_0f7a4_35 rfl (lv_at hl 0 rfl) ?_
  refine r_bipush S dJ6_bitCount_0f7a4_36 (by decide) ?_
  refine r_iushr S dJ6_bitCount_0f7a4_38 ?_
  refine r_iadd S dJ6_bitCount_0f7a4_39 ?_
  obtain ⟨x4, hx4, hf⟩ := nm_some hf
  refine r_istore_n S hx4 (lv2 := [(0, .int (zI x4))]) dJ6_bitCount_0f7a4_40 rfl hl (by decide) rfl (fun ls hl => ?_)
  refine lv_iload_n S.1 S.2.1 dJ6_bitCount_0f7a4_41 rfl (lv_at hl 0 rfl) ?_
  refine lv_iload_n S.1 S.2.1 dJ6_bitCount_0f7a4_42 rfl (lv_at hl 0 rfl) ?_
  refine r_bipush S dJ6_bitCount_0f7a4_43 (by decide) ?_
  refine r_iushr S dJ6_bitCount_0f7a4_45 ?_
  refine r_iadd S dJ6_bitCount_0f7a4_46 ?_
  obtain ⟨x5, hx5, hf⟩ := nm_some hf
  refine r_istore_n S hx5 (lv2 := [(0, .int (zI x5))]) dJ6_bitCount_0f7a4_47 rfl hl (by decide) rfl (fun ls hl => ?_)
  refine lv_iload_n S.1 S.2.1 dJ6_bitCount_0f7a4_48 rfl (lv_at hl 0 rfl) ?_
  refine r_bipush S dJ6_bitCount_0f7a4_49 (by decide) ?_
  refine r_iand S dJ6_bitCount_0f7a4_51 ?_
  have e1 := Option.some.inj hf
  subst e1
  exact e_I S hlk hP hS hr dJ6_bitCount_0f7a4_52
def rm_X4_lengthOf : Room := { frames := 0, cells := 0, slots := 0, locals := 0 }
theorem k_X4_lengthOf_1 : (.fieldLink RX4 15 "MendTexts$Grammar" "lengths" "[I" : Cond) ∈ wsX4_lengthOf := List.mem_of_getElem? (i := 1) (by decide +kernel)
theorem h_X4_lengthOf_X4 : ∀ w ∈ u_ws RX4 TX4 7, w ∈ wsX4_lengthOf := mem_places _ [2, 3, 4, 5, 6, 7, 8] (by decide +kernel)
set_option maxHeartbeats 4000000 in
set_option maxRecDepth 100000 in
theorem c_X4_lengthOf (l : Launch) (D : va_G) (cy : Nat → ClassId) (ad : Nat → Nat) (hO : adOK 39 ad) (g : Nat) (hg : isG g) (a0 : Int) (σ : Mem) {v : Int} (hf : f_X4_lengthOf g a0 σ = some v) : Met l yX4_lengthOf wsX4_lengthOf rm_X4_lengthOf (va_Pc [.ref (ad g), .int (zI a0)] (PreW D cy 39 (cellC cy ad) ad σ)) (QI D 39 (cellC cy ad) ad v σ) 0 0 (AC 39 ad) := by
  refine r_met (cc := cX4_lengthOf) (maxL := 2) (ret := (some .int)) (own := RX4) (by decide) rfl rfl [.ref (ad g), .int (zI a0)] (Nat.le_of_ble_eq_true rfl) ?_
  intro p e s m below meth c ls S hK hP hlk hr hl
  have hS : va_S (AC 39 ad) s.heap s.heap [] := va_S.rf
  have hl : lv_has ls 2 [(0, .ref (ad g)), (1, .int (zI a0))] := hl
  unfold f_X4_lengthOf at hf
  refine lv_iload_n S.1 S.2.1 dX4_lengthOf_0 rfl (lv_at hl 1 rfl) ?_
  refine r_if_lt (tgt := 19) S dX4_lengthOf_1 (by decide) (fun c1 => ?_) (fun c1 => ?_)
  · have hf := (if_pos c1).symm.trans hf
    refine r_iconst S dX4_lengthOf_19 ?_
    have e1 := Option.some.inj hf
    subst e1
    exact e_I S hlk hP hS hr dX4_lengthOf_20
  · have hf := (if_neg c1).symm.trans hf
    refine lv_iload_n S.1 S.2.1 dX4_lengthOf_4 rfl (lv_at hl 1 rfl) ?_
    refine r_bipush S dX4_lengthOf_5 (by decide) ?_
    refine lv_icmp_ge (tgt := 19) S.1 S.2.1 dX4_lengthOf_7 (by decide) (fun c2 => ?_) (fun c2 => ?_)
    · have hf := (if_pos c2).symm.trans hf
      refine r_iconst S dX4_lengthOf_19 ?_
      have e1 := Option.some.inj hf
      subst e1
      exact e_I S hlk hP hS hr dX4_lengthOf_20
    · have hf := (if_neg c2).symm.trans hf
      refine lv_aload_n S.1 S.2.1 dX4_lengthOf_10 rfl (lv_at hl 0 rfl) ?_
      refine r_get S hK hP (ltG hg) (cellG cy ad hg _) rfl h_X4_lengthOf_X4 1 (by decide) k_X4_lengthOf_1 rfl dX4_lengthOf_11 ?_
      refine lv_iload_n S.1 S.2.1 dX4_lengthOf_14 rfl (lv_at hl 1 rfl) ?_
      obtain ⟨g3, hf⟩ := gd_some hf
      refine r_iald S hK hP (ltG2 hg) (n := 25) (cellG2 cy ad hg) (by decide) g3 dX4_lengthOf_15 ?_
      refine lv_goto (tgt := 20) S.1 S.2.1 dX4_lengthOf_16 (by decide) ?_
      have e1 := Option.some.inj hf
      subst e1
      exact e_I S hlk hP hS hr dX4_lengthOf_20
def rm_X4_signAt : Room := { frames := 0, cells := 0, slots := 0, locals := 0 }
theorem k_X4_signAt_1 : (.fieldLink RX4 18 "MendTexts$Grammar" "signs" "[I" : Cond) ∈ wsX4_signAt := List.mem_of_getElem? (i := 1) (by decide +kernel)
theorem h_X4_signAt_X4 : ∀ w ∈ u_ws RX4 TX4 7, w ∈ wsX4_signAt := mem_places _ [2, 3, 4, 5, 6, 7, 8] (by decide +kernel)
set_option maxHeartbeats 4000000 in
set_option maxRecDepth 100000 in
theorem c_X4_signAt (l : Launch) (D : va_G) (cy : Nat → ClassId) (ad : Nat → Nat) (hO : adOK 39 ad) (a0 : Int) (a1 : Int) (σ : Mem) {v : Int} (hf : f_X4_signAt a0 a1 σ = some v) : Met l yX4_signAt wsX4_signAt rm_X4_signAt (va_Pc [.ref (ad 3), .int (zI a0), .int (zI a1)] (PreW D cy 39 (cellC cy ad) ad σ)) (QI D 39 (cellC cy ad) ad v σ) 0 0 (AC 39 ad) := by
  refine r_met (cc := cX4_signAt) (maxL := 4) (ret := (some .int)) (own := RX4) (by decide) rfl rfl [.ref (ad 3), .int (zI a0), .int (zI a1)] (Nat.le_of_ble_eq_true rfl) ?_
  intro p e s m below meth c ls S hK hP hlk hr hl
  have hS : va_S (AC 39 ad) s.heap s.heap [] := va_S.rf
  have hl : lv_has ls 4 [(0, .ref (ad 3)), (1, .int (zI a0)), (2, .int (zI a1))] := hl
  unfold f_X4_signAt at hf
  refine lv_iload_n S.1 S.2.1 dX4_signAt_0 rfl (lv_at hl 1 rfl) ?_
  refine r_iconst S dX4_signAt_1 ?_
  refine r_imul S dX4_signAt_2 ?_
  refine lv_iload_n S.1 S.2.1 dX4_signAt_3 rfl (lv_at hl 2 rfl) ?_
  refine r_iadd S dX4_signAt_4 ?_
  obtain ⟨x1, hx1, hf⟩ := nm_some hf
  refine r_istore_n S hx1 (lv2 := [(3, .int (zI x1)), (0, .ref (ad 3)), (1, .int (zI a0)), (2, .int (zI a1))]) dX4_signAt_5 rfl hl (by decide) rfl (fun ls hl => ?_)
  refine lv_iload_n S.1 S.2.1 dX4_signAt_6 rfl (lv_at hl 0 rfl) ?_
  refine r_if_lt (tgt := 28) S dX4_signAt_7 (by decide) (fun c2 => ?_) (fun c2 => ?_)
  · have hf := (if_pos c2).symm.trans hf
    refine r_iconst S dX4_signAt_28 ?_
    have e1 := Option.some.inj hf
    subst e1
    exact e_I S hlk hP hS hr dX4_signAt_29
  · have hf := (if_neg c2).symm.trans hf
    refine lv_iload_n S.1 S.2.1 dX4_signAt_10 rfl (lv_at hl 0 rfl) ?_
    refine lv_aload_n S.1 S.2.1 dX4_signAt_11 rfl (lv_at hl 1 rfl) ?_
    refine r_get S hK hP (by decide) rfl rfl h_X4_signAt_X4 2 (by decide) k_X4_signAt_1 rfl dX4_signAt_12 ?_
    refine r_alen S hK hP (by decide) (n := 100) (fun _ => rfl) dX4_signAt_15 ?_
    refine lv_icmp_ge (tgt := 28) S.1 S.2.1 dX4_signAt_16 (by decide) (fun c3 => ?_) (fun c3 => ?_)
    · have hf := (if_pos c3).symm.trans hf
      refine r_iconst S dX4_signAt_28 ?_
      have e1 := Option.some.inj hf
      subst e1
      exact e_I S hlk hP hS hr dX4_signAt_29
    · have hf := (if_neg c3).symm.trans hf
      refine lv_aload_n S.1 S.2.1 dX4_signAt_19 rfl (lv_at hl 1 rfl) ?_
      refine r_get S hK hP (by decide) rfl rfl h_X4_signAt_X4 2 (by decide) k_X4_signAt_1 rfl dX4_signAt_20 ?_
      refine lv_iload_n S.1 S.2.1 dX4_signAt_23 rfl (lv_at hl 0 rfl) ?_
      obtain ⟨g4, hf⟩ := gd_some hf
      refine r_iald S hK hP (by decide) (n := 100) (fun _ => rfl) (by decide) g4 dX4_signAt_24 ?_
      refine lv_goto (tgt := 29) S.1 S.2.1 dX4_signAt_25 (by decide) ?_
      have e1 := Option.some.inj hf
      subst e1
      exact e_I S hlk hP hS hr dX4_signAt_29
def rm_X0_fitAt : Room := { frames := 0, cells := 0, slots := 0, locals := 0 }
theorem k_X0_fitAt_1 : (.fieldLink RX0 13 "MendTexts$Chart" "fits" "[J" : Cond) ∈ wsX0_fitAt := List.mem_of_getElem? (i := 1) (by decide +kernel)
theorem k_X0_fitAt_2 : (.constantLong RX0 64 (9223372036854775807) : Cond) ∈ wsX0_fitAt := List.mem_of_getElem? (i := 2) (by decide +kernel)
theorem h_X0_fitAt_X0 : ∀ w ∈ u_ws RX0 TX0 5, w ∈ wsX0_fitAt := mem_places _ [3, 4, 5, 6, 7] (by decide +kernel)
set_option maxHeartbeats 4000000 in
set_option maxRecDepth 100000 in
theorem c_X0_fitAt (l : Launch) (D : va_G) (cy : Nat → ClassId) (ad : Nat → Nat) (hO : adOK 39 ad) (a0 : Int) (σ : Mem) {v : Int} (hf : f_X0_fitAt a0 σ = some v) : Met l yX0_fitAt wsX0_fitAt rm_X0_fitAt (va_Pc [.ref (ad 27), .int (zI a0)] (PreW D cy 39 (cellC cy ad) ad σ)) (QL D 39 (cellC cy ad) ad v σ) 0 0 (AC 39 ad) := by
  refine r_met (cc := cX0_fitAt) (maxL := 2) (ret := (some .long)) (own := RX0) (by decide) rfl rfl [.ref (ad 27), .int (zI a0)] (Nat.le_of_ble_eq_true rfl) ?_
  intro p e s m below meth c ls S hK hP hlk hr hl
  have hS : va_S (AC 39 ad) s.heap s.heap [] := va_S.rf
  have hl : lv_has ls 2 [(0, .ref (ad 27)), (1, .int (zI a0))] := hl
  unfold f_X0_fitAt at hf
  refine lv_iload_n S.1 S.2.1 dX0_fitAt_0 rfl (lv_at hl 1 rfl) ?_
  refine r_if_lt (tgt := 22) S dX0_fitAt_1 (by decide) (fun c1 => ?_) (fun c1 => ?_)
  · have hf := (if_pos c1).symm.trans hf
    refine r_ldc2 S 9223372036854775807 (by decide +kernel) k_X0_fitAt_2 dX0_fitAt_22 ?_
    have e1 := Option.some.inj hf
    subst e1
    exact e_L S hlk hP hS hr dX0_fitAt_25
  · have hf := (if_neg c1).symm.trans hf
    refine lv_iload_n S.1 S.2.1 dX0_fitAt_4 rfl (lv_at hl 1 rfl) ?_
    refine lv_aload_n S.1 S.2.1 dX0_fitAt_5 rfl (lv_at hl 0 rfl) ?_
    refine r_get S hK hP (by decide) rfl rfl h_X0_fitAt_X0 3 (by decide) k_X0_fitAt_1 rfl dX0_fitAt_6 ?_
    refine r_alenJ S hK hP (by decide) (n := 2940) (fun _ => rfl) dX0_fitAt_9 ?_
    refine lv_icmp_ge (tgt := 22) S.1 S.2.1 dX0_fitAt_10 (by decide) (fun c2 => ?_) (fun c2 => ?_)
    · have hf := (if_pos c2).symm.trans hf
      refine r_ldc2 S 9223372036854775807 (by decide +kernel) k_X0_fitAt_2 dX0_fitAt_22 ?_
      have e1 := Option.some.inj hf
      subst e1
      exact e_L S hlk hP hS hr dX0_fitAt_25
    · have hf := (if_neg c2).symm.trans hf
      refine lv_aload_n S.1 S.2.1 dX0_fitAt_13 rfl (lv_at hl 0 rfl) ?_
      refine r_get S hK hP (by decide) rfl rfl h_X0_fitAt_X0 3 (by decide) k_X0_fitAt_1 rfl dX0_fitAt_14 ?_
      refine lv_iload_n S.1 S.2.1 dX0_fitAt_17 rfl (lv_at hl 1 rfl) ?_
      obtain ⟨g3, hf⟩ := gd_some hf
      refine r_lald S hK hP (by decide) (n := 2940) (fun _ => rfl) (by decide) g3 dX0_fitAt_18 ?_
      refine lv_goto (tgt := 25) S.1 S.2.1 dX0_fitAt_19 (by decide) ?_
      have e1 := Option.some.inj hf
      subst e1
      exact e_L S hlk hP hS hr dX0_fitAt_25
def rm_X0_fitOf : Room := { frames := 1, cells := 0, slots := 0, locals := 21 }
theorem cw_X0_fitOf_X0_fitAt {s : State} {args : Array Value} (hts : ∀ w ∈ wsX0_fitOf, w.before args s = true) : CallW rm_X0_fitOf s args RX0 RX0 50 yX0_fitAt cX0_fitAt 2 (some .long) wsX0_fitAt rm_X0_fitAt 0 0 1 := cwV 1 hts gX0_fitOf_X0_fitAt rfl rfl rfl (by decide +kernel) ⟨Nat.le_of_ble_eq_true rfl, Nat.le_of_ble_eq_true rfl⟩
set_option maxHeartbeats 4000000 in
set_option maxRecDepth 100000 in
theorem c_X0_fitOf (l : Launch) (D : va_G) (cy : Nat → ClassId) (ad : Nat → Nat) (hO : adOK 39 ad) (a0 : Int) (a1 : Int) (a2 : Int) (σ : Mem) {v : Int} (hf : f_X0_fitOf a0 a1 a2 σ = some v) : Met l yX0_fitOf wsX0_fitOf rm_X0_fitOf (va_Pc [.ref (ad 27), .int (zI a0), .int (zI a1), .int (zI a2)] (PreW D cy 39 (cellC cy ad) ad σ)) (QL D 39 (cellC cy ad) ad v σ) 0 0 (AC 39 ad) := by
  refine r_met (cc := cX0_fitOf) (maxL := 4) (ret := (some .long)) (own := RX0) (by decide) rfl rfl [.ref (ad 27), .int (zI a0), .int (zI a1), .int (zI a2)] (Nat.le_of_ble_eq_true rfl) ?_
  intro p e s m below meth c ls S hK hP hlk hr hl
  have hS : va_S (AC 39 ad) s.heap s.heap [] := va_S.rf
  have hl : lv_has ls 4 [(0, .ref (ad 27)), (1, .int (zI a0)), (2, .int (zI a1)), (3, .int (zI a2))] := hl
  unfold f_X0_fitOf at hf
  refine lv_aload_n S.1 S.2.1 dX0_fitOf_0 rfl (lv_at hl 0 rfl) ?_
  refine lv_iload_n S.1 S.2.1 dX0_fitOf_1 rfl (lv_at hl 1 rfl) ?_
  refine r_bipush S dX0_fitOf_2 (by decide) ?_
  refine r_imul S dX0_fitOf_4 ?_
  refine lv_iload_n S.1 S.2.1 dX0_fitOf_5 rfl (lv_at hl 2 rfl) ?_
  refine r_bipush S dX0_fitOf_6 (by decide) ?_
  refine r_imul S dX0_fitOf_8 ?_
  refine r_iadd S dX0_fitOf_9 ?_
  refine lv_iload_n S.1 S.2.1 dX0_fitOf_10 rfl (lv_at hl 3 rfl) ?_
  refine r_iadd S dX0_fitOf_11 ?_
  obtain ⟨y2, hq1, hf⟩ := bV_some hf
  refine r_callVL S hK hP hS (by decide) rfl rfl [.int (zI (((a0 * 49) + (a1 * 7)) + a2))] (c_X0_fitAt l D cy ad hO (((a0 * 49) + (a1 * 7)) + a2) σ hq1) (cw_X0_fitOf_X0_fitAt S.2.2.2.2) rfl hl.1 (rest := []) rfl (Nat.le_of_ble_eq_true rfl) dX0_fitOf_12 ⟨Nat.zero_le _, Nat.zero_le _⟩ (fun H locs hP hS => ?_)
  have e1 := Option.some.inj hf
  subst e1
  exact e_L S hlk hP hS hr dX0_fitOf_15
def rm_X0_comesToWords : Room := { frames := 2, cells := 0, slots := 0, locals := 44 }
theorem k_X0_comesToWords_1 : (.fieldLink RX0 21 "MendTexts$Chart" "grammar" "LMendTexts$Grammar;" : Cond) ∈ wsX0_comesToWords := List.mem_of_getElem? (i := 1) (by decide +kernel)
theorem k_X0_comesToWords_2 : (.constantLong RX0 64 (9223372036854775807) : Cond) ∈ wsX0_comesToWords := List.mem_of_getElem? (i := 2) (by decide +kernel)
theorem h_X0_comesToWords_X0 : ∀ w ∈ u_ws RX0 TX0 5, w ∈ wsX0_comesToWords := mem_places _ [24, 25, 26, 27, 28] (by decide +kernel)
theorem cw_X0_comesToWords_X0_fitOf {s : State} {args : Array Value} (hts : ∀ w ∈ wsX0_comesToWords, w.before args s = true) : CallW rm_X0_comesToWords s args RX0 RX0 54 yX0_fitOf cX0_fitOf 4 (some .long) wsX0_fitOf rm_X0_fitOf 0 0 3 := cwV 3 hts gX0_comesToWords_X0_fitOf rfl rfl rfl (by decide +kernel) ⟨Nat.le_of_ble_eq_true rfl, Nat.le_of_ble_eq_true rfl⟩
theorem cw_X0_comesToWords_X4_lengthOf {s : State} {args : Array Value} (hts : ∀ w ∈ wsX0_comesToWords, w.before args s = true) : CallW rm_X0_comesToWords s args RX0 RX4 70 yX4_lengthOf cX4_lengthOf 2 (some .int) wsX4_lengthOf rm_X4_lengthOf 0 0 1 := cwV 1 hts gX0_comesToWords_X4_lengthOf rfl rfl rfl (by decide +kernel) ⟨Nat.le_of_ble_eq_true rfl, Nat.le_of_ble_eq_true rfl⟩
theorem cw_X0_comesToWords_X4_signAt {s : State} {args : Array Value} (hts : ∀ w ∈ wsX0_comesToWords, w.before args s = true) : CallW rm_X0_comesToWords s args RX0 RX4 73 yX4_signAt cX4_signAt 4 (some .int) wsX4_signAt rm_X4_signAt 0 0 2 := cwV 2 hts gX0_comesToWords_X4_signAt rfl rfl rfl (by decide +kernel) ⟨Nat.le_of_ble_eq_true rfl, Nat.le_of_ble_eq_true rfl⟩
set_option maxHeartbeats 4000000 in
set_option maxRecDepth 100000 in
theorem w_X0_comesToWords_L2 {p : Program} {l : Launch} {e : Env} {s : State} {m : MethodId} {args : Array Value} {below : List Frame} {meth : Method} {c : Code} {Q : State → Prop} {D : va_G} {cy : Nat → ClassId} {ad : Nat → Nat} {H0 : Heap} (hO : adOK 39 ad) (S : CallFix p m c cX0_comesToWords 3 s args wsX0_comesToWords RX0) (hK : KK D cy s) (n : Nat) (x1_ : Int) (σ : Mem) {res : Nat} (k0 : ∀ (H2 : Heap) (locs2 : List Loc) (ls2 : Array Slot), res = 0 → va_P D vwCl (WW 39 (cellC cy ad) ad σ) H2 → va_S (AC 39 ad) H0 H2 locs2 → lv_has ls2 3 [] → W p l e rm_X0_comesToWords s m args below meth c H2 locs2 0 0 Q (F0 m 36 ls2 [])) (k1 : ∀ (H2 : Heap) (locs2 : List Loc) (ls2 : Array Slot), res = 1 → va_P D vwCl (WW 39 (cellC cy ad) ad σ) H2 → va_S (AC 39 ad) H0 H2 locs2 → lv_has ls2 3 [] → W p l e rm_X0_comesToWords s m args below meth c H2 locs2 0 0 Q (F0 m 44 ls2 [])) :
    ∀ (k : Nat) (x2_ : Int) (H : Heap) (locs : List Loc) (ls : Array Slot), f_X0_comesToWords_L2 n x1_ σ k x2_ = some res → va_P D vwCl (WW 39 (cellC cy ad) ad σ) H → va_S (AC 39 ad) H0 H locs → lv_has ls 3 [(0, .ref (ad 27)), (1, .int (zI x1_)), (2, .int (zI x2_))] → W p l e rm_X0_comesToWords s m args below meth c H locs 0 0 Q (F0 m 2 ls []) := by
  intro k
  induction k with
  | zero =>
    intro x2_ H locs ls hf
    have hf : none = some res := hf
    cases hf
  | succ k ih =>
    intro x2_ H locs ls hf hP hS hl
    rw [f_X0_comesToWords_L2] at hf
    refine lv_iload_n S.1 S.2.1 dX0_comesToWords_2 rfl (lv_at hl 2 rfl) ?_
    refine lv_aload_n S.1 S.2.1 dX0_comesToWords_3 rfl (lv_at hl 0 rfl) ?_
    refine r_get S hK hP (by decide) rfl rfl h_X0_comesToWords_X0 0 (by decide) k_X0_comesToWords_1 rfl dX0_comesToWords_4 ?_
    refine lv_iload_n S.1 S.2.1 dX0_comesToWords_7 rfl (lv_at hl 1 rfl) ?_
    obtain ⟨y2, hq1, hf⟩ := bV_some hf
    refine r_callVI S hK hP hS (by decide) rfl rfl [.int (zI x1_)] (c_X4_lengthOf l D cy ad hO 3 (by decide) x1_ σ hq1) (cw_X0_comesToWords_X4_lengthOf S.2.2.2.2) rfl hl.1 (rest := [.int (zI x2_)]) rfl (Nat.le_of_ble_eq_true rfl) dX0_comesToWords_8 ⟨Nat.zero_le _, Nat.zero_le _⟩ (fun H locs hP hS => ?_)
    refine lv_icmp_ge (tgt := 44) S.1 S.2.1 dX0_comesToWords_11 (by decide) (fun c3 => ?_) (fun c3 => ?_)
    · have hf := (if_pos c3).symm.trans hf
      exact k1 _ _ _ (Option.some.inj hf).symm hP hS (lv_sub hl [] rfl)
    · have hf := (if_neg c3).symm.trans hf
      refine lv_aload_n S.1 S.2.1 dX0_comesToWords_14 rfl (lv_at hl 0 rfl) ?_
      refine lv_aload_n S.1 S.2.1 dX0_comesToWords_15 rfl (lv_at hl 0 rfl) ?_
      refine r_get S hK hP (by decide) rfl rfl h_X0_comesToWords_X0 0 (by decide) k_X0_comesToWords_1 rfl dX0_comesToWords_16 ?_
      refine lv_iload_n S.1 S.2.1 dX0_comesToWords_19 rfl (lv_at hl 1 rfl) ?_
      refine lv_iload_n S.1 S.2.1 dX0_comesToWords_20 rfl (lv_at hl 2 rfl) ?_
      obtain ⟨y5, hq4, hf⟩ := bV_some hf
      refine r_callVI S hK hP hS (by decide) rfl rfl [.int (zI x1_), .int (zI x2_)] (c_X4_signAt l D cy ad hO x1_ x2_ σ hq4) (cw_X0_comesToWords_X4_signAt S.2.2.2.2) rfl hl.1 (rest := [.ref (ad 27)]) rfl (Nat.le_of_ble_eq_true rfl) dX0_comesToWords_21 ⟨Nat.zero_le _, Nat.zero_le _⟩ (fun H locs hP hS => ?_)
      refine r_iconst S dX0_comesToWords_24 ?_
      refine r_iconst S dX0_comesToWords_25 ?_
      obtain ⟨y7, hq6, hf⟩ := bV_some hf
      refine r_callVL S hK hP hS (by decide) rfl rfl [.int (zI y5), .int (zI 0), .int (zI 0)] (c_X0_fitOf l D cy ad hO y5 0 0 σ hq6) (cw_X0_comesToWords_X0_fitOf S.2.2.2.2) rfl hl.1 (rest := []) rfl (Nat.le_of_ble_eq_true rfl) dX0_comesToWords_26 ⟨Nat.zero_le _, Nat.zero_le _⟩ (fun H locs hP hS => ?_)
      refine r_ldc2 S 9223372036854775807 (by decide +kernel) k_X0_comesToWords_2 dX0_comesToWords_29 ?_
      refine r_lcmp S dX0_comesToWords_32 ?_
      refine r_if_ne (tgt := 38) S dX0_comesToWords_33 (by decide) (fun c8 => ?_) (fun c8 => ?_)
      · have hf := (if_neg c8).symm.trans hf
        obtain ⟨x9, hx9, hf⟩ := nm_some hf
        refine r_iinc S hx9 (k0 := 2) (lv2 := [(2, .int (zI x9)), (0, .ref (ad 27)), (1, .int (zI x1_))]) dX0_comesToWords_38 hl rfl (by decide) rfl (fun ls hl => ?_)
        refine lv_goto (tgt := 2) S.1 S.2.1 dX0_comesToWords_41 (by decide) ?_
        exact ih x9 _ _ _ hf hP hS (lv_sub hl [1, 2, 0] rfl)
      · have hf := (if_pos c8).symm.trans hf
        exact k0 _ _ _ (Option.some.inj hf).symm hP hS (lv_sub hl [] rfl)
set_option maxHeartbeats 4000000 in
set_option maxRecDepth 100000 in
theorem c_X0_comesToWords (l : Launch) (D : va_G) (cy : Nat → ClassId) (ad : Nat → Nat) (hO : adOK 39 ad) (n : Nat) (a0 : Int) (σ : Mem) {v : Int} (hf : f_X0_comesToWords n a0 σ = some v) : Met l yX0_comesToWords wsX0_comesToWords rm_X0_comesToWords (va_Pc [.ref (ad 27), .int (zI a0)] (PreW D cy 39 (cellC cy ad) ad σ)) (QI D 39 (cellC cy ad) ad v σ) 0 0 (AC 39 ad) := by
  refine r_met (cc := cX0_comesToWords) (maxL := 3) (ret := (some .boolean)) (own := RX0) (by decide) rfl rfl [.ref (ad 27), .int (zI a0)] (Nat.le_of_ble_eq_true rfl) ?_
  intro p e s m below meth c ls S hK hP hlk hr hl
  have hS : va_S (AC 39 ad) s.heap s.heap [] := va_S.rf
  have hl : lv_has ls 3 [(0, .ref (ad 27)), (1, .int (zI a0))] := hl
  unfold f_X0_comesToWords at hf
  refine r_iconst S dX0_comesToWords_0 ?_
  refine r_istore_n S rfl (lv2 := [(2, .int (zI 0)), (0, .ref (ad 27)), (1, .int (zI a0))]) dX0_comesToWords_1 rfl hl (by decide) rfl (fun ls hl => ?_)
  obtain ⟨t1, hq, hf⟩ := bV_some hf
  refine w_X0_comesToWords_L2 hO S hK n a0 σ (fun  H locs ls he hP hS hl => ?_) (fun  H locs ls he hP hS hl => ?_) n 0 _ _ _ hq hP hS (lv_sub hl [1, 2, 0] rfl)
  · cases he
    have hf := (if_pos rfl).symm.trans hf
    refine r_iconst S dX0_comesToWords_36 ?_
    have e1 := Option.some.inj hf
    subst e1
    exact e_Z S hlk hP hS (Or.inl rfl) hr dX0_comesToWords_37
  · cases he
    have hf := (if_neg (by decide)).symm.trans hf
    refine r_iconst S dX0_comesToWords_44 ?_
    have e1 := Option.some.inj hf
    subst e1
    exact e_Z S hlk hP hS (Or.inr rfl) hr dX0_comesToWords_45
def rm_X11_isName : Room := { frames := 0, cells := 0, slots := 0, locals := 0 }
set_option maxHeartbeats 4000000 in
set_option maxRecDepth 100000 in
theorem c_X11_isName (l : Launch) (D : va_G) (cy : Nat → ClassId) (ad : Nat → Nat) (hO : adOK 39 ad) (a0 : Int) (σ : Mem) {v : Int} (hf : f_X11_isName a0 = some v) : Met l yX11_isName wsX11_isName rm_X11_isName (va_Pc [.int (zI a0)] (PreW D cy 39 (cellC cy ad) ad σ)) (QI D 39 (cellC cy ad) ad v σ) 0 0 (AC 39 ad) := by
  refine r_met (cc := cX11_isName) (maxL := 1) (ret := (some .boolean)) (own := RX11) (by decide) rfl rfl [.int (zI a0)] (Nat.le_of_ble_eq_true rfl) ?_
  intro p e s m below meth c ls S hK hP hlk hr hl
  have hS : va_S (AC 39 ad) s.heap s.heap [] := va_S.rf
  have hl : lv_has ls 1 [(0, .int (zI a0))] := hl
  unfold f_X11_isName at hf
  refine lv_iload_n S.1 S.2.1 dX11_isName_0 rfl (lv_at hl 0 rfl) ?_
  refine r_if_lt (tgt := 14) S dX11_isName_1 (by decide) (fun c1 => ?_) (fun c1 => ?_)
  · have hf := (if_pos c1).symm.trans hf
    refine r_iconst S dX11_isName_14 ?_
    have e1 := Option.some.inj hf
    subst e1
    exact e_Z S hlk hP hS (Or.inl rfl) hr dX11_isName_15
  · have hf := (if_neg c1).symm.trans hf
    refine lv_iload_n S.1 S.2.1 dX11_isName_4 rfl (lv_at hl 0 rfl) ?_
    refine r_bipush S dX11_isName_5 (by decide) ?_
    refine lv_icmp_ge (tgt := 14) S.1 S.2.1 dX11_isName_7 (by decide) (fun c2 => ?_) (fun c2 => ?_)
    · have hf := (if_pos c2).symm.trans hf
      refine r_iconst S dX11_isName_14 ?_
      have e1 := Option.some.inj hf
      subst e1
      exact e_Z S hlk hP hS (Or.inl rfl) hr dX11_isName_15
    · have hf := (if_neg c2).symm.trans hf
      refine r_iconst S dX11_isName_10 ?_
      refine lv_goto (tgt := 15) S.1 S.2.1 dX11_isName_11 (by decide) ?_
      have e1 := Option.some.inj hf
      subst e1
      exact e_Z S hlk hP hS (Or.inr rfl) hr dX11_isName_15
def rm_X4_countOf : Room := { frames := 1, cells := 0, slots := 0, locals := 20 }
theorem k_X4_countOf_1 : (.fieldLink RX4 11 "MendTexts$Grammar" "counts" "[I" : Cond) ∈ wsX4_countOf := List.mem_of_getElem? (i := 1) (by decide +kernel)
theorem k_X4_countOf_2 : (.fieldLink RX4 31 "MendTexts$Grammar" "trialName" "I" : Cond) ∈ wsX4_countOf := List.mem_of_getElem? (i := 2) (by decide +kernel)
theorem h_X4_countOf_X4 : ∀ w ∈ u_ws RX4 TX4 7, w ∈ wsX4_countOf := mem_places _ [6, 7, 8, 9, 10, 11, 12] (by decide +kernel)
theorem cw_X4_countOf_X11_isName {s : State} {args : Array Value} (hts : ∀ w ∈ wsX4_countOf, w.before args s = true) (hn : va_Nw nestW s) : va_CN rm_X4_countOf s args RX4 46 yX11_isName "MendTexts" cX11_isName 1 (some .boolean) wsX11_isName rm_X11_isName 0 0 1 ∧ (Cond.static yX11_isName).before args s = true ∧ True := ⟨va_cnB 1 hts gX4_countOf_X11_isName_n46 rfl rfl rfl hn (hts _ (List.mem_of_getElem? (i := 4) (a := Cond.initialized RX11) (by decide +kernel))) (by decide +kernel) ⟨Nat.le_of_ble_eq_true rfl, Nat.le_of_ble_eq_true rfl⟩, hts _ (List.mem_of_getElem? (i := 3) (a := Cond.static yX11_isName) (by decide +kernel)), trivial⟩
set_option maxHeartbeats 4000000 in
set_option maxRecDepth 100000 in
theorem c_X4_countOf (l : Launch) (D : va_G) (cy : Nat → ClassId) (ad : Nat → Nat) (hO : adOK 39 ad) (g : Nat) (hg : isG g) (a0 : Int) (σ : Mem) {v : Int} (hf : f_X4_countOf g a0 σ = some v) : Met l yX4_countOf wsX4_countOf rm_X4_countOf (va_Pc [.ref (ad g), .int (zI a0)] (PreW D cy 39 (cellC cy ad) ad σ)) (QI D 39 (cellC cy ad) ad v σ) 0 0 (AC 39 ad) := by
  refine r_met (cc := cX4_countOf) (maxL := 2) (ret := (some .int)) (own := RX4) (by decide) rfl rfl [.ref (ad g), .int (zI a0)] (Nat.le_of_ble_eq_true rfl) ?_
  intro p e s m below meth c ls S hK hP hlk hr hl
  have hS : va_S (AC 39 ad) s.heap s.heap [] := va_S.rf
  have hl : lv_has ls 2 [(0, .ref (ad g)), (1, .int (zI a0))] := hl
  unfold f_X4_countOf at hf
  refine lv_iload_n S.1 S.2.1 dX4_countOf_0 rfl (lv_at hl 1 rfl) ?_
  obtain ⟨y2, hq1, hf⟩ := bV_some hf
  refine r_callSNI S hK hP hS [.int (zI a0)] (c_X11_isName l D cy ad hO a0 σ hq1) (cw_X4_countOf_X11_isName S.2.2.2.2 hK.2) rfl hl.1 (rest := []) rfl (Nat.le_of_ble_eq_true rfl) dX4_countOf_1 ⟨Nat.zero_le _, Nat.zero_le _⟩ (fun H locs hP hS => ?_)
  refine r_if_ne (tgt := 9) S dX4_countOf_4 (by decide) (fun c3 => ?_) (fun c3 => ?_)
  · have hf := (if_neg c3).symm.trans hf
    refine lv_aload_n S.1 S.2.1 dX4_countOf_9 rfl (lv_at hl 0 rfl) ?_
    refine r_get S hK hP (ltG hg) (cellG cy ad hg _) rfl h_X4_countOf_X4 0 (by decide) k_X4_countOf_1 rfl dX4_countOf_10 ?_
    refine lv_iload_n S.1 S.2.1 dX4_countOf_13 rfl (lv_at hl 1 rfl) ?_
    obtain ⟨g4, hf⟩ := gd_some hf
    refine r_iald S hK hP (ltG1 hg) (n := 6) (cellG1 cy ad hg) (by decide) g4 dX4_countOf_14 ?_
    refine lv_aload_n S.1 S.2.1 dX4_countOf_15 rfl (lv_at hl 0 rfl) ?_
    refine r_get S hK hP (ltG hg) (cellG cy ad hg _) rfl h_X4_countOf_X4 6 (by decide) k_X4_countOf_2 rfl dX4_countOf_16 ?_
    refine lv_iload_n S.1 S.2.1 dX4_countOf_19 rfl (lv_at hl 1 rfl) ?_
    refine lv_icmp_ne (tgt := 27) S.1 S.2.1 dX4_countOf_20 (by decide) (fun c5 => ?_) (fun c5 => ?_)
    · have hf := (if_neg c5).symm.trans hf
      refine r_iconst S dX4_countOf_27 ?_
      refine r_iadd S dX4_countOf_28 ?_
      have e1 := Option.some.inj hf
      subst e1
      exact e_I S hlk hP hS hr dX4_countOf_29
    · have hf := (if_pos c5).symm.trans hf
      refine r_iconst S dX4_countOf_23 ?_
      refine lv_goto (tgt := 28) S.1 S.2.1 dX4_countOf_24 (by decide) ?_
      refine r_iadd S dX4_countOf_28 ?_
      have e1 := Option.some.inj hf
      subst e1
      exact e_I S hlk hP hS hr dX4_countOf_29
  · have hf := (if_pos c3).symm.trans hf
    refine r_iconst S dX4_countOf_7 ?_
    have e1 := Option.some.inj hf
    subst e1
    exact e_I S hlk hP hS hr dX4_countOf_8
def rm_X4_slotOf : Room := { frames := 1, cells := 0, slots := 0, locals := 20 }
theorem k_X4_slotOf_1 : (.fieldLink RX4 11 "MendTexts$Grammar" "counts" "[I" : Cond) ∈ wsX4_slotOf := List.mem_of_getElem? (i := 1) (by decide +kernel)
theorem h_X4_slotOf_X4 : ∀ w ∈ u_ws RX4 TX4 7, w ∈ wsX4_slotOf := mem_places _ [5, 6, 7, 8, 9, 10, 11] (by decide +kernel)
theorem cw_X4_slotOf_X11_isName {s : State} {args : Array Value} (hts : ∀ w ∈ wsX4_slotOf, w.before args s = true) (hn : va_Nw nestW s) : va_CN rm_X4_slotOf s args RX4 46 yX11_isName "MendTexts" cX11_isName 1 (some .boolean) wsX11_isName rm_X11_isName 0 0 1 ∧ (Cond.static yX11_isName).before args s = true ∧ True := ⟨va_cnB 1 hts gX4_slotOf_X11_isName_n46 rfl rfl rfl hn (hts _ (List.mem_of_getElem? (i := 3) (a := Cond.initialized RX11) (by decide +kernel))) (by decide +kernel) ⟨Nat.le_of_ble_eq_true rfl, Nat.le_of_ble_eq_true rfl⟩, hts _ (List.mem_of_getElem? (i := 2) (a := Cond.static yX11_isName) (by decide +kernel)), trivial⟩
set_option maxHeartbeats 4000000 in
set_option maxRecDepth 100000 in
theorem c_X4_slotOf (l : Launch) (D : va_G) (cy : Nat → ClassId) (ad : Nat → Nat) (hO : adOK 39 ad) (a0 : Int) (a1 : Int) (σ : Mem) {v : Int} (hf : f_X4_slotOf a0 a1 σ = some v) : Met l yX4_slotOf wsX4_slotOf rm_X4_slotOf (va_Pc [.ref (ad 3), .int (zI a0), .int (zI a1)] (PreW D cy 39 (cellC cy ad) ad σ)) (QI D 39 (cellC cy ad) ad v σ) 0 0 (AC 39 ad) := by
  refine r_met (cc := cX4_slotOf) (maxL := 3) (ret := (some .int)) (own := RX4) (by decide) rfl rfl [.ref (ad 3), .int (zI a0), .int (zI a1)] (Nat.le_of_ble_eq_true rfl) ?_
  intro p e s m below meth c ls S hK hP hlk hr hl
  have hS : va_S (AC 39 ad) s.heap s.heap [] := va_S.rf
  have hl : lv_has ls 3 [(0, .ref (ad 3)), (1, .int (zI a0)), (2, .int (zI a1))] := hl
  unfold f_X4_slotOf at hf
  refine lv_iload_n S.1 S.2.1 dX4_slotOf_0 rfl (lv_at hl 1 rfl) ?_
  obtain ⟨y2, hq1, hf⟩ := bV_some hf
  refine r_callSNI S hK hP hS [.int (zI a0)] (c_X11_isName l D cy ad hO a0 σ hq1) (cw_X4_slotOf_X11_isName S.2.2.2.2 hK.2) rfl hl.1 (rest := []) rfl (Nat.le_of_ble_eq_true rfl) dX4_slotOf_1 ⟨Nat.zero_le _, Nat.zero_le _⟩ (fun H locs hP hS => ?_)
  refine r_if_eq (tgt := 25) S dX4_slotOf_4 (by decide) (fun c3 => ?_) (fun c3 => ?_)
  · have hf := (if_pos c3).symm.trans hf
    refine r_bipush S dX4_slotOf_25 (by decide) ?_
    have e1 := Option.some.inj hf
    subst e1
    exact e_I S hlk hP hS hr dX4_slotOf_27
  · have hf := (if_neg c3).symm.trans hf
    refine lv_iload_n S.1 S.2.1 dX4_slotOf_7 rfl (lv_at hl 2 rfl) ?_
    refine lv_aload_n S.1 S.2.1 dX4_slotOf_8 rfl (lv_at hl 0 rfl) ?_
    refine r_get S hK hP (by decide) rfl rfl h_X4_slotOf_X4 0 (by decide) k_X4_slotOf_1 rfl dX4_slotOf_9 ?_
    refine lv_iload_n S.1 S.2.1 dX4_slotOf_12 rfl (lv_at hl 1 rfl) ?_
    obtain ⟨g4, hf⟩ := gd_some hf
    refine r_iald S hK hP (by decide) (n := 6) (fun _ => rfl) (by decide) g4 dX4_slotOf_13 ?_
    refine lv_icmp_ge (tgt := 25) S.1 S.2.1 dX4_slotOf_14 (by decide) (fun c5 => ?_) (fun c5 => ?_)
    · have hf := (if_pos c5).symm.trans hf
      refine r_bipush S dX4_slotOf_25 (by decide) ?_
      have e1 := Option.some.inj hf
      subst e1
      exact e_I S hlk hP hS hr dX4_slotOf_27
    · have hf := (if_neg c5).symm.trans hf
      refine lv_iload_n S.1 S.2.1 dX4_slotOf_17 rfl (lv_at hl 1 rfl) ?_
      refine r_iconst S dX4_slotOf_18 ?_
      refine r_imul S dX4_slotOf_19 ?_
      refine lv_iload_n S.1 S.2.1 dX4_slotOf_20 rfl (lv_at hl 2 rfl) ?_
      refine r_iadd S dX4_slotOf_21 ?_
      refine lv_goto (tgt := 27) S.1 S.2.1 dX4_slotOf_22 (by decide) ?_
      have e1 := Option.some.inj hf
      subst e1
      exact e_I S hlk hP hS hr dX4_slotOf_27
def rm_X4_namesUsedBy : Room := { frames := 2, cells := 0, slots := 0, locals := 42 }
theorem cw_X4_namesUsedBy_X4_countOf {s : State} {args : Array Value} (hts : ∀ w ∈ wsX4_namesUsedBy, w.before args s = true) : CallW rm_X4_namesUsedBy s args RX4 RX4 50 yX4_countOf cX4_countOf 2 (some .int) wsX4_countOf rm_X4_countOf 0 0 1 := cwV 1 hts gX4_namesUsedBy_X4_countOf rfl rfl rfl (by decide +kernel) ⟨Nat.le_of_ble_eq_true rfl, Nat.le_of_ble_eq_true rfl⟩
theorem cw_X4_namesUsedBy_X4_lengthOf {s : State} {args : Array Value} (hts : ∀ w ∈ wsX4_namesUsedBy, w.before args s = true) : CallW rm_X4_namesUsedBy s args RX4 RX4 69 yX4_lengthOf cX4_lengthOf 2 (some .int) wsX4_lengthOf rm_X4_lengthOf 0 0 1 := cwV 1 hts gX4_namesUsedBy_X4_lengthOf rfl rfl rfl (by decide +kernel) ⟨Nat.le_of_ble_eq_true rfl, Nat.le_of_ble_eq_true rfl⟩
theorem cw_X4_namesUsedBy_X4_signAt {s : State} {args : Array Value} (hts : ∀ w ∈ wsX4_namesUsedBy, w.before args s = true) : CallW rm_X4_namesUsedBy s args RX4 RX4 79 yX4_signAt cX4_signAt 4 (some .int) wsX4_signAt rm_X4_signAt 0 0 2 := cwV 2 hts gX4_namesUsedBy_X4_signAt rfl rfl rfl (by decide +kernel) ⟨Nat.le_of_ble_eq_true rfl, Nat.le_of_ble_eq_true rfl⟩
theorem cw_X4_namesUsedBy_X4_slotOf {s : State} {args : Array Value} (hts : ∀ w ∈ wsX4_namesUsedBy, w.before args s = true) : CallW rm_X4_namesUsedBy s args RX4 RX4 75 yX4_slotOf cX4_slotOf 3 (some .int) wsX4_slotOf rm_X4_slotOf 0 0 2 := cwV 2 hts gX4_namesUsedBy_X4_slotOf rfl rfl rfl (by decide +kernel) ⟨Nat.le_of_ble_eq_true rfl, Nat.le_of_ble_eq_true rfl⟩
set_option maxHeartbeats 4000000 in
set_option maxRecDepth 100000 in
theorem w_X4_namesUsedBy_L24 {p : Program} {l : Launch} {e : Env} {s : State} {m : MethodId} {args : Array Value} {below : List Frame} {meth : Method} {c : Code} {Q : State → Prop} {D : va_G} {cy : Nat → ClassId} {ad : Nat → Nat} {H0 : Heap} (hO : adOK 39 ad) (S : CallFix p m c cX4_namesUsedBy 7 s args wsX4_namesUsedBy RX4) (hK : KK D cy s) (n : Nat) (x1_ : Int) (x3_ : Int) (x4_ : Int) (σ : Mem) {res : Int} (k0 : ∀ (y2_ : Int) (H2 : Heap) (locs2 : List Loc) (ls2 : Array Slot), res = y2_ → va_P D vwCl (WW 39 (cellC cy ad) ad σ) H2 → va_S (AC 39 ad) H0 H2 locs2 → lv_has ls2 7 [(0, .ref (ad 3)), (1, .int (zI x1_)), (2, .int (zI y2_)), (3, .int (zI x3_))] → W p l e rm_X4_namesUsedBy s m args below meth c H2 locs2 0 0 Q (F0 m 70 ls2 [])) :
    ∀ (k : Nat) (x2_ : Int) (x5_ : Int) (H : Heap) (locs : List Loc) (ls : Array Slot), f_X4_namesUsedBy_L24 n x1_ x3_ x4_ σ k x2_ x5_ = some res → va_P D vwCl (WW 39 (cellC cy ad) ad σ) H → va_S (AC 39 ad) H0 H locs → lv_has ls 7 [(0, .ref (ad 3)), (1, .int (zI x1_)), (2, .int (zI x2_)), (3, .int (zI x3_)), (4, .int (zI x4_)), (5, .int (zI x5_))] → W p l e rm_X4_namesUsedBy s m args below meth c H locs 0 0 Q (F0 m 24 ls []) := by
  intro k
  induction k with
  | zero =>
    intro x2_ x5_ H locs ls hf
    have hf : none = some res := hf
    cases hf
  | succ k ih =>
    intro x2_ x5_ H locs ls hf hP hS hl
    rw [f_X4_namesUsedBy_L24] at hf
    refine lv_iload S.1 S.2.1 dX4_namesUsedBy_24 (lv_at hl 5 rfl) ?_
    refine lv_aload_n S.1 S.2.1 dX4_namesUsedBy_26 rfl (lv_at hl 0 rfl) ?_
    refine lv_iload S.1 S.2.1 dX4_namesUsedBy_27 (lv_at hl 4 rfl) ?_
    obtain ⟨y2, hq1, hf⟩ := bV_some hf
    refine r_callVI S hK hP hS (by decide) rfl rfl [.int (zI x4_)] (c_X4_lengthOf l D cy ad hO 3 (by decide) x4_ σ hq1) (cw_X4_namesUsedBy_X4_lengthOf S.2.2.2.2) rfl hl.1 (rest := [.int (zI x5_)]) rfl (Nat.le_of_ble_eq_true rfl) dX4_namesUsedBy_29 ⟨Nat.zero_le _, Nat.zero_le _⟩ (fun H locs hP hS => ?_)
    refine lv_icmp_ge (tgt := 70) S.1 S.2.1 dX4_namesUsedBy_32 (by decide) (fun c3 => ?_) (fun c3 => ?_)
    · have hf := (if_pos c3).symm.trans hf
      exact k0 _ _ _ _ (Option.some.inj hf).symm hP hS (lv_sub hl [0, 1, 2, 3] rfl)
    · have hf := (if_neg c3).symm.trans hf
      refine lv_aload_n S.1 S.2.1 dX4_namesUsedBy_35 rfl (lv_at hl 0 rfl) ?_
      refine lv_iload S.1 S.2.1 dX4_namesUsedBy_36 (lv_at hl 4 rfl) ?_
      refine lv_iload S.1 S.2.1 dX4_namesUsedBy_38 (lv_at hl 5 rfl) ?_
      obtain ⟨y5, hq4, hf⟩ := bV_some hf
      refine r_callVI S hK hP hS (by decide) rfl rfl [.int (zI x4_), .int (zI x5_)] (c_X4_signAt l D cy ad hO x4_ x5_ σ hq4) (cw_X4_namesUsedBy_X4_signAt S.2.2.2.2) rfl hl.1 (rest := []) rfl (Nat.le_of_ble_eq_true rfl) dX4_namesUsedBy_40 ⟨Nat.zero_le _, Nat.zero_le _⟩ (fun H locs hP hS => ?_)
      refine r_istore S rfl (lv2 := [(6, .int (zI y5)), (0, .ref (ad 3)), (1, .int (zI x1_)), (2, .int (zI x2_)), (3, .int (zI x3_)), (4, .int (zI x4_)), (5, .int (zI x5_))]) dX4_namesUsedBy_43 hl (by decide) rfl (fun ls hl => ?_)
      refine lv_iload_n S.1 S.2.1 dX4_namesUsedBy_45 rfl (lv_at hl 3 rfl) ?_
      refine lv_iload S.1 S.2.1 dX4_namesUsedBy_46 (lv_at hl 0 rfl) ?_
      refine r_iconst S dX4_namesUsedBy_48 ?_
      obtain ⟨v6, hq, hf⟩ := bV_some hf
      have kJ0 : ∀ (H : Heap) (locs : List Loc) (ls : Array Slot), va_P D vwCl (WW 39 (cellC cy ad) ad σ) H → va_S (AC 39 ad) H0 H locs → lv_has ls 7 [(0, .ref (ad 3)), (1, .int (zI x1_)), (3, .int (zI x3_)), (4, .int (zI x4_)), (5, .int (zI x5_))] → W p l e rm_X4_namesUsedBy s m args below meth c H locs 0 0 Q (F0 m 62 ls [.int (zI v6), .int (zI x2_)]) := by
        intro H locs ls hP hS hl
        refine r_ior S dX4_namesUsedBy_62 ?_
        obtain ⟨x8, hx8, hf⟩ := nm_some hf
        refine r_istore_n S hx8 (lv2 := [(2, .int (zI x8)), (0, .ref (ad 3)), (1, .int (zI x1_)), (3, .int (zI x3_)), (4, .int (zI x4_)), (5, .int (zI x5_))]) dX4_namesUsedBy_63 rfl hl (by decide) rfl (fun ls hl => ?_)
        obtain ⟨x9, hx9, hf⟩ := nm_some hf
        refine r_iinc S hx9 (k0 := 5) (lv2 := [(5, .int (zI x9)), (2, .int (zI x8)), (0, .ref (ad 3)), (1, .int (zI x1_)), (3, .int (zI x3_)), (4, .int (zI x4_))]) dX4_namesUsedBy_64 hl rfl (by decide) rfl (fun ls hl => ?_)
        refine lv_goto (tgt := 24) S.1 S.2.1 dX4_namesUsedBy_67 (by decide) ?_
        exact ih x8 x9 _ _ _ hf hP hS (lv_sub hl [2, 3, 1, 4, 5, 0] rfl)
      clear hf
      have hf := hq
      refine lv_icmp_lt (tgt := 61) S.1 S.2.1 dX4_namesUsedBy_49 (by decide) (fun c7 => ?_) (fun c7 => ?_)
      · have hf := (if_pos c7).symm.trans hf
        refine r_iconst S dX4_namesUsedBy_61 ?_
        have e1 := Option.some.inj hf
        subst e1
        exact kJ0 _ _ _ hP hS (lv_sub hl [1, 2, 4, 5, 6] rfl)
      · have hf := (if_neg c7).symm.trans hf
        refine r_iconst S dX4_namesUsedBy_52 ?_
        refine lv_iload S.1 S.2.1 dX4_namesUsedBy_53 (lv_at hl 0 rfl) ?_
        refine r_iconst S dX4_namesUsedBy_55 ?_
        refine r_isub S dX4_namesUsedBy_56 ?_
        refine r_ishl S dX4_namesUsedBy_57 ?_
        refine lv_goto (tgt := 62) S.1 S.2.1 dX4_namesUsedBy_58 (by decide) ?_
        have e1 := Option.some.inj hf
        subst e1
        exact kJ0 _ _ _ hP hS (lv_sub hl [1, 2, 4, 5, 6] rfl)
set_option maxHeartbeats 4000000 in
set_option maxRecDepth 100000 in
theorem w_X4_namesUsedBy_L4 {p : Program} {l : Launch} {e : Env} {s : State} {m : MethodId} {args : Array Value} {below : List Frame} {meth : Method} {c : Code} {Q : State → Prop} {D : va_G} {cy : Nat → ClassId} {ad : Nat → Nat} {H0 : Heap} (hO : adOK 39 ad) (S : CallFix p m c cX4_namesUsedBy 7 s args wsX4_namesUsedBy RX4) (hK : KK D cy s) (n : Nat) (x1_ : Int) (σ : Mem) {res : Int} (k0 : ∀ (y2_ : Int) (H2 : Heap) (locs2 : List Loc) (ls2 : Array Slot), res = y2_ → va_P D vwCl (WW 39 (cellC cy ad) ad σ) H2 → va_S (AC 39 ad) H0 H2 locs2 → lv_has ls2 7 [(2, .int (zI y2_))] → W p l e rm_X4_namesUsedBy s m args below meth c H2 locs2 0 0 Q (F0 m 76 ls2 [])) :
    ∀ (k : Nat) (x2_ : Int) (x3_ : Int) (H : Heap) (locs : List Loc) (ls : Array Slot), f_X4_namesUsedBy_L4 n x1_ σ k x2_ x3_ = some res → va_P D vwCl (WW 39 (cellC cy ad) ad σ) H → va_S (AC 39 ad) H0 H locs → lv_has ls 7 [(0, .ref (ad 3)), (1, .int (zI x1_)), (2, .int (zI x2_)), (3, .int (zI x3_))] → W p l e rm_X4_namesUsedBy s m args below meth c H locs 0 0 Q (F0 m 4 ls []) := by
  intro k
  induction k with
  | zero =>
    intro x2_ x3_ H locs ls hf
    have hf : none = some res := hf
    cases hf
  | succ k ih =>
    intro x2_ x3_ H locs ls hf hP hS hl
    rw [f_X4_namesUsedBy_L4] at hf
    refine lv_iload_n S.1 S.2.1 dX4_namesUsedBy_4 rfl (lv_at hl 3 rfl) ?_
    refine lv_aload_n S.1 S.2.1 dX4_namesUsedBy_5 rfl (lv_at hl 0 rfl) ?_
    refine lv_iload_n S.1 S.2.1 dX4_namesUsedBy_6 rfl (lv_at hl 1 rfl) ?_
    obtain ⟨y2, hq1, hf⟩ := bV_some hf
    refine r_callVI S hK hP hS (by decide) rfl rfl [.int (zI x1_)] (c_X4_countOf l D cy ad hO 3 (by decide) x1_ σ hq1) (cw_X4_namesUsedBy_X4_countOf S.2.2.2.2) rfl hl.1 (rest := [.int (zI x3_)]) rfl (Nat.le_of_ble_eq_true rfl) dX4_namesUsedBy_7 ⟨Nat.zero_le _, Nat.zero_le _⟩ (fun H locs hP hS => ?_)
    refine lv_icmp_ge (tgt := 76) S.1 S.2.1 dX4_namesUsedBy_10 (by decide) (fun c3 => ?_) (fun c3 => ?_)
    · have hf := (if_pos c3).symm.trans hf
      exact k0 _ _ _ _ (Option.some.inj hf).symm hP hS (lv_sub hl [2] rfl)
    · have hf := (if_neg c3).symm.trans hf
      refine lv_aload_n S.1 S.2.1 dX4_namesUsedBy_13 rfl (lv_at hl 0 rfl) ?_
      refine lv_iload_n S.1 S.2.1 dX4_namesUsedBy_14 rfl (lv_at hl 1 rfl) ?_
      refine lv_iload_n S.1 S.2.1 dX4_namesUsedBy_15 rfl (lv_at hl 3 rfl) ?_
      obtain ⟨y5, hq4, hf⟩ := bV_some hf
      refine r_callVI S hK hP hS (by decide) rfl rfl [.int (zI x1_), .int (zI x3_)] (c_X4_slotOf l D cy ad hO x1_ x3_ σ hq4) (cw_X4_namesUsedBy_X4_slotOf S.2.2.2.2) rfl hl.1 (rest := []) rfl (Nat.le_of_ble_eq_true rfl) dX4_namesUsedBy_16 ⟨Nat.zero_le _, Nat.zero_le _⟩ (fun H locs hP hS => ?_)
      refine r_istore S rfl (lv2 := [(4, .int (zI y5)), (0, .ref (ad 3)), (1, .int (zI x1_)), (2, .int (zI x2_)), (3, .int (zI x3_))]) dX4_namesUsedBy_19 hl (by decide) rfl (fun ls hl => ?_)
      refine r_iconst S dX4_namesUsedBy_21 ?_
      refine r_istore S rfl (lv2 := [(5, .int (zI 0)), (4, .int (zI y5)), (0, .ref (ad 3)), (1, .int (zI x1_)), (2, .int (zI x2_)), (3, .int (zI x3_))]) dX4_namesUsedBy_22 hl (by decide) rfl (fun ls hl => ?_)
      obtain ⟨x6, hq, hf⟩ := bV_some hf
      refine w_X4_namesUsedBy_L24 hO S hK n x1_ x3_ y5 σ (fun x6 H locs ls he hP hS hl => ?_) n x2_ 0 _ _ _ hq hP hS (lv_sub hl [2, 3, 4, 5, 1, 0] rfl)
      cases he
      obtain ⟨x7, hx7, hf⟩ := nm_some hf
      refine r_iinc S hx7 (k0 := 3) (lv2 := [(3, .int (zI x7)), (0, .ref (ad 3)), (1, .int (zI x1_)), (2, .int (zI x6))]) dX4_namesUsedBy_70 hl rfl (by decide) rfl (fun ls hl => ?_)
      refine lv_goto (tgt := 4) S.1 S.2.1 dX4_namesUsedBy_73 (by decide) ?_
      exact ih x6 x7 _ _ _ hf hP hS (lv_sub hl [1, 2, 3, 0] rfl)
set_option maxHeartbeats 4000000 in
set_option maxRecDepth 100000 in
theorem c_X4_namesUsedBy (l : Launch) (D : va_G) (cy : Nat → ClassId) (ad : Nat → Nat) (hO : adOK 39 ad) (n : Nat) (a0 : Int) (σ : Mem) {v : Int} (hf : f_X4_namesUsedBy n a0 σ = some v) : Met l yX4_namesUsedBy wsX4_namesUsedBy rm_X4_namesUsedBy (va_Pc [.ref (ad 3), .int (zI a0)] (PreW D cy 39 (cellC cy ad) ad σ)) (QI D 39 (cellC cy ad) ad v σ) 0 0 (AC 39 ad) := by
  refine r_met (cc := cX4_namesUsedBy) (maxL := 7) (ret := (some .int)) (own := RX4) (by decide) rfl rfl [.ref (ad 3), .int (zI a0)] (Nat.le_of_ble_eq_true rfl) ?_
  intro p e s m below meth c ls S hK hP hlk hr hl
  have hS : va_S (AC 39 ad) s.heap s.heap [] := va_S.rf
  have hl : lv_has ls 7 [(0, .ref (ad 3)), (1, .int (zI a0))] := hl
  unfold f_X4_namesUsedBy at hf
  refine r_iconst S dX4_namesUsedBy_0 ?_
  refine r_istore_n S rfl (lv2 := [(2, .int (zI 0)), (0, .ref (ad 3)), (1, .int (zI a0))]) dX4_namesUsedBy_1 rfl hl (by decide) rfl (fun ls hl => ?_)
  refine r_iconst S dX4_namesUsedBy_2 ?_
  refine r_istore_n S rfl (lv2 := [(3, .int (zI 0)), (2, .int (zI 0)), (0, .ref (ad 3)), (1, .int (zI a0))]) dX4_namesUsedBy_3 rfl hl (by decide) rfl (fun ls hl => ?_)
  obtain ⟨x1, hq, hf⟩ := bV_some hf
  refine w_X4_namesUsedBy_L4 hO S hK n a0 σ (fun x1 H locs ls he hP hS hl => ?_) n 0 0 _ _ _ hq hP hS (lv_sub hl [2, 3, 1, 0] rfl)
  cases he
  refine lv_iload_n S.1 S.2.1 dX4_namesUsedBy_76 rfl (lv_at hl 0 rfl) ?_
  have e1 := Option.some.inj hf
  subst e1
  exact e_I S hlk hP hS hr dX4_namesUsedBy_77
def rm_X4_findUsers : Room := { frames := 3, cells := 0, slots := 0, locals := 68 }
theorem cw_X4_findUsers_J7_fill_53178 {s : State} {args : Array Value} (hts : ∀ w ∈ wsX4_findUsers, w.before args s = true) : CallB rm_X4_findUsers s args RX4 34 yJ7_fill_53178 cJ7_fill_53178 4 none wsJ7_fill_53178 rm_J7_fill 0 0 2 ∧ (Cond.static yJ7_fill_53178).before args s = true := va_cwS 2 hts gX4_findUsers_J7_fill_53178 rfl rfl rfl (by decide +kernel) ⟨Nat.le_of_ble_eq_true rfl, Nat.le_of_ble_eq_true rfl⟩
theorem cw_X4_findUsers_X4_namesUsedBy {s : State} {args : Array Value} (hts : ∀ w ∈ wsX4_findUsers, w.before args s = true) : CallW rm_X4_findUsers s args RX4 RX4 72 yX4_namesUsedBy cX4_namesUsedBy 7 (some .int) wsX4_namesUsedBy rm_X4_namesUsedBy 0 0 1 := cwV 1 hts gX4_findUsers_X4_namesUsedBy rfl rfl rfl (by decide +kernel) ⟨Nat.le_of_ble_eq_true rfl, Nat.le_of_ble_eq_true rfl⟩
set_option maxHeartbeats 4000000 in
set_option maxRecDepth 100000 in
theorem w_X4_findUsers_L22 {p : Program} {l : Launch} {e : Env} {s : State} {m : MethodId} {args : Array Value} {below : List Frame} {meth : Method} {c : Code} {Q : State → Prop} {D : va_G} {cy : Nat → ClassId} {ad : Nat → Nat} {H0 : Heap} (hO : adOK 39 ad) (S : CallFix p m c cX4_findUsers 5 s args wsX4_findUsers RX4) (hK : KK D cy s) (n : Nat) (x2_ : Int) (x3_ : Int) {res : Mem} (k0 : ∀ (τ : Mem) (H2 : Heap) (locs2 : List Loc) (ls2 : Array Slot), res = τ → va_P D vwCl (WW 39 (cellC cy ad) ad τ) H2 → va_S (AC 39 ad) H0 H2 locs2 → lv_has ls2 5 [(0, .ref (ad 3)), (1, .ref (ad 29)), (2, .int (zI x2_))] → W p l e rm_X4_findUsers s m args below meth c H2 locs2 0 0 Q (F0 m 57 ls2 [])) :
    ∀ (k : Nat) (x4_ : Int) (σ : Mem) (H : Heap) (locs : List Loc) (ls : Array Slot), f_X4_findUsers_L22 n x2_ x3_ k x4_ σ = some res → va_P D vwCl (WW 39 (cellC cy ad) ad σ) H → va_S (AC 39 ad) H0 H locs → lv_has ls 5 [(0, .ref (ad 3)), (1, .ref (ad 29)), (2, .int (zI x2_)), (3, .int (zI x3_)), (4, .int (zI x4_))] → W p l e rm_X4_findUsers s m args below meth c H locs 0 0 Q (F0 m 22 ls []) := by
  intro k
  induction k with
  | zero =>
    intro x4_ σ H locs ls hf
    have hf : none = some res := hf
    cases hf
  | succ k ih =>
    intro x4_ σ H locs ls hf hP hS hl
    rw [f_X4_findUsers_L22] at hf
    refine lv_iload S.1 S.2.1 dX4_findUsers_22 (lv_at hl 4 rfl) ?_
    refine r_bipush S dX4_findUsers_24 (by decide) ?_
    refine lv_icmp_ge (tgt := 57) S.1 S.2.1 dX4_findUsers_26 (by decide) (fun c1 => ?_) (fun c1 => ?_)
    · have hf := (if_pos c1).symm.trans hf
      exact k0 _ _ _ _ (Option.some.inj hf).symm hP hS (lv_sub hl [0, 1, 2] rfl)
    · have hf := (if_neg c1).symm.trans hf
      refine lv_iload S.1 S.2.1 dX4_findUsers_29 (lv_at hl 4 rfl) ?_
      refine lv_aload_n S.1 S.2.1 dX4_findUsers_31 rfl (lv_at hl 1 rfl) ?_
      refine r_alen S hK hP (by decide) (n := 6) (fun _ => rfl) dX4_findUsers_32 ?_
      refine lv_icmp_ge (tgt := 57) S.1 S.2.1 dX4_findUsers_33 (by decide) (fun c2 => ?_) (fun c2 => ?_)
      · have hf := (if_pos c2).symm.trans hf
        exact k0 _ _ _ _ (Option.some.inj hf).symm hP hS (lv_sub hl [0, 1, 2] rfl)
      · have hf := (if_neg c2).symm.trans hf
        refine lv_aload_n S.1 S.2.1 dX4_findUsers_36 rfl (lv_at hl 1 rfl) ?_
        refine lv_iload S.1 S.2.1 dX4_findUsers_37 (lv_at hl 4 rfl) ?_
        refine lv_dup2_11 S.1 S.2.1 dX4_findUsers_39 rfl rfl ?_
        obtain ⟨g3, hf⟩ := gd_some hf
        refine r_iald S hK hP (by decide) (n := 6) (fun _ => rfl) (by decide) g3 dX4_findUsers_40 ?_
        refine lv_iload_n S.1 S.2.1 dX4_findUsers_41 rfl (lv_at hl 3 rfl) ?_
        refine lv_iload S.1 S.2.1 dX4_findUsers_42 (lv_at hl 4 rfl) ?_
        refine r_ishr S dX4_findUsers_44 ?_
        refine r_iconst S dX4_findUsers_45 ?_
        refine r_iand S dX4_findUsers_46 ?_
        refine lv_iload_n S.1 S.2.1 dX4_findUsers_47 rfl (lv_at hl 2 rfl) ?_
        refine r_ishl S dX4_findUsers_48 ?_
        refine r_ior S dX4_findUsers_49 ?_
        obtain ⟨σ4, hσ4, hf⟩ := nm_some hf
        refine r_iast S hK hP hO hS (by decide) (n := 6) (fun _ => rfl) (by decide) g3 hσ4 dX4_findUsers_50 (fun H locs hP hS => ?_)
        obtain ⟨x5, hx5, hf⟩ := nm_some hf
        refine r_iinc S hx5 (k0 := 4) (lv2 := [(4, .int (zI x5)), (0, .ref (ad 3)), (1, .ref (ad 29)), (2, .int (zI x2_)), (3, .int (zI x3_))]) dX4_findUsers_51 hl rfl (by decide) rfl (fun ls hl => ?_)
        refine lv_goto (tgt := 22) S.1 S.2.1 dX4_findUsers_54 (by decide) ?_
        exact ih x5 σ4 _ _ _ hf hP hS (lv_sub hl [1, 2, 3, 4, 0] rfl)
set_option maxHeartbeats 4000000 in
set_option maxRecDepth 100000 in
theorem w_X4_findUsers_L7 {p : Program} {l : Launch} {e : Env} {s : State} {m : MethodId} {args : Array Value} {below : List Frame} {meth : Method} {c : Code} {Q : State → Prop} {D : va_G} {cy : Nat → ClassId} {ad : Nat → Nat} {H0 : Heap} (hO : adOK 39 ad) (S : CallFix p m c cX4_findUsers 5 s args wsX4_findUsers RX4) (hK : KK D cy s) (n : Nat) {res : Mem} (k0 : ∀ (τ : Mem) (H2 : Heap) (locs2 : List Loc) (ls2 : Array Slot), res = τ → va_P D vwCl (WW 39 (cellC cy ad) ad τ) H2 → va_S (AC 39 ad) H0 H2 locs2 → lv_has ls2 5 [] → W p l e rm_X4_findUsers s m args below meth c H2 locs2 0 0 Q (F0 m 63 ls2 [])) :
    ∀ (k : Nat) (x2_ : Int) (σ : Mem) (H : Heap) (locs : List Loc) (ls : Array Slot), f_X4_findUsers_L7 n k x2_ σ = some res → va_P D vwCl (WW 39 (cellC cy ad) ad σ) H → va_S (AC 39 ad) H0 H locs → lv_has ls 5 [(0, .ref (ad 3)), (1, .ref (ad 29)), (2, .int (zI x2_))] → W p l e rm_X4_findUsers s m args below meth c H locs 0 0 Q (F0 m 7 ls []) := by
  intro k
  induction k with
  | zero =>
    intro x2_ σ H locs ls hf
    have hf : none = some res := hf
    cases hf
  | succ k ih =>
    intro x2_ σ H locs ls hf hP hS hl
    rw [f_X4_findUsers_L7] at hf
    refine lv_iload_n S.1 S.2.1 dX4_findUsers_7 rfl (lv_at hl 2 rfl) ?_
    refine r_bipush S dX4_findUsers_8 (by decide) ?_
    refine lv_icmp_ge (tgt := 63) S.1 S.2.1 dX4_findUsers_10 (by decide) (fun c1 => ?_) (fun c1 => ?_)
    · have hf := (if_pos c1).symm.trans hf
      exact k0 _ _ _ _ (Option.some.inj hf).symm hP hS (lv_sub hl [] rfl)
    · have hf := (if_neg c1).symm.trans hf
      refine lv_aload_n S.1 S.2.1 dX4_findUsers_13 rfl (lv_at hl 0 rfl) ?_
      refine lv_iload_n S.1 S.2.1 dX4_findUsers_14 rfl (lv_at hl 2 rfl) ?_
      obtain ⟨y3, hq2, hf⟩ := bV_some hf
      refine r_callVI S hK hP hS (by decide) rfl rfl [.int (zI x2_)] (c_X4_namesUsedBy l D cy ad hO n x2_ σ hq2) (cw_X4_findUsers_X4_namesUsedBy S.2.2.2.2) rfl hl.1 (rest := []) rfl (Nat.le_of_ble_eq_true rfl) dX4_findUsers_15 ⟨Nat.zero_le _, Nat.zero_le _⟩ (fun H locs hP hS => ?_)
      refine r_istore_n S rfl (lv2 := [(3, .int (zI y3)), (0, .ref (ad 3)), (1, .ref (ad 29)), (2, .int (zI x2_))]) dX4_findUsers_18 rfl hl (by decide) rfl (fun ls hl => ?_)
      refine r_iconst S dX4_findUsers_19 ?_
      refine r_istore S rfl (lv2 := [(4, .int (zI 0)), (3, .int (zI y3)), (0, .ref (ad 3)), (1, .ref (ad 29)), (2, .int (zI x2_))]) dX4_findUsers_20 hl (by decide) rfl (fun ls hl => ?_)
      obtain ⟨σ4, hq, hf⟩ := bV_some hf
      refine w_X4_findUsers_L22 hO S hK n x2_ y3 (fun σ4 H locs ls he hP hS hl => ?_) n 0 σ _ _ _ hq hP hS (lv_sub hl [2, 3, 4, 1, 0] rfl)
      cases he
      obtain ⟨x5, hx5, hf⟩ := nm_some hf
      refine r_iinc S hx5 (k0 := 2) (lv2 := [(2, .int (zI x5)), (0, .ref (ad 3)), (1, .ref (ad 29))]) dX4_findUsers_57 hl rfl (by decide) rfl (fun ls hl => ?_)
      refine lv_goto (tgt := 7) S.1 S.2.1 dX4_findUsers_60 (by decide) ?_
      exact ih x5 σ4 _ _ _ hf hP hS (lv_sub hl [1, 2, 0] rfl)
set_option maxHeartbeats 4000000 in
set_option maxRecDepth 100000 in
theorem c_X4_findUsers (l : Launch) (D : va_G) (cy : Nat → ClassId) (ad : Nat → Nat) (hO : adOK 39 ad) (n : Nat) (σ : Mem) {τ : Mem} (hf : f_X4_findUsers n σ = some τ) : Met l yX4_findUsers wsX4_findUsers rm_X4_findUsers (va_Pc [.ref (ad 3), .ref (ad 29)] (PreW D cy 39 (cellC cy ad) ad σ)) (QV D 39 (cellC cy ad) ad τ) 0 0 (AC 39 ad) := by
  refine r_met (cc := cX4_findUsers) (maxL := 5) (ret := none) (own := RX4) (by decide) rfl rfl [.ref (ad 3), .ref (ad 29)] (Nat.le_of_ble_eq_true rfl) ?_
  intro p e s m below meth c ls S hK hP hlk hr hl
  have hS : va_S (AC 39 ad) s.heap s.heap [] := va_S.rf
  have hl : lv_has ls 5 [(0, .ref (ad 3)), (1, .ref (ad 29))] := hl
  unfold f_X4_findUsers at hf
  refine lv_aload_n S.1 S.2.1 dX4_findUsers_0 rfl (lv_at hl 1 rfl) ?_
  refine r_iconst S dX4_findUsers_1 ?_
  obtain ⟨σ1, hσ1, hf⟩ := nm_some hf
  refine r_callSV S hK hP hS [.ref (ad 29), .int (zI 0)] (c_J7_fill l D cy 39 (cell := cellC cy ad) ad hO (k := 29) 6 (by decide) (fun _ => rfl) (by decide) 0 _ hσ1) (cw_X4_findUsers_J7_fill_53178 S.2.2.2.2) rfl hl.1 (rest := []) rfl (Nat.le_of_ble_eq_true rfl) dX4_findUsers_2 ⟨Nat.zero_le _, Nat.zero_le _⟩ (fun H locs hP hS => ?_)
  refine r_iconst S dX4_findUsers_5 ?_
  refine r_istore_n S rfl (lv2 := [(2, .int (zI 0)), (0, .ref (ad 3)), (1, .ref (ad 29))]) dX4_findUsers_6 rfl hl (by decide) rfl (fun ls hl => ?_)
  obtain ⟨σ2, hq, hf⟩ := bV_some hf
  refine w_X4_findUsers_L7 hO S hK n (fun σ2 H locs ls he hP hS hl => ?_) n 0 σ1 _ _ _ hq hP hS (lv_sub hl [1, 2, 0] rfl)
  cases he
  have e1 := Option.some.inj hf
  subst e1
  exact e_V S hlk hP hS hr dX4_findUsers_63
def rm_X10_letterAt : Room := { frames := 0, cells := 0, slots := 0, locals := 0 }
theorem k_X10_letterAt_1 : (.fieldLink RX10 7 "MendTexts$Word" "length" "I" : Cond) ∈ wsX10_letterAt := List.mem_of_getElem? (i := 1) (by decide +kernel)
theorem k_X10_letterAt_2 : (.fieldLink RX10 13 "MendTexts$Word" "letters" "[I" : Cond) ∈ wsX10_letterAt := List.mem_of_getElem? (i := 2) (by decide +kernel)
theorem h_X10_letterAt_X10 : ∀ w ∈ u_ws RX10 TX10 2, w ∈ wsX10_letterAt := mem_places _ [3, 4] (by decide +kernel)
set_option maxHeartbeats 4000000 in
set_option maxRecDepth 100000 in
theorem c_X10_letterAt (l : Launch) (D : va_G) (cy : Nat → ClassId) (ad : Nat → Nat) (hO : adOK 39 ad) (w : Nat) (hw : isW w) (a0 : Int) (σ : Mem) {v : Int} (hf : f_X10_letterAt w a0 σ = some v) : Met l yX10_letterAt wsX10_letterAt rm_X10_letterAt (va_Pc [.ref (ad w), .int (zI a0)] (PreW D cy 39 (cellC cy ad) ad σ)) (QI D 39 (cellC cy ad) ad v σ) 0 0 (AC 39 ad) := by
  refine r_met (cc := cX10_letterAt) (maxL := 2) (ret := (some .int)) (own := RX10) (by decide) rfl rfl [.ref (ad w), .int (zI a0)] (Nat.le_of_ble_eq_true rfl) ?_
  intro p e s m below meth c ls S hK hP hlk hr hl
  have hS : va_S (AC 39 ad) s.heap s.heap [] := va_S.rf
  have hl : lv_has ls 2 [(0, .ref (ad w)), (1, .int (zI a0))] := hl
  unfold f_X10_letterAt at hf
  refine lv_iload_n S.1 S.2.1 dX10_letterAt_0 rfl (lv_at hl 1 rfl) ?_
  refine r_if_lt (tgt := 30) S dX10_letterAt_1 (by decide) (fun c1 => ?_) (fun c1 => ?_)
  · have hf := (if_pos c1).symm.trans hf
    refine r_iconst S dX10_letterAt_30 ?_
    have e1 := Option.some.inj hf
    subst e1
    exact e_I S hlk hP hS hr dX10_letterAt_31
  · have hf := (if_neg c1).symm.trans hf
    refine lv_iload_n S.1 S.2.1 dX10_letterAt_4 rfl (lv_at hl 1 rfl) ?_
    refine lv_aload_n S.1 S.2.1 dX10_letterAt_5 rfl (lv_at hl 0 rfl) ?_
    refine r_get S hK hP (ltW hw) (cellW cy ad hw _) rfl h_X10_letterAt_X10 1 (by decide) k_X10_letterAt_1 rfl dX10_letterAt_6 ?_
    refine lv_icmp_ge (tgt := 30) S.1 S.2.1 dX10_letterAt_9 (by decide) (fun c2 => ?_) (fun c2 => ?_)
    · have hf := (if_pos c2).symm.trans hf
      refine r_iconst S dX10_letterAt_30 ?_
      have e1 := Option.some.inj hf
      subst e1
      exact e_I S hlk hP hS hr dX10_letterAt_31
    · have hf := (if_neg c2).symm.trans hf
      refine lv_iload_n S.1 S.2.1 dX10_letterAt_12 rfl (lv_at hl 1 rfl) ?_
      refine lv_aload_n S.1 S.2.1 dX10_letterAt_13 rfl (lv_at hl 0 rfl) ?_
      refine r_get S hK hP (ltW hw) (cellW cy ad hw _) rfl h_X10_letterAt_X10 0 (by decide) k_X10_letterAt_2 rfl dX10_letterAt_14 ?_
      refine r_alen S hK hP (ltW1 hw) (n := lenW w) (cellWA cy ad hw) dX10_letterAt_17 ?_
      refine lv_icmp_ge (tgt := 30) S.1 S.2.1 dX10_letterAt_18 (by decide) (fun c3 => ?_) (fun c3 => ?_)
      · have hf := (if_pos c3).symm.trans hf
        refine r_iconst S dX10_letterAt_30 ?_
        have e1 := Option.some.inj hf
        subst e1
        exact e_I S hlk hP hS hr dX10_letterAt_31
      · have hf := (if_neg c3).symm.trans hf
        refine lv_aload_n S.1 S.2.1 dX10_letterAt_21 rfl (lv_at hl 0 rfl) ?_
        refine r_get S hK hP (ltW hw) (cellW cy ad hw _) rfl h_X10_letterAt_X10 0 (by decide) k_X10_letterAt_2 rfl dX10_letterAt_22 ?_
        refine lv_iload_n S.1 S.2.1 dX10_letterAt_25 rfl (lv_at hl 1 rfl) ?_
        obtain ⟨g4, hf⟩ := gd_some hf
        refine r_iald S hK hP (ltW1 hw) (n := lenW w) (cellWA cy ad hw) (lenW_lt _) g4 dX10_letterAt_26 ?_
        refine lv_goto (tgt := 31) S.1 S.2.1 dX10_letterAt_27 (by decide) ?_
        have e1 := Option.some.inj hf
        subst e1
        exact e_I S hlk hP hS hr dX10_letterAt_31
def rm_X1_drop : Room := { frames := 0, cells := 0, slots := 0, locals := 0 }
theorem k_X1_drop_1 : (.fieldLink RX1 7 "MendTexts$Costs" "values" "[I" : Cond) ∈ wsX1_drop := List.mem_of_getElem? (i := 1) (by decide +kernel)
theorem h_X1_drop_X1 : ∀ w ∈ u_ws RX1 TX1 1, w ∈ wsX1_drop := mem_places _ [2] (by decide +kernel)
set_option maxHeartbeats 4000000 in
set_option maxRecDepth 100000 in
theorem c_X1_drop (l : Launch) (D : va_G) (cy : Nat → ClassId) (ad : Nat → Nat) (hO : adOK 39 ad) (σ : Mem) {v : Int} (hf : f_X1_drop σ = some v) : Met l yX1_drop wsX1_drop rm_X1_drop (va_Pc [.ref (ad 11)] (PreW D cy 39 (cellC cy ad) ad σ)) (QI D 39 (cellC cy ad) ad v σ) 0 0 (AC 39 ad) := by
  refine r_met (cc := cX1_drop) (maxL := 1) (ret := (some .int)) (own := RX1) (by decide) rfl rfl [.ref (ad 11)] (Nat.le_of_ble_eq_true rfl) ?_
  intro p e s m below meth c ls S hK hP hlk hr hl
  have hS : va_S (AC 39 ad) s.heap s.heap [] := va_S.rf
  have hl : lv_has ls 1 [(0, .ref (ad 11))] := hl
  unfold f_X1_drop at hf
  refine lv_aload_n S.1 S.2.1 dX1_drop_0 rfl (lv_at hl 0 rfl) ?_
  refine r_get S hK hP (by decide) rfl rfl h_X1_drop_X1 0 (by decide) k_X1_drop_1 rfl dX1_drop_1 ?_
  refine r_iconst S dX1_drop_4 ?_
  obtain ⟨g1, hf⟩ := gd_some hf
  refine r_iald S hK hP (by decide) (n := 3) (fun _ => rfl) (by decide) g1 dX1_drop_5 ?_
  have e1 := Option.some.inj hf
  subst e1
  exact e_I S hlk hP hS hr dX1_drop_6
def rm_X1_change : Room := { frames := 0, cells := 0, slots := 0, locals := 0 }
theorem k_X1_change_1 : (.fieldLink RX1 7 "MendTexts$Costs" "values" "[I" : Cond) ∈ wsX1_change := List.mem_of_getElem? (i := 1) (by decide +kernel)
theorem h_X1_change_X1 : ∀ w ∈ u_ws RX1 TX1 1, w ∈ wsX1_change := mem_places _ [2] (by decide +kernel)
set_option maxHeartbeats 4000000 in
set_option maxRecDepth 100000 in
theorem c_X1_change (l : Launch) (D : va_G) (cy : Nat → ClassId) (ad : Nat → Nat) (hO : adOK 39 ad) (σ : Mem) {v : Int} (hf : f_X1_change σ = some v) : Met l yX1_change wsX1_change rm_X1_change (va_Pc [.ref (ad 11)] (PreW D cy 39 (cellC cy ad) ad σ)) (QI D 39 (cellC cy ad) ad v σ) 0 0 (AC 39 ad) := by
  refine r_met (cc := cX1_change) (maxL := 1) (ret := (some .int)) (own := RX1) (by decide) rfl rfl [.ref (ad 11)] (Nat.le_of_ble_eq_true rfl) ?_
  intro p e s m below meth c ls S hK hP hlk hr hl
  have hS : va_S (AC 39 ad) s.heap s.heap [] := va_S.rf
  have hl : lv_has ls 1 [(0, .ref (ad 11))] := hl
  unfold f_X1_change at hf
  refine lv_aload_n S.1 S.2.1 dX1_change_0 rfl (lv_at hl 0 rfl) ?_
  refine r_get S hK hP (by decide) rfl rfl h_X1_change_X1 0 (by decide) k_X1_change_1 rfl dX1_change_1 ?_
  refine r_iconst S dX1_change_4 ?_
  obtain ⟨g1, hf⟩ := gd_some hf
  refine r_iald S hK hP (by decide) (n := 3) (fun _ => rfl) (by decide) g1 dX1_change_5 ?_
  have e1 := Option.some.inj hf
  subst e1
  exact e_I S hlk hP hS hr dX1_change_6
def rm_X1_put : Room := { frames := 0, cells := 0, slots := 0, locals := 0 }
theorem k_X1_put_1 : (.fieldLink RX1 7 "MendTexts$Costs" "values" "[I" : Cond) ∈ wsX1_put := List.mem_of_getElem? (i := 1) (by decide +kernel)
theorem h_X1_put_X1 : ∀ w ∈ u_ws RX1 TX1 1, w ∈ wsX1_put := mem_places _ [2] (by decide +kernel)
set_option maxHeartbeats 4000000 in
set_option maxRecDepth 100000 in
theorem c_X1_put (l : Launch) (D : va_G) (cy : Nat → ClassId) (ad : Nat → Nat) (hO : adOK 39 ad) (σ : Mem) {v : Int} (hf : f_X1_put σ = some v) : Met l yX1_put wsX1_put rm_X1_put (va_Pc [.ref (ad 11)] (PreW D cy 39 (cellC cy ad) ad σ)) (QI D 39 (cellC cy ad) ad v σ) 0 0 (AC 39 ad) := by
  refine r_met (cc := cX1_put) (maxL := 1) (ret := (some .int)) (own := RX1) (by decide) rfl rfl [.ref (ad 11)] (Nat.le_of_ble_eq_true rfl) ?_
  intro p e s m below meth c ls S hK hP hlk hr hl
  have hS : va_S (AC 39 ad) s.heap s.heap [] := va_S.rf
  have hl : lv_has ls 1 [(0, .ref (ad 11))] := hl
  unfold f_X1_put at hf
  refine lv_aload_n S.1 S.2.1 dX1_put_0 rfl (lv_at hl 0 rfl) ?_
  refine r_get S hK hP (by decide) rfl rfl h_X1_put_X1 0 (by decide) k_X1_put_1 rfl dX1_put_1 ?_
  refine r_iconst S dX1_put_4 ?_
  obtain ⟨g1, hf⟩ := gd_some hf
  refine r_iald S hK hP (by decide) (n := 3) (fun _ => rfl) (by decide) g1 dX1_put_5 ?_
  have e1 := Option.some.inj hf
  subst e1
  exact e_I S hlk hP hS hr dX1_put_6
def rm_X3_ofOne : Room := { frames := 0, cells := 0, slots := 0, locals := 0 }
theorem k_X3_ofOne_1 : (.constantLong RX3 11 (16777216) : Cond) ∈ wsX3_ofOne := List.mem_of_getElem? (i := 1) (by decide +kernel)
set_option maxHeartbeats 4000000 in
set_option maxRecDepth 100000 in
theorem c_X3_ofOne (l : Launch) (D : va_G) (cy : Nat → ClassId) (ad : Nat → Nat) (hO : adOK 39 ad) (a0 : Int) (a1 : Int) (σ : Mem) {v : Int} (hf : f_X3_ofOne a0 a1 = some v) : Met l yX3_ofOne wsX3_ofOne rm_X3_ofOne (va_Pc [.int (zI a0), .int (zI a1)] (PreW D cy 39 (cellC cy ad) ad σ)) (QL D 39 (cellC cy ad) ad v σ) 0 0 (AC 39 ad) := by
  refine r_met (cc := cX3_ofOne) (maxL := 2) (ret := (some .long)) (own := RX3) (by decide) rfl rfl [.int (zI a0), .int (zI a1)] (Nat.le_of_ble_eq_true rfl) ?_
  intro p e s m below meth c ls S hK hP hlk hr hl
  have hS : va_S (AC 39 ad) s.heap s.heap [] := va_S.rf
  have hl : lv_has ls 2 [(0, .int (zI a0)), (1, .int (zI a1))] := hl
  unfold f_X3_ofOne at hf
  refine lv_iload_n S.1 S.2.1 dX3_ofOne_0 rfl (lv_at hl 0 rfl) ?_
  refine r_i2l S dX3_ofOne_1 ?_
  refine r_bipush S dX3_ofOne_2 (by decide) ?_
  refine r_lshl S dX3_ofOne_4 ?_
  refine r_ldc2 S 16777216 (by decide +kernel) k_X3_ofOne_1 dX3_ofOne_5 ?_
  refine r_lor S dX3_ofOne_8 ?_
  refine lv_iload_n S.1 S.2.1 dX3_ofOne_9 rfl (lv_at hl 1 rfl) ?_
  refine r_i2l S dX3_ofOne_10 ?_
  refine r_lor S dX3_ofOne_11 ?_
  have e1 := Option.some.inj hf
  subst e1
  exact e_L S hlk hP hS hr dX3_ofOne_12
def rm_X0_setFit : Room := { frames := 0, cells := 0, slots := 0, locals := 0 }
theorem k_X0_setFit_1 : (.fieldLink RX0 13 "MendTexts$Chart" "fits" "[J" : Cond) ∈ wsX0_setFit := List.mem_of_getElem? (i := 1) (by decide +kernel)
theorem h_X0_setFit_X0 : ∀ w ∈ u_ws RX0 TX0 5, w ∈ wsX0_setFit := mem_places _ [2, 3, 4, 5, 6] (by decide +kernel)
set_option maxHeartbeats 4000000 in
set_option maxRecDepth 100000 in
theorem c_X0_setFit (l : Launch) (D : va_G) (cy : Nat → ClassId) (ad : Nat → Nat) (hO : adOK 39 ad) (a0 : Int) (a1 : Int) (a2 : Int) (a3 : Int) (σ : Mem) {τ : Mem} (hf : f_X0_setFit a0 a1 a2 a3 σ = some τ) : Met l yX0_setFit wsX0_setFit rm_X0_setFit (va_Pc [.ref (ad 27), .int (zI a0), .int (zI a1), .int (zI a2), .long (zL a3)] (PreW D cy 39 (cellC cy ad) ad σ)) (QV D 39 (cellC cy ad) ad τ) 0 0 (AC 39 ad) := by
  refine r_met (cc := cX0_setFit) (maxL := 7) (ret := none) (own := RX0) (by decide) rfl rfl [.ref (ad 27), .int (zI a0), .int (zI a1), .int (zI a2), .long (zL a3)] (Nat.le_of_ble_eq_true rfl) ?_
  intro p e s m below meth c ls S hK hP hlk hr hl
  have hS : va_S (AC 39 ad) s.heap s.heap [] := va_S.rf
  have hl : lv_has ls 7 [(0, .ref (ad 27)), (1, .int (zI a0)), (2, .int (zI a1)), (3, .int (zI a2)), (4, .long (zL a3))] := hl
  unfold f_X0_setFit at hf
  refine lv_iload_n S.1 S.2.1 dX0_setFit_0 rfl (lv_at hl 1 rfl) ?_
  refine r_bipush S dX0_setFit_1 (by decide) ?_
  refine r_imul S dX0_setFit_3 ?_
  refine lv_iload_n S.1 S.2.1 dX0_setFit_4 rfl (lv_at hl 2 rfl) ?_
  refine r_bipush S dX0_setFit_5 (by decide) ?_
  refine r_imul S dX0_setFit_7 ?_
  refine r_iadd S dX0_setFit_8 ?_
  refine lv_iload_n S.1 S.2.1 dX0_setFit_9 rfl (lv_at hl 3 rfl) ?_
  refine r_iadd S dX0_setFit_10 ?_
  obtain ⟨x1, hx1, hf⟩ := nm_some hf
  refine r_istore S hx1 (lv2 := [(6, .int (zI x1)), (0, .ref (ad 27)), (1, .int (zI a0)), (2, .int (zI a1)), (3, .int (zI a2)), (4, .long (zL a3))]) dX0_setFit_11 hl (by decide) rfl (fun ls hl => ?_)
  refine lv_iload S.1 S.2.1 dX0_setFit_13 (lv_at hl 0 rfl) ?_
  refine r_if_lt (tgt := 37) S dX0_setFit_15 (by decide) (fun c2 => ?_) (fun c2 => ?_)
  · have hf := (if_pos c2).symm.trans hf
    have e1 := Option.some.inj hf
    subst e1
    exact e_V S hlk hP hS hr dX0_setFit_37
  · have hf := (if_neg c2).symm.trans hf
    refine lv_iload S.1 S.2.1 dX0_setFit_18 (lv_at hl 0 rfl) ?_
    refine lv_aload_n S.1 S.2.1 dX0_setFit_20 rfl (lv_at hl 1 rfl) ?_
    refine r_get S hK hP (by decide) rfl rfl h_X0_setFit_X0 3 (by decide) k_X0_setFit_1 rfl dX0_setFit_21 ?_
    refine r_alenJ S hK hP (by decide) (n := 2940) (fun _ => rfl) dX0_setFit_24 ?_
    refine lv_icmp_ge (tgt := 37) S.1 S.2.1 dX0_setFit_25 (by decide) (fun c3 => ?_) (fun c3 => ?_)
    · have hf := (if_pos c3).symm.trans hf
      have e1 := Option.some.inj hf
      subst e1
      exact e_V S hlk hP hS hr dX0_setFit_37
    · have hf := (if_neg c3).symm.trans hf
      refine lv_aload_n S.1 S.2.1 dX0_setFit_28 rfl (lv_at hl 1 rfl) ?_
      refine r_get S hK hP (by decide) rfl rfl h_X0_setFit_X0 3 (by decide) k_X0_setFit_1 rfl dX0_setFit_29 ?_
      refine lv_iload S.1 S.2.1 dX0_setFit_32 (lv_at hl 0 rfl) ?_
      refine lv_lload S.1 S.2.1 dX0_setFit_34 (lv_at hl 5 rfl) ?_
      obtain ⟨g4, hf⟩ := gd_some hf
      obtain ⟨σ5, hσ5, hf⟩ := nm_some hf
      refine r_last S hK hP hO hS (by decide) (n := 2940) (fun _ => rfl) (by decide) g4 hσ5 dX0_setFit_36 (fun H locs hP hS => ?_)
      have e1 := Option.some.inj hf
      subst e1
      exact e_V S hlk hP hS hr dX0_setFit_37
def rm_X0_fillLettersOf : Room := { frames := 1, cells := 0, slots := 0, locals := 26 }
theorem k_X0_fillLettersOf_1 : (.fieldLink RX0 25 "MendTexts$Chart" "costs" "LMendTexts$Costs;" : Cond) ∈ wsX0_fillLettersOf := List.mem_of_getElem? (i := 1) (by decide +kernel)
theorem k_X0_fillLettersOf_2 : (.methodLink RX0 93 Lib.Math.min.name : Cond) ∈ wsX0_fillLettersOf := List.mem_of_getElem? (i := 2) (by decide +kernel)
theorem k_X0_fillLettersOf_3 : (.static Lib.Math.min.name : Cond) ∈ wsX0_fillLettersOf := List.mem_of_getElem? (i := 3) (by decide +kernel)
theorem k_X0_fillLettersOf_4 : (.initialized "java/lang/Math" : Cond) ∈ wsX0_fillLettersOf := List.mem_of_getElem? (i := 4) (by decide +kernel)
theorem k_X0_fillLettersOf_5 : (.code Lib.Math.min.name Lib.Math.min.code 2 (some .int) : Cond) ∈ wsX0_fillLettersOf := List.mem_of_getElem? (i := 5) (by decide +kernel)
theorem h_X0_fillLettersOf_X0 : ∀ w ∈ u_ws RX0 TX0 5, w ∈ wsX0_fillLettersOf := mem_places _ [31, 32, 33, 34, 35] (by decide +kernel)
theorem cw_X0_fillLettersOf_X0_setFit {s : State} {args : Array Value} (hts : ∀ w ∈ wsX0_fillLettersOf, w.before args s = true) : CallW rm_X0_fillLettersOf s args RX0 RX0 102 yX0_setFit cX0_setFit 7 none wsX0_setFit rm_X0_setFit 0 0 4 := cwV 4 hts gX0_fillLettersOf_X0_setFit rfl rfl rfl (by decide +kernel) ⟨Nat.le_of_ble_eq_true rfl, Nat.le_of_ble_eq_true rfl⟩
theorem cw_X0_fillLettersOf_X1_change {s : State} {args : Array Value} (hts : ∀ w ∈ wsX0_fillLettersOf, w.before args s = true) : CallW rm_X0_fillLettersOf s args RX0 RX1 87 yX1_change cX1_change 1 (some .int) wsX1_change rm_X1_change 0 0 0 := cwV 0 hts gX0_fillLettersOf_X1_change rfl rfl rfl (by decide +kernel) ⟨Nat.le_of_ble_eq_true rfl, Nat.le_of_ble_eq_true rfl⟩
theorem cw_X0_fillLettersOf_X1_drop {s : State} {args : Array Value} (hts : ∀ w ∈ wsX0_fillLettersOf, w.before args s = true) : CallW rm_X0_fillLettersOf s args RX0 RX1 81 yX1_drop cX1_drop 1 (some .int) wsX1_drop rm_X1_drop 0 0 0 := cwV 0 hts gX0_fillLettersOf_X1_drop rfl rfl rfl (by decide +kernel) ⟨Nat.le_of_ble_eq_true rfl, Nat.le_of_ble_eq_true rfl⟩
theorem cw_X0_fillLettersOf_X1_put {s : State} {args : Array Value} (hts : ∀ w ∈ wsX0_fillLettersOf, w.before args s = true) : CallW rm_X0_fillLettersOf s args RX0 RX1 90 yX1_put cX1_put 1 (some .int) wsX1_put rm_X1_put 0 0 0 := cwV 0 hts gX0_fillLettersOf_X1_put rfl rfl rfl (by decide +kernel) ⟨Nat.le_of_ble_eq_true rfl, Nat.le_of_ble_eq_true rfl⟩
theorem cw_X0_fillLettersOf_X3_ofOne {s : State} {args : Array Value} (hts : ∀ w ∈ wsX0_fillLettersOf, w.before args s = true) : CallB rm_X0_fillLettersOf s args RX0 98 yX3_ofOne cX3_ofOne 2 (some .long) wsX3_ofOne rm_X3_ofOne 0 0 2 ∧ (Cond.static yX3_ofOne).before args s = true := va_cwS 2 hts gX0_fillLettersOf_X3_ofOne rfl rfl rfl (by decide +kernel) ⟨Nat.le_of_ble_eq_true rfl, Nat.le_of_ble_eq_true rfl⟩
set_option maxHeartbeats 4000000 in
set_option maxRecDepth 100000 in
theorem w_X0_fillLettersOf_L45 {p : Program} {l : Launch} {e : Env} {s : State} {m : MethodId} {args : Array Value} {below : List Frame} {meth : Method} {c : Code} {Q : State → Prop} {D : va_G} {cy : Nat → ClassId} {ad : Nat → Nat} {H0 : Heap} (hO : adOK 39 ad) (S : CallFix p m c cX0_fillLettersOf 8 s args wsX0_fillLettersOf RX0) (hK : KK D cy s) (n : Nat) (x1_ : Int) (x2_ : Int) (x3_ : Int) (x4_ : Int) (x5_ : Int) {res : Mem} (k0 : ∀ (τ : Mem) (H2 : Heap) (locs2 : List Loc) (ls2 : Array Slot), res = τ → va_P D vwCl (WW 39 (cellC cy ad) ad τ) H2 → va_S (AC 39 ad) H0 H2 locs2 → lv_has ls2 8 [] → W p l e rm_X0_fillLettersOf s m args below meth c H2 locs2 0 0 Q (F0 m 107 ls2 [])) :
    ∀ (k : Nat) (x6_ : Int) (σ : Mem) (H : Heap) (locs : List Loc) (ls : Array Slot), f_X0_fillLettersOf_L45 n x1_ x2_ x3_ x4_ x5_ k x6_ σ = some res → va_P D vwCl (WW 39 (cellC cy ad) ad σ) H → va_S (AC 39 ad) H0 H locs → lv_has ls 8 [(0, .ref (ad 27)), (1, .int (zI x1_)), (2, .int (zI x2_)), (3, .int (zI x3_)), (4, .int (zI x4_)), (5, .int (zI x5_)), (6, .int (zI x6_))] → W p l e rm_X0_fillLettersOf s m args below meth c H locs 0 0 Q (F0 m 45 ls []) := by
  intro k
  induction k with
  | zero =>
    intro x6_ σ H locs ls hf
    have hf : none = some res := hf
    cases hf
  | succ k ih =>
    intro x6_ σ H locs ls hf hP hS hl
    rw [f_X0_fillLettersOf_L45] at hf
    refine lv_iload S.1 S.2.1 dX0_fillLettersOf_45 (lv_at hl 6 rfl) ?_
    refine r_iconst S dX0_fillLettersOf_47 ?_
    refine lv_icmp_ge (tgt := 107) S.1 S.2.1 dX0_fillLettersOf_48 (by decide) (fun c1 => ?_) (fun c1 => ?_)
    · have hf := (if_pos c1).symm.trans hf
      exact k0 _ _ _ _ (Option.some.inj hf).symm hP hS (lv_sub hl [] rfl)
    · have hf := (if_neg c1).symm.trans hf
      refine lv_iload S.1 S.2.1 dX0_fillLettersOf_51 (lv_at hl 4 rfl) ?_
      refine lv_iload_n S.1 S.2.1 dX0_fillLettersOf_53 rfl (lv_at hl 3 rfl) ?_
      refine lv_iload S.1 S.2.1 dX0_fillLettersOf_54 (lv_at hl 6 rfl) ?_
      refine r_ishr S dX0_fillLettersOf_56 ?_
      refine r_iconst S dX0_fillLettersOf_57 ?_
      refine r_iand S dX0_fillLettersOf_58 ?_
      obtain ⟨v2, hq, hf⟩ := bV_some hf
      have kJ0 : ∀ (H : Heap) (locs : List Loc) (ls : Array Slot), va_P D vwCl (WW 39 (cellC cy ad) ad σ) H → va_S (AC 39 ad) H0 H locs → lv_has ls 8 [(0, .ref (ad 27)), (1, .int (zI x1_)), (2, .int (zI x2_)), (3, .int (zI x3_)), (4, .int (zI x4_)), (5, .int (zI x5_)), (6, .int (zI x6_))] → W p l e rm_X0_fillLettersOf s m args below meth c H locs 0 0 Q (F0 m 68 ls [.int (zI v2), .int (zI x4_)]) := by
        intro H locs ls hP hS hl
        refine r_iadd S dX0_fillLettersOf_68 ?_
        obtain ⟨x4, hx4, hf⟩ := nm_some hf
        refine r_istore S hx4 (lv2 := [(7, .int (zI x4)), (0, .ref (ad 27)), (1, .int (zI x1_)), (2, .int (zI x2_)), (3, .int (zI x3_)), (4, .int (zI x4_)), (5, .int (zI x5_)), (6, .int (zI x6_))]) dX0_fillLettersOf_69 hl (by decide) rfl (fun ls hl => ?_)
        refine lv_aload_n S.1 S.2.1 dX0_fillLettersOf_71 rfl (lv_at hl 1 rfl) ?_
        refine lv_iload S.1 S.2.1 dX0_fillLettersOf_72 (lv_at hl 7 rfl) ?_
        refine lv_iload_n S.1 S.2.1 dX0_fillLettersOf_74 rfl (lv_at hl 2 rfl) ?_
        refine lv_iload_n S.1 S.2.1 dX0_fillLettersOf_75 rfl (lv_at hl 3 rfl) ?_
        refine lv_iload_n S.1 S.2.1 dX0_fillLettersOf_76 rfl (lv_at hl 2 rfl) ?_
        refine lv_iload_n S.1 S.2.1 dX0_fillLettersOf_77 rfl (lv_at hl 3 rfl) ?_
        obtain ⟨v5, hq, hf⟩ := bV_some hf
        have kJ0 : ∀ (H : Heap) (locs : List Loc) (ls : Array Slot), va_P D vwCl (WW 39 (cellC cy ad) ad σ) H → va_S (AC 39 ad) H0 H locs → lv_has ls 8 [(0, .ref (ad 27)), (1, .int (zI x1_)), (2, .int (zI x2_)), (3, .int (zI x3_)), (4, .int (zI x4_)), (5, .int (zI x5_)), (6, .int (zI x6_))] → W p l e rm_X0_fillLettersOf s m args below meth c H locs 0 0 Q (F0 m 93 ls [.int (zI v5), .int (zI x2_), .int (zI x1_), .int (zI x6_), .ref (ad 27)]) := by
          intro H locs ls hP hS hl
          refine lv_iload S.1 S.2.1 dX0_fillLettersOf_93 (lv_at hl 6 rfl) ?_
          obtain ⟨y10, hq9, hf⟩ := bV_some hf
          refine r_callSL S hK hP hS [.int (zI v5), .int (zI x6_)] (c_X3_ofOne l D cy ad hO v5 x6_ σ hq9) (cw_X0_fillLettersOf_X3_ofOne S.2.2.2.2) rfl hl.1 (rest := [.int (zI x2_), .int (zI x1_), .int (zI x6_), .ref (ad 27)]) rfl (Nat.le_of_ble_eq_true rfl) dX0_fillLettersOf_95 ⟨Nat.zero_le _, Nat.zero_le _⟩ (fun H locs hP hS => ?_)
          obtain ⟨σ12, hq11, hf⟩ := bV_some hf
          refine r_callVV S hK hP hS (by decide) rfl rfl [.int (zI x6_), .int (zI x1_), .int (zI x2_), .long (zL y10)] (c_X0_setFit l D cy ad hO x6_ x1_ x2_ y10 σ hq11) (cw_X0_fillLettersOf_X0_setFit S.2.2.2.2) rfl hl.1 (rest := []) rfl (Nat.le_of_ble_eq_true rfl) dX0_fillLettersOf_98 ⟨Nat.zero_le _, Nat.zero_le _⟩ (fun H locs hP hS => ?_)
          obtain ⟨x13, hx13, hf⟩ := nm_some hf
          refine r_iinc S hx13 (k0 := 6) (lv2 := [(6, .int (zI x13)), (0, .ref (ad 27)), (1, .int (zI x1_)), (2, .int (zI x2_)), (3, .int (zI x3_)), (4, .int (zI x4_)), (5, .int (zI x5_))]) dX0_fillLettersOf_101 hl rfl (by decide) rfl (fun ls hl => ?_)
          refine lv_goto (tgt := 45) S.1 S.2.1 dX0_fillLettersOf_104 (by decide) ?_
          exact ih x13 σ12 _ _ _ hf hP hS (lv_sub hl [1, 2, 3, 4, 5, 6, 0] rfl)
        clear hf
        have hf := hq
        refine lv_icmp_ne (tgt := 91) S.1 S.2.1 dX0_fillLettersOf_78 (by decide) (fun c6 => ?_) (fun c6 => ?_)
        · have hf := (if_neg c6).symm.trans hf
          refine lv_iload S.1 S.2.1 dX0_fillLettersOf_91 (lv_at hl 0 rfl) ?_
          have e1 := Option.some.inj hf
          subst e1
          exact kJ0 _ _ _ hP hS (lv_sub hl [1, 2, 3, 4, 5, 6, 7] rfl)
        · have hf := (if_pos c6).symm.trans hf
          refine lv_aload_n S.1 S.2.1 dX0_fillLettersOf_81 rfl (lv_at hl 1 rfl) ?_
          refine r_get S hK hP (by decide) rfl rfl h_X0_fillLettersOf_X0 1 (by decide) k_X0_fillLettersOf_1 rfl dX0_fillLettersOf_82 ?_
          obtain ⟨y8, hq7, hf⟩ := bV_some hf
          refine r_callVI S hK hP hS (by decide) rfl rfl [] (c_X1_put l D cy ad hO σ hq7) (cw_X0_fillLettersOf_X1_put S.2.2.2.2) rfl hl.1 (rest := [.int (zI x2_), .int (zI x1_), .int (zI x6_), .ref (ad 27)]) rfl (Nat.le_of_ble_eq_true rfl) dX0_fillLettersOf_85 ⟨Nat.zero_le _, Nat.zero_le _⟩ (fun H locs hP hS => ?_)
          refine lv_goto (tgt := 93) S.1 S.2.1 dX0_fillLettersOf_88 (by decide) ?_
          have e1 := Option.some.inj hf
          subst e1
          exact kJ0 _ _ _ hP hS (lv_sub hl [1, 2, 3, 4, 5, 6, 7] rfl)
      clear hf
      have hf := hq
      refine r_if_eq (tgt := 66) S dX0_fillLettersOf_59 (by decide) (fun c3 => ?_) (fun c3 => ?_)
      · have hf := (if_pos c3).symm.trans hf
        refine lv_iload S.1 S.2.1 dX0_fillLettersOf_66 (lv_at hl 5 rfl) ?_
        have e1 := Option.some.inj hf
        subst e1
        exact kJ0 _ _ _ hP hS (lv_sub hl [0, 1, 2, 3, 4, 5, 6] rfl)
      · have hf := (if_neg c3).symm.trans hf
        refine r_iconst S dX0_fillLettersOf_62 ?_
        refine lv_goto (tgt := 68) S.1 S.2.1 dX0_fillLettersOf_63 (by decide) ?_
        have e1 := Option.some.inj hf
        subst e1
        exact kJ0 _ _ _ hP hS (lv_sub hl [0, 1, 2, 3, 4, 5, 6] rfl)
set_option maxHeartbeats 4000000 in
set_option maxRecDepth 100000 in
theorem c_X0_fillLettersOf (l : Launch) (D : va_G) (cy : Nat → ClassId) (ad : Nat → Nat) (hO : adOK 39 ad) (n : Nat) (a0 : Int) (a1 : Int) (a2 : Int) (σ : Mem) {τ : Mem} (hf : f_X0_fillLettersOf n a0 a1 a2 σ = some τ) : Met l yX0_fillLettersOf wsX0_fillLettersOf rm_X0_fillLettersOf (va_Pc [.ref (ad 27), .int (zI a0), .int (zI a1), .int (zI a2)] (PreW D cy 39 (cellC cy ad) ad σ)) (QV D 39 (cellC cy ad) ad τ) 0 0 (AC 39 ad) := by
  refine r_met (cc := cX0_fillLettersOf) (maxL := 8) (ret := none) (own := RX0) (by decide) rfl rfl [.ref (ad 27), .int (zI a0), .int (zI a1), .int (zI a2)] (Nat.le_of_ble_eq_true rfl) ?_
  intro p e s m below meth c ls S hK hP hlk hr hl
  have hS : va_S (AC 39 ad) s.heap s.heap [] := va_S.rf
  have hl : lv_has ls 8 [(0, .ref (ad 27)), (1, .int (zI a0)), (2, .int (zI a1)), (3, .int (zI a2))] := hl
  unfold f_X0_fillLettersOf at hf
  refine lv_iload_n S.1 S.2.1 dX0_fillLettersOf_0 rfl (lv_at hl 2 rfl) ?_
  refine lv_iload_n S.1 S.2.1 dX0_fillLettersOf_1 rfl (lv_at hl 1 rfl) ?_
  refine r_isub S dX0_fillLettersOf_2 ?_
  refine r_iconst S dX0_fillLettersOf_3 ?_
  refine r_isub S dX0_fillLettersOf_4 ?_
  refine lv_aload_n S.1 S.2.1 dX0_fillLettersOf_5 rfl (lv_at hl 0 rfl) ?_
  refine r_get S hK hP (by decide) rfl rfl h_X0_fillLettersOf_X0 1 (by decide) k_X0_fillLettersOf_1 rfl dX0_fillLettersOf_6 ?_
  obtain ⟨y2, hq1, hf⟩ := bV_some hf
  refine r_callVI S hK hP hS (by decide) rfl rfl [] (c_X1_drop l D cy ad hO σ hq1) (cw_X0_fillLettersOf_X1_drop S.2.2.2.2) rfl hl.1 (rest := [.int (zI ((a1 - a0) - 1))]) rfl (Nat.le_of_ble_eq_true rfl) dX0_fillLettersOf_9 ⟨Nat.zero_le _, Nat.zero_le _⟩ (fun H locs hP hS => ?_)
  refine r_imul S dX0_fillLettersOf_12 ?_
  obtain ⟨x3, hx3, hf⟩ := nm_some hf
  refine r_istore S hx3 (lv2 := [(4, .int (zI x3)), (0, .ref (ad 27)), (1, .int (zI a0)), (2, .int (zI a1)), (3, .int (zI a2))]) dX0_fillLettersOf_13 hl (by decide) rfl (fun ls hl => ?_)
  refine lv_aload_n S.1 S.2.1 dX0_fillLettersOf_15 rfl (lv_at hl 1 rfl) ?_
  refine r_get S hK hP (by decide) rfl rfl h_X0_fillLettersOf_X0 1 (by decide) k_X0_fillLettersOf_1 rfl dX0_fillLettersOf_16 ?_
  obtain ⟨y5, hq4, hf⟩ := bV_some hf
  refine r_callVI S hK hP hS (by decide) rfl rfl [] (c_X1_change l D cy ad hO σ hq4) (cw_X0_fillLettersOf_X1_change S.2.2.2.2) rfl hl.1 (rest := []) rfl (Nat.le_of_ble_eq_true rfl) dX0_fillLettersOf_19 ⟨Nat.zero_le _, Nat.zero_le _⟩ (fun H locs hP hS => ?_)
  refine lv_aload_n S.1 S.2.1 dX0_fillLettersOf_22 rfl (lv_at hl 1 rfl) ?_
  refine r_get S hK hP (by decide) rfl rfl h_X0_fillLettersOf_X0 1 (by decide) k_X0_fillLettersOf_1 rfl dX0_fillLettersOf_23 ?_
  obtain ⟨y7, hq6, hf⟩ := bV_some hf
  refine r_callVI S hK hP hS (by decide) rfl rfl [] (c_X1_drop l D cy ad hO σ hq6) (cw_X0_fillLettersOf_X1_drop S.2.2.2.2) rfl hl.1 (rest := [.int (zI y5)]) rfl (Nat.le_of_ble_eq_true rfl) dX0_fillLettersOf_26 ⟨Nat.zero_le _, Nat.zero_le _⟩ (fun H locs hP hS => ?_)
  refine lv_aload_n S.1 S.2.1 dX0_fillLettersOf_29 rfl (lv_at hl 1 rfl) ?_
  refine r_get S hK hP (by decide) rfl rfl h_X0_fillLettersOf_X0 1 (by decide) k_X0_fillLettersOf_1 rfl dX0_fillLettersOf_30 ?_
  obtain ⟨y9, hq8, hf⟩ := bV_some hf
  refine r_callVI S hK hP hS (by decide) rfl rfl [] (c_X1_put l D cy ad hO σ hq8) (cw_X0_fillLettersOf_X1_put S.2.2.2.2) rfl hl.1 (rest := [.int (zI y7), .int (zI y5)]) rfl (Nat.le_of_ble_eq_true rfl) dX0_fillLettersOf_33 ⟨Nat.zero_le _, Nat.zero_le _⟩ (fun H locs hP hS => ?_)
  refine r_iadd S dX0_fillLettersOf_36 ?_
  refine r_mmin S hl.1 k_X0_fillLettersOf_2 k_X0_fillLettersOf_3 k_X0_fillLettersOf_4 k_X0_fillLettersOf_5 ⟨Nat.le_of_ble_eq_true rfl, Nat.le_of_ble_eq_true rfl⟩ ⟨Nat.zero_le _, Nat.zero_le _⟩ dX0_fillLettersOf_37 ?_
  obtain ⟨x10, hx10, hf⟩ := nm_some hf
  refine r_istore S hx10 (lv2 := [(5, .int (zI x10)), (4, .int (zI x3)), (0, .ref (ad 27)), (1, .int (zI a0)), (2, .int (zI a1)), (3, .int (zI a2))]) dX0_fillLettersOf_40 hl (by decide) rfl (fun ls hl => ?_)
  refine r_iconst S dX0_fillLettersOf_42 ?_
  refine r_istore S rfl (lv2 := [(6, .int (zI 0)), (5, .int (zI x10)), (4, .int (zI x3)), (0, .ref (ad 27)), (1, .int (zI a0)), (2, .int (zI a1)), (3, .int (zI a2))]) dX0_fillLettersOf_43 hl (by decide) rfl (fun ls hl => ?_)
  obtain ⟨σ11, hq, hf⟩ := bV_some hf
  refine w_X0_fillLettersOf_L45 hO S hK n a0 a1 a2 x3 x10 (fun σ11 H locs ls he hP hS hl => ?_) n 0 σ _ _ _ hq hP hS (lv_sub hl [3, 4, 5, 6, 2, 1, 0] rfl)
  cases he
  have e1 := Option.some.inj hf
  subst e1
  exact e_V S hlk hP hS hr dX0_fillLettersOf_107
def rm_X0_fillLetters : Room := { frames := 2, cells := 0, slots := 0, locals := 53 }
theorem k_X0_fillLetters_1 : (.fieldLink RX0 29 "MendTexts$Chart" "word" "LMendTexts$Word;" : Cond) ∈ wsX0_fillLetters := List.mem_of_getElem? (i := 1) (by decide +kernel)
theorem k_X0_fillLetters_2 : (.fieldLink RX0 40 "MendTexts$Word" "length" "I" : Cond) ∈ wsX0_fillLetters := List.mem_of_getElem? (i := 2) (by decide +kernel)
theorem h_X0_fillLetters_X0 : ∀ w ∈ u_ws RX0 TX0 5, w ∈ wsX0_fillLetters := mem_places _ [44, 45, 46, 47, 48] (by decide +kernel)
theorem h_X0_fillLetters_X10 : ∀ w ∈ u_ws RX10 TX10 2, w ∈ wsX0_fillLetters := mem_places _ [49, 50] (by decide +kernel)
theorem cw_X0_fillLetters_X0_fillLettersOf {s : State} {args : Array Value} (hts : ∀ w ∈ wsX0_fillLetters, w.before args s = true) : CallW rm_X0_fillLetters s args RX0 RX0 77 yX0_fillLettersOf cX0_fillLettersOf 8 none wsX0_fillLettersOf rm_X0_fillLettersOf 0 0 3 := cwV 3 hts gX0_fillLetters_X0_fillLettersOf rfl rfl rfl (by decide +kernel) ⟨Nat.le_of_ble_eq_true rfl, Nat.le_of_ble_eq_true rfl⟩
theorem cw_X0_fillLetters_X10_letterAt {s : State} {args : Array Value} (hts : ∀ w ∈ wsX0_fillLetters, w.before args s = true) : CallW rm_X0_fillLetters s args RX0 RX10 58 yX10_letterAt cX10_letterAt 2 (some .int) wsX10_letterAt rm_X10_letterAt 0 0 1 := cwV 1 hts gX0_fillLetters_X10_letterAt rfl rfl rfl (by decide +kernel) ⟨Nat.le_of_ble_eq_true rfl, Nat.le_of_ble_eq_true rfl⟩
set_option maxHeartbeats 4000000 in
set_option maxRecDepth 100000 in
theorem w_X0_fillLetters_L17 {p : Program} {l : Launch} {e : Env} {s : State} {m : MethodId} {args : Array Value} {below : List Frame} {meth : Method} {c : Code} {Q : State → Prop} {D : va_G} {cy : Nat → ClassId} {ad : Nat → Nat} {H0 : Heap} (hO : adOK 39 ad) (S : CallFix p m c cX0_fillLetters 4 s args wsX0_fillLetters RX0) (hK : KK D cy s) (n : Nat) (x1_ : Int) {res : Mem} (k0 : ∀ (τ : Mem) (H2 : Heap) (locs2 : List Loc) (ls2 : Array Slot), res = τ → va_P D vwCl (WW 39 (cellC cy ad) ad τ) H2 → va_S (AC 39 ad) H0 H2 locs2 → lv_has ls2 4 [(0, .ref (ad 27)), (1, .int (zI x1_))] → W p l e rm_X0_fillLetters s m args below meth c H2 locs2 0 0 Q (F0 m 61 ls2 [])) :
    ∀ (k : Nat) (x2_ : Int) (x3_ : Int) (σ : Mem) (H : Heap) (locs : List Loc) (ls : Array Slot), f_X0_fillLetters_L17 n x1_ k x2_ x3_ σ = some res → va_P D vwCl (WW 39 (cellC cy ad) ad σ) H → va_S (AC 39 ad) H0 H locs → lv_has ls 4 [(0, .ref (ad 27)), (1, .int (zI x1_)), (2, .int (zI x2_)), (3, .int (zI x3_))] → W p l e rm_X0_fillLetters s m args below meth c H locs 0 0 Q (F0 m 17 ls []) := by
  intro k
  induction k with
  | zero =>
    intro x2_ x3_ σ H locs ls hf
    have hf : none = some res := hf
    cases hf
  | succ k ih =>
    intro x2_ x3_ σ H locs ls hf hP hS hl
    rw [f_X0_fillLetters_L17] at hf
    refine lv_iload_n S.1 S.2.1 dX0_fillLetters_17 rfl (lv_at hl 3 rfl) ?_
    refine lv_aload_n S.1 S.2.1 dX0_fillLetters_18 rfl (lv_at hl 0 rfl) ?_
    obtain ⟨hw1, hf⟩ := gd_some hf
    refine r_get S hK hP (by decide) rfl rfl h_X0_fillLetters_X0 2 (by decide) k_X0_fillLetters_1 rfl dX0_fillLetters_19 ?_
    refine r_get S hK hP (ltW hw1) (cellW cy ad hw1 _) rfl h_X0_fillLetters_X10 1 (by decide) k_X0_fillLetters_2 rfl dX0_fillLetters_22 ?_
    refine lv_icmp_gt (tgt := 61) S.1 S.2.1 dX0_fillLetters_25 (by decide) (fun c2 => ?_) (fun c2 => ?_)
    · have hf := (if_pos c2).symm.trans hf
      exact k0 _ _ _ _ (Option.some.inj hf).symm hP hS (lv_sub hl [0, 1] rfl)
    · have hf := (if_neg c2).symm.trans hf
      refine lv_iload_n S.1 S.2.1 dX0_fillLetters_28 rfl (lv_at hl 3 rfl) ?_
      refine lv_iload_n S.1 S.2.1 dX0_fillLetters_29 rfl (lv_at hl 1 rfl) ?_
      obtain ⟨x3, hq, hf⟩ := bV_some hf
      have kJ0 : ∀ (H : Heap) (locs : List Loc) (ls : Array Slot), va_P D vwCl (WW 39 (cellC cy ad) ad σ) H → va_S (AC 39 ad) H0 H locs → lv_has ls 4 [(0, .ref (ad 27)), (1, .int (zI x1_)), (2, .int (zI x3)), (3, .int (zI x3_))] → W p l e rm_X0_fillLetters s m args below meth c H locs 0 0 Q (F0 m 48 ls []) := by
        intro H locs ls hP hS hl
        refine lv_aload_n S.1 S.2.1 dX0_fillLetters_48 rfl (lv_at hl 0 rfl) ?_
        refine lv_iload_n S.1 S.2.1 dX0_fillLetters_49 rfl (lv_at hl 1 rfl) ?_
        refine lv_iload_n S.1 S.2.1 dX0_fillLetters_50 rfl (lv_at hl 3 rfl) ?_
        refine lv_iload_n S.1 S.2.1 dX0_fillLetters_51 rfl (lv_at hl 2 rfl) ?_
        obtain ⟨σ9, hq8, hf⟩ := bV_some hf
        refine r_callVV S hK hP hS (by decide) rfl rfl [.int (zI x1_), .int (zI x3_), .int (zI x3)] (c_X0_fillLettersOf l D cy ad hO n x1_ x3_ x3 σ hq8) (cw_X0_fillLetters_X0_fillLettersOf S.2.2.2.2) rfl hl.1 (rest := []) rfl (Nat.le_of_ble_eq_true rfl) dX0_fillLetters_52 ⟨Nat.zero_le _, Nat.zero_le _⟩ (fun H locs hP hS => ?_)
        obtain ⟨x10, hx10, hf⟩ := nm_some hf
        refine r_iinc S hx10 (k0 := 3) (lv2 := [(3, .int (zI x10)), (0, .ref (ad 27)), (1, .int (zI x1_)), (2, .int (zI x3))]) dX0_fillLetters_55 hl rfl (by decide) rfl (fun ls hl => ?_)
        refine lv_goto (tgt := 17) S.1 S.2.1 dX0_fillLetters_58 (by decide) ?_
        exact ih x3 x10 σ9 _ _ _ hf hP hS (lv_sub hl [1, 2, 3, 0] rfl)
      clear hf
      have hf := hq
      refine lv_icmp_le (tgt := 48) S.1 S.2.1 dX0_fillLetters_30 (by decide) (fun c4 => ?_) (fun c4 => ?_)
      · have hf := (if_pos c4).symm.trans hf
        have e1 := Option.some.inj hf
        subst e1
        exact kJ0 _ _ _ hP hS (lv_sub hl [0, 1, 2, 3] rfl)
      · have hf := (if_neg c4).symm.trans hf
        refine lv_iload_n S.1 S.2.1 dX0_fillLetters_33 rfl (lv_at hl 2 rfl) ?_
        refine r_iconst S dX0_fillLetters_34 ?_
        refine lv_aload_n S.1 S.2.1 dX0_fillLetters_35 rfl (lv_at hl 0 rfl) ?_
        refine r_get S hK hP (by decide) rfl rfl h_X0_fillLetters_X0 2 (by decide) k_X0_fillLetters_1 rfl dX0_fillLetters_36 ?_
        refine lv_iload_n S.1 S.2.1 dX0_fillLetters_39 rfl (lv_at hl 3 rfl) ?_
        refine r_iconst S dX0_fillLetters_40 ?_
        refine r_isub S dX0_fillLetters_41 ?_
        obtain ⟨y6, hq5, hf⟩ := bV_some hf
        refine r_callVI S hK hP hS (ltW hw1) (cellW cy ad hw1 _) rfl [.int (zI (x3_ - 1))] (c_X10_letterAt l D cy ad hO ((σ 27 2).toNat) hw1 (x3_ - 1) σ hq5) (cw_X0_fillLetters_X10_letterAt S.2.2.2.2) rfl hl.1 (rest := [.int (zI 1), .int (zI x2_)]) rfl (Nat.le_of_ble_eq_true rfl) dX0_fillLetters_42 ⟨Nat.zero_le _, Nat.zero_le _⟩ (fun H locs hP hS => ?_)
        refine r_ishl S dX0_fillLetters_45 ?_
        refine r_ior S dX0_fillLetters_46 ?_
        obtain ⟨x7, hx7, hf⟩ := nm_some hf
        refine r_istore_n S hx7 (lv2 := [(2, .int (zI x7)), (0, .ref (ad 27)), (1, .int (zI x1_)), (3, .int (zI x3_))]) dX0_fillLetters_47 rfl hl (by decide) rfl (fun ls hl => ?_)
        have e1 := Option.some.inj hf
        subst e1
        exact kJ0 _ _ _ hP hS (lv_sub hl [1, 2, 0, 3] rfl)
set_option maxHeartbeats 4000000 in
set_option maxRecDepth 100000 in
theorem w_X0_fillLetters_L2 {p : Program} {l : Launch} {e : Env} {s : State} {m : MethodId} {args : Array Value} {below : List Frame} {meth : Method} {c : Code} {Q : State → Prop} {D : va_G} {cy : Nat → ClassId} {ad : Nat → Nat} {H0 : Heap} (hO : adOK 39 ad) (S : CallFix p m c cX0_fillLetters 4 s args wsX0_fillLetters RX0) (hK : KK D cy s) (n : Nat) {res : Mem} (k0 : ∀ (τ : Mem) (H2 : Heap) (locs2 : List Loc) (ls2 : Array Slot), res = τ → va_P D vwCl (WW 39 (cellC cy ad) ad τ) H2 → va_S (AC 39 ad) H0 H2 locs2 → lv_has ls2 4 [] → W p l e rm_X0_fillLetters s m args below meth c H2 locs2 0 0 Q (F0 m 67 ls2 [])) :
    ∀ (k : Nat) (x1_ : Int) (σ : Mem) (H : Heap) (locs : List Loc) (ls : Array Slot), f_X0_fillLetters_L2 n k x1_ σ = some res → va_P D vwCl (WW 39 (cellC cy ad) ad σ) H → va_S (AC 39 ad) H0 H locs → lv_has ls 4 [(0, .ref (ad 27)), (1, .int (zI x1_))] → W p l e rm_X0_fillLetters s m args below meth c H locs 0 0 Q (F0 m 2 ls []) := by
  intro k
  induction k with
  | zero =>
    intro x1_ σ H locs ls hf
    have hf : none = some res := hf
    cases hf
  | succ k ih =>
    intro x1_ σ H locs ls hf hP hS hl
    rw [f_X0_fillLetters_L2] at hf
    refine lv_iload_n S.1 S.2.1 dX0_fillLetters_2 rfl (lv_at hl 1 rfl) ?_
    refine lv_aload_n S.1 S.2.1 dX0_fillLetters_3 rfl (lv_at hl 0 rfl) ?_
    obtain ⟨hw1, hf⟩ := gd_some hf
    refine r_get S hK hP (by decide) rfl rfl h_X0_fillLetters_X0 2 (by decide) k_X0_fillLetters_1 rfl dX0_fillLetters_4 ?_
    refine r_get S hK hP (ltW hw1) (cellW cy ad hw1 _) rfl h_X0_fillLetters_X10 1 (by decide) k_X0_fillLetters_2 rfl dX0_fillLetters_7 ?_
    refine lv_icmp_gt (tgt := 67) S.1 S.2.1 dX0_fillLetters_10 (by decide) (fun c2 => ?_) (fun c2 => ?_)
    · have hf := (if_pos c2).symm.trans hf
      exact k0 _ _ _ _ (Option.some.inj hf).symm hP hS (lv_sub hl [] rfl)
    · have hf := (if_neg c2).symm.trans hf
      refine r_iconst S dX0_fillLetters_13 ?_
      refine r_istore_n S rfl (lv2 := [(2, .int (zI 0)), (0, .ref (ad 27)), (1, .int (zI x1_))]) dX0_fillLetters_14 rfl hl (by decide) rfl (fun ls hl => ?_)
      refine lv_iload_n S.1 S.2.1 dX0_fillLetters_15 rfl (lv_at hl 2 rfl) ?_
      refine r_istore_n S rfl (lv2 := [(3, .int (zI x1_)), (2, .int (zI 0)), (0, .ref (ad 27)), (1, .int (zI x1_))]) dX0_fillLetters_16 rfl hl (by decide) rfl (fun ls hl => ?_)
      obtain ⟨σ3, hq, hf⟩ := bV_some hf
      refine w_X0_fillLetters_L17 hO S hK n x1_ (fun σ3 H locs ls he hP hS hl => ?_) n 0 x1_ σ _ _ _ hq hP hS (lv_sub hl [2, 3, 1, 0] rfl)
      cases he
      obtain ⟨x4, hx4, hf⟩ := nm_some hf
      refine r_iinc S hx4 (k0 := 1) (lv2 := [(1, .int (zI x4)), (0, .ref (ad 27))]) dX0_fillLetters_61 hl rfl (by decide) rfl (fun ls hl => ?_)
      refine lv_goto (tgt := 2) S.1 S.2.1 dX0_fillLetters_64 (by decide) ?_
      exact ih x4 σ3 _ _ _ hf hP hS (lv_sub hl [1, 0] rfl)
set_option maxHeartbeats 4000000 in
set_option maxRecDepth 100000 in
theorem c_X0_fillLetters (l : Launch) (D : va_G) (cy : Nat → ClassId) (ad : Nat → Nat) (hO : adOK 39 ad) (n : Nat) (σ : Mem) {τ : Mem} (hf : f_X0_fillLetters n σ = some τ) : Met l yX0_fillLetters wsX0_fillLetters rm_X0_fillLetters (va_Pc [.ref (ad 27)] (PreW D cy 39 (cellC cy ad) ad σ)) (QV D 39 (cellC cy ad) ad τ) 0 0 (AC 39 ad) := by
  refine r_met (cc := cX0_fillLetters) (maxL := 4) (ret := none) (own := RX0) (by decide) rfl rfl [.ref (ad 27)] (Nat.le_of_ble_eq_true rfl) ?_
  intro p e s m below meth c ls S hK hP hlk hr hl
  have hS : va_S (AC 39 ad) s.heap s.heap [] := va_S.rf
  have hl : lv_has ls 4 [(0, .ref (ad 27))] := hl
  unfold f_X0_fillLetters at hf
  refine r_iconst S dX0_fillLetters_0 ?_
  refine r_istore_n S rfl (lv2 := [(1, .int (zI 0)), (0, .ref (ad 27))]) dX0_fillLetters_1 rfl hl (by decide) rfl (fun ls hl => ?_)
  obtain ⟨σ1, hq, hf⟩ := bV_some hf
  refine w_X0_fillLetters_L2 hO S hK n (fun σ1 H locs ls he hP hS hl => ?_) n 0 σ _ _ _ hq hP hS (lv_sub hl [1, 0] rfl)
  cases he
  have e1 := Option.some.inj hf
  subst e1
  exact e_V S hlk hP hS hr dX0_fillLetters_67
def rm_X3_ofNone : Room := { frames := 0, cells := 0, slots := 0, locals := 0 }
set_option maxHeartbeats 4000000 in
set_option maxRecDepth 100000 in
theorem c_X3_ofNone (l : Launch) (D : va_G) (cy : Nat → ClassId) (ad : Nat → Nat) (hO : adOK 39 ad) (a0 : Int) (σ : Mem) {v : Int} (hf : f_X3_ofNone a0 = some v) : Met l yX3_ofNone wsX3_ofNone rm_X3_ofNone (va_Pc [.int (zI a0)] (PreW D cy 39 (cellC cy ad) ad σ)) (QL D 39 (cellC cy ad) ad v σ) 0 0 (AC 39 ad) := by
  refine r_met (cc := cX3_ofNone) (maxL := 1) (ret := (some .long)) (own := RX3) (by decide) rfl rfl [.int (zI a0)] (Nat.le_of_ble_eq_true rfl) ?_
  intro p e s m below meth c ls S hK hP hlk hr hl
  have hS : va_S (AC 39 ad) s.heap s.heap [] := va_S.rf
  have hl : lv_has ls 1 [(0, .int (zI a0))] := hl
  unfold f_X3_ofNone at hf
  refine lv_iload_n S.1 S.2.1 dX3_ofNone_0 rfl (lv_at hl 0 rfl) ?_
  refine r_i2l S dX3_ofNone_1 ?_
  refine r_bipush S dX3_ofNone_2 (by decide) ?_
  refine r_lshl S dX3_ofNone_4 ?_
  have e1 := Option.some.inj hf
  subst e1
  exact e_L S hlk hP hS hr dX3_ofNone_5
