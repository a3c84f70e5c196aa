def rm_X12_addAhead : Room := { frames := 0, cells := 0, slots := 0, locals := 0 }
theorem k_X12_addAhead_1 : (.fieldLink RX12 65 "MendTextsModel" "ahead" "[I" : Cond) ∈ wsX12_addAhead := List.mem_of_getElem? (i := 1) (by decide +kernel)
theorem k_X12_addAhead_2 : (.fieldLink RX12 71 "MendTextsModel" "aheadWays" "[J" : Cond) ∈ wsX12_addAhead := List.mem_of_getElem? (i := 2) (by decide +kernel)
theorem h_X12_addAhead_X12 : ∀ w ∈ u_ws RX12 TX12 36, w ∈ wsX12_addAhead := mem_places _ [3, 4, 5, 6, 7, 8, 9, 10, 11, 12, 13, 14, 15, 16, 17, 18, 19, 20, 21, 22, 23, 24, 25, 26, 27, 28, 29, 30, 31, 32, 33, 34, 35, 36, 37, 38] (by decide +kernel)
set_option maxHeartbeats 4000000 in
set_option maxRecDepth 100000 in
theorem c_X12_addAhead (l : Launch) (D : va_G) (cy : Nat → ClassId) (ad : Nat → Nat) (hO : adOK 28 ad) (a0 : Int) (a1 : Int) (a2 : Int) (σ : Mem) {τ : Mem} (hf : f_X12_addAhead a0 a1 a2 σ = some τ) : Met l yX12_addAhead wsX12_addAhead rm_X12_addAhead (va_Pc [.ref (ad 0), .int (zI a0), .int (zI a1), .int (zI a2)] (PreW D cy 28 (cellM cy ad) ad σ)) (QV D 28 (cellM cy ad) ad τ) 0 0 (AC 28 ad) := by
  refine r_met (cc := cX12_addAhead) (maxL := 5) (ret := none) (own := RX12) (by decide) rfl rfl [.ref (ad 0), .int (zI a0), .int (zI a1), .int (zI a2)] (Nat.le_of_ble_eq_true rfl) ?_
  intro p e s m below meth c ls S hK hP hlk hr hl
  have hS : va_S (AC 28 ad) s.heap s.heap [] := va_S.rf
  have hl : lv_has ls 5 [(0, .ref (ad 0)), (1, .int (zI a0)), (2, .int (zI a1)), (3, .int (zI a2))] := hl
  unfold f_X12_addAhead at hf
  refine lv_aload_n S.1 S.2.1 dX12_addAhead_0 rfl (lv_at hl 0 rfl) ?_
  refine r_get S hK hP (by decide) rfl rfl h_X12_addAhead_X12 27 (by decide) k_X12_addAhead_1 rfl dX12_addAhead_1 ?_
  refine lv_iload_n S.1 S.2.1 dX12_addAhead_4 rfl (lv_at hl 2 rfl) ?_
  obtain ⟨g1, hf⟩ := gd_some hf
  refine r_iald S hK hP (by decide) (n := 91) (fun _ => rfl) (by decide) g1 dX12_addAhead_5 ?_
  refine lv_iload_n S.1 S.2.1 dX12_addAhead_6 rfl (lv_at hl 3 rfl) ?_
  refine r_iadd S dX12_addAhead_7 ?_
  obtain ⟨x2, hx2, hf⟩ := nm_some hf
  refine r_istore S hx2 (lv2 := [(4, .int (zI x2)), (0, .ref (ad 0)), (1, .int (zI a0)), (2, .int (zI a1)), (3, .int (zI a2))]) dX12_addAhead_8 hl (by decide) rfl (fun ls hl => ?_)
  refine lv_iload S.1 S.2.1 dX12_addAhead_10 (lv_at hl 0 rfl) ?_
  refine lv_aload_n S.1 S.2.1 dX12_addAhead_12 rfl (lv_at hl 1 rfl) ?_
  refine r_get S hK hP (by decide) rfl rfl h_X12_addAhead_X12 27 (by decide) k_X12_addAhead_1 rfl dX12_addAhead_13 ?_
  refine lv_iload_n S.1 S.2.1 dX12_addAhead_16 rfl (lv_at hl 2 rfl) ?_
  obtain ⟨g3, hf⟩ := gd_some hf
  refine r_iald S hK hP (by decide) (n := 91) (fun _ => rfl) (by decide) g3 dX12_addAhead_17 ?_
  refine lv_icmp_ge (tgt := 44) S.1 S.2.1 dX12_addAhead_18 (by decide) (fun c4 => ?_) (fun c4 => ?_)
  · have hf := (if_pos c4).symm.trans hf
    refine lv_iload S.1 S.2.1 dX12_addAhead_44 (lv_at hl 0 rfl) ?_
    refine lv_aload_n S.1 S.2.1 dX12_addAhead_46 rfl (lv_at hl 1 rfl) ?_
    refine r_get S hK hP (by decide) rfl rfl h_X12_addAhead_X12 27 (by decide) k_X12_addAhead_1 rfl dX12_addAhead_47 ?_
    refine lv_iload_n S.1 S.2.1 dX12_addAhead_50 rfl (lv_at hl 2 rfl) ?_
    refine r_iald S hK hP (by decide) (n := 91) (fun _ => rfl) (by decide) g3 dX12_addAhead_51 ?_
    refine lv_icmp_ne (tgt := 70) S.1 S.2.1 dX12_addAhead_52 (by decide) (fun c5 => ?_) (fun c5 => ?_)
    · have hf := (if_neg c5).symm.trans hf
      have e1 := Option.some.inj hf
      subst e1
      exact e_V S hlk hP hS hr dX12_addAhead_70
    · have hf := (if_pos c5).symm.trans hf
      refine lv_aload_n S.1 S.2.1 dX12_addAhead_55 rfl (lv_at hl 1 rfl) ?_
      refine r_get S hK hP (by decide) rfl rfl h_X12_addAhead_X12 29 (by decide) k_X12_addAhead_2 rfl dX12_addAhead_56 ?_
      refine lv_iload_n S.1 S.2.1 dX12_addAhead_59 rfl (lv_at hl 2 rfl) ?_
      refine lv_dup2_11 S.1 S.2.1 dX12_addAhead_60 rfl rfl ?_
      refine r_lald S hK hP (by decide) (n := 91) (fun _ => rfl) (by decide) g3 dX12_addAhead_61 ?_
      refine lv_aload_n S.1 S.2.1 dX12_addAhead_62 rfl (lv_at hl 1 rfl) ?_
      refine r_get S hK hP (by decide) rfl rfl h_X12_addAhead_X12 29 (by decide) k_X12_addAhead_2 rfl dX12_addAhead_63 ?_
      refine lv_iload_n S.1 S.2.1 dX12_addAhead_66 rfl (lv_at hl 3 rfl) ?_
      refine r_lald S hK hP (by decide) (n := 91) (fun _ => rfl) (by decide) g1 dX12_addAhead_67 ?_
      refine r_ladd S dX12_addAhead_68 ?_
      obtain ⟨σ6, hσ6, hf⟩ := nm_some hf
      refine r_last S hK hP hO hS (by decide) (n := 91) (fun _ => rfl) (by decide) g3 hσ6 dX12_addAhead_69 (fun H locs hP hS => ?_)
      have e1 := Option.some.inj hf
      subst e1
      exact e_V S hlk hP hS hr dX12_addAhead_70
  · have hf := (if_neg c4).symm.trans hf
    refine lv_aload_n S.1 S.2.1 dX12_addAhead_21 rfl (lv_at hl 1 rfl) ?_
    refine r_get S hK hP (by decide) rfl rfl h_X12_addAhead_X12 27 (by decide) k_X12_addAhead_1 rfl dX12_addAhead_22 ?_
    refine lv_iload_n S.1 S.2.1 dX12_addAhead_25 rfl (lv_at hl 2 rfl) ?_
    refine lv_iload S.1 S.2.1 dX12_addAhead_26 (lv_at hl 0 rfl) ?_
    obtain ⟨σ7, hσ7, hf⟩ := nm_some hf
    refine r_iast S hK hP hO hS (by decide) (n := 91) (fun _ => rfl) (by decide) g3 hσ7 dX12_addAhead_28 (fun H locs hP hS => ?_)
    refine lv_aload_n S.1 S.2.1 dX12_addAhead_29 rfl (lv_at hl 1 rfl) ?_
    refine r_get S hK hP (by decide) rfl rfl h_X12_addAhead_X12 29 (by decide) k_X12_addAhead_2 rfl dX12_addAhead_30 ?_
    refine lv_iload_n S.1 S.2.1 dX12_addAhead_33 rfl (lv_at hl 2 rfl) ?_
    refine lv_aload_n S.1 S.2.1 dX12_addAhead_34 rfl (lv_at hl 1 rfl) ?_
    refine r_get S hK hP (by decide) rfl rfl h_X12_addAhead_X12 29 (by decide) k_X12_addAhead_2 rfl dX12_addAhead_35 ?_
    refine lv_iload_n S.1 S.2.1 dX12_addAhead_38 rfl (lv_at hl 3 rfl) ?_
    refine r_lald S hK hP (by decide) (n := 91) (fun _ => rfl) (by decide) g1 dX12_addAhead_39 ?_
    obtain ⟨σ8, hσ8, hf⟩ := nm_some hf
    refine r_last S hK hP hO hS (by decide) (n := 91) (fun _ => rfl) (by decide) g3 hσ8 dX12_addAhead_40 (fun H locs hP hS => ?_)
    refine lv_goto (tgt := 70) S.1 S.2.1 dX12_addAhead_41 (by decide) ?_
    have e1 := Option.some.inj hf
    subst e1
    exact e_V S hlk hP hS hr dX12_addAhead_70
def rm_X12_addBehind : Room := { frames := 0, cells := 0, slots := 0, locals := 0 }
theorem k_X12_addBehind_1 : (.fieldLink RX12 68 "MendTextsModel" "behind" "[I" : Cond) ∈ wsX12_addBehind := List.mem_of_getElem? (i := 1) (by decide +kernel)
theorem k_X12_addBehind_2 : (.fieldLink RX12 75 "MendTextsModel" "behindWays" "[J" : Cond) ∈ wsX12_addBehind := List.mem_of_getElem? (i := 2) (by decide +kernel)
theorem h_X12_addBehind_X12 : ∀ w ∈ u_ws RX12 TX12 36, w ∈ wsX12_addBehind := mem_places _ [3, 4, 5, 6, 7, 8, 9, 10, 11, 12, 13, 14, 15, 16, 17, 18, 19, 20, 21, 22, 23, 24, 25, 26, 27, 28, 29, 30, 31, 32, 33, 34, 35, 36, 37, 38] (by decide +kernel)
set_option maxHeartbeats 4000000 in
set_option maxRecDepth 100000 in
theorem c_X12_addBehind (l : Launch) (D : va_G) (cy : Nat → ClassId) (ad : Nat → Nat) (hO : adOK 28 ad) (a0 : Int) (a1 : Int) (a2 : Int) (σ : Mem) {τ : Mem} (hf : f_X12_addBehind a0 a1 a2 σ = some τ) : Met l yX12_addBehind wsX12_addBehind rm_X12_addBehind (va_Pc [.ref (ad 0), .int (zI a0), .int (zI a1), .int (zI a2)] (PreW D cy 28 (cellM cy ad) ad σ)) (QV D 28 (cellM cy ad) ad τ) 0 0 (AC 28 ad) := by
  refine r_met (cc := cX12_addBehind) (maxL := 5) (ret := none) (own := RX12) (by decide) rfl rfl [.ref (ad 0), .int (zI a0), .int (zI a1), .int (zI a2)] (Nat.le_of_ble_eq_true rfl) ?_
  intro p e s m below meth c ls S hK hP hlk hr hl
  have hS : va_S (AC 28 ad) s.heap s.heap [] := va_S.rf
  have hl : lv_has ls 5 [(0, .ref (ad 0)), (1, .int (zI a0)), (2, .int (zI a1)), (3, .int (zI a2))] := hl
  unfold f_X12_addBehind at hf
  refine lv_aload_n S.1 S.2.1 dX12_addBehind_0 rfl (lv_at hl 0 rfl) ?_
  refine r_get S hK hP (by decide) rfl rfl h_X12_addBehind_X12 28 (by decide) k_X12_addBehind_1 rfl dX12_addBehind_1 ?_
  refine lv_iload_n S.1 S.2.1 dX12_addBehind_4 rfl (lv_at hl 2 rfl) ?_
  obtain ⟨g1, hf⟩ := gd_some hf
  refine r_iald S hK hP (by decide) (n := 91) (fun _ => rfl) (by decide) g1 dX12_addBehind_5 ?_
  refine lv_iload_n S.1 S.2.1 dX12_addBehind_6 rfl (lv_at hl 3 rfl) ?_
  refine r_iadd S dX12_addBehind_7 ?_
  obtain ⟨x2, hx2, hf⟩ := nm_some hf
  refine r_istore S hx2 (lv2 := [(4, .int (zI x2)), (0, .ref (ad 0)), (1, .int (zI a0)), (2, .int (zI a1)), (3, .int (zI a2))]) dX12_addBehind_8 hl (by decide) rfl (fun ls hl => ?_)
  refine lv_iload S.1 S.2.1 dX12_addBehind_10 (lv_at hl 0 rfl) ?_
  refine lv_aload_n S.1 S.2.1 dX12_addBehind_12 rfl (lv_at hl 1 rfl) ?_
  refine r_get S hK hP (by decide) rfl rfl h_X12_addBehind_X12 28 (by decide) k_X12_addBehind_1 rfl dX12_addBehind_13 ?_
  refine lv_iload_n S.1 S.2.1 dX12_addBehind_16 rfl (lv_at hl 2 rfl) ?_
  obtain ⟨g3, hf⟩ := gd_some hf
  refine r_iald S hK hP (by decide) (n := 91) (fun _ => rfl) (by decide) g3 dX12_addBehind_17 ?_
  refine lv_icmp_ge (tgt := 44) S.1 S.2.1 dX12_addBehind_18 (by decide) (fun c4 => ?_) (fun c4 => ?_)
  · have hf := (if_pos c4).symm.trans hf
    refine lv_iload S.1 S.2.1 dX12_addBehind_44 (lv_at hl 0 rfl) ?_
    refine lv_aload_n S.1 S.2.1 dX12_addBehind_46 rfl (lv_at hl 1 rfl) ?_
    refine r_get S hK hP (by decide) rfl rfl h_X12_addBehind_X12 28 (by decide) k_X12_addBehind_1 rfl dX12_addBehind_47 ?_
    refine lv_iload_n S.1 S.2.1 dX12_addBehind_50 rfl (lv_at hl 2 rfl) ?_
    refine r_iald S hK hP (by decide) (n := 91) (fun _ => rfl) (by decide) g3 dX12_addBehind_51 ?_
    refine lv_icmp_ne (tgt := 70) S.1 S.2.1 dX12_addBehind_52 (by decide) (fun c5 => ?_) (fun c5 => ?_)
    · have hf := (if_neg c5).symm.trans hf
      have e1 := Option.some.inj hf
      subst e1
      exact e_V S hlk hP hS hr dX12_addBehind_70
    · have hf := (if_pos c5).symm.trans hf
      refine lv_aload_n S.1 S.2.1 dX12_addBehind_55 rfl (lv_at hl 1 rfl) ?_
      refine r_get S hK hP (by decide) rfl rfl h_X12_addBehind_X12 30 (by decide) k_X12_addBehind_2 rfl dX12_addBehind_56 ?_
      refine lv_iload_n S.1 S.2.1 dX12_addBehind_59 rfl (lv_at hl 2 rfl) ?_
      refine lv_dup2_11 S.1 S.2.1 dX12_addBehind_60 rfl rfl ?_
      refine r_lald S hK hP (by decide) (n := 91) (fun _ => rfl) (by decide) g3 dX12_addBehind_61 ?_
      refine lv_aload_n S.1 S.2.1 dX12_addBehind_62 rfl (lv_at hl 1 rfl) ?_
      refine r_get S hK hP (by decide) rfl rfl h_X12_addBehind_X12 30 (by decide) k_X12_addBehind_2 rfl dX12_addBehind_63 ?_
      refine lv_iload_n S.1 S.2.1 dX12_addBehind_66 rfl (lv_at hl 3 rfl) ?_
      refine r_lald S hK hP (by decide) (n := 91) (fun _ => rfl) (by decide) g1 dX12_addBehind_67 ?_
      refine r_ladd S dX12_addBehind_68 ?_
      obtain ⟨σ6, hσ6, hf⟩ := nm_some hf
      refine r_last S hK hP hO hS (by decide) (n := 91) (fun _ => rfl) (by decide) g3 hσ6 dX12_addBehind_69 (fun H locs hP hS => ?_)
      have e1 := Option.some.inj hf
      subst e1
      exact e_V S hlk hP hS hr dX12_addBehind_70
  · have hf := (if_neg c4).symm.trans hf
    refine lv_aload_n S.1 S.2.1 dX12_addBehind_21 rfl (lv_at hl 1 rfl) ?_
    refine r_get S hK hP (by decide) rfl rfl h_X12_addBehind_X12 28 (by decide) k_X12_addBehind_1 rfl dX12_addBehind_22 ?_
    refine lv_iload_n S.1 S.2.1 dX12_addBehind_25 rfl (lv_at hl 2 rfl) ?_
    refine lv_iload S.1 S.2.1 dX12_addBehind_26 (lv_at hl 0 rfl) ?_
    obtain ⟨σ7, hσ7, hf⟩ := nm_some hf
    refine r_iast S hK hP hO hS (by decide) (n := 91) (fun _ => rfl) (by decide) g3 hσ7 dX12_addBehind_28 (fun H locs hP hS => ?_)
    refine lv_aload_n S.1 S.2.1 dX12_addBehind_29 rfl (lv_at hl 1 rfl) ?_
    refine r_get S hK hP (by decide) rfl rfl h_X12_addBehind_X12 30 (by decide) k_X12_addBehind_2 rfl dX12_addBehind_30 ?_
    refine lv_iload_n S.1 S.2.1 dX12_addBehind_33 rfl (lv_at hl 2 rfl) ?_
    refine lv_aload_n S.1 S.2.1 dX12_addBehind_34 rfl (lv_at hl 1 rfl) ?_
    refine r_get S hK hP (by decide) rfl rfl h_X12_addBehind_X12 30 (by decide) k_X12_addBehind_2 rfl dX12_addBehind_35 ?_
    refine lv_iload_n S.1 S.2.1 dX12_addBehind_38 rfl (lv_at hl 3 rfl) ?_
    refine r_lald S hK hP (by decide) (n := 91) (fun _ => rfl) (by decide) g1 dX12_addBehind_39 ?_
    obtain ⟨σ8, hσ8, hf⟩ := nm_some hf
    refine r_last S hK hP hO hS (by decide) (n := 91) (fun _ => rfl) (by decide) g3 hσ8 dX12_addBehind_40 (fun H locs hP hS => ?_)
    refine lv_goto (tgt := 70) S.1 S.2.1 dX12_addBehind_41 (by decide) ?_
    have e1 := Option.some.inj hf
    subst e1
    exact e_V S hlk hP hS hr dX12_addBehind_70
def rm_X12_beginsOne : Room := { frames := 0, cells := 0, slots := 0, locals := 0 }
theorem k_X12_beginsOne_1 : (.fieldLink RX12 55 "MendTextsModel" "begins" "[Z" : Cond) ∈ wsX12_beginsOne := List.mem_of_getElem? (i := 1) (by decide +kernel)
theorem k_X12_beginsOne_2 : (.fieldLink RX12 34 "MendTextsModel" "hand" "[I" : Cond) ∈ wsX12_beginsOne := List.mem_of_getElem? (i := 2) (by decide +kernel)
theorem h_X12_beginsOne_X12 : ∀ w ∈ u_ws RX12 TX12 36, w ∈ wsX12_beginsOne := mem_places _ [3, 4, 5, 6, 7, 8, 9, 10, 11, 12, 13, 14, 15, 16, 17, 18, 19, 20, 21, 22, 23, 24, 25, 26, 27, 28, 29, 30, 31, 32, 33, 34, 35, 36, 37, 38] (by decide +kernel)
set_option maxHeartbeats 4000000 in
set_option maxRecDepth 100000 in
theorem c_X12_beginsOne (l : Launch) (D : va_G) (cy : Nat → ClassId) (ad : Nat → Nat) (hO : adOK 28 ad) (a0 : Int) (a1 : Int) (a2 : Int) (σ : Mem) {v : Int} (hf : f_X12_beginsOne a0 a1 a2 σ = some v) : Met l yX12_beginsOne wsX12_beginsOne rm_X12_beginsOne (va_Pc [.ref (ad 0), .int (zI a0), .int (zI a1), .int (zI a2)] (PreW D cy 28 (cellM cy ad) ad σ)) (QI D 28 (cellM cy ad) ad v σ) 0 0 (AC 28 ad) := by
  refine r_met (cc := cX12_beginsOne) (maxL := 4) (ret := (some .boolean)) (own := RX12) (by decide) rfl rfl [.ref (ad 0), .int (zI a0), .int (zI a1), .int (zI a2)] (Nat.le_of_ble_eq_true rfl) ?_
  intro p e s m below meth c ls S hK hP hlk hr hl
  have hS : va_S (AC 28 ad) s.heap s.heap [] := va_S.rf
  have hl : lv_has ls 4 [(0, .ref (ad 0)), (1, .int (zI a0)), (2, .int (zI a1)), (3, .int (zI a2))] := hl
  unfold f_X12_beginsOne at hf
  refine lv_iload_n S.1 S.2.1 dX12_beginsOne_0 rfl (lv_at hl 1 rfl) ?_
  refine r_bipush S dX12_beginsOne_1 (by decide) ?_
  refine lv_icmp_lt (tgt := 28) S.1 S.2.1 dX12_beginsOne_3 (by decide) (fun c1 => ?_) (fun c1 => ?_)
  · have hf := (if_pos c1).symm.trans hf
    refine lv_iload_n S.1 S.2.1 dX12_beginsOne_28 rfl (lv_at hl 3 rfl) ?_
    refine lv_iload_n S.1 S.2.1 dX12_beginsOne_29 rfl (lv_at hl 2 rfl) ?_
    refine lv_icmp_eq (tgt := 50) S.1 S.2.1 dX12_beginsOne_30 (by decide) (fun c2 => ?_) (fun c2 => ?_)
    · have hf := (if_pos c2).symm.trans hf
      refine r_iconst S dX12_beginsOne_50 ?_
      refine lv_goto (tgt := 55) S.1 S.2.1 dX12_beginsOne_51 (by decide) ?_
      have e1 := Option.some.inj hf
      subst e1
      exact e_Z S hlk hP hS (Or.inr rfl) hr dX12_beginsOne_55
    · have hf := (if_neg c2).symm.trans hf
      refine lv_iload_n S.1 S.2.1 dX12_beginsOne_33 rfl (lv_at hl 3 rfl) ?_
      refine lv_iload_n S.1 S.2.1 dX12_beginsOne_34 rfl (lv_at hl 2 rfl) ?_
      refine r_iconst S dX12_beginsOne_35 ?_
      refine r_iadd S dX12_beginsOne_36 ?_
      refine lv_icmp_ne (tgt := 54) S.1 S.2.1 dX12_beginsOne_37 (by decide) (fun c3 => ?_) (fun c3 => ?_)
      · have hf := (if_neg c3).symm.trans hf
        refine r_iconst S dX12_beginsOne_54 ?_
        have e1 := Option.some.inj hf
        subst e1
        exact e_Z S hlk hP hS (Or.inl rfl) hr dX12_beginsOne_55
      · have hf := (if_pos c3).symm.trans hf
        refine lv_aload_n S.1 S.2.1 dX12_beginsOne_40 rfl (lv_at hl 0 rfl) ?_
        refine r_get S hK hP (by decide) rfl rfl h_X12_beginsOne_X12 13 (by decide) k_X12_beginsOne_2 rfl dX12_beginsOne_41 ?_
        refine lv_iload_n S.1 S.2.1 dX12_beginsOne_44 rfl (lv_at hl 2 rfl) ?_
        obtain ⟨g4, hf⟩ := gd_some hf
        refine r_iald S hK hP (by decide) (n := 6) (fun _ => rfl) (by decide) g4 dX12_beginsOne_45 ?_
        refine lv_iload_n S.1 S.2.1 dX12_beginsOne_46 rfl (lv_at hl 1 rfl) ?_
        refine lv_icmp_ne (tgt := 54) S.1 S.2.1 dX12_beginsOne_47 (by decide) (fun c5 => ?_) (fun c5 => ?_)
        · have hf := (if_neg c5).symm.trans hf
          refine r_iconst S dX12_beginsOne_54 ?_
          have e1 := Option.some.inj hf
          subst e1
          exact e_Z S hlk hP hS (Or.inl rfl) hr dX12_beginsOne_55
        · have hf := (if_pos c5).symm.trans hf
          refine r_iconst S dX12_beginsOne_50 ?_
          refine lv_goto (tgt := 55) S.1 S.2.1 dX12_beginsOne_51 (by decide) ?_
          have e1 := Option.some.inj hf
          subst e1
          exact e_Z S hlk hP hS (Or.inr rfl) hr dX12_beginsOne_55
  · have hf := (if_neg c1).symm.trans hf
    refine lv_aload_n S.1 S.2.1 dX12_beginsOne_6 rfl (lv_at hl 0 rfl) ?_
    refine r_get S hK hP (by decide) rfl rfl h_X12_beginsOne_X12 23 (by decide) k_X12_beginsOne_1 rfl dX12_beginsOne_7 ?_
    refine r_bipush S dX12_beginsOne_10 (by decide) ?_
    refine lv_iload_n S.1 S.2.1 dX12_beginsOne_12 rfl (lv_at hl 1 rfl) ?_
    refine r_bipush S dX12_beginsOne_13 (by decide) ?_
    refine r_isub S dX12_beginsOne_15 ?_
    refine r_imul S dX12_beginsOne_16 ?_
    refine r_bipush S dX12_beginsOne_17 (by decide) ?_
    refine lv_iload_n S.1 S.2.1 dX12_beginsOne_19 rfl (lv_at hl 2 rfl) ?_
    refine r_imul S dX12_beginsOne_20 ?_
    refine r_iadd S dX12_beginsOne_21 ?_
    refine lv_iload_n S.1 S.2.1 dX12_beginsOne_22 rfl (lv_at hl 3 rfl) ?_
    refine r_iadd S dX12_beginsOne_23 ?_
    obtain ⟨g6, hf⟩ := gd_some hf
    refine r_zald S hK hP (by decide) (n := 294) (fun _ => rfl) (by decide) g6 dX12_beginsOne_24 ?_
    refine lv_goto (tgt := 55) S.1 S.2.1 dX12_beginsOne_25 (by decide) ?_
    obtain ⟨hb7, hf⟩ := gd_some hf
    have e1 := Option.some.inj hf
    subst e1
    exact e_Z S hlk hP hS hb7 hr dX12_beginsOne_55
def rm_X12_comes : Room := { frames := 0, cells := 0, slots := 0, locals := 0 }
theorem k_X12_comes_1 : (.fieldLink RX12 37 "MendTextsModel" "cost" "[I" : Cond) ∈ wsX12_comes := List.mem_of_getElem? (i := 1) (by decide +kernel)
theorem k_X12_comes_2 : (.constant RX12 124 (100000000) : Cond) ∈ wsX12_comes := List.mem_of_getElem? (i := 2) (by decide +kernel)
theorem h_X12_comes_X12 : ∀ w ∈ u_ws RX12 TX12 36, w ∈ wsX12_comes := mem_places _ [3, 4, 5, 6, 7, 8, 9, 10, 11, 12, 13, 14, 15, 16, 17, 18, 19, 20, 21, 22, 23, 24, 25, 26, 27, 28, 29, 30, 31, 32, 33, 34, 35, 36, 37, 38] (by decide +kernel)
set_option maxHeartbeats 4000000 in
set_option maxRecDepth 100000 in
theorem c_X12_comes (l : Launch) (D : va_G) (cy : Nat → ClassId) (ad : Nat → Nat) (hO : adOK 28 ad) (a0 : Int) (σ : Mem) {v : Int} (hf : f_X12_comes a0 σ = some v) : Met l yX12_comes wsX12_comes rm_X12_comes (va_Pc [.ref (ad 0), .int (zI a0)] (PreW D cy 28 (cellM cy ad) ad σ)) (QI D 28 (cellM cy ad) ad v σ) 0 0 (AC 28 ad) := by
  refine r_met (cc := cX12_comes) (maxL := 2) (ret := (some .boolean)) (own := RX12) (by decide) rfl rfl [.ref (ad 0), .int (zI a0)] (Nat.le_of_ble_eq_true rfl) ?_
  intro p e s m below meth c ls S hK hP hlk hr hl
  have hS : va_S (AC 28 ad) s.heap s.heap [] := va_S.rf
  have hl : lv_has ls 2 [(0, .ref (ad 0)), (1, .int (zI a0))] := hl
  unfold f_X12_comes at hf
  refine lv_iload_n S.1 S.2.1 dX12_comes_0 rfl (lv_at hl 1 rfl) ?_
  refine r_bipush S dX12_comes_1 (by decide) ?_
  refine lv_icmp_lt (tgt := 23) S.1 S.2.1 dX12_comes_3 (by decide) (fun c1 => ?_) (fun c1 => ?_)
  · have hf := (if_pos c1).symm.trans hf
    refine r_iconst S dX12_comes_23 ?_
    refine lv_goto (tgt := 28) S.1 S.2.1 dX12_comes_24 (by decide) ?_
    have e1 := Option.some.inj hf
    subst e1
    exact e_Z S hlk hP hS (Or.inr rfl) hr dX12_comes_28
  · have hf := (if_neg c1).symm.trans hf
    refine lv_aload_n S.1 S.2.1 dX12_comes_6 rfl (lv_at hl 0 rfl) ?_
    refine r_get S hK hP (by decide) rfl rfl h_X12_comes_X12 14 (by decide) k_X12_comes_1 rfl dX12_comes_7 ?_
    refine r_bipush S dX12_comes_10 (by decide) ?_
    refine lv_iload_n S.1 S.2.1 dX12_comes_12 rfl (lv_at hl 1 rfl) ?_
    refine r_bipush S dX12_comes_13 (by decide) ?_
    refine r_isub S dX12_comes_15 ?_
    refine r_imul S dX12_comes_16 ?_
    obtain ⟨g2, hf⟩ := gd_some hf
    refine r_iald S hK hP (by decide) (n := 294) (fun _ => rfl) (by decide) g2 dX12_comes_17 ?_
    refine r_ldc S 100000000 (by decide +kernel) k_X12_comes_2 dX12_comes_18 ?_
    refine lv_icmp_ge (tgt := 27) S.1 S.2.1 dX12_comes_20 (by decide) (fun c3 => ?_) (fun c3 => ?_)
    · have hf := (if_pos c3).symm.trans hf
      refine r_iconst S dX12_comes_27 ?_
      have e1 := Option.some.inj hf
      subst e1
      exact e_Z S hlk hP hS (Or.inl rfl) hr dX12_comes_28
    · have hf := (if_neg c3).symm.trans hf
      refine r_iconst S dX12_comes_23 ?_
      refine lv_goto (tgt := 28) S.1 S.2.1 dX12_comes_24 (by decide) ?_
      have e1 := Option.some.inj hf
      subst e1
      exact e_Z S hlk hP hS (Or.inr rfl) hr dX12_comes_28
def rm_X12_makes : Room := { frames := 0, cells := 0, slots := 0, locals := 0 }
theorem k_X12_makes_1 : (.fieldLink RX12 37 "MendTextsModel" "cost" "[I" : Cond) ∈ wsX12_makes := List.mem_of_getElem? (i := 1) (by decide +kernel)
theorem k_X12_makes_2 : (.fieldLink RX12 34 "MendTextsModel" "hand" "[I" : Cond) ∈ wsX12_makes := List.mem_of_getElem? (i := 2) (by decide +kernel)
theorem h_X12_makes_X12 : ∀ w ∈ u_ws RX12 TX12 36, w ∈ wsX12_makes := mem_places _ [3, 4, 5, 6, 7, 8, 9, 10, 11, 12, 13, 14, 15, 16, 17, 18, 19, 20, 21, 22, 23, 24, 25, 26, 27, 28, 29, 30, 31, 32, 33, 34, 35, 36, 37, 38] (by decide +kernel)
set_option maxHeartbeats 4000000 in
set_option maxRecDepth 100000 in
theorem c_X12_makes (l : Launch) (D : va_G) (cy : Nat → ClassId) (ad : Nat → Nat) (hO : adOK 28 ad) (a0 : Int) (a1 : Int) (a2 : Int) (σ : Mem) {v : Int} (hf : f_X12_makes a0 a1 a2 σ = some v) : Met l yX12_makes wsX12_makes rm_X12_makes (va_Pc [.ref (ad 0), .int (zI a0), .int (zI a1), .int (zI a2)] (PreW D cy 28 (cellM cy ad) ad σ)) (QI D 28 (cellM cy ad) ad v σ) 0 0 (AC 28 ad) := by
  refine r_met (cc := cX12_makes) (maxL := 4) (ret := (some .boolean)) (own := RX12) (by decide) rfl rfl [.ref (ad 0), .int (zI a0), .int (zI a1), .int (zI a2)] (Nat.le_of_ble_eq_true rfl) ?_
  intro p e s m below meth c ls S hK hP hlk hr hl
  have hS : va_S (AC 28 ad) s.heap s.heap [] := va_S.rf
  have hl : lv_has ls 4 [(0, .ref (ad 0)), (1, .int (zI a0)), (2, .int (zI a1)), (3, .int (zI a2))] := hl
  unfold f_X12_makes at hf
  refine lv_iload_n S.1 S.2.1 dX12_makes_0 rfl (lv_at hl 1 rfl) ?_
  refine r_bipush S dX12_makes_1 (by decide) ?_
  refine lv_icmp_lt (tgt := 36) S.1 S.2.1 dX12_makes_3 (by decide) (fun c1 => ?_) (fun c1 => ?_)
  · have hf := (if_pos c1).symm.trans hf
    refine lv_iload_n S.1 S.2.1 dX12_makes_36 rfl (lv_at hl 3 rfl) ?_
    refine lv_iload_n S.1 S.2.1 dX12_makes_37 rfl (lv_at hl 2 rfl) ?_
    refine r_iconst S dX12_makes_38 ?_
    refine r_iadd S dX12_makes_39 ?_
    refine lv_icmp_ne (tgt := 57) S.1 S.2.1 dX12_makes_40 (by decide) (fun c2 => ?_) (fun c2 => ?_)
    · have hf := (if_neg c2).symm.trans hf
      refine r_iconst S dX12_makes_57 ?_
      have e1 := Option.some.inj hf
      subst e1
      exact e_Z S hlk hP hS (Or.inl rfl) hr dX12_makes_58
    · have hf := (if_pos c2).symm.trans hf
      refine lv_aload_n S.1 S.2.1 dX12_makes_43 rfl (lv_at hl 0 rfl) ?_
      refine r_get S hK hP (by decide) rfl rfl h_X12_makes_X12 13 (by decide) k_X12_makes_2 rfl dX12_makes_44 ?_
      refine lv_iload_n S.1 S.2.1 dX12_makes_47 rfl (lv_at hl 2 rfl) ?_
      obtain ⟨g3, hf⟩ := gd_some hf
      refine r_iald S hK hP (by decide) (n := 6) (fun _ => rfl) (by decide) g3 dX12_makes_48 ?_
      refine lv_iload_n S.1 S.2.1 dX12_makes_49 rfl (lv_at hl 1 rfl) ?_
      refine lv_icmp_ne (tgt := 57) S.1 S.2.1 dX12_makes_50 (by decide) (fun c4 => ?_) (fun c4 => ?_)
      · have hf := (if_neg c4).symm.trans hf
        refine r_iconst S dX12_makes_57 ?_
        have e1 := Option.some.inj hf
        subst e1
        exact e_Z S hlk hP hS (Or.inl rfl) hr dX12_makes_58
      · have hf := (if_pos c4).symm.trans hf
        refine r_iconst S dX12_makes_53 ?_
        refine lv_goto (tgt := 58) S.1 S.2.1 dX12_makes_54 (by decide) ?_
        have e1 := Option.some.inj hf
        subst e1
        exact e_Z S hlk hP hS (Or.inr rfl) hr dX12_makes_58
  · have hf := (if_neg c1).symm.trans hf
    refine lv_aload_n S.1 S.2.1 dX12_makes_6 rfl (lv_at hl 0 rfl) ?_
    refine r_get S hK hP (by decide) rfl rfl h_X12_makes_X12 14 (by decide) k_X12_makes_1 rfl dX12_makes_7 ?_
    refine r_bipush S dX12_makes_10 (by decide) ?_
    refine lv_iload_n S.1 S.2.1 dX12_makes_12 rfl (lv_at hl 1 rfl) ?_
    refine r_bipush S dX12_makes_13 (by decide) ?_
    refine r_isub S dX12_makes_15 ?_
    refine r_imul S dX12_makes_16 ?_
    refine r_bipush S dX12_makes_17 (by decide) ?_
    refine lv_iload_n S.1 S.2.1 dX12_makes_19 rfl (lv_at hl 2 rfl) ?_
    refine r_imul S dX12_makes_20 ?_
    refine r_iadd S dX12_makes_21 ?_
    refine lv_iload_n S.1 S.2.1 dX12_makes_22 rfl (lv_at hl 3 rfl) ?_
    refine r_iadd S dX12_makes_23 ?_
    obtain ⟨g5, hf⟩ := gd_some hf
    refine r_iald S hK hP (by decide) (n := 294) (fun _ => rfl) (by decide) g5 dX12_makes_24 ?_
    refine r_if_ne (tgt := 32) S dX12_makes_25 (by decide) (fun c6 => ?_) (fun c6 => ?_)
    · have hf := (if_neg c6).symm.trans hf
      refine r_iconst S dX12_makes_32 ?_
      refine lv_goto (tgt := 58) S.1 S.2.1 dX12_makes_33 (by decide) ?_
      have e1 := Option.some.inj hf
      subst e1
      exact e_Z S hlk hP hS (Or.inl rfl) hr dX12_makes_58
    · have hf := (if_pos c6).symm.trans hf
      refine r_iconst S dX12_makes_28 ?_
      refine lv_goto (tgt := 58) S.1 S.2.1 dX12_makes_29 (by decide) ?_
      have e1 := Option.some.inj hf
      subst e1
      exact e_Z S hlk hP hS (Or.inr rfl) hr dX12_makes_58
def rm_X12_beginsRule : Room := { frames := 1, cells := 0, slots := 0, locals := 23 }
theorem k_X12_beginsRule_1 : (.fieldLink RX12 16 "MendTextsModel" "sizes" "[I" : Cond) ∈ wsX12_beginsRule := List.mem_of_getElem? (i := 1) (by decide +kernel)
theorem k_X12_beginsRule_2 : (.fieldLink RX12 59 "MendTextsModel" "ends" "[Z" : Cond) ∈ wsX12_beginsRule := List.mem_of_getElem? (i := 2) (by decide +kernel)
theorem k_X12_beginsRule_3 : (.fieldLink RX12 19 "MendTextsModel" "parts" "[I" : Cond) ∈ wsX12_beginsRule := List.mem_of_getElem? (i := 3) (by decide +kernel)
theorem h_X12_beginsRule_X12 : ∀ w ∈ u_ws RX12 TX12 36, w ∈ wsX12_beginsRule := mem_places _ [21, 22, 23, 24, 25, 26, 27, 28, 29, 30, 31, 32, 33, 34, 35, 36, 37, 38, 39, 40, 41, 42, 43, 44, 45, 46, 47, 48, 49, 50, 51, 52, 53, 54, 55, 56] (by decide +kernel)
theorem cw_X12_beginsRule_X12_beginsOne {s : State} {args : Array Value} (hts : ∀ w ∈ wsX12_beginsRule, w.before args s = true) : CallW rm_X12_beginsRule s args RX12 RX12 153 yX12_beginsOne cX12_beginsOne 4 (some .boolean) wsX12_beginsOne rm_X12_beginsOne 0 0 3 := cwV 3 hts gX12_beginsRule_X12_beginsOne rfl rfl rfl (by decide +kernel) ⟨Nat.le_of_ble_eq_true rfl, Nat.le_of_ble_eq_true rfl⟩
theorem cw_X12_beginsRule_X12_comes {s : State} {args : Array Value} (hts : ∀ w ∈ wsX12_beginsRule, w.before args s = true) : CallW rm_X12_beginsRule s args RX12 RX12 150 yX12_comes cX12_comes 2 (some .boolean) wsX12_comes rm_X12_comes 0 0 1 := cwV 1 hts gX12_beginsRule_X12_comes rfl rfl rfl (by decide +kernel) ⟨Nat.le_of_ble_eq_true rfl, Nat.le_of_ble_eq_true rfl⟩
theorem cw_X12_beginsRule_X12_makes {s : State} {args : Array Value} (hts : ∀ w ∈ wsX12_beginsRule, w.before args s = true) : CallW rm_X12_beginsRule s args RX12 RX12 156 yX12_makes cX12_makes 4 (some .boolean) wsX12_makes rm_X12_makes 0 0 3 := cwV 3 hts gX12_beginsRule_X12_makes rfl rfl rfl (by decide +kernel) ⟨Nat.le_of_ble_eq_true rfl, Nat.le_of_ble_eq_true rfl⟩
set_option maxHeartbeats 4000000 in
set_option maxRecDepth 100000 in
theorem w_X12_beginsRule_L19 {p : Program} {l : Launch} {e : Env} {s : State} {m : MethodId} {args : Array Value} {below : List Frame} {meth : Method} {c : Code} {Q : State → Prop} {D : va_G} {cy : Nat → ClassId} {ad : Nat → Nat} {H0 : Heap} (hO : adOK 28 ad) (S : CallFix p m c cX12_beginsRule 10 s args wsX12_beginsRule RX12) (hK : KK D cy s) (n : Nat) (x3_ : Int) (x4_ : Int) (x5_ : Int) (x6_ : Int) {res : Mem} (k0 : ∀ (τ : Mem) (H2 : Heap) (locs2 : List Loc) (ls2 : Array Slot), res = τ → va_P D vwCl (WW 28 (cellM cy ad) ad τ) H2 → va_S (AC 28 ad) H0 H2 locs2 → lv_has ls2 10 [(0, .ref (ad 0)), (3, .int (zI x3_)), (4, .int (zI x4_)), (5, .int (zI x5_)), (6, .int (zI x6_))] → W p l e rm_X12_beginsRule s m args below meth c H2 locs2 0 0 Q (F0 m 50 ls2 [])) :
    ∀ (k : Nat) (x7_ : Int) (σ : Mem) (H : Heap) (locs : List Loc) (ls : Array Slot), f_X12_beginsRule_L19 n x3_ x4_ x5_ x6_ k x7_ σ = some res → va_P D vwCl (WW 28 (cellM cy ad) ad σ) H → va_S (AC 28 ad) H0 H locs → lv_has ls 10 [(0, .ref (ad 0)), (3, .int (zI x3_)), (4, .int (zI x4_)), (5, .int (zI x5_)), (6, .int (zI x6_)), (7, .int (zI x7_))] → W p l e rm_X12_beginsRule s m args below meth c H locs 0 0 Q (F0 m 19 ls []) := by
  intro k
  induction k with
  | zero =>
    intro x7_ σ H locs ls hf
    have hf : none = some res := hf
    cases hf
  | succ k ih =>
    intro x7_ σ H locs ls hf hP hS hl
    rw [f_X12_beginsRule_L19] at hf
    refine lv_iload S.1 S.2.1 dX12_beginsRule_19 (lv_at hl 5 rfl) ?_
    refine r_bipush S dX12_beginsRule_21 (by decide) ?_
    refine lv_icmp_ge (tgt := 50) S.1 S.2.1 dX12_beginsRule_23 (by decide) (fun c1 => ?_) (fun c1 => ?_)
    · have hf := (if_pos c1).symm.trans hf
      exact k0 _ _ _ _ (Option.some.inj hf).symm hP hS (lv_sub hl [0, 1, 2, 3, 4] rfl)
    · have hf := (if_neg c1).symm.trans hf
      refine lv_aload_n S.1 S.2.1 dX12_beginsRule_26 rfl (lv_at hl 0 rfl) ?_
      refine r_get S hK hP (by decide) rfl rfl h_X12_beginsRule_X12 24 (by decide) k_X12_beginsRule_2 rfl dX12_beginsRule_27 ?_
      refine lv_iload S.1 S.2.1 dX12_beginsRule_30 (lv_at hl 5 rfl) ?_
      refine lv_iload S.1 S.2.1 dX12_beginsRule_32 (lv_at hl 5 rfl) ?_
      refine lv_iload_n S.1 S.2.1 dX12_beginsRule_34 rfl (lv_at hl 1 rfl) ?_
      obtain ⟨v2, hq, hf⟩ := bV_some hf
      have kJ0 : ∀ (H : Heap) (locs : List Loc) (ls : Array Slot), va_P D vwCl (WW 28 (cellM cy ad) ad σ) H → va_S (AC 28 ad) H0 H locs → lv_has ls 10 [(0, .ref (ad 0)), (3, .int (zI x3_)), (4, .int (zI x4_)), (5, .int (zI x5_)), (6, .int (zI x6_)), (7, .int (zI x7_))] → W p l e rm_X12_beginsRule s m args below meth c H locs 0 0 Q (F0 m 43 ls [.int (zI v2), .int (zI x7_), .ref (ad 17)]) := by
        intro H locs ls hP hS hl
        obtain ⟨g4, hf⟩ := gd_some hf
        obtain ⟨hb5, hf⟩ := gd_some hf
        obtain ⟨σ6, hσ6, hf⟩ := nm_some hf
        refine r_zast S hK hP hO hS (by decide) (n := 35) (fun _ => rfl) (by decide) g4 hb5 hσ6 dX12_beginsRule_43 (fun H locs hP hS => ?_)
        obtain ⟨x7, hx7, hf⟩ := nm_some hf
        refine r_iinc S hx7 (k0 := 5) (lv2 := [(7, .int (zI x7)), (0, .ref (ad 0)), (3, .int (zI x3_)), (4, .int (zI x4_)), (5, .int (zI x5_)), (6, .int (zI x6_))]) dX12_beginsRule_44 hl rfl (by decide) rfl (fun ls hl => ?_)
        refine lv_goto (tgt := 19) S.1 S.2.1 dX12_beginsRule_47 (by decide) ?_
        exact ih x7 σ6 _ _ _ hf hP hS (lv_sub hl [1, 2, 3, 4, 5, 0] rfl)
      clear hf
      have hf := hq
      refine lv_icmp_ne (tgt := 42) S.1 S.2.1 dX12_beginsRule_35 (by decide) (fun c3 => ?_) (fun c3 => ?_)
      · have hf := (if_neg c3).symm.trans hf
        refine r_iconst S dX12_beginsRule_42 ?_
        have e1 := Option.some.inj hf
        subst e1
        exact kJ0 _ _ _ hP hS (lv_sub hl [0, 1, 2, 3, 4, 5] rfl)
      · have hf := (if_pos c3).symm.trans hf
        refine r_iconst S dX12_beginsRule_38 ?_
        refine lv_goto (tgt := 43) S.1 S.2.1 dX12_beginsRule_39 (by decide) ?_
        have e1 := Option.some.inj hf
        subst e1
        exact kJ0 _ _ _ hP hS (lv_sub hl [0, 1, 2, 3, 4, 5] rfl)
set_option maxHeartbeats 4000000 in
set_option maxRecDepth 100000 in
theorem w_X12_beginsRule_L53 {p : Program} {l : Launch} {e : Env} {s : State} {m : MethodId} {args : Array Value} {below : List Frame} {meth : Method} {c : Code} {Q : State → Prop} {D : va_G} {cy : Nat → ClassId} {ad : Nat → Nat} {H0 : Heap} (hO : adOK 28 ad) (S : CallFix p m c cX12_beginsRule 10 s args wsX12_beginsRule RX12) (hK : KK D cy s) (n : Nat) (x3_ : Int) (x4_ : Int) (x5_ : Int) (x6_ : Int) (σ : Mem) {res : Nat} (k0 : ∀ (H2 : Heap) (locs2 : List Loc) (ls2 : Array Slot), res = 0 → va_P D vwCl (WW 28 (cellM cy ad) ad σ) H2 → va_S (AC 28 ad) H0 H2 locs2 → lv_has ls2 10 [] → W p l e rm_X12_beginsRule s m args below meth c H2 locs2 0 0 Q (F0 m 79 ls2 [])) (k1 : ∀ (H2 : Heap) (locs2 : List Loc) (ls2 : Array Slot), res = 1 → va_P D vwCl (WW 28 (cellM cy ad) ad σ) H2 → va_S (AC 28 ad) H0 H2 locs2 → lv_has ls2 10 [(0, .ref (ad 0)), (3, .int (zI x3_)), (4, .int (zI x4_)), (5, .int (zI x5_)), (6, .int (zI x6_))] → W p l e rm_X12_beginsRule s m args below meth c H2 locs2 0 0 Q (F0 m 87 ls2 [])) :
    ∀ (k : Nat) (x7_ : Int) (H : Heap) (locs : List Loc) (ls : Array Slot), f_X12_beginsRule_L53 n x3_ x4_ x5_ x6_ σ k x7_ = some res → va_P D vwCl (WW 28 (cellM cy ad) ad σ) H → va_S (AC 28 ad) H0 H locs → lv_has ls 10 [(0, .ref (ad 0)), (3, .int (zI x3_)), (4, .int (zI x4_)), (5, .int (zI x5_)), (6, .int (zI x6_)), (7, .int (zI x7_))] → W p l e rm_X12_beginsRule s m args below meth c H locs 0 0 Q (F0 m 53 ls []) := by
  intro k
  induction k with
  | zero =>
    intro x7_ H locs ls hf
    have hf : none = some res := hf
    cases hf
  | succ k ih =>
    intro x7_ H locs ls hf hP hS hl
    rw [f_X12_beginsRule_L53] at hf
    refine lv_iload S.1 S.2.1 dX12_beginsRule_53 (lv_at hl 5 rfl) ?_
    refine lv_iload S.1 S.2.1 dX12_beginsRule_55 (lv_at hl 4 rfl) ?_
    refine lv_icmp_ge (tgt := 87) S.1 S.2.1 dX12_beginsRule_57 (by decide) (fun c1 => ?_) (fun c1 => ?_)
    · have hf := (if_pos c1).symm.trans hf
      exact k1 _ _ _ (Option.some.inj hf).symm hP hS (lv_sub hl [0, 1, 2, 3, 4] rfl)
    · have hf := (if_neg c1).symm.trans hf
      refine lv_aload_n S.1 S.2.1 dX12_beginsRule_60 rfl (lv_at hl 0 rfl) ?_
      refine lv_aload_n S.1 S.2.1 dX12_beginsRule_61 rfl (lv_at hl 0 rfl) ?_
      refine r_get S hK hP (by decide) rfl rfl h_X12_beginsRule_X12 4 (by decide) k_X12_beginsRule_3 rfl dX12_beginsRule_62 ?_
      refine r_iconst S dX12_beginsRule_65 ?_
      refine lv_iload S.1 S.2.1 dX12_beginsRule_66 (lv_at hl 3 rfl) ?_
      refine r_imul S dX12_beginsRule_68 ?_
      refine lv_iload S.1 S.2.1 dX12_beginsRule_69 (lv_at hl 5 rfl) ?_
      refine r_iadd S dX12_beginsRule_71 ?_
      obtain ⟨g2, hf⟩ := gd_some hf
      refine r_iald S hK hP (by decide) (n := 120) (fun _ => rfl) (by decide) g2 dX12_beginsRule_72 ?_
      obtain ⟨y4, hq3, hf⟩ := bV_some hf
      refine r_callVI S hK hP hS (by decide) rfl rfl [.int (zI (σ 4 ((4 * x5_) + x7_).toNat))] (c_X12_comes l D cy ad hO (σ 4 ((4 * x5_) + x7_).toNat) σ hq3) (cw_X12_beginsRule_X12_comes S.2.2.2.2) rfl hl.1 (rest := []) rfl (Nat.le_of_ble_eq_true rfl) dX12_beginsRule_73 ⟨Nat.zero_le _, Nat.zero_le _⟩ (fun H locs hP hS => ?_)
      refine r_if_ne (tgt := 81) S dX12_beginsRule_76 (by decide) (fun c5 => ?_) (fun c5 => ?_)
      · have hf := (if_neg c5).symm.trans hf
        obtain ⟨x6, hx6, hf⟩ := nm_some hf
        refine r_iinc S hx6 (k0 := 5) (lv2 := [(7, .int (zI x6)), (0, .ref (ad 0)), (3, .int (zI x3_)), (4, .int (zI x4_)), (5, .int (zI x5_)), (6, .int (zI x6_))]) dX12_beginsRule_81 hl rfl (by decide) rfl (fun ls hl => ?_)
        refine lv_goto (tgt := 53) S.1 S.2.1 dX12_beginsRule_84 (by decide) ?_
        exact ih x6 _ _ _ hf hP hS (lv_sub hl [1, 2, 3, 4, 5, 0] rfl)
      · have hf := (if_pos c5).symm.trans hf
        exact k0 _ _ _ (Option.some.inj hf).symm hP hS (lv_sub hl [] rfl)
set_option maxHeartbeats 4000000 in
set_option maxRecDepth 100000 in
theorem w_X12_beginsRule_L152 {p : Program} {l : Launch} {e : Env} {s : State} {m : MethodId} {args : Array Value} {below : List Frame} {meth : Method} {c : Code} {Q : State → Prop} {D : va_G} {cy : Nat → ClassId} {ad : Nat → Nat} {H0 : Heap} (hO : adOK 28 ad) (S : CallFix p m c cX12_beginsRule 10 s args wsX12_beginsRule RX12) (hK : KK D cy s) (n : Nat) (x3_ : Int) (x4_ : Int) (x5_ : Int) (x6_ : Int) (x7_ : Int) (x8_ : Int) {res : Mem} (k0 : ∀ (τ : Mem) (H2 : Heap) (locs2 : List Loc) (ls2 : Array Slot), res = τ → va_P D vwCl (WW 28 (cellM cy ad) ad τ) H2 → va_S (AC 28 ad) H0 H2 locs2 → lv_has ls2 10 [(0, .ref (ad 0)), (3, .int (zI x3_)), (4, .int (zI x4_)), (5, .int (zI x5_)), (6, .int (zI x6_)), (7, .int (zI x7_)), (8, .int (zI x8_))] → W p l e rm_X12_beginsRule s m args below meth c H2 locs2 0 0 Q (F0 m 242 ls2 [])) :
    ∀ (k : Nat) (x9_ : Int) (σ : Mem) (H : Heap) (locs : List Loc) (ls : Array Slot), f_X12_beginsRule_L152 n x3_ x4_ x5_ x6_ x7_ x8_ k x9_ σ = some res → va_P D vwCl (WW 28 (cellM cy ad) ad σ) H → va_S (AC 28 ad) H0 H locs → lv_has ls 10 [(0, .ref (ad 0)), (3, .int (zI x3_)), (4, .int (zI x4_)), (5, .int (zI x5_)), (6, .int (zI x6_)), (7, .int (zI x7_)), (8, .int (zI x8_)), (9, .int (zI x9_))] → W p l e rm_X12_beginsRule s m args below meth c H locs 0 0 Q (F0 m 152 ls []) := by
  intro k
  induction k with
  | zero =>
    intro x9_ σ H locs ls hf
    have hf : none = some res := hf
    cases hf
  | succ k ih =>
    intro x9_ σ H locs ls hf hP hS hl
    rw [f_X12_beginsRule_L152] at hf
    refine lv_iload S.1 S.2.1 dX12_beginsRule_152 (lv_at hl 7 rfl) ?_
    refine lv_iload S.1 S.2.1 dX12_beginsRule_154 (lv_at hl 2 rfl) ?_
    refine lv_icmp_gt (tgt := 242) S.1 S.2.1 dX12_beginsRule_156 (by decide) (fun c1 => ?_) (fun c1 => ?_)
    · have hf := (if_pos c1).symm.trans hf
      exact k0 _ _ _ _ (Option.some.inj hf).symm hP hS (lv_sub hl [0, 1, 2, 3, 4, 5, 6] rfl)
    · have hf := (if_neg c1).symm.trans hf
      refine lv_aload_n S.1 S.2.1 dX12_beginsRule_159 rfl (lv_at hl 0 rfl) ?_
      refine r_get S hK hP (by decide) rfl rfl h_X12_beginsRule_X12 24 (by decide) k_X12_beginsRule_2 rfl dX12_beginsRule_160 ?_
      refine r_bipush S dX12_beginsRule_163 (by decide) ?_
      refine lv_iload S.1 S.2.1 dX12_beginsRule_165 (lv_at hl 5 rfl) ?_
      refine r_imul S dX12_beginsRule_167 ?_
      refine lv_iload S.1 S.2.1 dX12_beginsRule_168 (lv_at hl 6 rfl) ?_
      refine r_iadd S dX12_beginsRule_170 ?_
      obtain ⟨g2, hf⟩ := gd_some hf
      refine r_zald S hK hP (by decide) (n := 35) (fun _ => rfl) (by decide) g2 dX12_beginsRule_171 ?_
      refine r_if_eq (tgt := 242) S dX12_beginsRule_172 (by decide) (fun c3 => ?_) (fun c3 => ?_)
      · have hf := (if_pos c3).symm.trans hf
        exact k0 _ _ _ _ (Option.some.inj hf).symm hP hS (lv_sub hl [0, 1, 2, 3, 4, 5, 6] rfl)
      · have hf := (if_neg c3).symm.trans hf
        refine lv_aload_n S.1 S.2.1 dX12_beginsRule_175 rfl (lv_at hl 0 rfl) ?_
        refine r_get S hK hP (by decide) rfl rfl h_X12_beginsRule_X12 24 (by decide) k_X12_beginsRule_2 rfl dX12_beginsRule_176 ?_
        refine r_bipush S dX12_beginsRule_179 (by decide) ?_
        refine lv_iload S.1 S.2.1 dX12_beginsRule_181 (lv_at hl 5 rfl) ?_
        refine r_iconst S dX12_beginsRule_183 ?_
        refine r_iadd S dX12_beginsRule_184 ?_
        refine r_imul S dX12_beginsRule_185 ?_
        refine lv_iload S.1 S.2.1 dX12_beginsRule_186 (lv_at hl 7 rfl) ?_
        refine r_iadd S dX12_beginsRule_188 ?_
        refine lv_aload_n S.1 S.2.1 dX12_beginsRule_189 rfl (lv_at hl 0 rfl) ?_
        refine r_get S hK hP (by decide) rfl rfl h_X12_beginsRule_X12 24 (by decide) k_X12_beginsRule_2 rfl dX12_beginsRule_190 ?_
        refine r_bipush S dX12_beginsRule_193 (by decide) ?_
        refine lv_iload S.1 S.2.1 dX12_beginsRule_195 (lv_at hl 5 rfl) ?_
        refine r_iconst S dX12_beginsRule_197 ?_
        refine r_iadd S dX12_beginsRule_198 ?_
        refine r_imul S dX12_beginsRule_199 ?_
        refine lv_iload S.1 S.2.1 dX12_beginsRule_200 (lv_at hl 7 rfl) ?_
        refine r_iadd S dX12_beginsRule_202 ?_
        obtain ⟨g4, hf⟩ := gd_some hf
        refine r_zald S hK hP (by decide) (n := 35) (fun _ => rfl) (by decide) g4 dX12_beginsRule_203 ?_
        obtain ⟨t5, hq, hf⟩ := bV_some hf
        have kJ0 : t5 = 0 → ∀ (H : Heap) (locs : List Loc) (ls : Array Slot), va_P D vwCl (WW 28 (cellM cy ad) ad σ) H → va_S (AC 28 ad) H0 H locs → lv_has ls 10 [(0, .ref (ad 0)), (3, .int (zI x3_)), (4, .int (zI x4_)), (5, .int (zI x5_)), (6, .int (zI x6_)), (7, .int (zI x7_)), (8, .int (zI x8_)), (9, .int (zI x9_))] → W p l e rm_X12_beginsRule s m args below meth c H locs 0 0 Q (F0 m 230 ls [.int (zI ((7 * (x7_ + 1)) + x9_)), .ref (ad 17)]) := by
          intro ht
          intro H locs ls hP hS hl
          have hf := (if_pos ht).symm.trans hf
          refine r_iconst S dX12_beginsRule_230 ?_
          refine lv_goto (tgt := 235) S.1 S.2.1 dX12_beginsRule_231 (by decide) ?_
          obtain ⟨σ11, hσ11, hf⟩ := nm_some hf
          refine r_zast S hK hP hO hS (by decide) (n := 35) (fun _ => rfl) (by decide) g4 (Or.inr rfl) hσ11 dX12_beginsRule_235 (fun H locs hP hS => ?_)
          obtain ⟨x12, hx12, hf⟩ := nm_some hf
          refine r_iinc S hx12 (k0 := 7) (lv2 := [(9, .int (zI x12)), (0, .ref (ad 0)), (3, .int (zI x3_)), (4, .int (zI x4_)), (5, .int (zI x5_)), (6, .int (zI x6_)), (7, .int (zI x7_)), (8, .int (zI x8_))]) dX12_beginsRule_236 hl rfl (by decide) rfl (fun ls hl => ?_)
          refine lv_goto (tgt := 152) S.1 S.2.1 dX12_beginsRule_239 (by decide) ?_
          exact ih x12 σ11 _ _ _ hf hP hS (lv_sub hl [1, 2, 3, 4, 5, 6, 7, 0] rfl)
        have kJ1 : t5 = 1 → ∀ (H : Heap) (locs : List Loc) (ls : Array Slot), va_P D vwCl (WW 28 (cellM cy ad) ad σ) H → va_S (AC 28 ad) H0 H locs → lv_has ls 10 [(0, .ref (ad 0)), (3, .int (zI x3_)), (4, .int (zI x4_)), (5, .int (zI x5_)), (6, .int (zI x6_)), (7, .int (zI x7_)), (8, .int (zI x8_)), (9, .int (zI x9_))] → W p l e rm_X12_beginsRule s m args below meth c H locs 0 0 Q (F0 m 234 ls [.int (zI ((7 * (x7_ + 1)) + x9_)), .ref (ad 17)]) := by
          intro ht
          intro H locs ls hP hS hl
          have hf := (if_neg (by rw [ht]; decide)).symm.trans hf
          refine r_iconst S dX12_beginsRule_234 ?_
          obtain ⟨σ13, hσ13, hf⟩ := nm_some hf
          refine r_zast S hK hP hO hS (by decide) (n := 35) (fun _ => rfl) (by decide) g4 (Or.inl rfl) hσ13 dX12_beginsRule_235 (fun H locs hP hS => ?_)
          obtain ⟨x14, hx14, hf⟩ := nm_some hf
          refine r_iinc S hx14 (k0 := 7) (lv2 := [(9, .int (zI x14)), (0, .ref (ad 0)), (3, .int (zI x3_)), (4, .int (zI x4_)), (5, .int (zI x5_)), (6, .int (zI x6_)), (7, .int (zI x7_)), (8, .int (zI x8_))]) dX12_beginsRule_236 hl rfl (by decide) rfl (fun ls hl => ?_)
          refine lv_goto (tgt := 152) S.1 S.2.1 dX12_beginsRule_239 (by decide) ?_
          exact ih x14 σ13 _ _ _ hf hP hS (lv_sub hl [1, 2, 3, 4, 5, 6, 7, 0] rfl)
        clear hf
        have hf := hq
        refine r_if_ne (tgt := 230) S dX12_beginsRule_204 (by decide) (fun c6 => ?_) (fun c6 => ?_)
        · have hf := (if_neg c6).symm.trans hf
          have e1 := Option.some.inj hf
          subst e1
          exact kJ0 rfl _ _ _ hP hS (lv_sub hl [0, 1, 2, 3, 4, 5, 6, 7] rfl)
        · have hf := (if_pos c6).symm.trans hf
          refine lv_aload_n S.1 S.2.1 dX12_beginsRule_207 rfl (lv_at hl 0 rfl) ?_
          refine lv_aload_n S.1 S.2.1 dX12_beginsRule_208 rfl (lv_at hl 0 rfl) ?_
          refine r_get S hK hP (by decide) rfl rfl h_X12_beginsRule_X12 4 (by decide) k_X12_beginsRule_3 rfl dX12_beginsRule_209 ?_
          refine r_iconst S dX12_beginsRule_212 ?_
          refine lv_iload S.1 S.2.1 dX12_beginsRule_213 (lv_at hl 3 rfl) ?_
          refine r_imul S dX12_beginsRule_215 ?_
          refine lv_iload S.1 S.2.1 dX12_beginsRule_216 (lv_at hl 5 rfl) ?_
          refine r_iadd S dX12_beginsRule_218 ?_
          obtain ⟨g7, hf⟩ := gd_some hf
          refine r_iald S hK hP (by decide) (n := 120) (fun _ => rfl) (by decide) g7 dX12_beginsRule_219 ?_
          refine lv_iload S.1 S.2.1 dX12_beginsRule_220 (lv_at hl 6 rfl) ?_
          refine lv_iload S.1 S.2.1 dX12_beginsRule_222 (lv_at hl 7 rfl) ?_
          obtain ⟨y9, hq8, hf⟩ := bV_some hf
          refine r_callVI S hK hP hS (by decide) rfl rfl [.int (zI (σ 4 ((4 * x5_) + x7_).toNat)), .int (zI x8_), .int (zI x9_)] (c_X12_makes l D cy ad hO (σ 4 ((4 * x5_) + x7_).toNat) x8_ x9_ σ hq8) (cw_X12_beginsRule_X12_makes S.2.2.2.2) rfl hl.1 (rest := [.int (zI ((7 * (x7_ + 1)) + x9_)), .ref (ad 17)]) rfl (Nat.le_of_ble_eq_true rfl) dX12_beginsRule_224 ⟨Nat.zero_le _, Nat.zero_le _⟩ (fun H locs hP hS => ?_)
          refine r_if_eq (tgt := 234) S dX12_beginsRule_227 (by decide) (fun c10 => ?_) (fun c10 => ?_)
          · have hf := (if_pos c10).symm.trans hf
            have e1 := Option.some.inj hf
            subst e1
            exact kJ1 rfl _ _ _ hP hS (lv_sub hl [0, 1, 2, 3, 4, 5, 6, 7] rfl)
          · have hf := (if_neg c10).symm.trans hf
            have e1 := Option.some.inj hf
            subst e1
            exact kJ0 rfl _ _ _ hP hS (lv_sub hl [0, 1, 2, 3, 4, 5, 6, 7] rfl)
set_option maxHeartbeats 4000000 in
set_option maxRecDepth 100000 in
theorem w_X12_beginsRule_L100 {p : Program} {l : Launch} {e : Env} {s : State} {m : MethodId} {args : Array Value} {below : List Frame} {meth : Method} {c : Code} {Q : State → Prop} {D : va_G} {cy : Nat → ClassId} {ad : Nat → Nat} {H0 : Heap} (hO : adOK 28 ad) (S : CallFix p m c cX12_beginsRule 10 s args wsX12_beginsRule RX12) (hK : KK D cy s) (n : Nat) (x3_ : Int) (x4_ : Int) (x5_ : Int) (x6_ : Int) (x7_ : Int) {res : Nat × Mem} (k0 : ∀ (τ : Mem) (H2 : Heap) (locs2 : List Loc) (ls2 : Array Slot), res = (0, τ) → va_P D vwCl (WW 28 (cellM cy ad) ad τ) H2 → va_S (AC 28 ad) H0 H2 locs2 → lv_has ls2 10 [] → W p l e rm_X12_beginsRule s m args below meth c H2 locs2 0 0 Q (F0 m 146 ls2 [])) (k1 : ∀ (τ : Mem) (H2 : Heap) (locs2 : List Loc) (ls2 : Array Slot), res = (1, τ) → va_P D vwCl (WW 28 (cellM cy ad) ad τ) H2 → va_S (AC 28 ad) H0 H2 locs2 → lv_has ls2 10 [(0, .ref (ad 0)), (3, .int (zI x3_)), (4, .int (zI x4_)), (5, .int (zI x5_)), (6, .int (zI x6_)), (7, .int (zI x7_))] → W p l e rm_X12_beginsRule s m args below meth c H2 locs2 0 0 Q (F0 m 248 ls2 [])) :
    ∀ (k : Nat) (x8_ : Int) (σ : Mem) (H : Heap) (locs : List Loc) (ls : Array Slot), f_X12_beginsRule_L100 n x3_ x4_ x5_ x6_ x7_ k x8_ σ = some res → va_P D vwCl (WW 28 (cellM cy ad) ad σ) H → va_S (AC 28 ad) H0 H locs → lv_has ls 10 [(0, .ref (ad 0)), (3, .int (zI x3_)), (4, .int (zI x4_)), (5, .int (zI x5_)), (6, .int (zI x6_)), (7, .int (zI x7_)), (8, .int (zI x8_))] → W p l e rm_X12_beginsRule s m args below meth c H locs 0 0 Q (F0 m 100 ls []) := by
  intro k
  induction k with
  | zero =>
    intro x8_ σ H locs ls hf
    have hf : none = some res := hf
    cases hf
  | succ k ih =>
    intro x8_ σ H locs ls hf hP hS hl
    rw [f_X12_beginsRule_L100] at hf
    refine lv_iload S.1 S.2.1 dX12_beginsRule_100 (lv_at hl 6 rfl) ?_
    refine lv_iload S.1 S.2.1 dX12_beginsRule_102 (lv_at hl 2 rfl) ?_
    refine lv_icmp_gt (tgt := 248) S.1 S.2.1 dX12_beginsRule_104 (by decide) (fun c1 => ?_) (fun c1 => ?_)
    · have hf := (if_pos c1).symm.trans hf
      exact k1 _ _ _ _ (Option.some.inj hf).symm hP hS (lv_sub hl [0, 1, 2, 3, 4, 5] rfl)
    · have hf := (if_neg c1).symm.trans hf
      refine lv_aload_n S.1 S.2.1 dX12_beginsRule_107 rfl (lv_at hl 0 rfl) ?_
      refine r_get S hK hP (by decide) rfl rfl h_X12_beginsRule_X12 24 (by decide) k_X12_beginsRule_2 rfl dX12_beginsRule_108 ?_
      refine r_bipush S dX12_beginsRule_111 (by decide) ?_
      refine lv_iload S.1 S.2.1 dX12_beginsRule_113 (lv_at hl 5 rfl) ?_
      refine r_imul S dX12_beginsRule_115 ?_
      refine lv_iload S.1 S.2.1 dX12_beginsRule_116 (lv_at hl 6 rfl) ?_
      refine r_iadd S dX12_beginsRule_118 ?_
      obtain ⟨g2, hf⟩ := gd_some hf
      refine r_zald S hK hP (by decide) (n := 35) (fun _ => rfl) (by decide) g2 dX12_beginsRule_119 ?_
      obtain ⟨t3, hq, hf⟩ := bV_some hf
      have kJ0 : t3 = 0 → ∀ (H : Heap) (locs : List Loc) (ls : Array Slot), va_P D vwCl (WW 28 (cellM cy ad) ad σ) H → va_S (AC 28 ad) H0 H locs → lv_has ls 10 [(0, .ref (ad 0)), (3, .int (zI x3_)), (4, .int (zI x4_)), (5, .int (zI x5_)), (6, .int (zI x6_)), (7, .int (zI x7_)), (8, .int (zI x8_))] → W p l e rm_X12_beginsRule s m args below meth c H locs 0 0 Q (F0 m 148 ls []) := by
        intro ht
        intro H locs ls hP hS hl
        have hf := (if_pos ht).symm.trans hf
        refine lv_iload S.1 S.2.1 dX12_beginsRule_148 (lv_at hl 6 rfl) ?_
        refine r_istore S rfl (lv2 := [(9, .int (zI x8_)), (0, .ref (ad 0)), (3, .int (zI x3_)), (4, .int (zI x4_)), (5, .int (zI x5_)), (6, .int (zI x6_)), (7, .int (zI x7_)), (8, .int (zI x8_))]) dX12_beginsRule_150 hl (by decide) rfl (fun ls hl => ?_)
        obtain ⟨σ9, hq, hf⟩ := bV_some hf
        refine w_X12_beginsRule_L152 hO S hK n x3_ x4_ x5_ x6_ x7_ x8_ (fun σ9 H locs ls he hP hS hl => ?_) n x8_ σ _ _ _ hq hP hS (lv_sub hl [1, 2, 3, 4, 5, 6, 7, 0] rfl)
        cases he
        obtain ⟨x10, hx10, hf⟩ := nm_some hf
        refine r_iinc S hx10 (k0 := 6) (lv2 := [(8, .int (zI x10)), (0, .ref (ad 0)), (3, .int (zI x3_)), (4, .int (zI x4_)), (5, .int (zI x5_)), (6, .int (zI x6_)), (7, .int (zI x7_))]) dX12_beginsRule_242 hl rfl (by decide) rfl (fun ls hl => ?_)
        refine lv_goto (tgt := 100) S.1 S.2.1 dX12_beginsRule_245 (by decide) ?_
        exact ih x10 σ9 _ _ _ hf hP hS (lv_sub hl [1, 2, 3, 4, 5, 6, 0] rfl)
      have kJ1 : t3 = 1 → ∀ (H : Heap) (locs : List Loc) (ls : Array Slot), va_P D vwCl (WW 28 (cellM cy ad) ad σ) H → va_S (AC 28 ad) H0 H locs → lv_has ls 10 [] → W p l e rm_X12_beginsRule s m args below meth c H locs 0 0 Q (F0 m 146 ls []) := by
        intro ht
        intro H locs ls hP hS hl
        have hf := (if_neg (by rw [ht]; decide)).symm.trans hf
        exact k0 _ _ _ _ (Option.some.inj hf).symm hP hS (lv_sub hl [] rfl)
      clear hf
      have hf := hq
      refine r_if_eq (tgt := 148) S dX12_beginsRule_120 (by decide) (fun c4 => ?_) (fun c4 => ?_)
      · have hf := (if_pos c4).symm.trans hf
        have e1 := Option.some.inj hf
        subst e1
        exact kJ0 rfl _ _ _ hP hS (lv_sub hl [0, 1, 2, 3, 4, 5, 6] rfl)
      · have hf := (if_neg c4).symm.trans hf
        refine lv_aload_n S.1 S.2.1 dX12_beginsRule_123 rfl (lv_at hl 0 rfl) ?_
        refine lv_aload_n S.1 S.2.1 dX12_beginsRule_124 rfl (lv_at hl 0 rfl) ?_
        refine r_get S hK hP (by decide) rfl rfl h_X12_beginsRule_X12 4 (by decide) k_X12_beginsRule_3 rfl dX12_beginsRule_125 ?_
        refine r_iconst S dX12_beginsRule_128 ?_
        refine lv_iload S.1 S.2.1 dX12_beginsRule_129 (lv_at hl 3 rfl) ?_
        refine r_imul S dX12_beginsRule_131 ?_
        refine lv_iload S.1 S.2.1 dX12_beginsRule_132 (lv_at hl 5 rfl) ?_
        refine r_iadd S dX12_beginsRule_134 ?_
        obtain ⟨g5, hf⟩ := gd_some hf
        refine r_iald S hK hP (by decide) (n := 120) (fun _ => rfl) (by decide) g5 dX12_beginsRule_135 ?_
        refine lv_iload S.1 S.2.1 dX12_beginsRule_136 (lv_at hl 6 rfl) ?_
        refine lv_iload S.1 S.2.1 dX12_beginsRule_138 (lv_at hl 2 rfl) ?_
        obtain ⟨y7, hq6, hf⟩ := bV_some hf
        refine r_callVI S hK hP hS (by decide) rfl rfl [.int (zI (σ 4 ((4 * x5_) + x7_).toNat)), .int (zI x8_), .int (zI x4_)] (c_X12_beginsOne l D cy ad hO (σ 4 ((4 * x5_) + x7_).toNat) x8_ x4_ σ hq6) (cw_X12_beginsRule_X12_beginsOne S.2.2.2.2) rfl hl.1 (rest := []) rfl (Nat.le_of_ble_eq_true rfl) dX12_beginsRule_140 ⟨Nat.zero_le _, Nat.zero_le _⟩ (fun H locs hP hS => ?_)
        refine r_if_eq (tgt := 148) S dX12_beginsRule_143 (by decide) (fun c8 => ?_) (fun c8 => ?_)
        · have hf := (if_pos c8).symm.trans hf
          have e1 := Option.some.inj hf
          subst e1
          exact kJ0 rfl _ _ _ hP hS (lv_sub hl [0, 1, 2, 3, 4, 5, 6] rfl)
        · have hf := (if_neg c8).symm.trans hf
          have e1 := Option.some.inj hf
          subst e1
          exact kJ1 rfl _ _ _ hP hS (lv_sub hl [] rfl)
set_option maxHeartbeats 4000000 in
set_option maxRecDepth 100000 in
theorem w_X12_beginsRule_L90 {p : Program} {l : Launch} {e : Env} {s : State} {m : MethodId} {args : Array Value} {below : List Frame} {meth : Method} {c : Code} {Q : State → Prop} {D : va_G} {cy : Nat → ClassId} {ad : Nat → Nat} {H0 : Heap} (hO : adOK 28 ad) (S : CallFix p m c cX12_beginsRule 10 s args wsX12_beginsRule RX12) (hK : KK D cy s) (n : Nat) (x3_ : Int) (x4_ : Int) (x5_ : Int) (x6_ : Int) {res : Nat × Mem} (k0 : ∀ (τ : Mem) (H2 : Heap) (locs2 : List Loc) (ls2 : Array Slot), res = (0, τ) → va_P D vwCl (WW 28 (cellM cy ad) ad τ) H2 → va_S (AC 28 ad) H0 H2 locs2 → lv_has ls2 10 [] → W p l e rm_X12_beginsRule s m args below meth c H2 locs2 0 0 Q (F0 m 146 ls2 [])) (k1 : ∀ (τ : Mem) (H2 : Heap) (locs2 : List Loc) (ls2 : Array Slot), res = (1, τ) → va_P D vwCl (WW 28 (cellM cy ad) ad τ) H2 → va_S (AC 28 ad) H0 H2 locs2 → lv_has ls2 10 [(0, .ref (ad 0)), (4, .int (zI x4_)), (6, .int (zI x6_))] → W p l e rm_X12_beginsRule s m args below meth c H2 locs2 0 0 Q (F0 m 254 ls2 [])) :
    ∀ (k : Nat) (x7_ : Int) (σ : Mem) (H : Heap) (locs : List Loc) (ls : Array Slot), f_X12_beginsRule_L90 n x3_ x4_ x5_ x6_ k x7_ σ = some res → va_P D vwCl (WW 28 (cellM cy ad) ad σ) H → va_S (AC 28 ad) H0 H locs → lv_has ls 10 [(0, .ref (ad 0)), (3, .int (zI x3_)), (4, .int (zI x4_)), (5, .int (zI x5_)), (6, .int (zI x6_)), (7, .int (zI x7_))] → W p l e rm_X12_beginsRule s m args below meth c H locs 0 0 Q (F0 m 90 ls []) := by
  intro k
  induction k with
  | zero =>
    intro x7_ σ H locs ls hf
    have hf : none = some res := hf
    cases hf
  | succ k ih =>
    intro x7_ σ H locs ls hf hP hS hl
    rw [f_X12_beginsRule_L90] at hf
    refine lv_iload S.1 S.2.1 dX12_beginsRule_90 (lv_at hl 5 rfl) ?_
    refine lv_iload S.1 S.2.1 dX12_beginsRule_92 (lv_at hl 4 rfl) ?_
    refine lv_icmp_ge (tgt := 254) S.1 S.2.1 dX12_beginsRule_94 (by decide) (fun c1 => ?_) (fun c1 => ?_)
    · have hf := (if_pos c1).symm.trans hf
      exact k1 _ _ _ _ (Option.some.inj hf).symm hP hS (lv_sub hl [0, 2, 4] rfl)
    · have hf := (if_neg c1).symm.trans hf
      refine lv_iload_n S.1 S.2.1 dX12_beginsRule_97 rfl (lv_at hl 1 rfl) ?_
      refine r_istore S rfl (lv2 := [(8, .int (zI x3_)), (0, .ref (ad 0)), (3, .int (zI x3_)), (4, .int (zI x4_)), (5, .int (zI x5_)), (6, .int (zI x6_)), (7, .int (zI x7_))]) dX12_beginsRule_98 hl (by decide) rfl (fun ls hl => ?_)
      obtain ⟨t2, σ3, hq, hf⟩ := bL1_some hf
      refine w_X12_beginsRule_L100 hO S hK n x3_ x4_ x5_ x6_ x7_ (fun σ3 H locs ls he hP hS hl => ?_) (fun σ3 H locs ls he hP hS hl => ?_) n x3_ σ _ _ _ hq hP hS (lv_sub hl [1, 2, 3, 4, 5, 6, 0] rfl)
      · cases he
        have hf := (if_pos rfl).symm.trans hf
        exact k0 _ _ _ _ (Option.some.inj hf).symm hP hS (lv_sub hl [] rfl)
      · cases he
        have hf := (if_neg (by decide)).symm.trans hf
        obtain ⟨x4, hx4, hf⟩ := nm_some hf
        refine r_iinc S hx4 (k0 := 5) (lv2 := [(7, .int (zI x4)), (0, .ref (ad 0)), (3, .int (zI x3_)), (4, .int (zI x4_)), (5, .int (zI x5_)), (6, .int (zI x6_))]) dX12_beginsRule_248 hl rfl (by decide) rfl (fun ls hl => ?_)
        refine lv_goto (tgt := 90) S.1 S.2.1 dX12_beginsRule_251 (by decide) ?_
        exact ih x4 σ3 _ _ _ hf hP hS (lv_sub hl [1, 2, 3, 4, 5, 0] rfl)
set_option maxHeartbeats 4000000 in
set_option maxRecDepth 100000 in
theorem c_X12_beginsRule (l : Launch) (D : va_G) (cy : Nat → ClassId) (ad : Nat → Nat) (hO : adOK 28 ad) (n : Nat) (a0 : Int) (a1 : Int) (a2 : Int) (a3 : Int) (σ : Mem) {v : Int} {τ : Mem} (hf : f_X12_beginsRule n a0 a1 a2 a3 σ = some (v, τ)) : Met l yX12_beginsRule wsX12_beginsRule rm_X12_beginsRule (va_Pc [.ref (ad 0), .int (zI a0), .int (zI a1), .int (zI a2), .int (zI a3)] (PreW D cy 28 (cellM cy ad) ad σ)) (QI D 28 (cellM cy ad) ad v τ) 0 0 (AC 28 ad) := by
  refine r_met (cc := cX12_beginsRule) (maxL := 10) (ret := (some .boolean)) (own := RX12) (by decide) rfl rfl [.ref (ad 0), .int (zI a0), .int (zI a1), .int (zI a2), .int (zI a3)] (Nat.le_of_ble_eq_true rfl) ?_
  intro p e s m below meth c ls S hK hP hlk hr hl
  have hS : va_S (AC 28 ad) s.heap s.heap [] := va_S.rf
  have hl : lv_has ls 10 [(0, .ref (ad 0)), (1, .int (zI a0)), (2, .int (zI a1)), (3, .int (zI a2)), (4, .int (zI a3))] := hl
  unfold f_X12_beginsRule at hf
  refine r_iconst S dX12_beginsRule_0 ?_
  refine lv_iload_n S.1 S.2.1 dX12_beginsRule_1 rfl (lv_at hl 1 rfl) ?_
  refine r_imul S dX12_beginsRule_2 ?_
  refine lv_iload_n S.1 S.2.1 dX12_beginsRule_3 rfl (lv_at hl 2 rfl) ?_
  refine r_iadd S dX12_beginsRule_4 ?_
  obtain ⟨x1, hx1, hf⟩ := nm_some hf
  refine r_istore S hx1 (lv2 := [(5, .int (zI x1)), (0, .ref (ad 0)), (1, .int (zI a0)), (2, .int (zI a1)), (3, .int (zI a2)), (4, .int (zI a3))]) dX12_beginsRule_5 hl (by decide) rfl (fun ls hl => ?_)
  refine lv_aload_n S.1 S.2.1 dX12_beginsRule_7 rfl (lv_at hl 1 rfl) ?_
  refine r_get S hK hP (by decide) rfl rfl h_X12_beginsRule_X12 3 (by decide) k_X12_beginsRule_1 rfl dX12_beginsRule_8 ?_
  refine lv_iload S.1 S.2.1 dX12_beginsRule_11 (lv_at hl 0 rfl) ?_
  obtain ⟨g2, hf⟩ := gd_some hf
  refine r_iald S hK hP (by decide) (n := 30) (fun _ => rfl) (by decide) g2 dX12_beginsRule_13 ?_
  obtain ⟨x3, hx3, hf⟩ := nm_some hf
  refine r_istore S hx3 (lv2 := [(6, .int (zI x3)), (5, .int (zI x1)), (0, .ref (ad 0)), (1, .int (zI a0)), (2, .int (zI a1)), (3, .int (zI a2)), (4, .int (zI a3))]) dX12_beginsRule_14 hl (by decide) rfl (fun ls hl => ?_)
  refine r_iconst S dX12_beginsRule_16 ?_
  refine r_istore S rfl (lv2 := [(7, .int (zI 0)), (6, .int (zI x3)), (5, .int (zI x1)), (0, .ref (ad 0)), (1, .int (zI a0)), (2, .int (zI a1)), (3, .int (zI a2)), (4, .int (zI a3))]) dX12_beginsRule_17 hl (by decide) rfl (fun ls hl => ?_)
  obtain ⟨σ4, hq, hf⟩ := bV_some hf
  refine w_X12_beginsRule_L19 hO S hK n a2 a3 x1 x3 (fun σ4 H locs ls he hP hS hl => ?_) n 0 σ _ _ _ hq hP hS (lv_sub hl [3, 6, 7, 2, 1, 0] rfl)
  cases he
  refine r_iconst S dX12_beginsRule_50 ?_
  refine r_istore S rfl (lv2 := [(7, .int (zI 0)), (0, .ref (ad 0)), (3, .int (zI a2)), (4, .int (zI a3)), (5, .int (zI x1)), (6, .int (zI x3))]) dX12_beginsRule_51 hl (by decide) rfl (fun ls hl => ?_)
  obtain ⟨t5, hq, hf⟩ := bV_some hf
  refine w_X12_beginsRule_L53 hO S hK n a2 a3 x1 x3 σ4 (fun  H locs ls he hP hS hl => ?_) (fun  H locs ls he hP hS hl => ?_) n 0 _ _ _ hq hP hS (lv_sub hl [1, 2, 3, 4, 5, 0] rfl)
  · cases he
    have hf := (if_pos rfl).symm.trans hf
    refine r_iconst S dX12_beginsRule_79 ?_
    obtain ⟨e1, e2⟩ := inj2 hf
    subst e1
    subst e2
    exact e_Z S hlk hP hS (Or.inl rfl) hr dX12_beginsRule_80
  · cases he
    have hf := (if_neg (by decide)).symm.trans hf
    refine r_iconst S dX12_beginsRule_87 ?_
    refine r_istore S rfl (lv2 := [(7, .int (zI 0)), (0, .ref (ad 0)), (3, .int (zI a2)), (4, .int (zI a3)), (5, .int (zI x1)), (6, .int (zI x3))]) dX12_beginsRule_88 hl (by decide) rfl (fun ls hl => ?_)
    obtain ⟨t6, σ7, hq, hf⟩ := bL1_some hf
    refine w_X12_beginsRule_L90 hO S hK n a2 a3 x1 x3 (fun σ7 H locs ls he hP hS hl => ?_) (fun σ7 H locs ls he hP hS hl => ?_) n 0 σ4 _ _ _ hq hP hS (lv_sub hl [1, 2, 3, 4, 5, 0] rfl)
    · cases he
      have hf := (if_pos rfl).symm.trans hf
      refine r_iconst S dX12_beginsRule_146 ?_
      obtain ⟨e1, e2⟩ := inj2 hf
      subst e1
      subst e2
      exact e_Z S hlk hP hS (Or.inr rfl) hr dX12_beginsRule_147
    · cases he
      have hf := (if_neg (by decide)).symm.trans hf
      refine lv_aload_n S.1 S.2.1 dX12_beginsRule_254 rfl (lv_at hl 0 rfl) ?_
      refine r_get S hK hP (by decide) rfl rfl h_X12_beginsRule_X12 24 (by decide) k_X12_beginsRule_2 rfl dX12_beginsRule_255 ?_
      refine r_bipush S dX12_beginsRule_258 (by decide) ?_
      refine lv_iload S.1 S.2.1 dX12_beginsRule_260 (lv_at hl 2 rfl) ?_
      refine r_imul S dX12_beginsRule_262 ?_
      refine lv_iload S.1 S.2.1 dX12_beginsRule_263 (lv_at hl 1 rfl) ?_
      refine r_iadd S dX12_beginsRule_265 ?_
      obtain ⟨g8, hf⟩ := gd_some hf
      refine r_zald S hK hP (by decide) (n := 35) (fun _ => rfl) (by decide) g8 dX12_beginsRule_266 ?_
      obtain ⟨hb9, hf⟩ := gd_some hf
      obtain ⟨e1, e2⟩ := inj2 hf
      subst e1
      subst e2
      exact e_Z S hlk hP hS hb9 hr dX12_beginsRule_267
def rm_X12_one : Room := { frames := 0, cells := 0, slots := 0, locals := 0 }
theorem k_X12_one_1 : (.fieldLink RX12 37 "MendTextsModel" "cost" "[I" : Cond) ∈ wsX12_one := List.mem_of_getElem? (i := 1) (by decide +kernel)
theorem k_X12_one_2 : (.fieldLink RX12 115 "MendTextsModel" "oneCost" "I" : Cond) ∈ wsX12_one := List.mem_of_getElem? (i := 2) (by decide +kernel)
theorem k_X12_one_3 : (.fieldLink RX12 40 "MendTextsModel" "length" "[I" : Cond) ∈ wsX12_one := List.mem_of_getElem? (i := 3) (by decide +kernel)
theorem k_X12_one_4 : (.fieldLink RX12 118 "MendTextsModel" "oneLength" "I" : Cond) ∈ wsX12_one := List.mem_of_getElem? (i := 4) (by decide +kernel)
theorem k_X12_one_5 : (.fieldLink RX12 43 "MendTextsModel" "text" "[I" : Cond) ∈ wsX12_one := List.mem_of_getElem? (i := 5) (by decide +kernel)
theorem k_X12_one_6 : (.fieldLink RX12 121 "MendTextsModel" "oneText" "I" : Cond) ∈ wsX12_one := List.mem_of_getElem? (i := 6) (by decide +kernel)
theorem k_X12_one_7 : (.fieldLink RX12 31 "MendTextsModel" "costs" "[I" : Cond) ∈ wsX12_one := List.mem_of_getElem? (i := 7) (by decide +kernel)
theorem k_X12_one_8 : (.fieldLink RX12 34 "MendTextsModel" "hand" "[I" : Cond) ∈ wsX12_one := List.mem_of_getElem? (i := 8) (by decide +kernel)
theorem h_X12_one_X12 : ∀ w ∈ u_ws RX12 TX12 36, w ∈ wsX12_one := mem_places _ [9, 10, 11, 12, 13, 14, 15, 16, 17, 18, 19, 20, 21, 22, 23, 24, 25, 26, 27, 28, 29, 30, 31, 32, 33, 34, 35, 36, 37, 38, 39, 40, 41, 42, 43, 44] (by decide +kernel)
set_option maxHeartbeats 4000000 in
set_option maxRecDepth 100000 in
theorem w_X12_one_L80 {p : Program} {l : Launch} {e : Env} {s : State} {m : MethodId} {args : Array Value} {below : List Frame} {meth : Method} {c : Code} {Q : State → Prop} {D : va_G} {cy : Nat → ClassId} {ad : Nat → Nat} {H0 : Heap} (hO : adOK 28 ad) (S : CallFix p m c cX12_one 6 s args wsX12_one RX12) (hK : KK D cy s) (n : Nat) (x1_ : Int) (x2_ : Int) (x3_ : Int) {res : Mem} (k0 : ∀ (τ : Mem) (H2 : Heap) (locs2 : List Loc) (ls2 : Array Slot), res = τ → va_P D vwCl (WW 28 (cellM cy ad) ad τ) H2 → va_S (AC 28 ad) H0 H2 locs2 → lv_has ls2 6 [(0, .ref (ad 0)), (1, .int (zI x1_))] → W p l e rm_X12_one s m args below meth c H2 locs2 0 0 Q (F0 m 150 ls2 [])) :
    ∀ (k : Nat) (x4_ : Int) (σ : Mem) (H : Heap) (locs : List Loc) (ls : Array Slot), f_X12_one_L80 n x1_ x2_ x3_ k x4_ σ = some res → va_P D vwCl (WW 28 (cellM cy ad) ad σ) H → va_S (AC 28 ad) H0 H locs → lv_has ls 6 [(0, .ref (ad 0)), (1, .int (zI x1_)), (2, .int (zI x2_)), (3, .int (zI x3_)), (4, .int (zI x4_))] → W p l e rm_X12_one s m args below meth c H locs 0 0 Q (F0 m 80 ls []) := by
  intro k
  induction k with
  | zero =>
    intro x4_ σ H locs ls hf
    have hf : none = some res := hf
    cases hf
  | succ k ih =>
    intro x4_ σ H locs ls hf hP hS hl
    rw [f_X12_one_L80] at hf
    refine lv_iload S.1 S.2.1 dX12_one_80 (lv_at hl 4 rfl) ?_
    refine lv_iload_n S.1 S.2.1 dX12_one_82 rfl (lv_at hl 3 rfl) ?_
    refine lv_icmp_ge (tgt := 150) S.1 S.2.1 dX12_one_83 (by decide) (fun c1 => ?_) (fun c1 => ?_)
    · have hf := (if_pos c1).symm.trans hf
      exact k0 _ _ _ _ (Option.some.inj hf).symm hP hS (lv_sub hl [0, 1] rfl)
    · have hf := (if_neg c1).symm.trans hf
      refine lv_iload_n S.1 S.2.1 dX12_one_86 rfl (lv_at hl 3 rfl) ?_
      refine lv_iload_n S.1 S.2.1 dX12_one_87 rfl (lv_at hl 2 rfl) ?_
      refine r_isub S dX12_one_88 ?_
      refine r_iconst S dX12_one_89 ?_
      refine r_isub S dX12_one_90 ?_
      refine lv_aload_n S.1 S.2.1 dX12_one_91 rfl (lv_at hl 0 rfl) ?_
      refine r_get S hK hP (by decide) rfl rfl h_X12_one_X12 11 (by decide) k_X12_one_7 rfl dX12_one_92 ?_
      refine r_iconst S dX12_one_95 ?_
      obtain ⟨g2, hf⟩ := gd_some hf
      refine r_iald S hK hP (by decide) (n := 3) (fun _ => rfl) (by decide) g2 dX12_one_96 ?_
      refine r_imul S dX12_one_97 ?_
      refine lv_aload_n S.1 S.2.1 dX12_one_98 rfl (lv_at hl 0 rfl) ?_
      refine r_get S hK hP (by decide) rfl rfl h_X12_one_X12 13 (by decide) k_X12_one_8 rfl dX12_one_99 ?_
      refine lv_iload S.1 S.2.1 dX12_one_102 (lv_at hl 4 rfl) ?_
      obtain ⟨g3, hf⟩ := gd_some hf
      refine r_iald S hK hP (by decide) (n := 6) (fun _ => rfl) (by decide) g3 dX12_one_104 ?_
      refine lv_iload_n S.1 S.2.1 dX12_one_105 rfl (lv_at hl 1 rfl) ?_
      obtain ⟨v4, hq, hf⟩ := bV_some hf
      have kJ0 : ∀ (H : Heap) (locs : List Loc) (ls : Array Slot), va_P D vwCl (WW 28 (cellM cy ad) ad σ) H → va_S (AC 28 ad) H0 H locs → lv_has ls 6 [(0, .ref (ad 0)), (1, .int (zI x1_)), (2, .int (zI x2_)), (3, .int (zI x3_)), (4, .int (zI x4_))] → W p l e rm_X12_one s m args below meth c H locs 0 0 Q (F0 m 119 ls [.int (zI v4), .int (zI (((x3_ - x2_) - 1) * (σ 8 (0 : Int).toNat)))]) := by
        intro H locs ls hP hS hl
        refine r_iadd S dX12_one_119 ?_
        obtain ⟨x7, hx7, hf⟩ := nm_some hf
        refine r_istore S hx7 (lv2 := [(5, .int (zI x7)), (0, .ref (ad 0)), (1, .int (zI x1_)), (2, .int (zI x2_)), (3, .int (zI x3_)), (4, .int (zI x4_))]) dX12_one_120 hl (by decide) rfl (fun ls hl => ?_)
        refine lv_aload_n S.1 S.2.1 dX12_one_122 rfl (lv_at hl 1 rfl) ?_
        refine lv_iload S.1 S.2.1 dX12_one_123 (lv_at hl 0 rfl) ?_
        refine lv_aload_n S.1 S.2.1 dX12_one_125 rfl (lv_at hl 1 rfl) ?_
        refine r_get S hK hP (by decide) rfl rfl h_X12_one_X12 20 (by decide) k_X12_one_2 rfl dX12_one_126 ?_
        obtain ⟨v8, hq, hf⟩ := bV_some hf
        have kJ0 : ∀ (H : Heap) (locs : List Loc) (ls : Array Slot), va_P D vwCl (WW 28 (cellM cy ad) ad σ) H → va_S (AC 28 ad) H0 H locs → lv_has ls 6 [(0, .ref (ad 0)), (1, .int (zI x1_)), (2, .int (zI x2_)), (3, .int (zI x3_)), (4, .int (zI x4_))] → W p l e rm_X12_one s m args below meth c H locs 0 0 Q (F0 m 141 ls [.int (zI v8), .ref (ad 0)]) := by
          intro H locs ls hP hS hl
          obtain ⟨σ10, hσ10, hf⟩ := nm_some hf
          refine r_put S hK hP hO hS (by decide) rfl rfl h_X12_one_X12 tyX12 tyX12_ok nmX12 20 (by decide) k_X12_one_2 rfl (tyX12_ok 20 (by decide)) rfl rfl (Nat.le_of_ble_eq_true rfl) hσ10 rfl dX12_one_141 (fun H locs hP hS => ?_)
          obtain ⟨x11, hx11, hf⟩ := nm_some hf
          refine r_iinc S hx11 (k0 := 4) (lv2 := [(4, .int (zI x11)), (0, .ref (ad 0)), (1, .int (zI x1_)), (2, .int (zI x2_)), (3, .int (zI x3_))]) dX12_one_144 hl rfl (by decide) rfl (fun ls hl => ?_)
          refine lv_goto (tgt := 80) S.1 S.2.1 dX12_one_147 (by decide) ?_
          exact ih x11 σ10 _ _ _ hf hP hS (lv_sub hl [1, 2, 3, 4, 0] rfl)
        clear hf
        have hf := hq
        refine lv_icmp_ge (tgt := 137) S.1 S.2.1 dX12_one_129 (by decide) (fun c9 => ?_) (fun c9 => ?_)
        · have hf := (if_pos c9).symm.trans hf
          refine lv_aload_n S.1 S.2.1 dX12_one_137 rfl (lv_at hl 1 rfl) ?_
          refine r_get S hK hP (by decide) rfl rfl h_X12_one_X12 20 (by decide) k_X12_one_2 rfl dX12_one_138 ?_
          have e1 := Option.some.inj hf
          subst e1
          exact kJ0 _ _ _ hP hS (lv_sub hl [1, 2, 3, 4, 5] rfl)
        · have hf := (if_neg c9).symm.trans hf
          refine lv_iload S.1 S.2.1 dX12_one_132 (lv_at hl 0 rfl) ?_
          refine lv_goto (tgt := 141) S.1 S.2.1 dX12_one_134 (by decide) ?_
          have e1 := Option.some.inj hf
          subst e1
          exact kJ0 _ _ _ hP hS (lv_sub hl [1, 2, 3, 4, 5] rfl)
      clear hf
      have hf := hq
      refine lv_icmp_ne (tgt := 113) S.1 S.2.1 dX12_one_106 (by decide) (fun c5 => ?_) (fun c5 => ?_)
      · have hf := (if_neg c5).symm.trans hf
        refine lv_aload_n S.1 S.2.1 dX12_one_113 rfl (lv_at hl 0 rfl) ?_
        refine r_get S hK hP (by decide) rfl rfl h_X12_one_X12 11 (by decide) k_X12_one_7 rfl dX12_one_114 ?_
        refine r_iconst S dX12_one_117 ?_
        obtain ⟨g6, hf⟩ := gd_some hf
        refine r_iald S hK hP (by decide) (n := 3) (fun _ => rfl) (by decide) g6 dX12_one_118 ?_
        have e1 := Option.some.inj hf
        subst e1
        exact kJ0 _ _ _ hP hS (lv_sub hl [0, 1, 2, 3, 4] rfl)
      · have hf := (if_pos c5).symm.trans hf
        refine r_iconst S dX12_one_109 ?_
        refine lv_goto (tgt := 119) S.1 S.2.1 dX12_one_110 (by decide) ?_
        have e1 := Option.some.inj hf
        subst e1
        exact kJ0 _ _ _ hP hS (lv_sub hl [0, 1, 2, 3, 4] rfl)
set_option maxHeartbeats 4000000 in
set_option maxRecDepth 100000 in
theorem c_X12_one (l : Launch) (D : va_G) (cy : Nat → ClassId) (ad : Nat → Nat) (hO : adOK 28 ad) (n : Nat) (a0 : Int) (a1 : Int) (a2 : Int) (σ : Mem) {τ : Mem} (hf : f_X12_one n a0 a1 a2 σ = some τ) : Met l yX12_one wsX12_one rm_X12_one (va_Pc [.ref (ad 0), .int (zI a0), .int (zI a1), .int (zI a2)] (PreW D cy 28 (cellM cy ad) ad σ)) (QV D 28 (cellM cy ad) ad τ) 0 0 (AC 28 ad) := by
  refine r_met (cc := cX12_one) (maxL := 6) (ret := none) (own := RX12) (by decide) rfl rfl [.ref (ad 0), .int (zI a0), .int (zI a1), .int (zI a2)] (Nat.le_of_ble_eq_true rfl) ?_
  intro p e s m below meth c ls S hK hP hlk hr hl
  have hS : va_S (AC 28 ad) s.heap s.heap [] := va_S.rf
  have hl : lv_has ls 6 [(0, .ref (ad 0)), (1, .int (zI a0)), (2, .int (zI a1)), (3, .int (zI a2))] := hl
  unfold f_X12_one at hf
  refine lv_iload_n S.1 S.2.1 dX12_one_0 rfl (lv_at hl 1 rfl) ?_
  refine r_bipush S dX12_one_1 (by decide) ?_
  refine lv_icmp_lt (tgt := 56) S.1 S.2.1 dX12_one_3 (by decide) (fun c1 => ?_) (fun c1 => ?_)
  · have hf := (if_pos c1).symm.trans hf
    refine lv_aload_n S.1 S.2.1 dX12_one_56 rfl (lv_at hl 0 rfl) ?_
    refine lv_iload_n S.1 S.2.1 dX12_one_57 rfl (lv_at hl 3 rfl) ?_
    refine lv_iload_n S.1 S.2.1 dX12_one_58 rfl (lv_at hl 2 rfl) ?_
    refine r_isub S dX12_one_59 ?_
    refine lv_aload_n S.1 S.2.1 dX12_one_60 rfl (lv_at hl 0 rfl) ?_
    refine r_get S hK hP (by decide) rfl rfl h_X12_one_X12 11 (by decide) k_X12_one_7 rfl dX12_one_61 ?_
    refine r_iconst S dX12_one_64 ?_
    obtain ⟨g2, hf⟩ := gd_some hf
    refine r_iald S hK hP (by decide) (n := 3) (fun _ => rfl) (by decide) g2 dX12_one_65 ?_
    refine r_imul S dX12_one_66 ?_
    refine lv_aload_n S.1 S.2.1 dX12_one_67 rfl (lv_at hl 0 rfl) ?_
    refine r_get S hK hP (by decide) rfl rfl h_X12_one_X12 11 (by decide) k_X12_one_7 rfl dX12_one_68 ?_
    refine r_iconst S dX12_one_71 ?_
    obtain ⟨g3, hf⟩ := gd_some hf
    refine r_iald S hK hP (by decide) (n := 3) (fun _ => rfl) (by decide) g3 dX12_one_72 ?_
    refine r_iadd S dX12_one_73 ?_
    obtain ⟨σ4, hσ4, hf⟩ := nm_some hf
    refine r_put S hK hP hO hS (by decide) rfl rfl h_X12_one_X12 tyX12 tyX12_ok nmX12 20 (by decide) k_X12_one_2 rfl (tyX12_ok 20 (by decide)) rfl rfl (Nat.le_of_ble_eq_true rfl) hσ4 rfl dX12_one_74 (fun H locs hP hS => ?_)
    refine lv_iload_n S.1 S.2.1 dX12_one_77 rfl (lv_at hl 2 rfl) ?_
    refine r_istore S rfl (lv2 := [(4, .int (zI a1)), (0, .ref (ad 0)), (1, .int (zI a0)), (2, .int (zI a1)), (3, .int (zI a2))]) dX12_one_78 hl (by decide) rfl (fun ls hl => ?_)
    obtain ⟨σ5, hq, hf⟩ := bV_some hf
    refine w_X12_one_L80 hO S hK n a0 a1 a2 (fun σ5 H locs ls he hP hS hl => ?_) n a1 σ4 _ _ _ hq hP hS (lv_sub hl [1, 2, 3, 4, 0] rfl)
    cases he
    refine lv_aload_n S.1 S.2.1 dX12_one_150 rfl (lv_at hl 0 rfl) ?_
    refine r_iconst S dX12_one_151 ?_
    obtain ⟨σ6, hσ6, hf⟩ := nm_some hf
    refine r_put S hK hP hO hS (by decide) rfl rfl h_X12_one_X12 tyX12 tyX12_ok nmX12 21 (by decide) k_X12_one_4 rfl (tyX12_ok 21 (by decide)) rfl rfl (Nat.le_of_ble_eq_true rfl) hσ6 rfl dX12_one_152 (fun H locs hP hS => ?_)
    refine lv_aload_n S.1 S.2.1 dX12_one_155 rfl (lv_at hl 0 rfl) ?_
    refine lv_iload_n S.1 S.2.1 dX12_one_156 rfl (lv_at hl 1 rfl) ?_
    obtain ⟨σ7, hσ7, hf⟩ := nm_some hf
    refine r_put S hK hP hO hS (by decide) rfl rfl h_X12_one_X12 tyX12 tyX12_ok nmX12 22 (by decide) k_X12_one_6 rfl (tyX12_ok 22 (by decide)) rfl rfl (Nat.le_of_ble_eq_true rfl) hσ7 rfl dX12_one_157 (fun H locs hP hS => ?_)
    have e1 := Option.some.inj hf
    subst e1
    exact e_V S hlk hP hS hr dX12_one_160
  · have hf := (if_neg c1).symm.trans hf
    refine r_bipush S dX12_one_6 (by decide) ?_
    refine lv_iload_n S.1 S.2.1 dX12_one_8 rfl (lv_at hl 1 rfl) ?_
    refine r_bipush S dX12_one_9 (by decide) ?_
    refine r_isub S dX12_one_11 ?_
    refine r_imul S dX12_one_12 ?_
    refine r_bipush S dX12_one_13 (by decide) ?_
    refine lv_iload_n S.1 S.2.1 dX12_one_15 rfl (lv_at hl 2 rfl) ?_
    refine r_imul S dX12_one_16 ?_
    refine r_iadd S dX12_one_17 ?_
    refine lv_iload_n S.1 S.2.1 dX12_one_18 rfl (lv_at hl 3 rfl) ?_
    refine r_iadd S dX12_one_19 ?_
    obtain ⟨x8, hx8, hf⟩ := nm_some hf
    refine r_istore S hx8 (lv2 := [(4, .int (zI x8)), (0, .ref (ad 0)), (1, .int (zI a0)), (2, .int (zI a1)), (3, .int (zI a2))]) dX12_one_20 hl (by decide) rfl (fun ls hl => ?_)
    refine lv_aload_n S.1 S.2.1 dX12_one_22 rfl (lv_at hl 1 rfl) ?_
    refine lv_aload_n S.1 S.2.1 dX12_one_23 rfl (lv_at hl 1 rfl) ?_
    refine r_get S hK hP (by decide) rfl rfl h_X12_one_X12 14 (by decide) k_X12_one_1 rfl dX12_one_24 ?_
    refine lv_iload S.1 S.2.1 dX12_one_27 (lv_at hl 0 rfl) ?_
    obtain ⟨g9, hf⟩ := gd_some hf
    refine r_iald S hK hP (by decide) (n := 294) (fun _ => rfl) (by decide) g9 dX12_one_29 ?_
    obtain ⟨σ10, hσ10, hf⟩ := nm_some hf
    refine r_put S hK hP hO hS (by decide) rfl rfl h_X12_one_X12 tyX12 tyX12_ok nmX12 20 (by decide) k_X12_one_2 rfl (tyX12_ok 20 (by decide)) rfl rfl (Nat.le_of_ble_eq_true rfl) hσ10 rfl dX12_one_30 (fun H locs hP hS => ?_)
    refine lv_aload_n S.1 S.2.1 dX12_one_33 rfl (lv_at hl 1 rfl) ?_
    refine lv_aload_n S.1 S.2.1 dX12_one_34 rfl (lv_at hl 1 rfl) ?_
    refine r_get S hK hP (by decide) rfl rfl h_X12_one_X12 15 (by decide) k_X12_one_3 rfl dX12_one_35 ?_
    refine lv_iload S.1 S.2.1 dX12_one_38 (lv_at hl 0 rfl) ?_
    refine r_iald S hK hP (by decide) (n := 294) (fun _ => rfl) (by decide) g9 dX12_one_40 ?_
    obtain ⟨σ11, hσ11, hf⟩ := nm_some hf
    refine r_put S hK hP hO hS (by decide) rfl rfl h_X12_one_X12 tyX12 tyX12_ok nmX12 21 (by decide) k_X12_one_4 rfl (tyX12_ok 21 (by decide)) rfl rfl (Nat.le_of_ble_eq_true rfl) hσ11 rfl dX12_one_41 (fun H locs hP hS => ?_)
    refine lv_aload_n S.1 S.2.1 dX12_one_44 rfl (lv_at hl 1 rfl) ?_
    refine lv_aload_n S.1 S.2.1 dX12_one_45 rfl (lv_at hl 1 rfl) ?_
    refine r_get S hK hP (by decide) rfl rfl h_X12_one_X12 16 (by decide) k_X12_one_5 rfl dX12_one_46 ?_
    refine lv_iload S.1 S.2.1 dX12_one_49 (lv_at hl 0 rfl) ?_
    refine r_iald S hK hP (by decide) (n := 294) (fun _ => rfl) (by decide) g9 dX12_one_51 ?_
    obtain ⟨σ12, hσ12, hf⟩ := nm_some hf
    refine r_put S hK hP hO hS (by decide) rfl rfl h_X12_one_X12 tyX12 tyX12_ok nmX12 22 (by decide) k_X12_one_6 rfl (tyX12_ok 22 (by decide)) rfl rfl (Nat.le_of_ble_eq_true rfl) hσ12 rfl dX12_one_52 (fun H locs hP hS => ?_)
    have e1 := Option.some.inj hf
    subst e1
    exact e_V S hlk hP hS hr dX12_one_55
