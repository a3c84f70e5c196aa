def rm_X7_clear : Room := { frames := 0, cells := 0, slots := 0, locals := 0 }
theorem k_X7_clear_1 : (.fieldLink RX7 11 "MendTexts$Rows" "leasts" "[I" : Cond) ∈ wsX7_clear := List.mem_of_getElem? (i := 1) (by decide +kernel)
theorem k_X7_clear_2 : (.fieldLink RX7 15 "MendTexts$Rows" "counts" "[I" : Cond) ∈ wsX7_clear := List.mem_of_getElem? (i := 2) (by decide +kernel)
theorem k_X7_clear_3 : (.constant RX7 52 (1073741824) : Cond) ∈ wsX7_clear := List.mem_of_getElem? (i := 3) (by decide +kernel)
theorem h_X7_clear_X7 : ∀ w ∈ u_ws RX7 TX7 3, w ∈ wsX7_clear := mem_places _ [4, 5, 6] (by decide +kernel)
set_option maxHeartbeats 4000000 in
set_option maxRecDepth 100000 in
theorem c_X7_clear (l : Launch) (D : va_G) (cy : Nat → ClassId) (ad : Nat → Nat) (hO : adOK 39 ad) (rr : Nat) (hrr : isR rr) (a0 : Int) (σ : Mem) {τ : Mem} (hf : f_X7_clear rr a0 σ = some τ) : Met l yX7_clear wsX7_clear rm_X7_clear (va_Pc [.ref (ad rr), .int (zI a0)] (PreW D cy 39 (cellC cy ad) ad σ)) (QV D 39 (cellC cy ad) ad τ) 0 0 (AC 39 ad) := by
  refine r_met (cc := cX7_clear) (maxL := 2) (ret := none) (own := RX7) (by decide) rfl rfl [.ref (ad rr), .int (zI a0)] (Nat.le_of_ble_eq_true rfl) ?_
  intro p e s m below meth c ls S hK hP hlk hr hl
  have hS : va_S (AC 39 ad) s.heap s.heap [] := va_S.rf
  have hl : lv_has ls 2 [(0, .ref (ad rr)), (1, .int (zI a0))] := hl
  unfold f_X7_clear at hf
  refine lv_iload_n S.1 S.2.1 dX7_clear_0 rfl (lv_at hl 1 rfl) ?_
  refine r_if_lt (tgt := 53) S dX7_clear_1 (by decide) (fun c1 => ?_) (fun c1 => ?_)
  · have hf := (if_pos c1).symm.trans hf
    have e1 := Option.some.inj hf
    subst e1
    exact e_V S hlk hP hS hr dX7_clear_53
  · have hf := (if_neg c1).symm.trans hf
    refine lv_iload_n S.1 S.2.1 dX7_clear_4 rfl (lv_at hl 1 rfl) ?_
    refine lv_aload_n S.1 S.2.1 dX7_clear_5 rfl (lv_at hl 0 rfl) ?_
    refine r_get S hK hP (ltR hrr) (cellR cy ad hrr _) rfl h_X7_clear_X7 1 (by decide) k_X7_clear_1 rfl dX7_clear_6 ?_
    refine r_alen S hK hP (ltR1 hrr) (n := 91) (cellR1 cy ad hrr) dX7_clear_9 ?_
    refine lv_icmp_ge (tgt := 53) S.1 S.2.1 dX7_clear_10 (by decide) (fun c2 => ?_) (fun c2 => ?_)
    · have hf := (if_pos c2).symm.trans hf
      have e1 := Option.some.inj hf
      subst e1
      exact e_V S hlk hP hS hr dX7_clear_53
    · have hf := (if_neg c2).symm.trans hf
      refine lv_iload_n S.1 S.2.1 dX7_clear_13 rfl (lv_at hl 1 rfl) ?_
      refine lv_aload_n S.1 S.2.1 dX7_clear_14 rfl (lv_at hl 0 rfl) ?_
      refine r_get S hK hP (ltR hrr) (cellR cy ad hrr _) rfl h_X7_clear_X7 2 (by decide) k_X7_clear_2 rfl dX7_clear_15 ?_
      refine r_alen S hK hP (ltR2 hrr) (n := 91) (cellR2 cy ad hrr) dX7_clear_18 ?_
      refine lv_icmp_ge (tgt := 53) S.1 S.2.1 dX7_clear_19 (by decide) (fun c3 => ?_) (fun c3 => ?_)
      · have hf := (if_pos c3).symm.trans hf
        have e1 := Option.some.inj hf
        subst e1
        exact e_V S hlk hP hS hr dX7_clear_53
      · have hf := (if_neg c3).symm.trans hf
        refine lv_aload_n S.1 S.2.1 dX7_clear_22 rfl (lv_at hl 0 rfl) ?_
        refine r_get S hK hP (ltR hrr) (cellR cy ad hrr _) rfl h_X7_clear_X7 1 (by decide) k_X7_clear_1 rfl dX7_clear_23 ?_
        refine lv_iload_n S.1 S.2.1 dX7_clear_26 rfl (lv_at hl 1 rfl) ?_
        refine lv_iload_n S.1 S.2.1 dX7_clear_27 rfl (lv_at hl 1 rfl) ?_
        obtain ⟨v4, hq, hf⟩ := bV_some hf
        have kJ0 : ∀ (H : Heap) (locs : List Loc) (ls : Array Slot), va_P D vwCl (WW 39 (cellC cy ad) ad σ) H → va_S (AC 39 ad) s.heap H locs → lv_has ls 2 [(0, .ref (ad rr)), (1, .int (zI a0))] → W p l e rm_X7_clear s m ([.ref (ad rr), .int (zI a0)] : List Value).toArray below meth c H locs 0 0 (MQ below (QV D 39 (cellC cy ad) ad τ) ([.ref (ad rr), .int (zI a0)] : List Value).toArray s 0 0 (AC 39 ad)) (F0 m 37 ls [.int (zI v4), .int (zI a0), .ref (ad (rr + 1))]) := by
          intro H locs ls hP hS hl
          obtain ⟨g6, hf⟩ := gd_some hf
          obtain ⟨σ7, hσ7, hf⟩ := nm_some hf
          refine r_iast S hK hP hO hS (ltR1 hrr) (n := 91) (cellR1 cy ad hrr) (by decide) g6 hσ7 dX7_clear_37 (fun H locs hP hS => ?_)
          refine lv_aload_n S.1 S.2.1 dX7_clear_38 rfl (lv_at hl 0 rfl) ?_
          refine r_get S hK hP (ltR hrr) (cellR cy ad hrr _) rfl h_X7_clear_X7 2 (by decide) k_X7_clear_2 rfl dX7_clear_39 ?_
          refine lv_iload_n S.1 S.2.1 dX7_clear_42 rfl (lv_at hl 1 rfl) ?_
          refine lv_iload_n S.1 S.2.1 dX7_clear_43 rfl (lv_at hl 1 rfl) ?_
          refine r_if_ne (tgt := 51) S dX7_clear_44 (by decide) (fun c8 => ?_) (fun c8 => ?_)
          · have hf := (if_neg c8).symm.trans hf
            refine r_iconst S dX7_clear_51 ?_
            obtain ⟨σ9, hσ9, hf⟩ := nm_some hf
            refine r_iast S hK hP hO hS (ltR2 hrr) (n := 91) (cellR2 cy ad hrr) (by decide) g6 hσ9 dX7_clear_52 (fun H locs hP hS => ?_)
            have e1 := Option.some.inj hf
            subst e1
            exact e_V S hlk hP hS hr dX7_clear_53
          · have hf := (if_pos c8).symm.trans hf
            refine r_iconst S dX7_clear_47 ?_
            refine lv_goto (tgt := 52) S.1 S.2.1 dX7_clear_48 (by decide) ?_
            obtain ⟨σ10, hσ10, hf⟩ := nm_some hf
            refine r_iast S hK hP hO hS (ltR2 hrr) (n := 91) (cellR2 cy ad hrr) (by decide) g6 hσ10 dX7_clear_52 (fun H locs hP hS => ?_)
            have e1 := Option.some.inj hf
            subst e1
            exact e_V S hlk hP hS hr dX7_clear_53
        clear hf
        have hf := hq
        refine r_if_ne (tgt := 35) S dX7_clear_28 (by decide) (fun c5 => ?_) (fun c5 => ?_)
        · have hf := (if_neg c5).symm.trans hf
          refine r_ldc S 1073741824 (by decide +kernel) k_X7_clear_3 dX7_clear_35 ?_
          have e1 := Option.some.inj hf
          subst e1
          exact kJ0 _ _ _ hP hS (lv_sub hl [0, 1] rfl)
        · have hf := (if_pos c5).symm.trans hf
          refine r_iconst S dX7_clear_31 ?_
          refine lv_goto (tgt := 37) S.1 S.2.1 dX7_clear_32 (by decide) ?_
          have e1 := Option.some.inj hf
          subst e1
          exact kJ0 _ _ _ hP hS (lv_sub hl [0, 1] rfl)
def rm_X7_offer : Room := { frames := 0, cells := 0, slots := 0, locals := 0 }
theorem k_X7_offer_1 : (.fieldLink RX7 11 "MendTexts$Rows" "leasts" "[I" : Cond) ∈ wsX7_offer := List.mem_of_getElem? (i := 1) (by decide +kernel)
theorem k_X7_offer_2 : (.fieldLink RX7 15 "MendTexts$Rows" "counts" "[I" : Cond) ∈ wsX7_offer := List.mem_of_getElem? (i := 2) (by decide +kernel)
theorem h_X7_offer_X7 : ∀ w ∈ u_ws RX7 TX7 3, w ∈ wsX7_offer := mem_places _ [3, 4, 5] (by decide +kernel)
set_option maxHeartbeats 4000000 in
set_option maxRecDepth 100000 in
theorem c_X7_offer (l : Launch) (D : va_G) (cy : Nat → ClassId) (ad : Nat → Nat) (hO : adOK 39 ad) (rr : Nat) (hrr : isR rr) (a0 : Int) (a1 : Int) (a2 : Int) (σ : Mem) {τ : Mem} (hf : f_X7_offer rr a0 a1 a2 σ = some τ) : Met l yX7_offer wsX7_offer rm_X7_offer (va_Pc [.ref (ad rr), .int (zI a0), .int (zI a1), .int (zI a2)] (PreW D cy 39 (cellC cy ad) ad σ)) (QV D 39 (cellC cy ad) ad τ) 0 0 (AC 39 ad) := by
  refine r_met (cc := cX7_offer) (maxL := 5) (ret := none) (own := RX7) (by decide) rfl rfl [.ref (ad rr), .int (zI a0), .int (zI a1), .int (zI a2)] (Nat.le_of_ble_eq_true rfl) ?_
  intro p e s m below meth c ls S hK hP hlk hr hl
  have hS : va_S (AC 39 ad) s.heap s.heap [] := va_S.rf
  have hl : lv_has ls 5 [(0, .ref (ad rr)), (1, .int (zI a0)), (2, .int (zI a1)), (3, .int (zI a2))] := hl
  unfold f_X7_offer at hf
  refine lv_iload_n S.1 S.2.1 dX7_offer_0 rfl (lv_at hl 2 rfl) ?_
  refine r_if_lt (tgt := 27) S dX7_offer_1 (by decide) (fun c1 => ?_) (fun c1 => ?_)
  · have hf := (if_pos c1).symm.trans hf
    have e1 := Option.some.inj hf
    subst e1
    exact e_V S hlk hP hS hr dX7_offer_27
  · have hf := (if_neg c1).symm.trans hf
    refine lv_iload_n S.1 S.2.1 dX7_offer_4 rfl (lv_at hl 2 rfl) ?_
    refine lv_iload_n S.1 S.2.1 dX7_offer_5 rfl (lv_at hl 1 rfl) ?_
    refine lv_icmp_ge (tgt := 27) S.1 S.2.1 dX7_offer_6 (by decide) (fun c2 => ?_) (fun c2 => ?_)
    · have hf := (if_pos c2).symm.trans hf
      have e1 := Option.some.inj hf
      subst e1
      exact e_V S hlk hP hS hr dX7_offer_27
    · have hf := (if_neg c2).symm.trans hf
      refine lv_iload_n S.1 S.2.1 dX7_offer_9 rfl (lv_at hl 1 rfl) ?_
      refine lv_aload_n S.1 S.2.1 dX7_offer_10 rfl (lv_at hl 0 rfl) ?_
      refine r_get S hK hP (ltR hrr) (cellR cy ad hrr _) rfl h_X7_offer_X7 1 (by decide) k_X7_offer_1 rfl dX7_offer_11 ?_
      refine r_alen S hK hP (ltR1 hrr) (n := 91) (cellR1 cy ad hrr) dX7_offer_14 ?_
      refine lv_icmp_ge (tgt := 27) S.1 S.2.1 dX7_offer_15 (by decide) (fun c3 => ?_) (fun c3 => ?_)
      · have hf := (if_pos c3).symm.trans hf
        have e1 := Option.some.inj hf
        subst e1
        exact e_V S hlk hP hS hr dX7_offer_27
      · have hf := (if_neg c3).symm.trans hf
        refine lv_iload_n S.1 S.2.1 dX7_offer_18 rfl (lv_at hl 1 rfl) ?_
        refine lv_aload_n S.1 S.2.1 dX7_offer_19 rfl (lv_at hl 0 rfl) ?_
        refine r_get S hK hP (ltR hrr) (cellR cy ad hrr _) rfl h_X7_offer_X7 2 (by decide) k_X7_offer_2 rfl dX7_offer_20 ?_
        refine r_alen S hK hP (ltR2 hrr) (n := 91) (cellR2 cy ad hrr) dX7_offer_23 ?_
        refine lv_icmp_lt (tgt := 28) S.1 S.2.1 dX7_offer_24 (by decide) (fun c4 => ?_) (fun c4 => ?_)
        · have hf := (if_pos c4).symm.trans hf
          refine lv_aload_n S.1 S.2.1 dX7_offer_28 rfl (lv_at hl 0 rfl) ?_
          refine r_get S hK hP (ltR hrr) (cellR cy ad hrr _) rfl h_X7_offer_X7 1 (by decide) k_X7_offer_1 rfl dX7_offer_29 ?_
          refine lv_iload_n S.1 S.2.1 dX7_offer_32 rfl (lv_at hl 2 rfl) ?_
          obtain ⟨g5, hf⟩ := gd_some hf
          refine r_iald S hK hP (ltR1 hrr) (n := 91) (cellR1 cy ad hrr) (by decide) g5 dX7_offer_33 ?_
          refine lv_iload_n S.1 S.2.1 dX7_offer_34 rfl (lv_at hl 3 rfl) ?_
          refine r_iadd S dX7_offer_35 ?_
          obtain ⟨x6, hx6, hf⟩ := nm_some hf
          refine r_istore S hx6 (lv2 := [(4, .int (zI x6)), (0, .ref (ad rr)), (1, .int (zI a0)), (2, .int (zI a1)), (3, .int (zI a2))]) dX7_offer_36 hl (by decide) rfl (fun ls hl => ?_)
          refine lv_iload S.1 S.2.1 dX7_offer_38 (lv_at hl 0 rfl) ?_
          refine lv_aload_n S.1 S.2.1 dX7_offer_40 rfl (lv_at hl 1 rfl) ?_
          refine r_get S hK hP (ltR hrr) (cellR cy ad hrr _) rfl h_X7_offer_X7 1 (by decide) k_X7_offer_1 rfl dX7_offer_41 ?_
          refine lv_iload_n S.1 S.2.1 dX7_offer_44 rfl (lv_at hl 2 rfl) ?_
          obtain ⟨g7, hf⟩ := gd_some hf
          refine r_iald S hK hP (ltR1 hrr) (n := 91) (cellR1 cy ad hrr) (by decide) g7 dX7_offer_45 ?_
          obtain ⟨σ8, hq, hf⟩ := bV_some hf
          have kJ0 : ∀ (H : Heap) (locs : List Loc) (ls : Array Slot), va_P D vwCl (WW 39 (cellC cy ad) ad σ8) H → va_S (AC 39 ad) s.heap H locs → lv_has ls 5 [(0, .ref (ad rr)), (1, .int (zI a0)), (2, .int (zI a1)), (4, .int (zI x6))] → W p l e rm_X7_offer s m ([.ref (ad rr), .int (zI a0), .int (zI a1), .int (zI a2)] : List Value).toArray below meth c H locs 0 0 (MQ below (QV D 39 (cellC cy ad) ad τ) ([.ref (ad rr), .int (zI a0), .int (zI a1), .int (zI a2)] : List Value).toArray s 0 0 (AC 39 ad)) (F0 m 64 ls []) := by
            intro H locs ls hP hS hl
            refine lv_iload S.1 S.2.1 dX7_offer_64 (lv_at hl 3 rfl) ?_
            refine lv_aload_n S.1 S.2.1 dX7_offer_66 rfl (lv_at hl 0 rfl) ?_
            refine r_get S hK hP (ltR hrr) (cellR cy ad hrr _) rfl h_X7_offer_X7 1 (by decide) k_X7_offer_1 rfl dX7_offer_67 ?_
            refine lv_iload_n S.1 S.2.1 dX7_offer_70 rfl (lv_at hl 1 rfl) ?_
            refine r_iald S hK hP (ltR1 hrr) (n := 91) (cellR1 cy ad hrr) (by decide) g7 dX7_offer_71 ?_
            refine lv_icmp_ne (tgt := 90) S.1 S.2.1 dX7_offer_72 (by decide) (fun c12 => ?_) (fun c12 => ?_)
            · have hf := (if_neg c12).symm.trans hf
              have e1 := Option.some.inj hf
              subst e1
              exact e_V S hlk hP hS hr dX7_offer_90
            · have hf := (if_pos c12).symm.trans hf
              refine lv_aload_n S.1 S.2.1 dX7_offer_75 rfl (lv_at hl 0 rfl) ?_
              refine r_get S hK hP (ltR hrr) (cellR cy ad hrr _) rfl h_X7_offer_X7 2 (by decide) k_X7_offer_2 rfl dX7_offer_76 ?_
              refine lv_iload_n S.1 S.2.1 dX7_offer_79 rfl (lv_at hl 1 rfl) ?_
              refine lv_dup2_11 S.1 S.2.1 dX7_offer_80 rfl rfl ?_
              refine r_iald S hK hP (ltR2 hrr) (n := 91) (cellR2 cy ad hrr) (by decide) g7 dX7_offer_81 ?_
              refine lv_aload_n S.1 S.2.1 dX7_offer_82 rfl (lv_at hl 0 rfl) ?_
              refine r_get S hK hP (ltR hrr) (cellR cy ad hrr _) rfl h_X7_offer_X7 2 (by decide) k_X7_offer_2 rfl dX7_offer_83 ?_
              refine lv_iload_n S.1 S.2.1 dX7_offer_86 rfl (lv_at hl 2 rfl) ?_
              refine r_iald S hK hP (ltR2 hrr) (n := 91) (cellR2 cy ad hrr) (by decide) g5 dX7_offer_87 ?_
              refine r_iadd S dX7_offer_88 ?_
              obtain ⟨σ13, hσ13, hf⟩ := nm_some hf
              refine r_iast S hK hP hO hS (ltR2 hrr) (n := 91) (cellR2 cy ad hrr) (by decide) g7 hσ13 dX7_offer_89 (fun H locs hP hS => ?_)
              have e1 := Option.some.inj hf
              subst e1
              exact e_V S hlk hP hS hr dX7_offer_90
          clear hf
          have hf := hq
          refine lv_icmp_ge (tgt := 64) S.1 S.2.1 dX7_offer_46 (by decide) (fun c9 => ?_) (fun c9 => ?_)
          · have hf := (if_pos c9).symm.trans hf
            have e1 := Option.some.inj hf
            subst e1
            exact kJ0 _ _ _ hP hS (lv_sub hl [1, 2, 3, 0] rfl)
          · have hf := (if_neg c9).symm.trans hf
            refine lv_aload_n S.1 S.2.1 dX7_offer_49 rfl (lv_at hl 1 rfl) ?_
            refine r_get S hK hP (ltR hrr) (cellR cy ad hrr _) rfl h_X7_offer_X7 1 (by decide) k_X7_offer_1 rfl dX7_offer_50 ?_
            refine lv_iload_n S.1 S.2.1 dX7_offer_53 rfl (lv_at hl 2 rfl) ?_
            refine lv_iload S.1 S.2.1 dX7_offer_54 (lv_at hl 0 rfl) ?_
            obtain ⟨σ10, hσ10, hf⟩ := nm_some hf
            refine r_iast S hK hP hO hS (ltR1 hrr) (n := 91) (cellR1 cy ad hrr) (by decide) g7 hσ10 dX7_offer_56 (fun H locs hP hS => ?_)
            refine lv_aload_n S.1 S.2.1 dX7_offer_57 rfl (lv_at hl 1 rfl) ?_
            refine r_get S hK hP (ltR hrr) (cellR cy ad hrr _) rfl h_X7_offer_X7 2 (by decide) k_X7_offer_2 rfl dX7_offer_58 ?_
            refine lv_iload_n S.1 S.2.1 dX7_offer_61 rfl (lv_at hl 2 rfl) ?_
            refine r_iconst S dX7_offer_62 ?_
            obtain ⟨σ11, hσ11, hf⟩ := nm_some hf
            refine r_iast S hK hP hO hS (ltR2 hrr) (n := 91) (cellR2 cy ad hrr) (by decide) g7 hσ11 dX7_offer_63 (fun H locs hP hS => ?_)
            have e1 := Option.some.inj hf
            subst e1
            exact kJ0 _ _ _ hP hS (lv_sub hl [1, 2, 3, 0] rfl)
        · have hf := (if_neg c4).symm.trans hf
          have e1 := Option.some.inj hf
          subst e1
          exact e_V S hlk hP hS hr dX7_offer_27
def rm_X7_letter : Room := { frames := 1, cells := 0, slots := 0, locals := 21 }
theorem k_X7_letter_1 : (.fieldLink RX7 22 "MendTexts$Word" "length" "I" : Cond) ∈ wsX7_letter := List.mem_of_getElem? (i := 1) (by decide +kernel)
theorem h_X7_letter_X10 : ∀ w ∈ u_ws RX10 TX10 2, w ∈ wsX7_letter := mem_places _ [9, 10] (by decide +kernel)
theorem cw_X7_letter_X10_letterAt {s : State} {args : Array Value} (hts : ∀ w ∈ wsX7_letter, w.before args s = true) : CallW rm_X7_letter s args RX7 RX10 53 yX10_letterAt cX10_letterAt 2 (some .int) wsX10_letterAt rm_X10_letterAt 0 0 1 := cwV 1 hts gX7_letter_X10_letterAt rfl rfl rfl (by decide +kernel) ⟨Nat.le_of_ble_eq_true rfl, Nat.le_of_ble_eq_true rfl⟩
set_option maxHeartbeats 4000000 in
set_option maxRecDepth 100000 in
theorem c_X7_letter (l : Launch) (D : va_G) (cy : Nat → ClassId) (ad : Nat → Nat) (hO : adOK 39 ad) (w0 : Nat) (hw0 : isW w0) (a1 : Int) (a2 : Int) (σ : Mem) {v : Int} (hf : f_X7_letter w0 a1 a2 σ = some v) : Met l yX7_letter wsX7_letter rm_X7_letter (va_Pc [.ref (ad w0), .int (zI a1), .int (zI a2)] (PreW D cy 39 (cellC cy ad) ad σ)) (QI D 39 (cellC cy ad) ad v σ) 0 0 (AC 39 ad) := by
  refine r_met (cc := cX7_letter) (maxL := 3) (ret := (some .int)) (own := RX7) (by decide) rfl rfl [.ref (ad w0), .int (zI a1), .int (zI a2)] (Nat.le_of_ble_eq_true rfl) ?_
  intro p e s m below meth c ls S hK hP hlk hr hl
  have hS : va_S (AC 39 ad) s.heap s.heap [] := va_S.rf
  have hl : lv_has ls 3 [(0, .ref (ad w0)), (1, .int (zI a1)), (2, .int (zI a2))] := hl
  unfold f_X7_letter at hf
  refine lv_aload_n S.1 S.2.1 dX7_letter_0 rfl (lv_at hl 0 rfl) ?_
  refine lv_iload_n S.1 S.2.1 dX7_letter_1 rfl (lv_at hl 2 rfl) ?_
  obtain ⟨v1, hq, hf⟩ := bV_some hf
  have kJ0 : ∀ (H : Heap) (locs : List Loc) (ls : Array Slot), va_P D vwCl (WW 39 (cellC cy ad) ad σ) H → va_S (AC 39 ad) s.heap H locs → lv_has ls 3 [] → W p l e rm_X7_letter s m ([.ref (ad w0), .int (zI a1), .int (zI a2)] : List Value).toArray below meth c H locs 0 0 (MQ below (QI D 39 (cellC cy ad) ad v σ) ([.ref (ad w0), .int (zI a1), .int (zI a2)] : List Value).toArray s 0 0 (AC 39 ad)) (F0 m 17 ls [.int (zI v1), .ref (ad w0)]) := by
    intro H locs ls hP hS hl
    obtain ⟨y4, hq3, hf⟩ := bV_some hf
    refine r_callVI S hK hP hS (ltW hw0) (cellW cy ad hw0 _) rfl [.int (zI v1)] (c_X10_letterAt l D cy ad hO w0 hw0 v1 σ hq3) (cw_X7_letter_X10_letterAt S.2.2.2.2) rfl hl.1 (rest := []) rfl (Nat.le_of_ble_eq_true rfl) dX7_letter_17 ⟨Nat.zero_le _, Nat.zero_le _⟩ (fun H locs hP hS => ?_)
    have e1 := Option.some.inj hf
    subst e1
    exact e_I S hlk hP hS hr dX7_letter_20
  clear hf
  have hf := hq
  refine r_if_eq (tgt := 14) S dX7_letter_2 (by decide) (fun c2 => ?_) (fun c2 => ?_)
  · have hf := (if_pos c2).symm.trans hf
    refine lv_iload_n S.1 S.2.1 dX7_letter_14 rfl (lv_at hl 1 rfl) ?_
    refine r_iconst S dX7_letter_15 ?_
    refine r_isub S dX7_letter_16 ?_
    have e1 := Option.some.inj hf
    subst e1
    exact kJ0 _ _ _ hP hS (lv_sub hl [] rfl)
  · have hf := (if_neg c2).symm.trans hf
    refine lv_aload_n S.1 S.2.1 dX7_letter_5 rfl (lv_at hl 0 rfl) ?_
    refine r_get S hK hP (ltW hw0) (cellW cy ad hw0 _) rfl h_X7_letter_X10 1 (by decide) k_X7_letter_1 rfl dX7_letter_6 ?_
    refine lv_iload_n S.1 S.2.1 dX7_letter_9 rfl (lv_at hl 1 rfl) ?_
    refine r_isub S dX7_letter_10 ?_
    refine lv_goto (tgt := 17) S.1 S.2.1 dX7_letter_11 (by decide) ?_
    have e1 := Option.some.inj hf
    subst e1
    exact kJ0 _ _ _ hP hS (lv_sub hl [] rfl)
def rm_X7_fill : Room := { frames := 2, cells := 0, slots := 0, locals := 43 }
theorem k_X7_fill_1 : (.fieldLink RX7 22 "MendTexts$Word" "length" "I" : Cond) ∈ wsX7_fill := List.mem_of_getElem? (i := 1) (by decide +kernel)
theorem k_X7_fill_2 : (.fieldLink RX7 18 "MendTexts$Rows" "costs" "LMendTexts$Costs;" : Cond) ∈ wsX7_fill := List.mem_of_getElem? (i := 2) (by decide +kernel)
theorem h_X7_fill_X10 : ∀ w ∈ u_ws RX10 TX10 2, w ∈ wsX7_fill := mem_places _ [39, 40] (by decide +kernel)
theorem h_X7_fill_X7 : ∀ w ∈ u_ws RX7 TX7 3, w ∈ wsX7_fill := mem_places _ [41, 42, 43] (by decide +kernel)
theorem cw_X7_fill_X1_change {s : State} {args : Array Value} (hts : ∀ w ∈ wsX7_fill, w.before args s = true) : CallW rm_X7_fill s args RX7 RX1 49 yX1_change cX1_change 1 (some .int) wsX1_change rm_X1_change 0 0 0 := cwV 0 hts gX7_fill_X1_change rfl rfl rfl (by decide +kernel) ⟨Nat.le_of_ble_eq_true rfl, Nat.le_of_ble_eq_true rfl⟩
theorem cw_X7_fill_X1_drop {s : State} {args : Array Value} (hts : ∀ w ∈ wsX7_fill, w.before args s = true) : CallW rm_X7_fill s args RX7 RX1 32 yX1_drop cX1_drop 1 (some .int) wsX1_drop rm_X1_drop 0 0 0 := cwV 0 hts gX7_fill_X1_drop rfl rfl rfl (by decide +kernel) ⟨Nat.le_of_ble_eq_true rfl, Nat.le_of_ble_eq_true rfl⟩
theorem cw_X7_fill_X1_put {s : State} {args : Array Value} (hts : ∀ w ∈ wsX7_fill, w.before args s = true) : CallW rm_X7_fill s args RX7 RX1 42 yX1_put cX1_put 1 (some .int) wsX1_put rm_X1_put 0 0 0 := cwV 0 hts gX7_fill_X1_put rfl rfl rfl (by decide +kernel) ⟨Nat.le_of_ble_eq_true rfl, Nat.le_of_ble_eq_true rfl⟩
theorem cw_X7_fill_X7_clear {s : State} {args : Array Value} (hts : ∀ w ∈ wsX7_fill, w.before args s = true) : CallW rm_X7_fill s args RX7 RX7 28 yX7_clear cX7_clear 2 none wsX7_clear rm_X7_clear 0 0 1 := cwV 1 hts gX7_fill_X7_clear rfl rfl rfl (by decide +kernel) ⟨Nat.le_of_ble_eq_true rfl, Nat.le_of_ble_eq_true rfl⟩
theorem cw_X7_fill_X7_letter {s : State} {args : Array Value} (hts : ∀ w ∈ wsX7_fill, w.before args s = true) : CallB rm_X7_fill s args RX7 45 yX7_letter cX7_letter 3 (some .int) wsX7_letter rm_X7_letter 0 0 3 ∧ (Cond.static yX7_letter).before args s = true := va_cwS 3 hts gX7_fill_X7_letter rfl rfl rfl (by decide +kernel) ⟨Nat.le_of_ble_eq_true rfl, Nat.le_of_ble_eq_true rfl⟩
theorem cw_X7_fill_X7_offer {s : State} {args : Array Value} (hts : ∀ w ∈ wsX7_fill, w.before args s = true) : CallW rm_X7_fill s args RX7 RX7 38 yX7_offer cX7_offer 5 none wsX7_offer rm_X7_offer 0 0 3 := cwV 3 hts gX7_fill_X7_offer rfl rfl rfl (by decide +kernel) ⟨Nat.le_of_ble_eq_true rfl, Nat.le_of_ble_eq_true rfl⟩
set_option maxHeartbeats 4000000 in
set_option maxRecDepth 100000 in
theorem w_X7_fill_L15 {p : Program} {l : Launch} {e : Env} {s : State} {m : MethodId} {args : Array Value} {below : List Frame} {meth : Method} {c : Code} {Q : State → Prop} {D : va_G} {cy : Nat → ClassId} {ad : Nat → Nat} {H0 : Heap} (hO : adOK 39 ad) (S : CallFix p m c cX7_fill 8 s args wsX7_fill RX7) (hK : KK D cy s) (n : Nat) (rr : Nat) (hrr : isR rr) (w0 : Nat) (hw0 : isW w0) (w1 : Nat) (hw1 : isW w1) (x3_ : Int) (x4_ : Int) {res : Mem} (k0 : ∀ (τ : Mem) (H2 : Heap) (locs2 : List Loc) (ls2 : Array Slot), res = τ → va_P D vwCl (WW 39 (cellC cy ad) ad τ) H2 → va_S (AC 39 ad) H0 H2 locs2 → lv_has ls2 8 [(0, .ref (ad rr)), (1, .ref (ad w0)), (2, .ref (ad w1)), (3, .int (zI x3_)), (4, .int (zI x4_))] → W p l e rm_X7_fill s m args below meth c H2 locs2 0 0 Q (F0 m 154 ls2 [])) :
    ∀ (k : Nat) (x5_ : Int) (σ : Mem) (H : Heap) (locs : List Loc) (ls : Array Slot), f_X7_fill_L15 n rr w0 w1 x3_ x4_ k x5_ σ = some res → va_P D vwCl (WW 39 (cellC cy ad) ad σ) H → va_S (AC 39 ad) H0 H locs → lv_has ls 8 [(0, .ref (ad rr)), (1, .ref (ad w0)), (2, .ref (ad w1)), (3, .int (zI x3_)), (4, .int (zI x4_)), (5, .int (zI x5_))] → W p l e rm_X7_fill s m args below meth c H locs 0 0 Q (F0 m 15 ls []) := by
  intro k
  induction k with
  | zero =>
    intro x5_ σ H locs ls hf
    have hf : none = some res := hf
    cases hf
  | succ k ih =>
    intro x5_ σ H locs ls hf hP hS hl
    rw [f_X7_fill_L15] at hf
    refine lv_iload S.1 S.2.1 dX7_fill_15 (lv_at hl 5 rfl) ?_
    refine lv_aload_n S.1 S.2.1 dX7_fill_17 rfl (lv_at hl 2 rfl) ?_
    refine r_get S hK hP (ltW hw1) (cellW cy ad hw1 _) rfl h_X7_fill_X10 1 (by decide) k_X7_fill_1 rfl dX7_fill_18 ?_
    refine lv_icmp_gt (tgt := 154) S.1 S.2.1 dX7_fill_21 (by decide) (fun c1 => ?_) (fun c1 => ?_)
    · have hf := (if_pos c1).symm.trans hf
      exact k0 _ _ _ _ (Option.some.inj hf).symm hP hS (lv_sub hl [0, 1, 2, 3, 4] rfl)
    · have hf := (if_neg c1).symm.trans hf
      refine lv_iload S.1 S.2.1 dX7_fill_24 (lv_at hl 4 rfl) ?_
      refine r_bipush S dX7_fill_26 (by decide) ?_
      refine r_imul S dX7_fill_28 ?_
      refine lv_iload S.1 S.2.1 dX7_fill_29 (lv_at hl 5 rfl) ?_
      refine r_iadd S dX7_fill_31 ?_
      obtain ⟨x2, hx2, hf⟩ := nm_some hf
      refine r_istore S hx2 (lv2 := [(6, .int (zI x2)), (0, .ref (ad rr)), (1, .ref (ad w0)), (2, .ref (ad w1)), (3, .int (zI x3_)), (4, .int (zI x4_)), (5, .int (zI x5_))]) dX7_fill_32 hl (by decide) rfl (fun ls hl => ?_)
      refine lv_aload_n S.1 S.2.1 dX7_fill_34 rfl (lv_at hl 1 rfl) ?_
      refine lv_iload S.1 S.2.1 dX7_fill_35 (lv_at hl 0 rfl) ?_
      obtain ⟨σ4, hq3, hf⟩ := bV_some hf
      refine r_callVV S hK hP hS (ltR hrr) (cellR cy ad hrr _) rfl [.int (zI x2)] (c_X7_clear l D cy ad hO rr hrr x2 σ hq3) (cw_X7_fill_X7_clear S.2.2.2.2) rfl hl.1 (rest := []) rfl (Nat.le_of_ble_eq_true rfl) dX7_fill_37 ⟨Nat.zero_le _, Nat.zero_le _⟩ (fun H locs hP hS => ?_)
      refine lv_iload S.1 S.2.1 dX7_fill_40 (lv_at hl 5 rfl) ?_
      obtain ⟨σ5, hq, hf⟩ := bV_some hf
      have kJ0 : ∀ (H : Heap) (locs : List Loc) (ls : Array Slot), va_P D vwCl (WW 39 (cellC cy ad) ad σ5) H → va_S (AC 39 ad) H0 H locs → lv_has ls 8 [(0, .ref (ad rr)), (1, .ref (ad w0)), (2, .ref (ad w1)), (3, .int (zI x3_)), (4, .int (zI x4_)), (5, .int (zI x5_)), (6, .int (zI x2))] → W p l e rm_X7_fill s m args below meth c H locs 0 0 Q (F0 m 63 ls []) := by
        intro H locs ls hP hS hl
        refine lv_iload S.1 S.2.1 dX7_fill_63 (lv_at hl 5 rfl) ?_
        obtain ⟨σ11, hq, hf⟩ := bV_some hf
        have kJ0 : ∀ (H : Heap) (locs : List Loc) (ls : Array Slot), va_P D vwCl (WW 39 (cellC cy ad) ad σ11) H → va_S (AC 39 ad) H0 H locs → lv_has ls 8 [(0, .ref (ad rr)), (1, .ref (ad w0)), (2, .ref (ad w1)), (3, .int (zI x3_)), (4, .int (zI x4_)), (5, .int (zI x5_)), (6, .int (zI x2))] → W p l e rm_X7_fill s m args below meth c H locs 0 0 Q (F0 m 85 ls []) := by
          intro H locs ls hP hS hl
          refine lv_iload S.1 S.2.1 dX7_fill_85 (lv_at hl 4 rfl) ?_
          obtain ⟨σ17, hq, hf⟩ := bV_some hf
          have kJ0 : ∀ (H : Heap) (locs : List Loc) (ls : Array Slot), va_P D vwCl (WW 39 (cellC cy ad) ad σ17) H → va_S (AC 39 ad) H0 H locs → lv_has ls 8 [(0, .ref (ad rr)), (1, .ref (ad w0)), (2, .ref (ad w1)), (3, .int (zI x3_)), (4, .int (zI x4_)), (5, .int (zI x5_))] → W p l e rm_X7_fill s m args below meth c H locs 0 0 Q (F0 m 148 ls []) := by
            intro H locs ls hP hS hl
            obtain ⟨x32, hx32, hf⟩ := nm_some hf
            refine r_iinc S hx32 (k0 := 5) (lv2 := [(5, .int (zI x32)), (0, .ref (ad rr)), (1, .ref (ad w0)), (2, .ref (ad w1)), (3, .int (zI x3_)), (4, .int (zI x4_))]) dX7_fill_148 hl rfl (by decide) rfl (fun ls hl => ?_)
            refine lv_goto (tgt := 15) S.1 S.2.1 dX7_fill_151 (by decide) ?_
            exact ih x32 σ17 _ _ _ hf hP hS (lv_sub hl [1, 2, 3, 4, 5, 0] rfl)
          clear hf
          have hf := hq
          refine r_if_le (tgt := 148) S dX7_fill_87 (by decide) (fun c18 => ?_) (fun c18 => ?_)
          · have hf := (if_pos c18).symm.trans hf
            have e1 := Option.some.inj hf
            subst e1
            exact kJ0 _ _ _ hP hS (lv_sub hl [0, 1, 2, 3, 4, 5] rfl)
          · have hf := (if_neg c18).symm.trans hf
            refine lv_iload S.1 S.2.1 dX7_fill_90 (lv_at hl 5 rfl) ?_
            refine r_if_le (tgt := 148) S dX7_fill_92 (by decide) (fun c19 => ?_) (fun c19 => ?_)
            · have hf := (if_pos c19).symm.trans hf
              have e1 := Option.some.inj hf
              subst e1
              exact kJ0 _ _ _ hP hS (lv_sub hl [0, 1, 2, 3, 4, 5] rfl)
            · have hf := (if_neg c19).symm.trans hf
              refine lv_aload_n S.1 S.2.1 dX7_fill_95 rfl (lv_at hl 1 rfl) ?_
              refine lv_iload S.1 S.2.1 dX7_fill_96 (lv_at hl 4 rfl) ?_
              refine lv_iload_n S.1 S.2.1 dX7_fill_98 rfl (lv_at hl 3 rfl) ?_
              obtain ⟨y21, hq20, hf⟩ := bV_some hf
              refine r_callSI S hK hP hS [.ref (ad w0), .int (zI x4_), .int (zI x3_)] (c_X7_letter l D cy ad hO w0 hw0 x4_ x3_ σ11 hq20) (cw_X7_fill_X7_letter S.2.2.2.2) rfl hl.1 (rest := []) rfl (Nat.le_of_ble_eq_true rfl) dX7_fill_99 ⟨Nat.zero_le _, Nat.zero_le _⟩ (fun H locs hP hS => ?_)
              refine lv_aload_n S.1 S.2.1 dX7_fill_102 rfl (lv_at hl 2 rfl) ?_
              refine lv_iload S.1 S.2.1 dX7_fill_103 (lv_at hl 5 rfl) ?_
              refine lv_iload_n S.1 S.2.1 dX7_fill_105 rfl (lv_at hl 3 rfl) ?_
              obtain ⟨y23, hq22, hf⟩ := bV_some hf
              refine r_callSI S hK hP hS [.ref (ad w1), .int (zI x5_), .int (zI x3_)] (c_X7_letter l D cy ad hO w1 hw1 x5_ x3_ σ11 hq22) (cw_X7_fill_X7_letter S.2.2.2.2) rfl hl.1 (rest := [.int (zI y21)]) rfl (Nat.le_of_ble_eq_true rfl) dX7_fill_106 ⟨Nat.zero_le _, Nat.zero_le _⟩ (fun H locs hP hS => ?_)
              obtain ⟨v24, hq, hf⟩ := bV_some hf
              have kJ0 : ∀ (H : Heap) (locs : List Loc) (ls : Array Slot), va_P D vwCl (WW 39 (cellC cy ad) ad σ11) H → va_S (AC 39 ad) H0 H locs → lv_has ls 8 [(0, .ref (ad rr)), (1, .ref (ad w0)), (2, .ref (ad w1)), (3, .int (zI x3_)), (4, .int (zI x4_)), (5, .int (zI x5_)), (6, .int (zI x2))] → W p l e rm_X7_fill s m args below meth c H locs 0 0 Q (F0 m 117 ls [.int (zI v24)]) := by
                intro H locs ls hP hS hl
                refine r_istore S rfl (lv2 := [(7, .int (zI v24)), (0, .ref (ad rr)), (1, .ref (ad w0)), (2, .ref (ad w1)), (3, .int (zI x3_)), (4, .int (zI x4_)), (5, .int (zI x5_)), (6, .int (zI x2))]) dX7_fill_117 hl (by decide) rfl (fun ls hl => ?_)
                refine lv_aload_n S.1 S.2.1 dX7_fill_119 rfl (lv_at hl 1 rfl) ?_
                refine lv_iload S.1 S.2.1 dX7_fill_120 (lv_at hl 7 rfl) ?_
                refine lv_iload S.1 S.2.1 dX7_fill_122 (lv_at hl 7 rfl) ?_
                refine r_bipush S dX7_fill_124 (by decide) ?_
                refine r_isub S dX7_fill_126 ?_
                refine r_iconst S dX7_fill_127 ?_
                refine r_isub S dX7_fill_128 ?_
                refine lv_iload S.1 S.2.1 dX7_fill_129 (lv_at hl 0 rfl) ?_
                obtain ⟨v26, hq, hf⟩ := bV_some hf
                have kJ0 : ∀ (H : Heap) (locs : List Loc) (ls : Array Slot), va_P D vwCl (WW 39 (cellC cy ad) ad σ11) H → va_S (AC 39 ad) H0 H locs → lv_has ls 8 [(0, .ref (ad rr)), (1, .ref (ad w0)), (2, .ref (ad w1)), (3, .int (zI x3_)), (4, .int (zI x4_)), (5, .int (zI x5_))] → W p l e rm_X7_fill s m args below meth c H locs 0 0 Q (F0 m 145 ls [.int (zI v26), .int (zI ((x2 - 13) - 1)), .int (zI x2), .ref (ad rr)]) := by
                  intro H locs ls hP hS hl
                  obtain ⟨σ31, hq30, hf⟩ := bV_some hf
                  refine r_callVV S hK hP hS (ltR hrr) (cellR cy ad hrr _) rfl [.int (zI x2), .int (zI ((x2 - 13) - 1)), .int (zI v26)] (c_X7_offer l D cy ad hO rr hrr x2 ((x2 - 13) - 1) v26 σ11 hq30) (cw_X7_fill_X7_offer S.2.2.2.2) rfl hl.1 (rest := []) rfl (Nat.le_of_ble_eq_true rfl) dX7_fill_145 ⟨Nat.zero_le _, Nat.zero_le _⟩ (fun H locs hP hS => ?_)
                  have e1 := Option.some.inj hf
                  subst e1
                  exact kJ0 _ _ _ hP hS (lv_sub hl [0, 1, 2, 3, 4, 5] rfl)
                clear hf
                have hf := hq
                refine r_if_eq (tgt := 138) S dX7_fill_131 (by decide) (fun c27 => ?_) (fun c27 => ?_)
                · have hf := (if_pos c27).symm.trans hf
                  refine lv_aload_n S.1 S.2.1 dX7_fill_138 rfl (lv_at hl 1 rfl) ?_
                  refine r_get S hK hP (ltR hrr) (cellR cy ad hrr _) rfl h_X7_fill_X7 0 (by decide) k_X7_fill_2 rfl dX7_fill_139 ?_
                  obtain ⟨y29, hq28, hf⟩ := bV_some hf
                  refine r_callVI S hK hP hS (by decide) rfl rfl [] (c_X1_change l D cy ad hO σ11 hq28) (cw_X7_fill_X1_change S.2.2.2.2) rfl hl.1 (rest := [.int (zI ((x2 - 13) - 1)), .int (zI x2), .ref (ad rr)]) rfl (Nat.le_of_ble_eq_true rfl) dX7_fill_142 ⟨Nat.zero_le _, Nat.zero_le _⟩ (fun H locs hP hS => ?_)
                  have e1 := Option.some.inj hf
                  subst e1
                  exact kJ0 _ _ _ hP hS (lv_sub hl [1, 2, 3, 4, 5, 6] rfl)
                · have hf := (if_neg c27).symm.trans hf
                  refine r_iconst S dX7_fill_134 ?_
                  refine lv_goto (tgt := 145) S.1 S.2.1 dX7_fill_135 (by decide) ?_
                  have e1 := Option.some.inj hf
                  subst e1
                  exact kJ0 _ _ _ hP hS (lv_sub hl [1, 2, 3, 4, 5, 6] rfl)
              clear hf
              have hf := hq
              refine lv_icmp_ne (tgt := 116) S.1 S.2.1 dX7_fill_109 (by decide) (fun c25 => ?_) (fun c25 => ?_)
              · have hf := (if_neg c25).symm.trans hf
                refine r_iconst S dX7_fill_116 ?_
                have e1 := Option.some.inj hf
                subst e1
                exact kJ0 _ _ _ hP hS (lv_sub hl [0, 1, 2, 3, 4, 5, 6] rfl)
              · have hf := (if_pos c25).symm.trans hf
                refine r_iconst S dX7_fill_112 ?_
                refine lv_goto (tgt := 117) S.1 S.2.1 dX7_fill_113 (by decide) ?_
                have e1 := Option.some.inj hf
                subst e1
                exact kJ0 _ _ _ hP hS (lv_sub hl [0, 1, 2, 3, 4, 5, 6] rfl)
        clear hf
        have hf := hq
        refine r_if_le (tgt := 85) S dX7_fill_65 (by decide) (fun c12 => ?_) (fun c12 => ?_)
        · have hf := (if_pos c12).symm.trans hf
          have e1 := Option.some.inj hf
          subst e1
          exact kJ0 _ _ _ hP hS (lv_sub hl [0, 1, 2, 3, 4, 5, 6] rfl)
        · have hf := (if_neg c12).symm.trans hf
          refine lv_aload_n S.1 S.2.1 dX7_fill_68 rfl (lv_at hl 0 rfl) ?_
          refine lv_iload S.1 S.2.1 dX7_fill_69 (lv_at hl 6 rfl) ?_
          refine lv_iload S.1 S.2.1 dX7_fill_71 (lv_at hl 6 rfl) ?_
          refine r_iconst S dX7_fill_73 ?_
          refine r_isub S dX7_fill_74 ?_
          refine lv_aload_n S.1 S.2.1 dX7_fill_75 rfl (lv_at hl 0 rfl) ?_
          refine r_get S hK hP (ltR hrr) (cellR cy ad hrr _) rfl h_X7_fill_X7 0 (by decide) k_X7_fill_2 rfl dX7_fill_76 ?_
          obtain ⟨y14, hq13, hf⟩ := bV_some hf
          refine r_callVI S hK hP hS (by decide) rfl rfl [] (c_X1_put l D cy ad hO σ5 hq13) (cw_X7_fill_X1_put S.2.2.2.2) rfl hl.1 (rest := [.int (zI (x2 - 1)), .int (zI x2), .ref (ad rr)]) rfl (Nat.le_of_ble_eq_true rfl) dX7_fill_79 ⟨Nat.zero_le _, Nat.zero_le _⟩ (fun H locs hP hS => ?_)
          obtain ⟨σ16, hq15, hf⟩ := bV_some hf
          refine r_callVV S hK hP hS (ltR hrr) (cellR cy ad hrr _) rfl [.int (zI x2), .int (zI (x2 - 1)), .int (zI y14)] (c_X7_offer l D cy ad hO rr hrr x2 (x2 - 1) y14 σ5 hq15) (cw_X7_fill_X7_offer S.2.2.2.2) rfl hl.1 (rest := []) rfl (Nat.le_of_ble_eq_true rfl) dX7_fill_82 ⟨Nat.zero_le _, Nat.zero_le _⟩ (fun H locs hP hS => ?_)
          have e1 := Option.some.inj hf
          subst e1
          exact kJ0 _ _ _ hP hS (lv_sub hl [0, 1, 2, 3, 4, 5, 6] rfl)
      clear hf
      have hf := hq
      refine r_if_le (tgt := 63) S dX7_fill_42 (by decide) (fun c6 => ?_) (fun c6 => ?_)
      · have hf := (if_pos c6).symm.trans hf
        have e1 := Option.some.inj hf
        subst e1
        exact kJ0 _ _ _ hP hS (lv_sub hl [1, 2, 3, 4, 5, 6, 0] rfl)
      · have hf := (if_neg c6).symm.trans hf
        refine lv_aload_n S.1 S.2.1 dX7_fill_45 rfl (lv_at hl 1 rfl) ?_
        refine lv_iload S.1 S.2.1 dX7_fill_46 (lv_at hl 0 rfl) ?_
        refine lv_iload S.1 S.2.1 dX7_fill_48 (lv_at hl 0 rfl) ?_
        refine r_bipush S dX7_fill_50 (by decide) ?_
        refine r_isub S dX7_fill_52 ?_
        refine lv_aload_n S.1 S.2.1 dX7_fill_53 rfl (lv_at hl 1 rfl) ?_
        refine r_get S hK hP (ltR hrr) (cellR cy ad hrr _) rfl h_X7_fill_X7 0 (by decide) k_X7_fill_2 rfl dX7_fill_54 ?_
        obtain ⟨y8, hq7, hf⟩ := bV_some hf
        refine r_callVI S hK hP hS (by decide) rfl rfl [] (c_X1_drop l D cy ad hO σ4 hq7) (cw_X7_fill_X1_drop S.2.2.2.2) rfl hl.1 (rest := [.int (zI (x2 - 13)), .int (zI x2), .ref (ad rr)]) rfl (Nat.le_of_ble_eq_true rfl) dX7_fill_57 ⟨Nat.zero_le _, Nat.zero_le _⟩ (fun H locs hP hS => ?_)
        obtain ⟨σ10, hq9, hf⟩ := bV_some hf
        refine r_callVV S hK hP hS (ltR hrr) (cellR cy ad hrr _) rfl [.int (zI x2), .int (zI (x2 - 13)), .int (zI y8)] (c_X7_offer l D cy ad hO rr hrr x2 (x2 - 13) y8 σ4 hq9) (cw_X7_fill_X7_offer S.2.2.2.2) rfl hl.1 (rest := []) rfl (Nat.le_of_ble_eq_true rfl) dX7_fill_60 ⟨Nat.zero_le _, Nat.zero_le _⟩ (fun H locs hP hS => ?_)
        have e1 := Option.some.inj hf
        subst e1
        exact kJ0 _ _ _ hP hS (lv_sub hl [1, 2, 3, 4, 5, 6, 0] rfl)
set_option maxHeartbeats 4000000 in
set_option maxRecDepth 100000 in
theorem w_X7_fill_L3 {p : Program} {l : Launch} {e : Env} {s : State} {m : MethodId} {args : Array Value} {below : List Frame} {meth : Method} {c : Code} {Q : State → Prop} {D : va_G} {cy : Nat → ClassId} {ad : Nat → Nat} {H0 : Heap} (hO : adOK 39 ad) (S : CallFix p m c cX7_fill 8 s args wsX7_fill RX7) (hK : KK D cy s) (n : Nat) (rr : Nat) (hrr : isR rr) (w0 : Nat) (hw0 : isW w0) (w1 : Nat) (hw1 : isW w1) (x3_ : Int) {res : Mem} (k0 : ∀ (τ : Mem) (H2 : Heap) (locs2 : List Loc) (ls2 : Array Slot), res = τ → va_P D vwCl (WW 39 (cellC cy ad) ad τ) H2 → va_S (AC 39 ad) H0 H2 locs2 → lv_has ls2 8 [] → W p l e rm_X7_fill s m args below meth c H2 locs2 0 0 Q (F0 m 160 ls2 [])) :
    ∀ (k : Nat) (x4_ : Int) (σ : Mem) (H : Heap) (locs : List Loc) (ls : Array Slot), f_X7_fill_L3 n rr w0 w1 x3_ k x4_ σ = some res → va_P D vwCl (WW 39 (cellC cy ad) ad σ) H → va_S (AC 39 ad) H0 H locs → lv_has ls 8 [(0, .ref (ad rr)), (1, .ref (ad w0)), (2, .ref (ad w1)), (3, .int (zI x3_)), (4, .int (zI x4_))] → W p l e rm_X7_fill s m args below meth c H locs 0 0 Q (F0 m 3 ls []) := by
  intro k
  induction k with
  | zero =>
    intro x4_ σ H locs ls hf
    have hf : none = some res := hf
    cases hf
  | succ k ih =>
    intro x4_ σ H locs ls hf hP hS hl
    rw [f_X7_fill_L3] at hf
    refine lv_iload S.1 S.2.1 dX7_fill_3 (lv_at hl 4 rfl) ?_
    refine lv_aload_n S.1 S.2.1 dX7_fill_5 rfl (lv_at hl 1 rfl) ?_
    refine r_get S hK hP (ltW hw0) (cellW cy ad hw0 _) rfl h_X7_fill_X10 1 (by decide) k_X7_fill_1 rfl dX7_fill_6 ?_
    refine lv_icmp_gt (tgt := 160) S.1 S.2.1 dX7_fill_9 (by decide) (fun c1 => ?_) (fun c1 => ?_)
    · have hf := (if_pos c1).symm.trans hf
      exact k0 _ _ _ _ (Option.some.inj hf).symm hP hS (lv_sub hl [] rfl)
    · have hf := (if_neg c1).symm.trans hf
      refine r_iconst S dX7_fill_12 ?_
      refine r_istore S rfl (lv2 := [(5, .int (zI 0)), (0, .ref (ad rr)), (1, .ref (ad w0)), (2, .ref (ad w1)), (3, .int (zI x3_)), (4, .int (zI x4_))]) dX7_fill_13 hl (by decide) rfl (fun ls hl => ?_)
      obtain ⟨σ2, hq, hf⟩ := bV_some hf
      refine w_X7_fill_L15 hO S hK n rr hrr w0 hw0 w1 hw1 x3_ x4_ (fun σ2 H locs ls he hP hS hl => ?_) n 0 σ _ _ _ hq hP hS (lv_sub hl [1, 2, 3, 4, 5, 0] rfl)
      cases he
      obtain ⟨x3, hx3, hf⟩ := nm_some hf
      refine r_iinc S hx3 (k0 := 4) (lv2 := [(4, .int (zI x3)), (0, .ref (ad rr)), (1, .ref (ad w0)), (2, .ref (ad w1)), (3, .int (zI x3_))]) dX7_fill_154 hl rfl (by decide) rfl (fun ls hl => ?_)
      refine lv_goto (tgt := 3) S.1 S.2.1 dX7_fill_157 (by decide) ?_
      exact ih x3 σ2 _ _ _ hf hP hS (lv_sub hl [1, 2, 3, 4, 0] rfl)
set_option maxHeartbeats 4000000 in
set_option maxRecDepth 100000 in
theorem c_X7_fill (l : Launch) (D : va_G) (cy : Nat → ClassId) (ad : Nat → Nat) (hO : adOK 39 ad) (n : Nat) (rr : Nat) (hrr : isR rr) (w0 : Nat) (hw0 : isW w0) (w1 : Nat) (hw1 : isW w1) (a2 : Int) (σ : Mem) {τ : Mem} (hf : f_X7_fill n rr w0 w1 a2 σ = some τ) : Met l yX7_fill wsX7_fill rm_X7_fill (va_Pc [.ref (ad rr), .ref (ad w0), .ref (ad w1), .int (zI a2)] (PreW D cy 39 (cellC cy ad) ad σ)) (QV D 39 (cellC cy ad) ad τ) 0 0 (AC 39 ad) := by
  refine r_met (cc := cX7_fill) (maxL := 8) (ret := none) (own := RX7) (by decide) rfl rfl [.ref (ad rr), .ref (ad w0), .ref (ad w1), .int (zI a2)] (Nat.le_of_ble_eq_true rfl) ?_
  intro p e s m below meth c ls S hK hP hlk hr hl
  have hS : va_S (AC 39 ad) s.heap s.heap [] := va_S.rf
  have hl : lv_has ls 8 [(0, .ref (ad rr)), (1, .ref (ad w0)), (2, .ref (ad w1)), (3, .int (zI a2))] := hl
  unfold f_X7_fill at hf
  refine r_iconst S dX7_fill_0 ?_
  refine r_istore S rfl (lv2 := [(4, .int (zI 0)), (0, .ref (ad rr)), (1, .ref (ad w0)), (2, .ref (ad w1)), (3, .int (zI a2))]) dX7_fill_1 hl (by decide) rfl (fun ls hl => ?_)
  obtain ⟨σ1, hq, hf⟩ := bV_some hf
  refine w_X7_fill_L3 hO S hK n rr hrr w0 hw0 w1 hw1 a2 (fun σ1 H locs ls he hP hS hl => ?_) n 0 σ _ _ _ hq hP hS (lv_sub hl [1, 2, 3, 4, 0] rfl)
  cases he
  have e1 := Option.some.inj hf
  subst e1
  exact e_V S hlk hP hS hr dX7_fill_160
def rm_X7_leastAt : Room := { frames := 0, cells := 0, slots := 0, locals := 0 }
theorem k_X7_leastAt_1 : (.fieldLink RX7 11 "MendTexts$Rows" "leasts" "[I" : Cond) ∈ wsX7_leastAt := List.mem_of_getElem? (i := 1) (by decide +kernel)
theorem k_X7_leastAt_2 : (.constant RX7 52 (1073741824) : Cond) ∈ wsX7_leastAt := List.mem_of_getElem? (i := 2) (by decide +kernel)
theorem h_X7_leastAt_X7 : ∀ w ∈ u_ws RX7 TX7 3, w ∈ wsX7_leastAt := mem_places _ [3, 4, 5] (by decide +kernel)
set_option maxHeartbeats 4000000 in
set_option maxRecDepth 100000 in
theorem c_X7_leastAt (l : Launch) (D : va_G) (cy : Nat → ClassId) (ad : Nat → Nat) (hO : adOK 39 ad) (rr : Nat) (hrr : isR rr) (a0 : Int) (a1 : Int) (σ : Mem) {v : Int} (hf : f_X7_leastAt rr a0 a1 σ = some v) : Met l yX7_leastAt wsX7_leastAt rm_X7_leastAt (va_Pc [.ref (ad rr), .int (zI a0), .int (zI a1)] (PreW D cy 39 (cellC cy ad) ad σ)) (QI D 39 (cellC cy ad) ad v σ) 0 0 (AC 39 ad) := by
  refine r_met (cc := cX7_leastAt) (maxL := 4) (ret := (some .int)) (own := RX7) (by decide) rfl rfl [.ref (ad rr), .int (zI a0), .int (zI a1)] (Nat.le_of_ble_eq_true rfl) ?_
  intro p e s m below meth c ls S hK hP hlk hr hl
  have hS : va_S (AC 39 ad) s.heap s.heap [] := va_S.rf
  have hl : lv_has ls 4 [(0, .ref (ad rr)), (1, .int (zI a0)), (2, .int (zI a1))] := hl
  unfold f_X7_leastAt at hf
  refine lv_iload_n S.1 S.2.1 dX7_leastAt_0 rfl (lv_at hl 1 rfl) ?_
  refine r_bipush S dX7_leastAt_1 (by decide) ?_
  refine r_imul S dX7_leastAt_3 ?_
  refine lv_iload_n S.1 S.2.1 dX7_leastAt_4 rfl (lv_at hl 2 rfl) ?_
  refine r_iadd S dX7_leastAt_5 ?_
  obtain ⟨x1, hx1, hf⟩ := nm_some hf
  refine r_istore_n S hx1 (lv2 := [(3, .int (zI x1)), (0, .ref (ad rr)), (1, .int (zI a0)), (2, .int (zI a1))]) dX7_leastAt_6 rfl hl (by decide) rfl (fun ls hl => ?_)
  refine lv_iload_n S.1 S.2.1 dX7_leastAt_7 rfl (lv_at hl 0 rfl) ?_
  refine r_if_lt (tgt := 29) S dX7_leastAt_8 (by decide) (fun c2 => ?_) (fun c2 => ?_)
  · have hf := (if_pos c2).symm.trans hf
    refine r_ldc S 1073741824 (by decide +kernel) k_X7_leastAt_2 dX7_leastAt_29 ?_
    have e1 := Option.some.inj hf
    subst e1
    exact e_I S hlk hP hS hr dX7_leastAt_31
  · have hf := (if_neg c2).symm.trans hf
    refine lv_iload_n S.1 S.2.1 dX7_leastAt_11 rfl (lv_at hl 0 rfl) ?_
    refine lv_aload_n S.1 S.2.1 dX7_leastAt_12 rfl (lv_at hl 1 rfl) ?_
    refine r_get S hK hP (ltR hrr) (cellR cy ad hrr _) rfl h_X7_leastAt_X7 1 (by decide) k_X7_leastAt_1 rfl dX7_leastAt_13 ?_
    refine r_alen S hK hP (ltR1 hrr) (n := 91) (cellR1 cy ad hrr) dX7_leastAt_16 ?_
    refine lv_icmp_ge (tgt := 29) S.1 S.2.1 dX7_leastAt_17 (by decide) (fun c3 => ?_) (fun c3 => ?_)
    · have hf := (if_pos c3).symm.trans hf
      refine r_ldc S 1073741824 (by decide +kernel) k_X7_leastAt_2 dX7_leastAt_29 ?_
      have e1 := Option.some.inj hf
      subst e1
      exact e_I S hlk hP hS hr dX7_leastAt_31
    · have hf := (if_neg c3).symm.trans hf
      refine lv_aload_n S.1 S.2.1 dX7_leastAt_20 rfl (lv_at hl 1 rfl) ?_
      refine r_get S hK hP (ltR hrr) (cellR cy ad hrr _) rfl h_X7_leastAt_X7 1 (by decide) k_X7_leastAt_1 rfl dX7_leastAt_21 ?_
      refine lv_iload_n S.1 S.2.1 dX7_leastAt_24 rfl (lv_at hl 0 rfl) ?_
      obtain ⟨g4, hf⟩ := gd_some hf
      refine r_iald S hK hP (ltR1 hrr) (n := 91) (cellR1 cy ad hrr) (by decide) g4 dX7_leastAt_25 ?_
      refine lv_goto (tgt := 31) S.1 S.2.1 dX7_leastAt_26 (by decide) ?_
      have e1 := Option.some.inj hf
      subst e1
      exact e_I S hlk hP hS hr dX7_leastAt_31
def rm_X7_countAt : Room := { frames := 0, cells := 0, slots := 0, locals := 0 }
theorem k_X7_countAt_1 : (.fieldLink RX7 15 "MendTexts$Rows" "counts" "[I" : Cond) ∈ wsX7_countAt := List.mem_of_getElem? (i := 1) (by decide +kernel)
theorem h_X7_countAt_X7 : ∀ w ∈ u_ws RX7 TX7 3, w ∈ wsX7_countAt := mem_places _ [2, 3, 4] (by decide +kernel)
set_option maxHeartbeats 4000000 in
set_option maxRecDepth 100000 in
theorem c_X7_countAt (l : Launch) (D : va_G) (cy : Nat → ClassId) (ad : Nat → Nat) (hO : adOK 39 ad) (rr : Nat) (hrr : isR rr) (a0 : Int) (a1 : Int) (σ : Mem) {v : Int} (hf : f_X7_countAt rr a0 a1 σ = some v) : Met l yX7_countAt wsX7_countAt rm_X7_countAt (va_Pc [.ref (ad rr), .int (zI a0), .int (zI a1)] (PreW D cy 39 (cellC cy ad) ad σ)) (QI D 39 (cellC cy ad) ad v σ) 0 0 (AC 39 ad) := by
  refine r_met (cc := cX7_countAt) (maxL := 4) (ret := (some .int)) (own := RX7) (by decide) rfl rfl [.ref (ad rr), .int (zI a0), .int (zI a1)] (Nat.le_of_ble_eq_true rfl) ?_
  intro p e s m below meth c ls S hK hP hlk hr hl
  have hS : va_S (AC 39 ad) s.heap s.heap [] := va_S.rf
  have hl : lv_has ls 4 [(0, .ref (ad rr)), (1, .int (zI a0)), (2, .int (zI a1))] := hl
  unfold f_X7_countAt at hf
  refine lv_iload_n S.1 S.2.1 dX7_countAt_0 rfl (lv_at hl 1 rfl) ?_
  refine r_bipush S dX7_countAt_1 (by decide) ?_
  refine r_imul S dX7_countAt_3 ?_
  refine lv_iload_n S.1 S.2.1 dX7_countAt_4 rfl (lv_at hl 2 rfl) ?_
  refine r_iadd S dX7_countAt_5 ?_
  obtain ⟨x1, hx1, hf⟩ := nm_some hf
  refine r_istore_n S hx1 (lv2 := [(3, .int (zI x1)), (0, .ref (ad rr)), (1, .int (zI a0)), (2, .int (zI a1))]) dX7_countAt_6 rfl hl (by decide) rfl (fun ls hl => ?_)
  refine lv_iload_n S.1 S.2.1 dX7_countAt_7 rfl (lv_at hl 0 rfl) ?_
  refine r_if_lt (tgt := 29) S dX7_countAt_8 (by decide) (fun c2 => ?_) (fun c2 => ?_)
  · have hf := (if_pos c2).symm.trans hf
    refine r_iconst S dX7_countAt_29 ?_
    have e1 := Option.some.inj hf
    subst e1
    exact e_I S hlk hP hS hr dX7_countAt_30
  · have hf := (if_neg c2).symm.trans hf
    refine lv_iload_n S.1 S.2.1 dX7_countAt_11 rfl (lv_at hl 0 rfl) ?_
    refine lv_aload_n S.1 S.2.1 dX7_countAt_12 rfl (lv_at hl 1 rfl) ?_
    refine r_get S hK hP (ltR hrr) (cellR cy ad hrr _) rfl h_X7_countAt_X7 2 (by decide) k_X7_countAt_1 rfl dX7_countAt_13 ?_
    refine r_alen S hK hP (ltR2 hrr) (n := 91) (cellR2 cy ad hrr) dX7_countAt_16 ?_
    refine lv_icmp_ge (tgt := 29) S.1 S.2.1 dX7_countAt_17 (by decide) (fun c3 => ?_) (fun c3 => ?_)
    · have hf := (if_pos c3).symm.trans hf
      refine r_iconst S dX7_countAt_29 ?_
      have e1 := Option.some.inj hf
      subst e1
      exact e_I S hlk hP hS hr dX7_countAt_30
    · have hf := (if_neg c3).symm.trans hf
      refine lv_aload_n S.1 S.2.1 dX7_countAt_20 rfl (lv_at hl 1 rfl) ?_
      refine r_get S hK hP (ltR hrr) (cellR cy ad hrr _) rfl h_X7_countAt_X7 2 (by decide) k_X7_countAt_1 rfl dX7_countAt_21 ?_
      refine lv_iload_n S.1 S.2.1 dX7_countAt_24 rfl (lv_at hl 0 rfl) ?_
      obtain ⟨g4, hf⟩ := gd_some hf
      refine r_iald S hK hP (ltR2 hrr) (n := 91) (cellR2 cy ad hrr) (by decide) g4 dX7_countAt_25 ?_
      refine lv_goto (tgt := 30) S.1 S.2.1 dX7_countAt_26 (by decide) ?_
      have e1 := Option.some.inj hf
      subst e1
      exact e_I S hlk hP hS hr dX7_countAt_30
def rm_X11_waysThatKeep : Room := { frames := 1, cells := 0, slots := 0, locals := 23 }
theorem k_X11_waysThatKeep_1 : (.fieldLink RX11 38 "MendTexts" "typed" "LMendTexts$Word;" : Cond) ∈ wsX11_waysThatKeep := List.mem_of_getElem? (i := 1) (by decide +kernel)
theorem k_X11_waysThatKeep_2 : (.fieldLink RX11 171 "MendTexts$Word" "length" "I" : Cond) ∈ wsX11_waysThatKeep := List.mem_of_getElem? (i := 2) (by decide +kernel)
theorem k_X11_waysThatKeep_3 : (.fieldLink RX11 75 "MendTexts" "ahead" "LMendTexts$Rows;" : Cond) ∈ wsX11_waysThatKeep := List.mem_of_getElem? (i := 3) (by decide +kernel)
theorem k_X11_waysThatKeep_4 : (.fieldLink RX11 42 "MendTexts" "mended" "LMendTexts$Word;" : Cond) ∈ wsX11_waysThatKeep := List.mem_of_getElem? (i := 4) (by decide +kernel)
theorem k_X11_waysThatKeep_5 : (.fieldLink RX11 79 "MendTexts" "behind" "LMendTexts$Rows;" : Cond) ∈ wsX11_waysThatKeep := List.mem_of_getElem? (i := 5) (by decide +kernel)
theorem h_X11_waysThatKeep_X11 : ∀ w ∈ u_ws RX11 TX11 13, w ∈ wsX11_waysThatKeep := mem_places _ [25, 26, 27, 28, 29, 30, 31, 32, 33, 34, 35, 36, 37] (by decide +kernel)
theorem h_X11_waysThatKeep_X10 : ∀ w ∈ u_ws RX10 TX10 2, w ∈ wsX11_waysThatKeep := mem_places _ [38, 39] (by decide +kernel)
theorem cw_X11_waysThatKeep_X10_letterAt {s : State} {args : Array Value} (hts : ∀ w ∈ wsX11_waysThatKeep, w.before args s = true) : CallW rm_X11_waysThatKeep s args RX11 RX10 264 yX10_letterAt cX10_letterAt 2 (some .int) wsX10_letterAt rm_X10_letterAt 0 0 1 := cwV 1 hts gX11_waysThatKeep_X10_letterAt rfl rfl rfl (by decide +kernel) ⟨Nat.le_of_ble_eq_true rfl, Nat.le_of_ble_eq_true rfl⟩
theorem cw_X11_waysThatKeep_X7_countAt {s : State} {args : Array Value} (hts : ∀ w ∈ wsX11_waysThatKeep, w.before args s = true) : CallW rm_X11_waysThatKeep s args RX11 RX7 211 yX7_countAt cX7_countAt 4 (some .int) wsX7_countAt rm_X7_countAt 0 0 2 := cwV 2 hts gX11_waysThatKeep_X7_countAt rfl rfl rfl (by decide +kernel) ⟨Nat.le_of_ble_eq_true rfl, Nat.le_of_ble_eq_true rfl⟩
theorem cw_X11_waysThatKeep_X7_leastAt {s : State} {args : Array Value} (hts : ∀ w ∈ wsX11_waysThatKeep, w.before args s = true) : CallW rm_X11_waysThatKeep s args RX11 RX7 237 yX7_leastAt cX7_leastAt 4 (some .int) wsX7_leastAt rm_X7_leastAt 0 0 2 := cwV 2 hts gX11_waysThatKeep_X7_leastAt rfl rfl rfl (by decide +kernel) ⟨Nat.le_of_ble_eq_true rfl, Nat.le_of_ble_eq_true rfl⟩
set_option maxHeartbeats 4000000 in
set_option maxRecDepth 100000 in
theorem w_X11_waysThatKeep_L40 {p : Program} {l : Launch} {e : Env} {s : State} {m : MethodId} {args : Array Value} {below : List Frame} {meth : Method} {c : Code} {Q : State → Prop} {D : va_G} {cy : Nat → ClassId} {ad : Nat → Nat} {H0 : Heap} (hO : adOK 39 ad) (S : CallFix p m c cX11_waysThatKeep 7 s args wsX11_waysThatKeep RX11) (hK : KK D cy s) (n : Nat) (x1_ : Int) (x2_ : Int) (x3_ : Int) (σ : Mem) {res : Int} (k0 : ∀ (y4_ : Int) (H2 : Heap) (locs2 : List Loc) (ls2 : Array Slot), res = y4_ → va_P D vwCl (WW 39 (cellC cy ad) ad σ) H2 → va_S (AC 39 ad) H0 H2 locs2 → lv_has ls2 7 [(4, .int (zI y4_))] → W p l e rm_X11_waysThatKeep s m args below meth c H2 locs2 0 0 Q (F0 m 143 ls2 [])) :
    ∀ (k : Nat) (x4_ : Int) (x5_ : Int) (H : Heap) (locs : List Loc) (ls : Array Slot), f_X11_waysThatKeep_L40 n x1_ x2_ x3_ σ k x4_ x5_ = some res → va_P D vwCl (WW 39 (cellC cy ad) ad σ) H → va_S (AC 39 ad) H0 H locs → lv_has ls 7 [(0, .ref (ad 0)), (1, .int (zI x1_)), (2, .int (zI x2_)), (3, .int (zI x3_)), (4, .int (zI x4_)), (5, .int (zI x5_))] → W p l e rm_X11_waysThatKeep s m args below meth c H locs 0 0 Q (F0 m 40 ls []) := by
  intro k
  induction k with
  | zero =>
    intro x4_ x5_ H locs ls hf
    have hf : none = some res := hf
    cases hf
  | succ k ih =>
    intro x4_ x5_ H locs ls hf hP hS hl
    rw [f_X11_waysThatKeep_L40] at hf
    refine lv_iload S.1 S.2.1 dX11_waysThatKeep_40 (lv_at hl 5 rfl) ?_
    refine lv_aload_n S.1 S.2.1 dX11_waysThatKeep_42 rfl (lv_at hl 0 rfl) ?_
    refine r_get S hK hP (by decide) rfl rfl h_X11_waysThatKeep_X11 5 (by decide) k_X11_waysThatKeep_4 rfl dX11_waysThatKeep_43 ?_
    refine r_get S hK hP (by decide) rfl rfl h_X11_waysThatKeep_X10 1 (by decide) k_X11_waysThatKeep_2 rfl dX11_waysThatKeep_46 ?_
    refine lv_icmp_ge (tgt := 143) S.1 S.2.1 dX11_waysThatKeep_49 (by decide) (fun c1 => ?_) (fun c1 => ?_)
    · have hf := (if_pos c1).symm.trans hf
      exact k0 _ _ _ _ (Option.some.inj hf).symm hP hS (lv_sub hl [4] rfl)
    · have hf := (if_neg c1).symm.trans hf
      refine lv_aload_n S.1 S.2.1 dX11_waysThatKeep_52 rfl (lv_at hl 0 rfl) ?_
      refine r_get S hK hP (by decide) rfl rfl h_X11_waysThatKeep_X11 5 (by decide) k_X11_waysThatKeep_4 rfl dX11_waysThatKeep_53 ?_
      refine r_get S hK hP (by decide) rfl rfl h_X11_waysThatKeep_X10 1 (by decide) k_X11_waysThatKeep_2 rfl dX11_waysThatKeep_56 ?_
      refine lv_iload S.1 S.2.1 dX11_waysThatKeep_59 (lv_at hl 5 rfl) ?_
      refine r_isub S dX11_waysThatKeep_61 ?_
      refine r_iconst S dX11_waysThatKeep_62 ?_
      refine r_isub S dX11_waysThatKeep_63 ?_
      obtain ⟨x2, hx2, hf⟩ := nm_some hf
      refine r_istore S hx2 (lv2 := [(6, .int (zI x2)), (0, .ref (ad 0)), (1, .int (zI x1_)), (2, .int (zI x2_)), (3, .int (zI x3_)), (4, .int (zI x4_)), (5, .int (zI x5_))]) dX11_waysThatKeep_64 hl (by decide) rfl (fun ls hl => ?_)
      refine lv_aload_n S.1 S.2.1 dX11_waysThatKeep_66 rfl (lv_at hl 1 rfl) ?_
      refine r_get S hK hP (by decide) rfl rfl h_X11_waysThatKeep_X11 4 (by decide) k_X11_waysThatKeep_1 rfl dX11_waysThatKeep_67 ?_
      refine lv_iload_n S.1 S.2.1 dX11_waysThatKeep_70 rfl (lv_at hl 2 rfl) ?_
      obtain ⟨y4, hq3, hf⟩ := bV_some hf
      refine r_callVI S hK hP hS (by decide) rfl rfl [.int (zI x1_)] (c_X10_letterAt l D cy ad hO 13 (by decide) x1_ σ hq3) (cw_X11_waysThatKeep_X10_letterAt S.2.2.2.2) rfl hl.1 (rest := []) rfl (Nat.le_of_ble_eq_true rfl) dX11_waysThatKeep_71 ⟨Nat.zero_le _, Nat.zero_le _⟩ (fun H locs hP hS => ?_)
      refine lv_aload_n S.1 S.2.1 dX11_waysThatKeep_74 rfl (lv_at hl 1 rfl) ?_
      refine r_get S hK hP (by decide) rfl rfl h_X11_waysThatKeep_X11 5 (by decide) k_X11_waysThatKeep_4 rfl dX11_waysThatKeep_75 ?_
      refine lv_iload S.1 S.2.1 dX11_waysThatKeep_78 (lv_at hl 6 rfl) ?_
      obtain ⟨y6, hq5, hf⟩ := bV_some hf
      refine r_callVI S hK hP hS (by decide) rfl rfl [.int (zI x5_)] (c_X10_letterAt l D cy ad hO 15 (by decide) x5_ σ hq5) (cw_X11_waysThatKeep_X10_letterAt S.2.2.2.2) rfl hl.1 (rest := [.int (zI y4)]) rfl (Nat.le_of_ble_eq_true rfl) dX11_waysThatKeep_80 ⟨Nat.zero_le _, Nat.zero_le _⟩ (fun H locs hP hS => ?_)
      obtain ⟨x7, hq, hf⟩ := bV_some hf
      have kJ0 : ∀ (H : Heap) (locs : List Loc) (ls : Array Slot), va_P D vwCl (WW 39 (cellC cy ad) ad σ) H → va_S (AC 39 ad) H0 H locs → lv_has ls 7 [(0, .ref (ad 0)), (1, .int (zI x1_)), (2, .int (zI x2_)), (3, .int (zI x3_)), (4, .int (zI x7)), (5, .int (zI x5_))] → W p l e rm_X11_waysThatKeep s m args below meth c H locs 0 0 Q (F0 m 137 ls []) := by
        intro H locs ls hP hS hl
        obtain ⟨x19, hx19, hf⟩ := nm_some hf
        refine r_iinc S hx19 (k0 := 5) (lv2 := [(5, .int (zI x19)), (0, .ref (ad 0)), (1, .int (zI x1_)), (2, .int (zI x2_)), (3, .int (zI x3_)), (4, .int (zI x7))]) dX11_waysThatKeep_137 hl rfl (by decide) rfl (fun ls hl => ?_)
        refine lv_goto (tgt := 40) S.1 S.2.1 dX11_waysThatKeep_140 (by decide) ?_
        exact ih x7 x19 _ _ _ hf hP hS (lv_sub hl [1, 2, 3, 4, 5, 0] rfl)
      clear hf
      have hf := hq
      refine lv_icmp_ne (tgt := 137) S.1 S.2.1 dX11_waysThatKeep_83 (by decide) (fun c8 => ?_) (fun c8 => ?_)
      · have hf := (if_neg c8).symm.trans hf
        have e1 := Option.some.inj hf
        subst e1
        exact kJ0 _ _ _ hP hS (lv_sub hl [1, 2, 3, 4, 5, 6] rfl)
      · have hf := (if_pos c8).symm.trans hf
        refine lv_aload_n S.1 S.2.1 dX11_waysThatKeep_86 rfl (lv_at hl 1 rfl) ?_
        refine r_get S hK hP (by decide) rfl rfl h_X11_waysThatKeep_X11 9 (by decide) k_X11_waysThatKeep_3 rfl dX11_waysThatKeep_87 ?_
        refine lv_iload_n S.1 S.2.1 dX11_waysThatKeep_90 rfl (lv_at hl 2 rfl) ?_
        refine lv_iload S.1 S.2.1 dX11_waysThatKeep_91 (lv_at hl 6 rfl) ?_
        obtain ⟨y10, hq9, hf⟩ := bV_some hf
        refine r_callVI S hK hP hS (by decide) rfl rfl [.int (zI x1_), .int (zI x5_)] (c_X7_leastAt l D cy ad hO 32 (by decide) x1_ x5_ σ hq9) (cw_X11_waysThatKeep_X7_leastAt S.2.2.2.2) rfl hl.1 (rest := []) rfl (Nat.le_of_ble_eq_true rfl) dX11_waysThatKeep_93 ⟨Nat.zero_le _, Nat.zero_le _⟩ (fun H locs hP hS => ?_)
        refine lv_aload_n S.1 S.2.1 dX11_waysThatKeep_96 rfl (lv_at hl 1 rfl) ?_
        refine r_get S hK hP (by decide) rfl rfl h_X11_waysThatKeep_X11 10 (by decide) k_X11_waysThatKeep_5 rfl dX11_waysThatKeep_97 ?_
        refine lv_iload_n S.1 S.2.1 dX11_waysThatKeep_100 rfl (lv_at hl 3 rfl) ?_
        refine lv_iload S.1 S.2.1 dX11_waysThatKeep_101 (lv_at hl 0 rfl) ?_
        obtain ⟨y12, hq11, hf⟩ := bV_some hf
        refine r_callVI S hK hP hS (by decide) rfl rfl [.int (zI x2_), .int (zI x2)] (c_X7_leastAt l D cy ad hO 35 (by decide) x2_ x2 σ hq11) (cw_X11_waysThatKeep_X7_leastAt S.2.2.2.2) rfl hl.1 (rest := [.int (zI y10)]) rfl (Nat.le_of_ble_eq_true rfl) dX11_waysThatKeep_103 ⟨Nat.zero_le _, Nat.zero_le _⟩ (fun H locs hP hS => ?_)
        refine r_iadd S dX11_waysThatKeep_106 ?_
        refine lv_iload_n S.1 S.2.1 dX11_waysThatKeep_107 rfl (lv_at hl 4 rfl) ?_
        refine lv_icmp_ne (tgt := 137) S.1 S.2.1 dX11_waysThatKeep_108 (by decide) (fun c13 => ?_) (fun c13 => ?_)
        · have hf := (if_neg c13).symm.trans hf
          have e1 := Option.some.inj hf
          subst e1
          exact kJ0 _ _ _ hP hS (lv_sub hl [1, 2, 3, 4, 5, 6] rfl)
        · have hf := (if_pos c13).symm.trans hf
          refine lv_iload S.1 S.2.1 dX11_waysThatKeep_111 (lv_at hl 5 rfl) ?_
          refine lv_aload_n S.1 S.2.1 dX11_waysThatKeep_113 rfl (lv_at hl 1 rfl) ?_
          refine r_get S hK hP (by decide) rfl rfl h_X11_waysThatKeep_X11 9 (by decide) k_X11_waysThatKeep_3 rfl dX11_waysThatKeep_114 ?_
          refine lv_iload_n S.1 S.2.1 dX11_waysThatKeep_117 rfl (lv_at hl 2 rfl) ?_
          refine lv_iload S.1 S.2.1 dX11_waysThatKeep_118 (lv_at hl 6 rfl) ?_
          obtain ⟨y15, hq14, hf⟩ := bV_some hf
          refine r_callVI S hK hP hS (by decide) rfl rfl [.int (zI x1_), .int (zI x5_)] (c_X7_countAt l D cy ad hO 32 (by decide) x1_ x5_ σ hq14) (cw_X11_waysThatKeep_X7_countAt S.2.2.2.2) rfl hl.1 (rest := [.int (zI x4_)]) rfl (Nat.le_of_ble_eq_true rfl) dX11_waysThatKeep_120 ⟨Nat.zero_le _, Nat.zero_le _⟩ (fun H locs hP hS => ?_)
          refine lv_aload_n S.1 S.2.1 dX11_waysThatKeep_123 rfl (lv_at hl 1 rfl) ?_
          refine r_get S hK hP (by decide) rfl rfl h_X11_waysThatKeep_X11 10 (by decide) k_X11_waysThatKeep_5 rfl dX11_waysThatKeep_124 ?_
          refine lv_iload_n S.1 S.2.1 dX11_waysThatKeep_127 rfl (lv_at hl 3 rfl) ?_
          refine lv_iload S.1 S.2.1 dX11_waysThatKeep_128 (lv_at hl 0 rfl) ?_
          obtain ⟨y17, hq16, hf⟩ := bV_some hf
          refine r_callVI S hK hP hS (by decide) rfl rfl [.int (zI x2_), .int (zI x2)] (c_X7_countAt l D cy ad hO 35 (by decide) x2_ x2 σ hq16) (cw_X11_waysThatKeep_X7_countAt S.2.2.2.2) rfl hl.1 (rest := [.int (zI y15), .int (zI x4_)]) rfl (Nat.le_of_ble_eq_true rfl) dX11_waysThatKeep_130 ⟨Nat.zero_le _, Nat.zero_le _⟩ (fun H locs hP hS => ?_)
          refine r_imul S dX11_waysThatKeep_133 ?_
          refine r_iadd S dX11_waysThatKeep_134 ?_
          obtain ⟨x18, hx18, hf⟩ := nm_some hf
          refine r_istore S hx18 (lv2 := [(4, .int (zI x18)), (6, .int (zI x2)), (0, .ref (ad 0)), (1, .int (zI x1_)), (2, .int (zI x2_)), (3, .int (zI x3_)), (5, .int (zI x5_))]) dX11_waysThatKeep_135 hl (by decide) rfl (fun ls hl => ?_)
          have e1 := Option.some.inj hf
          subst e1
          exact kJ0 _ _ _ hP hS (lv_sub hl [2, 3, 4, 5, 0, 6] rfl)
set_option maxHeartbeats 4000000 in
set_option maxRecDepth 100000 in
theorem c_X11_waysThatKeep (l : Launch) (D : va_G) (cy : Nat → ClassId) (ad : Nat → Nat) (hO : adOK 39 ad) (n : Nat) (a0 : Int) (σ : Mem) {v : Int} (hf : f_X11_waysThatKeep n a0 σ = some v) : Met l yX11_waysThatKeep wsX11_waysThatKeep rm_X11_waysThatKeep (va_Pc [.ref (ad 0), .int (zI a0)] (PreW D cy 39 (cellC cy ad) ad σ)) (QI D 39 (cellC cy ad) ad v σ) 0 0 (AC 39 ad) := by
  refine r_met (cc := cX11_waysThatKeep) (maxL := 7) (ret := (some .int)) (own := RX11) (by decide) rfl rfl [.ref (ad 0), .int (zI a0)] (Nat.le_of_ble_eq_true rfl) ?_
  intro p e s m below meth c ls S hK hP hlk hr hl
  have hS : va_S (AC 39 ad) s.heap s.heap [] := va_S.rf
  have hl : lv_has ls 7 [(0, .ref (ad 0)), (1, .int (zI a0))] := hl
  unfold f_X11_waysThatKeep at hf
  refine lv_aload_n S.1 S.2.1 dX11_waysThatKeep_0 rfl (lv_at hl 0 rfl) ?_
  refine r_get S hK hP (by decide) rfl rfl h_X11_waysThatKeep_X11 4 (by decide) k_X11_waysThatKeep_1 rfl dX11_waysThatKeep_1 ?_
  refine r_get S hK hP (by decide) rfl rfl h_X11_waysThatKeep_X10 1 (by decide) k_X11_waysThatKeep_2 rfl dX11_waysThatKeep_4 ?_
  refine lv_iload_n S.1 S.2.1 dX11_waysThatKeep_7 rfl (lv_at hl 1 rfl) ?_
  refine r_isub S dX11_waysThatKeep_8 ?_
  refine r_iconst S dX11_waysThatKeep_9 ?_
  refine r_isub S dX11_waysThatKeep_10 ?_
  obtain ⟨x1, hx1, hf⟩ := nm_some hf
  refine r_istore_n S hx1 (lv2 := [(2, .int (zI x1)), (0, .ref (ad 0)), (1, .int (zI a0))]) dX11_waysThatKeep_11 rfl hl (by decide) rfl (fun ls hl => ?_)
  refine lv_aload_n S.1 S.2.1 dX11_waysThatKeep_12 rfl (lv_at hl 1 rfl) ?_
  refine r_get S hK hP (by decide) rfl rfl h_X11_waysThatKeep_X11 9 (by decide) k_X11_waysThatKeep_3 rfl dX11_waysThatKeep_13 ?_
  refine lv_aload_n S.1 S.2.1 dX11_waysThatKeep_16 rfl (lv_at hl 1 rfl) ?_
  refine r_get S hK hP (by decide) rfl rfl h_X11_waysThatKeep_X11 4 (by decide) k_X11_waysThatKeep_1 rfl dX11_waysThatKeep_17 ?_
  refine r_get S hK hP (by decide) rfl rfl h_X11_waysThatKeep_X10 1 (by decide) k_X11_waysThatKeep_2 rfl dX11_waysThatKeep_20 ?_
  refine lv_aload_n S.1 S.2.1 dX11_waysThatKeep_23 rfl (lv_at hl 1 rfl) ?_
  refine r_get S hK hP (by decide) rfl rfl h_X11_waysThatKeep_X11 5 (by decide) k_X11_waysThatKeep_4 rfl dX11_waysThatKeep_24 ?_
  refine r_get S hK hP (by decide) rfl rfl h_X11_waysThatKeep_X10 1 (by decide) k_X11_waysThatKeep_2 rfl dX11_waysThatKeep_27 ?_
  obtain ⟨y3, hq2, hf⟩ := bV_some hf
  refine r_callVI S hK hP hS (by decide) rfl rfl [.int (zI (σ 13 1)), .int (zI (σ 15 1))] (c_X7_leastAt l D cy ad hO 32 (by decide) (σ 13 1) (σ 15 1) σ hq2) (cw_X11_waysThatKeep_X7_leastAt S.2.2.2.2) rfl hl.1 (rest := []) rfl (Nat.le_of_ble_eq_true rfl) dX11_waysThatKeep_30 ⟨Nat.zero_le _, Nat.zero_le _⟩ (fun H locs hP hS => ?_)
  refine r_istore_n S rfl (lv2 := [(3, .int (zI y3)), (2, .int (zI x1)), (0, .ref (ad 0)), (1, .int (zI a0))]) dX11_waysThatKeep_33 rfl hl (by decide) rfl (fun ls hl => ?_)
  refine r_iconst S dX11_waysThatKeep_34 ?_
  refine r_istore S rfl (lv2 := [(4, .int (zI 0)), (3, .int (zI y3)), (2, .int (zI x1)), (0, .ref (ad 0)), (1, .int (zI a0))]) dX11_waysThatKeep_35 hl (by decide) rfl (fun ls hl => ?_)
  refine r_iconst S dX11_waysThatKeep_37 ?_
  refine r_istore S rfl (lv2 := [(5, .int (zI 0)), (4, .int (zI 0)), (3, .int (zI y3)), (2, .int (zI x1)), (0, .ref (ad 0)), (1, .int (zI a0))]) dX11_waysThatKeep_38 hl (by decide) rfl (fun ls hl => ?_)
  obtain ⟨x4, hq, hf⟩ := bV_some hf
  refine w_X11_waysThatKeep_L40 hO S hK n a0 x1 y3 σ (fun x4 H locs ls he hP hS hl => ?_) n 0 0 _ _ _ hq hP hS (lv_sub hl [4, 5, 3, 2, 1, 0] rfl)
  cases he
  refine lv_iload S.1 S.2.1 dX11_waysThatKeep_143 (lv_at hl 0 rfl) ?_
  have e1 := Option.some.inj hf
  subst e1
  exact e_I S hlk hP hS hr dX11_waysThatKeep_145
def rm_X11_kept : Room := { frames := 7, cells := 0, slots := 0, locals := 177 }
theorem k_X11_kept_1 : (.fieldLink RX11 38 "MendTexts" "typed" "LMendTexts$Word;" : Cond) ∈ wsX11_kept := List.mem_of_getElem? (i := 1) (by decide +kernel)
theorem k_X11_kept_2 : (.fieldLink RX11 171 "MendTexts$Word" "length" "I" : Cond) ∈ wsX11_kept := List.mem_of_getElem? (i := 2) (by decide +kernel)
theorem k_X11_kept_3 : (.fieldLink RX11 75 "MendTexts" "ahead" "LMendTexts$Rows;" : Cond) ∈ wsX11_kept := List.mem_of_getElem? (i := 3) (by decide +kernel)
theorem k_X11_kept_4 : (.fieldLink RX11 42 "MendTexts" "mended" "LMendTexts$Word;" : Cond) ∈ wsX11_kept := List.mem_of_getElem? (i := 4) (by decide +kernel)
theorem k_X11_kept_5 : (.fieldLink RX11 79 "MendTexts" "behind" "LMendTexts$Rows;" : Cond) ∈ wsX11_kept := List.mem_of_getElem? (i := 5) (by decide +kernel)
theorem h_X11_kept_X11 : ∀ w ∈ u_ws RX11 TX11 13, w ∈ wsX11_kept := mem_places _ [209, 210, 211, 212, 213, 214, 215, 216, 217, 218, 219, 220, 221] (by decide +kernel)
theorem h_X11_kept_X10 : ∀ w ∈ u_ws RX10 TX10 2, w ∈ wsX11_kept := mem_places _ [222, 223] (by decide +kernel)
theorem cw_X11_kept_X11_readText {s : State} {args : Array Value} (hts : ∀ w ∈ wsX11_kept, w.before args s = true) : CallW rm_X11_kept s args RX11 RX11 203 yX11_readText cX11_readText 4 none wsX11_readText rm_X11_readText 0 0 1 := cwV 1 hts gX11_kept_X11_readText rfl rfl rfl (by decide +kernel) ⟨Nat.le_of_ble_eq_true rfl, Nat.le_of_ble_eq_true rfl⟩
theorem cw_X11_kept_X11_refusalOf {s : State} {args : Array Value} (hts : ∀ w ∈ wsX11_kept, w.before args s = true) : CallB rm_X11_kept s args RX11 200 yX11_refusalOf cX11_refusalOf 2 (some .int) wsX11_refusalOf rm_X11_refusalOf 0 0 1 ∧ (Cond.static yX11_refusalOf).before args s = true := va_cwS 1 hts gX11_kept_X11_refusalOf rfl rfl rfl (by decide +kernel) ⟨Nat.le_of_ble_eq_true rfl, Nat.le_of_ble_eq_true rfl⟩
theorem cw_X11_kept_X11_textFit {s : State} {args : Array Value} (hts : ∀ w ∈ wsX11_kept, w.before args s = true) : CallW rm_X11_kept s args RX11 RX11 196 yX11_textFit cX11_textFit 1 (some .long) wsX11_textFit rm_X11_textFit 0 0 0 := cwV 0 hts gX11_kept_X11_textFit rfl rfl rfl (by decide +kernel) ⟨Nat.le_of_ble_eq_true rfl, Nat.le_of_ble_eq_true rfl⟩
theorem cw_X11_kept_X11_waysThatKeep {s : State} {args : Array Value} (hts : ∀ w ∈ wsX11_kept, w.before args s = true) : CallW rm_X11_kept s args RX11 RX11 220 yX11_waysThatKeep cX11_waysThatKeep 7 (some .int) wsX11_waysThatKeep rm_X11_waysThatKeep 0 0 1 := cwV 1 hts gX11_kept_X11_waysThatKeep rfl rfl rfl (by decide +kernel) ⟨Nat.le_of_ble_eq_true rfl, Nat.le_of_ble_eq_true rfl⟩
theorem cw_X11_kept_X7_countAt {s : State} {args : Array Value} (hts : ∀ w ∈ wsX11_kept, w.before args s = true) : CallW rm_X11_kept s args RX11 RX7 211 yX7_countAt cX7_countAt 4 (some .int) wsX7_countAt rm_X7_countAt 0 0 2 := cwV 2 hts gX11_kept_X7_countAt rfl rfl rfl (by decide +kernel) ⟨Nat.le_of_ble_eq_true rfl, Nat.le_of_ble_eq_true rfl⟩
theorem cw_X11_kept_X7_fill {s : State} {args : Array Value} (hts : ∀ w ∈ wsX11_kept, w.before args s = true) : CallW rm_X11_kept s args RX11 RX7 207 yX7_fill cX7_fill 8 none wsX7_fill rm_X7_fill 0 0 3 := cwV 3 hts gX11_kept_X7_fill rfl rfl rfl (by decide +kernel) ⟨Nat.le_of_ble_eq_true rfl, Nat.le_of_ble_eq_true rfl⟩
set_option maxHeartbeats 4000000 in
set_option maxRecDepth 100000 in
theorem c_X11_kept (l : Launch) (D : va_G) (cy : Nat → ClassId) (ad : Nat → Nat) (hO : adOK 39 ad) (n : Nat) (a0 : Int) (σ : Mem) {v : Int} {τ : Mem} (hf : f_X11_kept n a0 σ = some (v, τ)) : Met l yX11_kept wsX11_kept rm_X11_kept (va_Pc [.ref (ad 0), .int (zI a0)] (PreW D cy 39 (cellC cy ad) ad σ)) (QI D 39 (cellC cy ad) ad v τ) 0 0 (AC 39 ad) := by
  refine r_met (cc := cX11_kept) (maxL := 6) (ret := (some .int)) (own := RX11) (by decide) rfl rfl [.ref (ad 0), .int (zI a0)] (Nat.le_of_ble_eq_true rfl) ?_
  intro p e s m below meth c ls S hK hP hlk hr hl
  have hS : va_S (AC 39 ad) s.heap s.heap [] := va_S.rf
  have hl : lv_has ls 6 [(0, .ref (ad 0)), (1, .int (zI a0))] := hl
  unfold f_X11_kept at hf
  refine lv_iload_n S.1 S.2.1 dX11_kept_0 rfl (lv_at hl 1 rfl) ?_
  refine r_if_lt (tgt := 15) S dX11_kept_1 (by decide) (fun c1 => ?_) (fun c1 => ?_)
  · have hf := (if_pos c1).symm.trans hf
    refine r_bipush S dX11_kept_15 (by decide) ?_
    obtain ⟨e1, e2⟩ := inj2 hf
    subst e1
    subst e2
    exact e_I S hlk hP hS hr dX11_kept_17
  · have hf := (if_neg c1).symm.trans hf
    refine lv_iload_n S.1 S.2.1 dX11_kept_4 rfl (lv_at hl 1 rfl) ?_
    refine lv_aload_n S.1 S.2.1 dX11_kept_5 rfl (lv_at hl 0 rfl) ?_
    refine r_get S hK hP (by decide) rfl rfl h_X11_kept_X11 4 (by decide) k_X11_kept_1 rfl dX11_kept_6 ?_
    refine r_get S hK hP (by decide) rfl rfl h_X11_kept_X10 1 (by decide) k_X11_kept_2 rfl dX11_kept_9 ?_
    refine lv_icmp_lt (tgt := 18) S.1 S.2.1 dX11_kept_12 (by decide) (fun c2 => ?_) (fun c2 => ?_)
    · have hf := (if_pos c2).symm.trans hf
      refine lv_aload_n S.1 S.2.1 dX11_kept_18 rfl (lv_at hl 0 rfl) ?_
      obtain ⟨y5, σ4, hq3, hf⟩ := bL1_some hf
      refine r_callVL S hK hP hS (by decide) rfl rfl [] (c_X11_textFit l D cy ad hO n σ hq3) (cw_X11_kept_X11_textFit S.2.2.2.2) rfl hl.1 (rest := []) rfl (Nat.le_of_ble_eq_true rfl) dX11_kept_19 ⟨Nat.zero_le _, Nat.zero_le _⟩ (fun H locs hP hS => ?_)
      refine r_lstore_n S rfl (lv2 := [(2, .long (zL y5)), (0, .ref (ad 0)), (1, .int (zI a0))]) dX11_kept_22 rfl hl (by decide) rfl (fun ls hl => ?_)
      refine lv_lload_n S.1 S.2.1 dX11_kept_23 rfl (lv_at hl 0 rfl) ?_
      obtain ⟨y7, hq6, hf⟩ := bV_some hf
      refine r_callSI S hK hP hS [.long (zL y5)] (c_X11_refusalOf l D cy ad hO y5 σ4 hq6) (cw_X11_kept_X11_refusalOf S.2.2.2.2) rfl hl.1 (rest := []) rfl (Nat.le_of_ble_eq_true rfl) dX11_kept_24 ⟨Nat.zero_le _, Nat.zero_le _⟩ (fun H locs hP hS => ?_)
      refine r_istore S rfl (lv2 := [(4, .int (zI y7)), (2, .long (zL y5)), (0, .ref (ad 0)), (1, .int (zI a0))]) dX11_kept_27 hl (by decide) rfl (fun ls hl => ?_)
      refine lv_iload S.1 S.2.1 dX11_kept_29 (lv_at hl 0 rfl) ?_
      refine r_if_eq (tgt := 37) S dX11_kept_31 (by decide) (fun c8 => ?_) (fun c8 => ?_)
      · have hf := (if_pos c8).symm.trans hf
        refine lv_aload_n S.1 S.2.1 dX11_kept_37 rfl (lv_at hl 2 rfl) ?_
        refine lv_lload_n S.1 S.2.1 dX11_kept_38 rfl (lv_at hl 1 rfl) ?_
        obtain ⟨σ10, hq9, hf⟩ := bV_some hf
        refine r_callVV S hK hP hS (by decide) rfl rfl [.long (zL y5)] (c_X11_readText l D cy ad hO n y5 σ4 hq9) (cw_X11_kept_X11_readText S.2.2.2.2) rfl hl.1 (rest := []) rfl (Nat.le_of_ble_eq_true rfl) dX11_kept_39 ⟨Nat.zero_le _, Nat.zero_le _⟩ (fun H locs hP hS => ?_)
        refine lv_aload_n S.1 S.2.1 dX11_kept_42 rfl (lv_at hl 2 rfl) ?_
        refine r_get S hK hP (by decide) rfl rfl h_X11_kept_X11 9 (by decide) k_X11_kept_3 rfl dX11_kept_43 ?_
        refine lv_aload_n S.1 S.2.1 dX11_kept_46 rfl (lv_at hl 2 rfl) ?_
        refine r_get S hK hP (by decide) rfl rfl h_X11_kept_X11 4 (by decide) k_X11_kept_1 rfl dX11_kept_47 ?_
        refine lv_aload_n S.1 S.2.1 dX11_kept_50 rfl (lv_at hl 2 rfl) ?_
        refine r_get S hK hP (by decide) rfl rfl h_X11_kept_X11 5 (by decide) k_X11_kept_4 rfl dX11_kept_51 ?_
        refine r_iconst S dX11_kept_54 ?_
        obtain ⟨σ12, hq11, hf⟩ := bV_some hf
        refine r_callVV S hK hP hS (by decide) rfl rfl [.ref (ad 13), .ref (ad 15), .int (zI 0)] (c_X7_fill l D cy ad hO n 32 (by decide) 13 (by decide) 15 (by decide) 0 σ10 hq11) (cw_X11_kept_X7_fill S.2.2.2.2) rfl hl.1 (rest := []) rfl (Nat.le_of_ble_eq_true rfl) dX11_kept_55 ⟨Nat.zero_le _, Nat.zero_le _⟩ (fun H locs hP hS => ?_)
        refine lv_aload_n S.1 S.2.1 dX11_kept_58 rfl (lv_at hl 2 rfl) ?_
        refine r_get S hK hP (by decide) rfl rfl h_X11_kept_X11 10 (by decide) k_X11_kept_5 rfl dX11_kept_59 ?_
        refine lv_aload_n S.1 S.2.1 dX11_kept_62 rfl (lv_at hl 2 rfl) ?_
        refine r_get S hK hP (by decide) rfl rfl h_X11_kept_X11 4 (by decide) k_X11_kept_1 rfl dX11_kept_63 ?_
        refine lv_aload_n S.1 S.2.1 dX11_kept_66 rfl (lv_at hl 2 rfl) ?_
        refine r_get S hK hP (by decide) rfl rfl h_X11_kept_X11 5 (by decide) k_X11_kept_4 rfl dX11_kept_67 ?_
        refine r_iconst S dX11_kept_70 ?_
        obtain ⟨σ14, hq13, hf⟩ := bV_some hf
        refine r_callVV S hK hP hS (by decide) rfl rfl [.ref (ad 13), .ref (ad 15), .int (zI 1)] (c_X7_fill l D cy ad hO n 35 (by decide) 13 (by decide) 15 (by decide) 1 σ12 hq13) (cw_X11_kept_X7_fill S.2.2.2.2) rfl hl.1 (rest := []) rfl (Nat.le_of_ble_eq_true rfl) dX11_kept_71 ⟨Nat.zero_le _, Nat.zero_le _⟩ (fun H locs hP hS => ?_)
        refine lv_aload_n S.1 S.2.1 dX11_kept_74 rfl (lv_at hl 2 rfl) ?_
        refine lv_iload_n S.1 S.2.1 dX11_kept_75 rfl (lv_at hl 3 rfl) ?_
        obtain ⟨y16, hq15, hf⟩ := bV_some hf
        refine r_callVI S hK hP hS (by decide) rfl rfl [.int (zI a0)] (c_X11_waysThatKeep l D cy ad hO n a0 σ14 hq15) (cw_X11_kept_X11_waysThatKeep S.2.2.2.2) rfl hl.1 (rest := []) rfl (Nat.le_of_ble_eq_true rfl) dX11_kept_76 ⟨Nat.zero_le _, Nat.zero_le _⟩ (fun H locs hP hS => ?_)
        refine r_istore S rfl (lv2 := [(5, .int (zI y16)), (4, .int (zI y7)), (2, .long (zL y5)), (0, .ref (ad 0)), (1, .int (zI a0))]) dX11_kept_79 hl (by decide) rfl (fun ls hl => ?_)
        refine lv_iload S.1 S.2.1 dX11_kept_81 (lv_at hl 0 rfl) ?_
        refine r_if_ne (tgt := 88) S dX11_kept_83 (by decide) (fun c17 => ?_) (fun c17 => ?_)
        · have hf := (if_neg c17).symm.trans hf
          refine lv_iload S.1 S.2.1 dX11_kept_88 (lv_at hl 0 rfl) ?_
          refine lv_aload_n S.1 S.2.1 dX11_kept_90 rfl (lv_at hl 3 rfl) ?_
          refine r_get S hK hP (by decide) rfl rfl h_X11_kept_X11 9 (by decide) k_X11_kept_3 rfl dX11_kept_91 ?_
          refine lv_aload_n S.1 S.2.1 dX11_kept_94 rfl (lv_at hl 3 rfl) ?_
          refine r_get S hK hP (by decide) rfl rfl h_X11_kept_X11 4 (by decide) k_X11_kept_1 rfl dX11_kept_95 ?_
          refine r_get S hK hP (by decide) rfl rfl h_X11_kept_X10 1 (by decide) k_X11_kept_2 rfl dX11_kept_98 ?_
          refine lv_aload_n S.1 S.2.1 dX11_kept_101 rfl (lv_at hl 3 rfl) ?_
          refine r_get S hK hP (by decide) rfl rfl h_X11_kept_X11 5 (by decide) k_X11_kept_4 rfl dX11_kept_102 ?_
          refine r_get S hK hP (by decide) rfl rfl h_X11_kept_X10 1 (by decide) k_X11_kept_2 rfl dX11_kept_105 ?_
          obtain ⟨y19, hq18, hf⟩ := bV_some hf
          refine r_callVI S hK hP hS (by decide) rfl rfl [.int (zI (σ14 13 1)), .int (zI (σ14 15 1))] (c_X7_countAt l D cy ad hO 32 (by decide) (σ14 13 1) (σ14 15 1) σ14 hq18) (cw_X11_kept_X7_countAt S.2.2.2.2) rfl hl.1 (rest := [.int (zI y16)]) rfl (Nat.le_of_ble_eq_true rfl) dX11_kept_108 ⟨Nat.zero_le _, Nat.zero_le _⟩ (fun H locs hP hS => ?_)
          refine lv_icmp_ne (tgt := 118) S.1 S.2.1 dX11_kept_111 (by decide) (fun c20 => ?_) (fun c20 => ?_)
          · have hf := (if_neg c20).symm.trans hf
            refine r_iconst S dX11_kept_118 ?_
            obtain ⟨e1, e2⟩ := inj2 hf
            subst e1
            subst e2
            exact e_I S hlk hP hS hr dX11_kept_119
          · have hf := (if_pos c20).symm.trans hf
            refine r_iconst S dX11_kept_114 ?_
            refine lv_goto (tgt := 119) S.1 S.2.1 dX11_kept_115 (by decide) ?_
            obtain ⟨e1, e2⟩ := inj2 hf
            subst e1
            subst e2
            exact e_I S hlk hP hS hr dX11_kept_119
        · have hf := (if_pos c17).symm.trans hf
          refine r_iconst S dX11_kept_86 ?_
          obtain ⟨e1, e2⟩ := inj2 hf
          subst e1
          subst e2
          exact e_I S hlk hP hS hr dX11_kept_87
      · have hf := (if_neg c8).symm.trans hf
        refine lv_iload S.1 S.2.1 dX11_kept_34 (lv_at hl 0 rfl) ?_
        obtain ⟨e1, e2⟩ := inj2 hf
        subst e1
        subst e2
        exact e_I S hlk hP hS hr dX11_kept_36
    · have hf := (if_neg c2).symm.trans hf
      refine r_bipush S dX11_kept_15 (by decide) ?_
      obtain ⟨e1, e2⟩ := inj2 hf
      subst e1
      subst e2
      exact e_I S hlk hP hS hr dX11_kept_17
def rm_X11_lettersOf : Room := { frames := 2, cells := 0, slots := 0, locals := 43 }
theorem k_X11_lettersOf_1 : (.constantLong RX11 158 (9223372036854775807) : Cond) ∈ wsX11_lettersOf := List.mem_of_getElem? (i := 1) (by decide +kernel)
theorem cw_X11_lettersOf_X3_lengthOf {s : State} {args : Array Value} (hts : ∀ w ∈ wsX11_lettersOf, w.before args s = true) : CallB rm_X11_lettersOf s args RX11 256 yX3_lengthOf cX3_lengthOf 2 (some .int) wsX3_lengthOf rm_X3_lengthOf 0 0 1 ∧ (Cond.static yX3_lengthOf).before args s = true := va_cwS 1 hts gX11_lettersOf_X3_lengthOf rfl rfl rfl (by decide +kernel) ⟨Nat.le_of_ble_eq_true rfl, Nat.le_of_ble_eq_true rfl⟩
theorem cw_X11_lettersOf_X3_letterAt {s : State} {args : Array Value} (hts : ∀ w ∈ wsX11_lettersOf, w.before args s = true) : CallB rm_X11_lettersOf s args RX11 258 yX3_letterAt cX3_letterAt 3 (some .int) wsX3_letterAt rm_X3_letterAt 0 0 2 ∧ (Cond.static yX3_letterAt).before args s = true := va_cwS 2 hts gX11_lettersOf_X3_letterAt rfl rfl rfl (by decide +kernel) ⟨Nat.le_of_ble_eq_true rfl, Nat.le_of_ble_eq_true rfl⟩
set_option maxHeartbeats 4000000 in
set_option maxRecDepth 100000 in
theorem c_X11_lettersOf (l : Launch) (D : va_G) (cy : Nat → ClassId) (ad : Nat → Nat) (hO : adOK 39 ad) (a0 : Int) (a1 : Int) (σ : Mem) {v : Int} (hf : f_X11_lettersOf a0 a1 = some v) : Met l yX11_lettersOf wsX11_lettersOf rm_X11_lettersOf (va_Pc [.long (zL a0), .int (zI a1)] (PreW D cy 39 (cellC cy ad) ad σ)) (QI D 39 (cellC cy ad) ad v σ) 0 0 (AC 39 ad) := by
  refine r_met (cc := cX11_lettersOf) (maxL := 4) (ret := (some .int)) (own := RX11) (by decide) rfl rfl [.long (zL a0), .int (zI a1)] (Nat.le_of_ble_eq_true rfl) ?_
  intro p e s m below meth c ls S hK hP hlk hr hl
  have hS : va_S (AC 39 ad) s.heap s.heap [] := va_S.rf
  have hl : lv_has ls 4 [(0, .long (zL a0)), (2, .int (zI a1))] := hl
  unfold f_X11_lettersOf at hf
  refine lv_lload_n S.1 S.2.1 dX11_lettersOf_0 rfl (lv_at hl 0 rfl) ?_
  refine r_ldc2 S 9223372036854775807 (by decide +kernel) k_X11_lettersOf_1 dX11_lettersOf_1 ?_
  refine r_lcmp S dX11_lettersOf_4 ?_
  refine r_if_eq (tgt := 17) S dX11_lettersOf_5 (by decide) (fun c1 => ?_) (fun c1 => ?_)
  · have hf := (if_pos c1).symm.trans hf
    refine r_bipush S dX11_lettersOf_17 (by decide) ?_
    have e1 := Option.some.inj hf
    subst e1
    exact e_I S hlk hP hS hr dX11_lettersOf_19
  · have hf := (if_neg c1).symm.trans hf
    refine lv_lload_n S.1 S.2.1 dX11_lettersOf_8 rfl (lv_at hl 0 rfl) ?_
    obtain ⟨y3, hq2, hf⟩ := bV_some hf
    refine r_callSI S hK hP hS [.long (zL a0)] (c_X3_lengthOf l D cy ad hO a0 σ hq2) (cw_X11_lettersOf_X3_lengthOf S.2.2.2.2) rfl hl.1 (rest := []) rfl (Nat.le_of_ble_eq_true rfl) dX11_lettersOf_9 ⟨Nat.zero_le _, Nat.zero_le _⟩ (fun H locs hP hS => ?_)
    refine r_bipush S dX11_lettersOf_12 (by decide) ?_
    refine lv_icmp_le (tgt := 20) S.1 S.2.1 dX11_lettersOf_14 (by decide) (fun c4 => ?_) (fun c4 => ?_)
    · have hf := (if_pos c4).symm.trans hf
      refine lv_lload_n S.1 S.2.1 dX11_lettersOf_20 rfl (lv_at hl 0 rfl) ?_
      obtain ⟨y6, hq5, hf⟩ := bV_some hf
      refine r_callSI S hK hP hS [.long (zL a0)] (c_X3_lengthOf l D cy ad hO a0 σ hq5) (cw_X11_lettersOf_X3_lengthOf S.2.2.2.2) rfl hl.1 (rest := []) rfl (Nat.le_of_ble_eq_true rfl) dX11_lettersOf_21 ⟨Nat.zero_le _, Nat.zero_le _⟩ (fun H locs hP hS => ?_)
      refine r_istore_n S rfl (lv2 := [(3, .int (zI y6)), (0, .long (zL a0)), (2, .int (zI a1))]) dX11_lettersOf_24 rfl hl (by decide) rfl (fun ls hl => ?_)
      refine lv_iload_n S.1 S.2.1 dX11_lettersOf_25 rfl (lv_at hl 2 rfl) ?_
      refine r_iconst S dX11_lettersOf_26 ?_
      refine lv_icmp_ne (tgt := 32) S.1 S.2.1 dX11_lettersOf_27 (by decide) (fun c7 => ?_) (fun c7 => ?_)
      · have hf := (if_neg c7).symm.trans hf
        refine lv_iload_n S.1 S.2.1 dX11_lettersOf_32 rfl (lv_at hl 2 rfl) ?_
        refine r_if_lt (tgt := 49) S dX11_lettersOf_33 (by decide) (fun c8 => ?_) (fun c8 => ?_)
        · have hf := (if_pos c8).symm.trans hf
          refine r_bipush S dX11_lettersOf_49 (by decide) ?_
          have e1 := Option.some.inj hf
          subst e1
          exact e_I S hlk hP hS hr dX11_lettersOf_51
        · have hf := (if_neg c8).symm.trans hf
          refine lv_iload_n S.1 S.2.1 dX11_lettersOf_36 rfl (lv_at hl 2 rfl) ?_
          refine lv_iload_n S.1 S.2.1 dX11_lettersOf_37 rfl (lv_at hl 0 rfl) ?_
          refine lv_icmp_ge (tgt := 49) S.1 S.2.1 dX11_lettersOf_38 (by decide) (fun c9 => ?_) (fun c9 => ?_)
          · have hf := (if_pos c9).symm.trans hf
            refine r_bipush S dX11_lettersOf_49 (by decide) ?_
            have e1 := Option.some.inj hf
            subst e1
            exact e_I S hlk hP hS hr dX11_lettersOf_51
          · have hf := (if_neg c9).symm.trans hf
            refine lv_lload_n S.1 S.2.1 dX11_lettersOf_41 rfl (lv_at hl 1 rfl) ?_
            refine lv_iload_n S.1 S.2.1 dX11_lettersOf_42 rfl (lv_at hl 2 rfl) ?_
            obtain ⟨y11, hq10, hf⟩ := bV_some hf
            refine r_callSI S hK hP hS [.long (zL a0), .int (zI a1)] (c_X3_letterAt l D cy ad hO a0 a1 σ hq10) (cw_X11_lettersOf_X3_letterAt S.2.2.2.2) rfl hl.1 (rest := []) rfl (Nat.le_of_ble_eq_true rfl) dX11_lettersOf_43 ⟨Nat.zero_le _, Nat.zero_le _⟩ (fun H locs hP hS => ?_)
            refine lv_goto (tgt := 51) S.1 S.2.1 dX11_lettersOf_46 (by decide) ?_
            have e1 := Option.some.inj hf
            subst e1
            exact e_I S hlk hP hS hr dX11_lettersOf_51
      · have hf := (if_pos c7).symm.trans hf
        refine lv_iload_n S.1 S.2.1 dX11_lettersOf_30 rfl (lv_at hl 0 rfl) ?_
        have e1 := Option.some.inj hf
        subst e1
        exact e_I S hlk hP hS hr dX11_lettersOf_31
    · have hf := (if_neg c4).symm.trans hf
      refine r_bipush S dX11_lettersOf_17 (by decide) ?_
      have e1 := Option.some.inj hf
      subst e1
      exact e_I S hlk hP hS hr dX11_lettersOf_19
def rm_X11_least : Room := { frames := 6, cells := 0, slots := 0, locals := 157 }
theorem cw_X11_least_X0_leastOf {s : State} {args : Array Value} (hts : ∀ w ∈ wsX11_least, w.before args s = true) : CallW rm_X11_least s args RX11 RX0 148 yX0_leastOf cX0_leastOf 2 (some .long) wsX0_leastOf rm_X0_leastOf 0 0 1 := cwV 1 hts gX11_least_X0_leastOf rfl rfl rfl (by decide +kernel) ⟨Nat.le_of_ble_eq_true rfl, Nat.le_of_ble_eq_true rfl⟩
theorem cw_X11_least_X11_chartOfWord {s : State} {args : Array Value} (hts : ∀ w ∈ wsX11_least, w.before args s = true) : CallW rm_X11_least s args RX11 RX11 144 yX11_chartOfWord cX11_chartOfWord 1 (some (.object "MendTexts$Chart")) wsX11_chartOfWord rm_X11_chartOfWord 0 0 0 := cwV 0 hts gX11_least_X11_chartOfWord rfl rfl rfl (by decide +kernel) ⟨Nat.le_of_ble_eq_true rfl, Nat.le_of_ble_eq_true rfl⟩
theorem cw_X11_least_X11_isName {s : State} {args : Array Value} (hts : ∀ w ∈ wsX11_least, w.before args s = true) : CallB rm_X11_least s args RX11 125 yX11_isName cX11_isName 1 (some .boolean) wsX11_isName rm_X11_isName 0 0 1 ∧ (Cond.static yX11_isName).before args s = true := va_cwS 1 hts gX11_least_X11_isName rfl rfl rfl (by decide +kernel) ⟨Nat.le_of_ble_eq_true rfl, Nat.le_of_ble_eq_true rfl⟩
theorem cw_X11_least_X11_lettersOf {s : State} {args : Array Value} (hts : ∀ w ∈ wsX11_least, w.before args s = true) : CallB rm_X11_least s args RX11 152 yX11_lettersOf cX11_lettersOf 4 (some .int) wsX11_lettersOf rm_X11_lettersOf 0 0 2 ∧ (Cond.static yX11_lettersOf).before args s = true := va_cwS 2 hts gX11_least_X11_lettersOf rfl rfl rfl (by decide +kernel) ⟨Nat.le_of_ble_eq_true rfl, Nat.le_of_ble_eq_true rfl⟩
set_option maxHeartbeats 4000000 in
set_option maxRecDepth 100000 in
theorem c_X11_least (l : Launch) (D : va_G) (cy : Nat → ClassId) (ad : Nat → Nat) (hO : adOK 39 ad) (n : Nat) (a0 : Int) (a1 : Int) (σ : Mem) {v : Int} {τ : Mem} (hf : f_X11_least n a0 a1 σ = some (v, τ)) : Met l yX11_least wsX11_least rm_X11_least (va_Pc [.ref (ad 0), .int (zI a0), .int (zI a1)] (PreW D cy 39 (cellC cy ad) ad σ)) (QI D 39 (cellC cy ad) ad v τ) 0 0 (AC 39 ad) := by
  refine r_met (cc := cX11_least) (maxL := 3) (ret := (some .int)) (own := RX11) (by decide) rfl rfl [.ref (ad 0), .int (zI a0), .int (zI a1)] (Nat.le_of_ble_eq_true rfl) ?_
  intro p e s m below meth c ls S hK hP hlk hr hl
  have hS : va_S (AC 39 ad) s.heap s.heap [] := va_S.rf
  have hl : lv_has ls 3 [(0, .ref (ad 0)), (1, .int (zI a0)), (2, .int (zI a1))] := hl
  unfold f_X11_least at hf
  refine lv_iload_n S.1 S.2.1 dX11_least_0 rfl (lv_at hl 1 rfl) ?_
  obtain ⟨y2, hq1, hf⟩ := bV_some hf
  refine r_callSI S hK hP hS [.int (zI a0)] (c_X11_isName l D cy ad hO a0 σ hq1) (cw_X11_least_X11_isName S.2.2.2.2) rfl hl.1 (rest := []) rfl (Nat.le_of_ble_eq_true rfl) dX11_least_1 ⟨Nat.zero_le _, Nat.zero_le _⟩ (fun H locs hP hS => ?_)
  refine r_if_ne (tgt := 9) S dX11_least_4 (by decide) (fun c3 => ?_) (fun c3 => ?_)
  · have hf := (if_neg c3).symm.trans hf
    refine lv_aload_n S.1 S.2.1 dX11_least_9 rfl (lv_at hl 0 rfl) ?_
    obtain ⟨w6, σ5, hq4, hf⟩ := bL1_some hf
    refine r_callVR S hK hP hS (by decide) rfl rfl [] (c_X11_chartOfWord l D cy ad hO n σ hq4) (cw_X11_least_X11_chartOfWord S.2.2.2.2) rfl hl.1 (rest := []) rfl (Nat.le_of_ble_eq_true rfl) dX11_least_10 ⟨Nat.zero_le _, Nat.zero_le _⟩ (fun H locs hP hS => ?_)
    obtain ⟨hw7, hf⟩ := gd_some hf
    subst hw7
    refine lv_iload_n S.1 S.2.1 dX11_least_13 rfl (lv_at hl 1 rfl) ?_
    obtain ⟨y9, hq8, hf⟩ := bV_some hf
    refine r_callVL S hK hP hS (by decide) rfl rfl [.int (zI a0)] (c_X0_leastOf l D cy ad hO a0 σ5 hq8) (cw_X11_least_X0_leastOf S.2.2.2.2) rfl hl.1 (rest := []) rfl (Nat.le_of_ble_eq_true rfl) dX11_least_14 ⟨Nat.zero_le _, Nat.zero_le _⟩ (fun H locs hP hS => ?_)
    refine lv_iload_n S.1 S.2.1 dX11_least_17 rfl (lv_at hl 2 rfl) ?_
    obtain ⟨y11, hq10, hf⟩ := bV_some hf
    refine r_callSI S hK hP hS [.long (zL y9), .int (zI a1)] (c_X11_lettersOf l D cy ad hO y9 a1 σ5 hq10) (cw_X11_least_X11_lettersOf S.2.2.2.2) rfl hl.1 (rest := []) rfl (Nat.le_of_ble_eq_true rfl) dX11_least_18 ⟨Nat.zero_le _, Nat.zero_le _⟩ (fun H locs hP hS => ?_)
    obtain ⟨e1, e2⟩ := inj2 hf
    subst e1
    subst e2
    exact e_I S hlk hP hS hr dX11_least_21
  · have hf := (if_pos c3).symm.trans hf
    refine r_iconst S dX11_least_7 ?_
    obtain ⟨e1, e2⟩ := inj2 hf
    subst e1
    subst e2
    exact e_I S hlk hP hS hr dX11_least_8
def rm_X11_mend : Room := { frames := 6, cells := 0, slots := 0, locals := 157 }
theorem k_X11_mend_1 : (.fieldLink RX11 38 "MendTexts" "typed" "LMendTexts$Word;" : Cond) ∈ wsX11_mend := List.mem_of_getElem? (i := 1) (by decide +kernel)
theorem k_X11_mend_2 : (.fieldLink RX11 171 "MendTexts$Word" "length" "I" : Cond) ∈ wsX11_mend := List.mem_of_getElem? (i := 2) (by decide +kernel)
theorem k_X11_mend_3 : (.constantLong RX11 158 (9223372036854775807) : Cond) ∈ wsX11_mend := List.mem_of_getElem? (i := 3) (by decide +kernel)
theorem h_X11_mend_X11 : ∀ w ∈ u_ws RX11 TX11 13, w ∈ wsX11_mend := mem_places _ [144, 145, 146, 147, 148, 149, 150, 151, 152, 153, 154, 155, 156] (by decide +kernel)
theorem h_X11_mend_X10 : ∀ w ∈ u_ws RX10 TX10 2, w ∈ wsX11_mend := mem_places _ [157, 158] (by decide +kernel)
theorem cw_X11_mend_X0_fitOf {s : State} {args : Array Value} (hts : ∀ w ∈ wsX11_mend, w.before args s = true) : CallW rm_X11_mend s args RX11 RX0 188 yX0_fitOf cX0_fitOf 4 (some .long) wsX0_fitOf rm_X0_fitOf 0 0 3 := cwV 3 hts gX11_mend_X0_fitOf rfl rfl rfl (by decide +kernel) ⟨Nat.le_of_ble_eq_true rfl, Nat.le_of_ble_eq_true rfl⟩
theorem cw_X11_mend_X11_chartOfWord {s : State} {args : Array Value} (hts : ∀ w ∈ wsX11_mend, w.before args s = true) : CallW rm_X11_mend s args RX11 RX11 144 yX11_chartOfWord cX11_chartOfWord 1 (some (.object "MendTexts$Chart")) wsX11_chartOfWord rm_X11_chartOfWord 0 0 0 := cwV 0 hts gX11_mend_X11_chartOfWord rfl rfl rfl (by decide +kernel) ⟨Nat.le_of_ble_eq_true rfl, Nat.le_of_ble_eq_true rfl⟩
theorem cw_X11_mend_X11_isName {s : State} {args : Array Value} (hts : ∀ w ∈ wsX11_mend, w.before args s = true) : CallB rm_X11_mend s args RX11 125 yX11_isName cX11_isName 1 (some .boolean) wsX11_isName rm_X11_isName 0 0 1 ∧ (Cond.static yX11_isName).before args s = true := va_cwS 1 hts gX11_mend_X11_isName rfl rfl rfl (by decide +kernel) ⟨Nat.le_of_ble_eq_true rfl, Nat.le_of_ble_eq_true rfl⟩
theorem cw_X11_mend_X3_costOf {s : State} {args : Array Value} (hts : ∀ w ∈ wsX11_mend, w.before args s = true) : CallB rm_X11_mend s args RX11 192 yX3_costOf cX3_costOf 2 (some .int) wsX3_costOf rm_X3_costOf 0 0 1 ∧ (Cond.static yX3_costOf).before args s = true := va_cwS 1 hts gX11_mend_X3_costOf rfl rfl rfl (by decide +kernel) ⟨Nat.le_of_ble_eq_true rfl, Nat.le_of_ble_eq_true rfl⟩
set_option maxHeartbeats 4000000 in
set_option maxRecDepth 100000 in
theorem c_X11_mend (l : Launch) (D : va_G) (cy : Nat → ClassId) (ad : Nat → Nat) (hO : adOK 39 ad) (n : Nat) (a0 : Int) (a1 : Int) (a2 : Int) (σ : Mem) {v : Int} {τ : Mem} (hf : f_X11_mend n a0 a1 a2 σ = some (v, τ)) : Met l yX11_mend wsX11_mend rm_X11_mend (va_Pc [.ref (ad 0), .int (zI a0), .int (zI a1), .int (zI a2)] (PreW D cy 39 (cellC cy ad) ad σ)) (QI D 39 (cellC cy ad) ad v τ) 0 0 (AC 39 ad) := by
  refine r_met (cc := cX11_mend) (maxL := 6) (ret := (some .int)) (own := RX11) (by decide) rfl rfl [.ref (ad 0), .int (zI a0), .int (zI a1), .int (zI a2)] (Nat.le_of_ble_eq_true rfl) ?_
  intro p e s m below meth c ls S hK hP hlk hr hl
  have hS : va_S (AC 39 ad) s.heap s.heap [] := va_S.rf
  have hl : lv_has ls 6 [(0, .ref (ad 0)), (1, .int (zI a0)), (2, .int (zI a1)), (3, .int (zI a2))] := hl
  unfold f_X11_mend at hf
  refine lv_iload_n S.1 S.2.1 dX11_mend_0 rfl (lv_at hl 1 rfl) ?_
  obtain ⟨y2, hq1, hf⟩ := bV_some hf
  refine r_callSI S hK hP hS [.int (zI a0)] (c_X11_isName l D cy ad hO a0 σ hq1) (cw_X11_mend_X11_isName S.2.2.2.2) rfl hl.1 (rest := []) rfl (Nat.le_of_ble_eq_true rfl) dX11_mend_1 ⟨Nat.zero_le _, Nat.zero_le _⟩ (fun H locs hP hS => ?_)
  refine r_if_ne (tgt := 9) S dX11_mend_4 (by decide) (fun c3 => ?_) (fun c3 => ?_)
  · have hf := (if_neg c3).symm.trans hf
    refine lv_iload_n S.1 S.2.1 dX11_mend_9 rfl (lv_at hl 2 rfl) ?_
    refine r_if_lt (tgt := 29) S dX11_mend_10 (by decide) (fun c4 => ?_) (fun c4 => ?_)
    · have hf := (if_pos c4).symm.trans hf
      refine r_bipush S dX11_mend_29 (by decide) ?_
      obtain ⟨e1, e2⟩ := inj2 hf
      subst e1
      subst e2
      exact e_I S hlk hP hS hr dX11_mend_31
    · have hf := (if_neg c4).symm.trans hf
      refine lv_iload_n S.1 S.2.1 dX11_mend_13 rfl (lv_at hl 2 rfl) ?_
      refine lv_iload_n S.1 S.2.1 dX11_mend_14 rfl (lv_at hl 3 rfl) ?_
      refine lv_icmp_gt (tgt := 29) S.1 S.2.1 dX11_mend_15 (by decide) (fun c5 => ?_) (fun c5 => ?_)
      · have hf := (if_pos c5).symm.trans hf
        refine r_bipush S dX11_mend_29 (by decide) ?_
        obtain ⟨e1, e2⟩ := inj2 hf
        subst e1
        subst e2
        exact e_I S hlk hP hS hr dX11_mend_31
      · have hf := (if_neg c5).symm.trans hf
        refine lv_iload_n S.1 S.2.1 dX11_mend_18 rfl (lv_at hl 3 rfl) ?_
        refine lv_aload_n S.1 S.2.1 dX11_mend_19 rfl (lv_at hl 0 rfl) ?_
        refine r_get S hK hP (by decide) rfl rfl h_X11_mend_X11 4 (by decide) k_X11_mend_1 rfl dX11_mend_20 ?_
        refine r_get S hK hP (by decide) rfl rfl h_X11_mend_X10 1 (by decide) k_X11_mend_2 rfl dX11_mend_23 ?_
        refine lv_icmp_le (tgt := 32) S.1 S.2.1 dX11_mend_26 (by decide) (fun c6 => ?_) (fun c6 => ?_)
        · have hf := (if_pos c6).symm.trans hf
          refine lv_aload_n S.1 S.2.1 dX11_mend_32 rfl (lv_at hl 0 rfl) ?_
          obtain ⟨w9, σ8, hq7, hf⟩ := bL1_some hf
          refine r_callVR S hK hP hS (by decide) rfl rfl [] (c_X11_chartOfWord l D cy ad hO n σ hq7) (cw_X11_mend_X11_chartOfWord S.2.2.2.2) rfl hl.1 (rest := []) rfl (Nat.le_of_ble_eq_true rfl) dX11_mend_33 ⟨Nat.zero_le _, Nat.zero_le _⟩ (fun H locs hP hS => ?_)
          obtain ⟨hw10, hf⟩ := gd_some hf
          subst hw10
          refine r_iconst S dX11_mend_36 ?_
          refine lv_iload_n S.1 S.2.1 dX11_mend_37 rfl (lv_at hl 1 rfl) ?_
          refine r_iadd S dX11_mend_38 ?_
          refine lv_iload_n S.1 S.2.1 dX11_mend_39 rfl (lv_at hl 2 rfl) ?_
          refine lv_iload_n S.1 S.2.1 dX11_mend_40 rfl (lv_at hl 3 rfl) ?_
          obtain ⟨y12, hq11, hf⟩ := bV_some hf
          refine r_callVL S hK hP hS (by decide) rfl rfl [.int (zI (4 + a0)), .int (zI a1), .int (zI a2)] (c_X0_fitOf l D cy ad hO (4 + a0) a1 a2 σ8 hq11) (cw_X11_mend_X0_fitOf S.2.2.2.2) rfl hl.1 (rest := []) rfl (Nat.le_of_ble_eq_true rfl) dX11_mend_41 ⟨Nat.zero_le _, Nat.zero_le _⟩ (fun H locs hP hS => ?_)
          refine r_lstore S rfl (lv2 := [(4, .long (zL y12)), (0, .ref (ad 0)), (1, .int (zI a0)), (2, .int (zI a1)), (3, .int (zI a2))]) dX11_mend_44 hl (by decide) rfl (fun ls hl => ?_)
          refine lv_lload S.1 S.2.1 dX11_mend_46 (lv_at hl 0 rfl) ?_
          refine r_ldc2 S 9223372036854775807 (by decide +kernel) k_X11_mend_3 dX11_mend_48 ?_
          refine r_lcmp S dX11_mend_51 ?_
          refine r_if_ne (tgt := 60) S dX11_mend_52 (by decide) (fun c13 => ?_) (fun c13 => ?_)
          · have hf := (if_neg c13).symm.trans hf
            refine lv_lload S.1 S.2.1 dX11_mend_60 (lv_at hl 0 rfl) ?_
            obtain ⟨y15, hq14, hf⟩ := bV_some hf
            refine r_callSI S hK hP hS [.long (zL y12)] (c_X3_costOf l D cy ad hO y12 σ8 hq14) (cw_X11_mend_X3_costOf S.2.2.2.2) rfl hl.1 (rest := []) rfl (Nat.le_of_ble_eq_true rfl) dX11_mend_62 ⟨Nat.zero_le _, Nat.zero_le _⟩ (fun H locs hP hS => ?_)
            obtain ⟨e1, e2⟩ := inj2 hf
            subst e1
            subst e2
            exact e_I S hlk hP hS hr dX11_mend_65
          · have hf := (if_pos c13).symm.trans hf
            refine r_bipush S dX11_mend_55 (by decide) ?_
            refine lv_goto (tgt := 65) S.1 S.2.1 dX11_mend_57 (by decide) ?_
            obtain ⟨e1, e2⟩ := inj2 hf
            subst e1
            subst e2
            exact e_I S hlk hP hS hr dX11_mend_65
        · have hf := (if_neg c6).symm.trans hf
          refine r_bipush S dX11_mend_29 (by decide) ?_
          obtain ⟨e1, e2⟩ := inj2 hf
          subst e1
          subst e2
          exact e_I S hlk hP hS hr dX11_mend_31
  · have hf := (if_pos c3).symm.trans hf
    refine r_iconst S dX11_mend_7 ?_
    obtain ⟨e1, e2⟩ := inj2 hf
    subst e1
    subst e2
    exact e_I S hlk hP hS hr dX11_mend_8
def rm_X9_hasSought : Room := { frames := 0, cells := 0, slots := 0, locals := 0 }
theorem k_X9_hasSought_1 : (.fieldLink RX9 9 "MendTexts$Search" "nameSought" "I" : Cond) ∈ wsX9_hasSought := List.mem_of_getElem? (i := 1) (by decide +kernel)
theorem h_X9_hasSought_X9 : ∀ w ∈ u_ws RX9 TX9 6, w ∈ wsX9_hasSought := mem_places _ [2, 3, 4, 5, 6, 7] (by decide +kernel)
set_option maxHeartbeats 4000000 in
set_option maxRecDepth 100000 in
theorem c_X9_hasSought (l : Launch) (D : va_G) (cy : Nat → ClassId) (ad : Nat → Nat) (hO : adOK 39 ad) (a0 : Int) (σ : Mem) {v : Int} (hf : f_X9_hasSought a0 σ = some v) : Met l yX9_hasSought wsX9_hasSought rm_X9_hasSought (va_Pc [.ref (ad 38), .int (zI a0)] (PreW D cy 39 (cellC cy ad) ad σ)) (QI D 39 (cellC cy ad) ad v σ) 0 0 (AC 39 ad) := by
  refine r_met (cc := cX9_hasSought) (maxL := 2) (ret := (some .boolean)) (own := RX9) (by decide) rfl rfl [.ref (ad 38), .int (zI a0)] (Nat.le_of_ble_eq_true rfl) ?_
  intro p e s m below meth c ls S hK hP hlk hr hl
  have hS : va_S (AC 39 ad) s.heap s.heap [] := va_S.rf
  have hl : lv_has ls 2 [(0, .ref (ad 38)), (1, .int (zI a0))] := hl
  unfold f_X9_hasSought at hf
  refine lv_iload_n S.1 S.2.1 dX9_hasSought_0 rfl (lv_at hl 1 rfl) ?_
  refine lv_aload_n S.1 S.2.1 dX9_hasSought_1 rfl (lv_at hl 0 rfl) ?_
  refine r_get S hK hP (by decide) rfl rfl h_X9_hasSought_X9 3 (by decide) k_X9_hasSought_1 rfl dX9_hasSought_2 ?_
  refine lv_icmp_ne (tgt := 12) S.1 S.2.1 dX9_hasSought_5 (by decide) (fun c1 => ?_) (fun c1 => ?_)
  · have hf := (if_neg c1).symm.trans hf
    refine r_iconst S dX9_hasSought_12 ?_
    have e1 := Option.some.inj hf
    subst e1
    exact e_Z S hlk hP hS (Or.inl rfl) hr dX9_hasSought_13
  · have hf := (if_pos c1).symm.trans hf
    refine r_iconst S dX9_hasSought_8 ?_
    refine lv_goto (tgt := 13) S.1 S.2.1 dX9_hasSought_9 (by decide) ?_
    have e1 := Option.some.inj hf
    subst e1
    exact e_Z S hlk hP hS (Or.inr rfl) hr dX9_hasSought_13
