def rm_X12_more : Room := { frames := 5, cells := 0, slots := 0, locals := 134 }
theorem k_X12_more_1 : (.fieldLink RX12 187 "MendTextsModel" "examples" "I" : Cond) ∈ wsX12_more := List.mem_of_getElem? (i := 1) (by decide +kernel)
theorem k_X12_more_2 : (.fieldLink RX12 78 "MendTextsModel" "isKnown" "[Z" : Cond) ∈ wsX12_more := List.mem_of_getElem? (i := 2) (by decide +kernel)
theorem k_X12_more_3 : (.fieldLink RX12 81 "MendTextsModel" "knownTotal" "[I" : Cond) ∈ wsX12_more := List.mem_of_getElem? (i := 3) (by decide +kernel)
theorem k_X12_more_4 : (.constant RX12 124 (100000000) : Cond) ∈ wsX12_more := List.mem_of_getElem? (i := 4) (by decide +kernel)
theorem k_X12_more_5 : (.fieldLink RX12 84 "MendTextsModel" "knownSize" "[I" : Cond) ∈ wsX12_more := List.mem_of_getElem? (i := 5) (by decide +kernel)
theorem k_X12_more_6 : (.fieldLink RX12 87 "MendTextsModel" "knownOne" "[I" : Cond) ∈ wsX12_more := List.mem_of_getElem? (i := 6) (by decide +kernel)
theorem k_X12_more_7 : (.fieldLink RX12 90 "MendTextsModel" "knownTwo" "[I" : Cond) ∈ wsX12_more := List.mem_of_getElem? (i := 7) (by decide +kernel)
theorem h_X12_more_X12 : ∀ w ∈ u_ws RX12 TX12 36, w ∈ wsX12_more := mem_places _ [62, 63, 64, 65, 66, 67, 68, 69, 70, 71, 72, 73, 74, 75, 76, 77, 78, 79, 80, 81, 82, 83, 84, 85, 86, 87, 88, 89, 90, 91, 92, 93, 94, 95, 96, 97] (by decide +kernel)
theorem cw_X12_more_X12_in {s : State} {args : Array Value} (hts : ∀ w ∈ wsX12_more, w.before args s = true) : CallB rm_X12_more s args RX12 93 yX12_in cX12_in 3 (some .boolean) wsX12_in rm_X12_in 0 0 3 ∧ (Cond.static yX12_in).before args s = true := va_cwS 3 hts gX12_more_X12_in rfl rfl rfl (by decide +kernel) ⟨Nat.le_of_ble_eq_true rfl, Nat.le_of_ble_eq_true rfl⟩
theorem cw_X12_more_X12_isName {s : State} {args : Array Value} (hts : ∀ w ∈ wsX12_more, w.before args s = true) : CallB rm_X12_more s args RX12 111 yX12_isName cX12_isName 1 (some .boolean) wsX12_isName rm_X12_isName 0 0 1 ∧ (Cond.static yX12_isName).before args s = true := va_cwS 1 hts gX12_more_X12_isName rfl rfl rfl (by decide +kernel) ⟨Nat.le_of_ble_eq_true rfl, Nat.le_of_ble_eq_true rfl⟩
theorem cw_X12_more_X12_layMore {s : State} {args : Array Value} (hts : ∀ w ∈ wsX12_more, w.before args s = true) : CallW rm_X12_more s args RX12 RX12 196 yX12_layMore cX12_layMore 9 none wsX12_layMore rm_X12_layMore 0 0 1 := cwV 1 hts gX12_more_X12_layMore rfl rfl rfl (by decide +kernel) ⟨Nat.le_of_ble_eq_true rfl, Nat.le_of_ble_eq_true rfl⟩
set_option maxHeartbeats 4000000 in
set_option maxRecDepth 100000 in
theorem c_X12_more (l : Launch) (D : va_G) (cy : Nat → ClassId) (ad : Nat → Nat) (hO : adOK 28 ad) (n : Nat) (a0 : Int) (a1 : Int) (σ : Mem) {v : Int} {τ : Mem} (hf : f_X12_more n a0 a1 σ = some (v, τ)) : Met l yX12_more wsX12_more rm_X12_more (va_Pc [.ref (ad 0), .int (zI a0), .int (zI a1)] (PreW D cy 28 (cellM cy ad) ad σ)) (QI D 28 (cellM cy ad) ad v τ) 0 0 (AC 28 ad) := by
  refine r_met (cc := cX12_more) (maxL := 4) (ret := (some .int)) (own := RX12) (by decide) rfl rfl [.ref (ad 0), .int (zI a0), .int (zI a1)] (Nat.le_of_ble_eq_true rfl) ?_
  intro p e s m below meth c ls S hK hP hlk hr hl
  have hS : va_S (AC 28 ad) s.heap s.heap [] := va_S.rf
  have hl : lv_has ls 4 [(0, .ref (ad 0)), (1, .int (zI a0)), (2, .int (zI a1))] := hl
  unfold f_X12_more at hf
  refine lv_iload_n S.1 S.2.1 dX12_more_0 rfl (lv_at hl 1 rfl) ?_
  obtain ⟨y2, hq1, hf⟩ := bV_some hf
  refine r_callSI S hK hP hS [.int (zI a0)] (c_X12_isName l D cy ad hO a0 σ hq1) (cw_X12_more_X12_isName S.2.2.2.2) rfl hl.1 (rest := []) rfl (Nat.le_of_ble_eq_true rfl) dX12_more_1 ⟨Nat.zero_le _, Nat.zero_le _⟩ (fun H locs hP hS => ?_)
  refine r_if_ne (tgt := 9) S dX12_more_4 (by decide) (fun c3 => ?_) (fun c3 => ?_)
  · have hf := (if_neg c3).symm.trans hf
    refine lv_iload_n S.1 S.2.1 dX12_more_9 rfl (lv_at hl 2 rfl) ?_
    refine r_iconst S dX12_more_10 ?_
    refine r_iconst S dX12_more_11 ?_
    obtain ⟨y5, hq4, hf⟩ := bV_some hf
    refine r_callSI S hK hP hS [.int (zI a1), .int (zI 0), .int (zI 3)] (c_X12_in l D cy ad hO a1 0 3 σ hq4) (cw_X12_more_X12_in S.2.2.2.2) rfl hl.1 (rest := []) rfl (Nat.le_of_ble_eq_true rfl) dX12_more_12 ⟨Nat.zero_le _, Nat.zero_le _⟩ (fun H locs hP hS => ?_)
    refine r_if_ne (tgt := 21) S dX12_more_15 (by decide) (fun c6 => ?_) (fun c6 => ?_)
    · have hf := (if_neg c6).symm.trans hf
      refine lv_aload_n S.1 S.2.1 dX12_more_21 rfl (lv_at hl 0 rfl) ?_
      refine r_get S hK hP (by decide) rfl rfl h_X12_more_X12 8 (by decide) k_X12_more_1 rfl dX12_more_22 ?_
      refine r_if_ne (tgt := 31) S dX12_more_25 (by decide) (fun c7 => ?_) (fun c7 => ?_)
      · have hf := (if_neg c7).symm.trans hf
        refine lv_aload_n S.1 S.2.1 dX12_more_31 rfl (lv_at hl 0 rfl) ?_
        refine r_get S hK hP (by decide) rfl rfl h_X12_more_X12 31 (by decide) k_X12_more_2 rfl dX12_more_32 ?_
        refine lv_iload_n S.1 S.2.1 dX12_more_35 rfl (lv_at hl 1 rfl) ?_
        obtain ⟨g8, hf⟩ := gd_some hf
        refine r_zald S hK hP (by decide) (n := 6) (fun _ => rfl) (by decide) g8 dX12_more_36 ?_
        obtain ⟨σ9, hq, hf⟩ := bV_some hf
        have kJ0 : ∀ (H : Heap) (locs : List Loc) (ls : Array Slot), va_P D vwCl (WW 28 (cellM cy ad) ad σ9) H → va_S (AC 28 ad) s.heap H locs → lv_has ls 4 [(0, .ref (ad 0)), (1, .int (zI a0)), (2, .int (zI a1))] → W p l e rm_X12_more s m ([.ref (ad 0), .int (zI a0), .int (zI a1)] : List Value).toArray below meth c H locs 0 0 (MQ below (QI D 28 (cellM cy ad) ad v τ) ([.ref (ad 0), .int (zI a0), .int (zI a1)] : List Value).toArray s 0 0 (AC 28 ad)) (F0 m 45 ls []) := by
          intro H locs ls hP hS hl
          refine lv_aload_n S.1 S.2.1 dX12_more_45 rfl (lv_at hl 0 rfl) ?_
          refine r_get S hK hP (by decide) rfl rfl h_X12_more_X12 32 (by decide) k_X12_more_3 rfl dX12_more_46 ?_
          refine lv_iload_n S.1 S.2.1 dX12_more_49 rfl (lv_at hl 1 rfl) ?_
          refine r_iald S hK hP (by decide) (n := 6) (fun _ => rfl) (by decide) g8 dX12_more_50 ?_
          obtain ⟨x13, hx13, hf⟩ := nm_some hf
          refine r_istore_n S hx13 (lv2 := [(3, .int (zI x13)), (0, .ref (ad 0)), (1, .int (zI a0)), (2, .int (zI a1))]) dX12_more_51 rfl hl (by decide) rfl (fun ls hl => ?_)
          refine lv_iload_n S.1 S.2.1 dX12_more_52 rfl (lv_at hl 0 rfl) ?_
          refine r_ldc S 100000000 (by decide +kernel) k_X12_more_4 dX12_more_53 ?_
          refine lv_icmp_lt (tgt := 63) S.1 S.2.1 dX12_more_55 (by decide) (fun c14 => ?_) (fun c14 => ?_)
          · have hf := (if_pos c14).symm.trans hf
            refine lv_iload_n S.1 S.2.1 dX12_more_63 rfl (lv_at hl 3 rfl) ?_
            refine r_if_ne (tgt := 71) S dX12_more_64 (by decide) (fun c15 => ?_) (fun c15 => ?_)
            · have hf := (if_neg c15).symm.trans hf
              refine lv_iload_n S.1 S.2.1 dX12_more_71 rfl (lv_at hl 3 rfl) ?_
              refine r_iconst S dX12_more_72 ?_
              refine lv_icmp_ne (tgt := 85) S.1 S.2.1 dX12_more_73 (by decide) (fun c16 => ?_) (fun c16 => ?_)
              · have hf := (if_neg c16).symm.trans hf
                refine lv_iload_n S.1 S.2.1 dX12_more_85 rfl (lv_at hl 3 rfl) ?_
                refine r_iconst S dX12_more_86 ?_
                refine lv_icmp_ne (tgt := 99) S.1 S.2.1 dX12_more_87 (by decide) (fun c17 => ?_) (fun c17 => ?_)
                · have hf := (if_neg c17).symm.trans hf
                  refine lv_aload_n S.1 S.2.1 dX12_more_99 rfl (lv_at hl 1 rfl) ?_
                  refine r_get S hK hP (by decide) rfl rfl h_X12_more_X12 35 (by decide) k_X12_more_7 rfl dX12_more_100 ?_
                  refine lv_iload_n S.1 S.2.1 dX12_more_103 rfl (lv_at hl 2 rfl) ?_
                  refine r_iald S hK hP (by decide) (n := 6) (fun _ => rfl) (by decide) g8 dX12_more_104 ?_
                  obtain ⟨e1, e2⟩ := inj2 hf
                  subst e1
                  subst e2
                  exact e_I S hlk hP hS hr dX12_more_105
                · have hf := (if_pos c17).symm.trans hf
                  refine lv_aload_n S.1 S.2.1 dX12_more_90 rfl (lv_at hl 1 rfl) ?_
                  refine r_get S hK hP (by decide) rfl rfl h_X12_more_X12 34 (by decide) k_X12_more_6 rfl dX12_more_91 ?_
                  refine lv_iload_n S.1 S.2.1 dX12_more_94 rfl (lv_at hl 2 rfl) ?_
                  refine r_iald S hK hP (by decide) (n := 6) (fun _ => rfl) (by decide) g8 dX12_more_95 ?_
                  refine lv_goto (tgt := 105) S.1 S.2.1 dX12_more_96 (by decide) ?_
                  obtain ⟨e1, e2⟩ := inj2 hf
                  subst e1
                  subst e2
                  exact e_I S hlk hP hS hr dX12_more_105
              · have hf := (if_pos c16).symm.trans hf
                refine lv_aload_n S.1 S.2.1 dX12_more_76 rfl (lv_at hl 1 rfl) ?_
                refine r_get S hK hP (by decide) rfl rfl h_X12_more_X12 33 (by decide) k_X12_more_5 rfl dX12_more_77 ?_
                refine lv_iload_n S.1 S.2.1 dX12_more_80 rfl (lv_at hl 2 rfl) ?_
                refine r_iald S hK hP (by decide) (n := 6) (fun _ => rfl) (by decide) g8 dX12_more_81 ?_
                refine lv_goto (tgt := 105) S.1 S.2.1 dX12_more_82 (by decide) ?_
                obtain ⟨e1, e2⟩ := inj2 hf
                subst e1
                subst e2
                exact e_I S hlk hP hS hr dX12_more_105
            · have hf := (if_pos c15).symm.trans hf
              refine lv_iload_n S.1 S.2.1 dX12_more_67 rfl (lv_at hl 0 rfl) ?_
              refine lv_goto (tgt := 105) S.1 S.2.1 dX12_more_68 (by decide) ?_
              obtain ⟨e1, e2⟩ := inj2 hf
              subst e1
              subst e2
              exact e_I S hlk hP hS hr dX12_more_105
          · have hf := (if_neg c14).symm.trans hf
            refine r_bipush S dX12_more_58 (by decide) ?_
            refine lv_goto (tgt := 105) S.1 S.2.1 dX12_more_60 (by decide) ?_
            obtain ⟨e1, e2⟩ := inj2 hf
            subst e1
            subst e2
            exact e_I S hlk hP hS hr dX12_more_105
        clear hf
        have hf := hq
        refine r_if_ne (tgt := 45) S dX12_more_37 (by decide) (fun c10 => ?_) (fun c10 => ?_)
        · have hf := (if_neg c10).symm.trans hf
          have e1 := Option.some.inj hf
          subst e1
          exact kJ0 _ _ _ hP hS (lv_sub hl [0, 1, 2] rfl)
        · have hf := (if_pos c10).symm.trans hf
          refine lv_aload_n S.1 S.2.1 dX12_more_40 rfl (lv_at hl 0 rfl) ?_
          refine lv_iload_n S.1 S.2.1 dX12_more_41 rfl (lv_at hl 1 rfl) ?_
          obtain ⟨σ12, hq11, hf⟩ := bV_some hf
          refine r_callVV S hK hP hS (by decide) rfl rfl [.int (zI a0)] (c_X12_layMore l D cy ad hO n a0 σ hq11) (cw_X12_more_X12_layMore S.2.2.2.2) rfl hl.1 (rest := []) rfl (Nat.le_of_ble_eq_true rfl) dX12_more_42 ⟨Nat.zero_le _, Nat.zero_le _⟩ (fun H locs hP hS => ?_)
          have e1 := Option.some.inj hf
          subst e1
          exact kJ0 _ _ _ hP hS (lv_sub hl [0, 1, 2] rfl)
      · have hf := (if_pos c7).symm.trans hf
        refine r_bipush S dX12_more_28 (by decide) ?_
        obtain ⟨e1, e2⟩ := inj2 hf
        subst e1
        subst e2
        exact e_I S hlk hP hS hr dX12_more_30
    · have hf := (if_pos c6).symm.trans hf
      refine r_bipush S dX12_more_18 (by decide) ?_
      obtain ⟨e1, e2⟩ := inj2 hf
      subst e1
      subst e2
      exact e_I S hlk hP hS hr dX12_more_20
  · have hf := (if_pos c3).symm.trans hf
    refine r_iconst S dX12_more_7 ?_
    obtain ⟨e1, e2⟩ := inj2 hf
    subst e1
    subst e2
    exact e_I S hlk hP hS hr dX12_more_8
def rm_X12_near : Room := { frames := 2, cells := 0, slots := 0, locals := 47 }
theorem k_X12_near_1 : (.fieldLink RX12 25 "MendTextsModel" "exampleMany" "[I" : Cond) ∈ wsX12_near := List.mem_of_getElem? (i := 1) (by decide +kernel)
theorem k_X12_near_2 : (.fieldLink RX12 165 "MendTextsModel" "otherMany" "I" : Cond) ∈ wsX12_near := List.mem_of_getElem? (i := 2) (by decide +kernel)
theorem k_X12_near_3 : (.fieldLink RX12 62 "MendTextsModel" "other" "[I" : Cond) ∈ wsX12_near := List.mem_of_getElem? (i := 3) (by decide +kernel)
theorem k_X12_near_4 : (.fieldLink RX12 28 "MendTextsModel" "exampleLetter" "[I" : Cond) ∈ wsX12_near := List.mem_of_getElem? (i := 4) (by decide +kernel)
theorem k_X12_near_5 : (.fieldLink RX12 68 "MendTextsModel" "behind" "[I" : Cond) ∈ wsX12_near := List.mem_of_getElem? (i := 5) (by decide +kernel)
theorem h_X12_near_X12 : ∀ w ∈ u_ws RX12 TX12 36, w ∈ wsX12_near := mem_places _ [44, 45, 46, 47, 48, 49, 50, 51, 52, 53, 54, 55, 56, 57, 58, 59, 60, 61, 62, 63, 64, 65, 66, 67, 68, 69, 70, 71, 72, 73, 74, 75, 76, 77, 78, 79] (by decide +kernel)
theorem cw_X12_near_X12_isExample {s : State} {args : Array Value} (hts : ∀ w ∈ wsX12_near, w.before args s = true) : CallW rm_X12_near s args RX12 RX12 190 yX12_isExample cX12_isExample 2 (some .boolean) wsX12_isExample rm_X12_isExample 0 0 1 := cwV 1 hts gX12_near_X12_isExample rfl rfl rfl (by decide +kernel) ⟨Nat.le_of_ble_eq_true rfl, Nat.le_of_ble_eq_true rfl⟩
theorem cw_X12_near_X12_layRows {s : State} {args : Array Value} (hts : ∀ w ∈ wsX12_near, w.before args s = true) : CallW rm_X12_near s args RX12 RX12 178 yX12_layRows cX12_layRows 4 none wsX12_layRows rm_X12_layRows 0 0 0 := cwV 0 hts gX12_near_X12_layRows rfl rfl rfl (by decide +kernel) ⟨Nat.le_of_ble_eq_true rfl, Nat.le_of_ble_eq_true rfl⟩
theorem cw_X12_near_X12_take {s : State} {args : Array Value} (hts : ∀ w ∈ wsX12_near, w.before args s = true) : CallW rm_X12_near s args RX12 RX12 146 yX12_take cX12_take 3 none wsX12_take rm_X12_take 0 0 1 := cwV 1 hts gX12_near_X12_take rfl rfl rfl (by decide +kernel) ⟨Nat.le_of_ble_eq_true rfl, Nat.le_of_ble_eq_true rfl⟩
set_option maxHeartbeats 4000000 in
set_option maxRecDepth 100000 in
theorem w_X12_near_L35 {p : Program} {l : Launch} {e : Env} {s : State} {m : MethodId} {args : Array Value} {below : List Frame} {meth : Method} {c : Code} {Q : State → Prop} {D : va_G} {cy : Nat → ClassId} {ad : Nat → Nat} {H0 : Heap} (hO : adOK 28 ad) (S : CallFix p m c cX12_near 4 s args wsX12_near RX12) (hK : KK D cy s) (n : Nat) (x2_ : Int) {res : Mem} (k0 : ∀ (τ : Mem) (H2 : Heap) (locs2 : List Loc) (ls2 : Array Slot), res = τ → va_P D vwCl (WW 28 (cellM cy ad) ad τ) H2 → va_S (AC 28 ad) H0 H2 locs2 → lv_has ls2 4 [(0, .ref (ad 0))] → W p l e rm_X12_near s m args below meth c H2 locs2 0 0 Q (F0 m 66 ls2 [])) :
    ∀ (k : Nat) (x3_ : Int) (σ : Mem) (H : Heap) (locs : List Loc) (ls : Array Slot), f_X12_near_L35 n x2_ k x3_ σ = some res → va_P D vwCl (WW 28 (cellM cy ad) ad σ) H → va_S (AC 28 ad) H0 H locs → lv_has ls 4 [(0, .ref (ad 0)), (2, .int (zI x2_)), (3, .int (zI x3_))] → W p l e rm_X12_near s m args below meth c H locs 0 0 Q (F0 m 35 ls []) := by
  intro k
  induction k with
  | zero =>
    intro x3_ σ H locs ls hf
    have hf : none = some res := hf
    cases hf
  | succ k ih =>
    intro x3_ σ H locs ls hf hP hS hl
    rw [f_X12_near_L35] at hf
    refine lv_iload_n S.1 S.2.1 dX12_near_35 rfl (lv_at hl 2 rfl) ?_
    refine lv_aload_n S.1 S.2.1 dX12_near_36 rfl (lv_at hl 0 rfl) ?_
    refine r_get S hK hP (by decide) rfl rfl h_X12_near_X12 25 (by decide) k_X12_near_2 rfl dX12_near_37 ?_
    refine lv_icmp_ge (tgt := 66) S.1 S.2.1 dX12_near_40 (by decide) (fun c1 => ?_) (fun c1 => ?_)
    · have hf := (if_pos c1).symm.trans hf
      exact k0 _ _ _ _ (Option.some.inj hf).symm hP hS (lv_sub hl [0] rfl)
    · have hf := (if_neg c1).symm.trans hf
      refine lv_aload_n S.1 S.2.1 dX12_near_43 rfl (lv_at hl 0 rfl) ?_
      refine r_get S hK hP (by decide) rfl rfl h_X12_near_X12 26 (by decide) k_X12_near_3 rfl dX12_near_44 ?_
      refine lv_iload_n S.1 S.2.1 dX12_near_47 rfl (lv_at hl 2 rfl) ?_
      refine lv_aload_n S.1 S.2.1 dX12_near_48 rfl (lv_at hl 0 rfl) ?_
      refine r_get S hK hP (by decide) rfl rfl h_X12_near_X12 10 (by decide) k_X12_near_4 rfl dX12_near_49 ?_
      refine r_bipush S dX12_near_52 (by decide) ?_
      refine lv_iload_n S.1 S.2.1 dX12_near_54 rfl (lv_at hl 1 rfl) ?_
      refine r_imul S dX12_near_55 ?_
      refine lv_iload_n S.1 S.2.1 dX12_near_56 rfl (lv_at hl 2 rfl) ?_
      refine r_iadd S dX12_near_57 ?_
      obtain ⟨g2, hf⟩ := gd_some hf
      refine r_iald S hK hP (by decide) (n := 18) (fun _ => rfl) (by decide) g2 dX12_near_58 ?_
      obtain ⟨g3, hf⟩ := gd_some hf
      obtain ⟨σ4, hσ4, hf⟩ := nm_some hf
      refine r_iast S hK hP hO hS (by decide) (n := 12) (fun _ => rfl) (by decide) g3 hσ4 dX12_near_59 (fun H locs hP hS => ?_)
      obtain ⟨x5, hx5, hf⟩ := nm_some hf
      refine r_iinc S hx5 (k0 := 2) (lv2 := [(3, .int (zI x5)), (0, .ref (ad 0)), (2, .int (zI x2_))]) dX12_near_60 hl rfl (by decide) rfl (fun ls hl => ?_)
      refine lv_goto (tgt := 35) S.1 S.2.1 dX12_near_63 (by decide) ?_
      exact ih x5 σ4 _ _ _ hf hP hS (lv_sub hl [1, 2, 0] rfl)
set_option maxHeartbeats 4000000 in
set_option maxRecDepth 100000 in
theorem c_X12_near (l : Launch) (D : va_G) (cy : Nat → ClassId) (ad : Nat → Nat) (hO : adOK 28 ad) (n : Nat) (a0 : Int) (a1 : Int) (σ : Mem) {v : Int} {τ : Mem} (hf : f_X12_near n a0 a1 σ = some (v, τ)) : Met l yX12_near wsX12_near rm_X12_near (va_Pc [.ref (ad 0), .int (zI a0), .int (zI a1)] (PreW D cy 28 (cellM cy ad) ad σ)) (QI D 28 (cellM cy ad) ad v τ) 0 0 (AC 28 ad) := by
  refine r_met (cc := cX12_near) (maxL := 4) (ret := (some .int)) (own := RX12) (by decide) rfl rfl [.ref (ad 0), .int (zI a0), .int (zI a1)] (Nat.le_of_ble_eq_true rfl) ?_
  intro p e s m below meth c ls S hK hP hlk hr hl
  have hS : va_S (AC 28 ad) s.heap s.heap [] := va_S.rf
  have hl : lv_has ls 4 [(0, .ref (ad 0)), (1, .int (zI a0)), (2, .int (zI a1))] := hl
  unfold f_X12_near at hf
  refine lv_aload_n S.1 S.2.1 dX12_near_0 rfl (lv_at hl 0 rfl) ?_
  refine lv_iload_n S.1 S.2.1 dX12_near_1 rfl (lv_at hl 1 rfl) ?_
  obtain ⟨y2, hq1, hf⟩ := bV_some hf
  refine r_callVI S hK hP hS (by decide) rfl rfl [.int (zI a0)] (c_X12_isExample l D cy ad hO a0 σ hq1) (cw_X12_near_X12_isExample S.2.2.2.2) rfl hl.1 (rest := []) rfl (Nat.le_of_ble_eq_true rfl) dX12_near_2 ⟨Nat.zero_le _, Nat.zero_le _⟩ (fun H locs hP hS => ?_)
  refine r_if_eq (tgt := 16) S dX12_near_5 (by decide) (fun c3 => ?_) (fun c3 => ?_)
  · have hf := (if_pos c3).symm.trans hf
    refine r_iconst S dX12_near_16 ?_
    obtain ⟨e1, e2⟩ := inj2 hf
    subst e1
    subst e2
    exact e_I S hlk hP hS hr dX12_near_17
  · have hf := (if_neg c3).symm.trans hf
    refine lv_aload_n S.1 S.2.1 dX12_near_8 rfl (lv_at hl 0 rfl) ?_
    refine lv_iload_n S.1 S.2.1 dX12_near_9 rfl (lv_at hl 2 rfl) ?_
    obtain ⟨y5, hq4, hf⟩ := bV_some hf
    refine r_callVI S hK hP hS (by decide) rfl rfl [.int (zI a1)] (c_X12_isExample l D cy ad hO a1 σ hq4) (cw_X12_near_X12_isExample S.2.2.2.2) rfl hl.1 (rest := []) rfl (Nat.le_of_ble_eq_true rfl) dX12_near_10 ⟨Nat.zero_le _, Nat.zero_le _⟩ (fun H locs hP hS => ?_)
    refine r_if_ne (tgt := 18) S dX12_near_13 (by decide) (fun c6 => ?_) (fun c6 => ?_)
    · have hf := (if_neg c6).symm.trans hf
      refine lv_aload_n S.1 S.2.1 dX12_near_18 rfl (lv_at hl 0 rfl) ?_
      refine lv_iload_n S.1 S.2.1 dX12_near_19 rfl (lv_at hl 1 rfl) ?_
      obtain ⟨σ8, hq7, hf⟩ := bV_some hf
      refine r_callVV S hK hP hS (by decide) rfl rfl [.int (zI a0)] (c_X12_take l D cy ad hO n a0 σ hq7) (cw_X12_near_X12_take S.2.2.2.2) rfl hl.1 (rest := []) rfl (Nat.le_of_ble_eq_true rfl) dX12_near_20 ⟨Nat.zero_le _, Nat.zero_le _⟩ (fun H locs hP hS => ?_)
      refine lv_aload_n S.1 S.2.1 dX12_near_23 rfl (lv_at hl 0 rfl) ?_
      refine lv_aload_n S.1 S.2.1 dX12_near_24 rfl (lv_at hl 0 rfl) ?_
      refine r_get S hK hP (by decide) rfl rfl h_X12_near_X12 9 (by decide) k_X12_near_1 rfl dX12_near_25 ?_
      refine lv_iload_n S.1 S.2.1 dX12_near_28 rfl (lv_at hl 2 rfl) ?_
      obtain ⟨g9, hf⟩ := gd_some hf
      refine r_iald S hK hP (by decide) (n := 3) (fun _ => rfl) (by decide) g9 dX12_near_29 ?_
      obtain ⟨σ10, hσ10, hf⟩ := nm_some hf
      refine r_put S hK hP hO hS (by decide) rfl rfl h_X12_near_X12 tyX12 tyX12_ok nmX12 25 (by decide) k_X12_near_2 rfl (tyX12_ok 25 (by decide)) rfl rfl (Nat.le_of_ble_eq_true rfl) hσ10 rfl dX12_near_30 (fun H locs hP hS => ?_)
      refine r_iconst S dX12_near_33 ?_
      refine r_istore_n S rfl (lv2 := [(3, .int (zI 0)), (0, .ref (ad 0)), (1, .int (zI a0)), (2, .int (zI a1))]) dX12_near_34 rfl hl (by decide) rfl (fun ls hl => ?_)
      obtain ⟨σ11, hq, hf⟩ := bV_some hf
      refine w_X12_near_L35 hO S hK n a1 (fun σ11 H locs ls he hP hS hl => ?_) n 0 σ10 _ _ _ hq hP hS (lv_sub hl [1, 3, 0] rfl)
      cases he
      refine lv_aload_n S.1 S.2.1 dX12_near_66 rfl (lv_at hl 0 rfl) ?_
      obtain ⟨σ13, hq12, hf⟩ := bV_some hf
      refine r_callVV S hK hP hS (by decide) rfl rfl [] (c_X12_layRows l D cy ad hO n σ11 hq12) (cw_X12_near_X12_layRows S.2.2.2.2) rfl hl.1 (rest := []) rfl (Nat.le_of_ble_eq_true rfl) dX12_near_67 ⟨Nat.zero_le _, Nat.zero_le _⟩ (fun H locs hP hS => ?_)
      refine lv_aload_n S.1 S.2.1 dX12_near_70 rfl (lv_at hl 0 rfl) ?_
      refine r_get S hK hP (by decide) rfl rfl h_X12_near_X12 28 (by decide) k_X12_near_5 rfl dX12_near_71 ?_
      refine r_iconst S dX12_near_74 ?_
      obtain ⟨g14, hf⟩ := gd_some hf
      refine r_iald S hK hP (by decide) (n := 91) (fun _ => rfl) (by decide) g14 dX12_near_75 ?_
      obtain ⟨e1, e2⟩ := inj2 hf
      subst e1
      subst e2
      exact e_I S hlk hP hS hr dX12_near_76
    · have hf := (if_pos c6).symm.trans hf
      refine r_iconst S dX12_near_16 ?_
      obtain ⟨e1, e2⟩ := inj2 hf
      subst e1
      subst e2
      exact e_I S hlk hP hS hr dX12_near_17
def rm_X12_nothing : Room := { frames := 3, cells := 0, slots := 0, locals := 83 }
theorem k_X12_nothing_1 : (.fieldLink RX12 133 "MendTextsModel" "handMany" "I" : Cond) ∈ wsX12_nothing := List.mem_of_getElem? (i := 1) (by decide +kernel)
theorem k_X12_nothing_2 : (.fieldLink RX12 37 "MendTextsModel" "cost" "[I" : Cond) ∈ wsX12_nothing := List.mem_of_getElem? (i := 2) (by decide +kernel)
theorem k_X12_nothing_3 : (.constant RX12 124 (100000000) : Cond) ∈ wsX12_nothing := List.mem_of_getElem? (i := 3) (by decide +kernel)
theorem h_X12_nothing_X12 : ∀ w ∈ u_ws RX12 TX12 36, w ∈ wsX12_nothing := mem_places _ [33, 34, 35, 36, 37, 38, 39, 40, 41, 42, 43, 44, 45, 46, 47, 48, 49, 50, 51, 52, 53, 54, 55, 56, 57, 58, 59, 60, 61, 62, 63, 64, 65, 66, 67, 68] (by decide +kernel)
theorem cw_X12_nothing_X12_layMends {s : State} {args : Array Value} (hts : ∀ w ∈ wsX12_nothing, w.before args s = true) : CallW rm_X12_nothing s args RX12 RX12 143 yX12_layMends cX12_layMends 6 none wsX12_layMends rm_X12_layMends 0 0 0 := cwV 0 hts gX12_nothing_X12_layMends rfl rfl rfl (by decide +kernel) ⟨Nat.le_of_ble_eq_true rfl, Nat.le_of_ble_eq_true rfl⟩
set_option maxHeartbeats 4000000 in
set_option maxRecDepth 100000 in
theorem w_X12_nothing_L13 {p : Program} {l : Launch} {e : Env} {s : State} {m : MethodId} {args : Array Value} {below : List Frame} {meth : Method} {c : Code} {Q : State → Prop} {D : va_G} {cy : Nat → ClassId} {ad : Nat → Nat} {H0 : Heap} (hO : adOK 28 ad) (S : CallFix p m c cX12_nothing 3 s args wsX12_nothing RX12) (hK : KK D cy s) (n : Nat) (σ : Mem) {res : Int} (k0 : ∀ (y1_ : Int) (H2 : Heap) (locs2 : List Loc) (ls2 : Array Slot), res = y1_ → va_P D vwCl (WW 28 (cellM cy ad) ad σ) H2 → va_S (AC 28 ad) H0 H2 locs2 → lv_has ls2 3 [(1, .int (zI y1_))] → W p l e rm_X12_nothing s m args below meth c H2 locs2 0 0 Q (F0 m 49 ls2 [])) :
    ∀ (k : Nat) (x1_ : Int) (x2_ : Int) (H : Heap) (locs : List Loc) (ls : Array Slot), f_X12_nothing_L13 n σ k x1_ x2_ = some res → va_P D vwCl (WW 28 (cellM cy ad) ad σ) H → va_S (AC 28 ad) H0 H locs → lv_has ls 3 [(0, .ref (ad 0)), (1, .int (zI x1_)), (2, .int (zI x2_))] → W p l e rm_X12_nothing s m args below meth c H locs 0 0 Q (F0 m 13 ls []) := by
  intro k
  induction k with
  | zero =>
    intro x1_ x2_ H locs ls hf
    have hf : none = some res := hf
    cases hf
  | succ k ih =>
    intro x1_ x2_ H locs ls hf hP hS hl
    rw [f_X12_nothing_L13] at hf
    refine lv_iload_n S.1 S.2.1 dX12_nothing_13 rfl (lv_at hl 2 rfl) ?_
    refine r_bipush S dX12_nothing_14 (by decide) ?_
    refine lv_icmp_ge (tgt := 49) S.1 S.2.1 dX12_nothing_16 (by decide) (fun c1 => ?_) (fun c1 => ?_)
    · have hf := (if_pos c1).symm.trans hf
      exact k0 _ _ _ _ (Option.some.inj hf).symm hP hS (lv_sub hl [1] rfl)
    · have hf := (if_neg c1).symm.trans hf
      refine lv_iload_n S.1 S.2.1 dX12_nothing_19 rfl (lv_at hl 1 rfl) ?_
      refine lv_aload_n S.1 S.2.1 dX12_nothing_20 rfl (lv_at hl 0 rfl) ?_
      refine r_get S hK hP (by decide) rfl rfl h_X12_nothing_X12 14 (by decide) k_X12_nothing_2 rfl dX12_nothing_21 ?_
      refine r_bipush S dX12_nothing_24 (by decide) ?_
      refine lv_iload_n S.1 S.2.1 dX12_nothing_26 rfl (lv_at hl 2 rfl) ?_
      refine r_imul S dX12_nothing_27 ?_
      obtain ⟨g2, hf⟩ := gd_some hf
      refine r_iald S hK hP (by decide) (n := 294) (fun _ => rfl) (by decide) g2 dX12_nothing_28 ?_
      refine r_ldc S 100000000 (by decide +kernel) k_X12_nothing_3 dX12_nothing_29 ?_
      obtain ⟨v3, hq, hf⟩ := bV_some hf
      have kJ0 : ∀ (H : Heap) (locs : List Loc) (ls : Array Slot), va_P D vwCl (WW 28 (cellM cy ad) ad σ) H → va_S (AC 28 ad) H0 H locs → lv_has ls 3 [(0, .ref (ad 0)), (2, .int (zI x2_))] → W p l e rm_X12_nothing s m args below meth c H locs 0 0 Q (F0 m 41 ls [.int (zI v3), .int (zI x1_)]) := by
        intro H locs ls hP hS hl
        refine r_ior S dX12_nothing_41 ?_
        obtain ⟨x5, hx5, hf⟩ := nm_some hf
        refine r_istore_n S hx5 (lv2 := [(1, .int (zI x5)), (0, .ref (ad 0)), (2, .int (zI x2_))]) dX12_nothing_42 rfl hl (by decide) rfl (fun ls hl => ?_)
        obtain ⟨x6, hx6, hf⟩ := nm_some hf
        refine r_iinc S hx6 (k0 := 2) (lv2 := [(2, .int (zI x6)), (1, .int (zI x5)), (0, .ref (ad 0))]) dX12_nothing_43 hl rfl (by decide) rfl (fun ls hl => ?_)
        refine lv_goto (tgt := 13) S.1 S.2.1 dX12_nothing_46 (by decide) ?_
        exact ih x5 x6 _ _ _ hf hP hS (lv_sub hl [2, 1, 0] rfl)
      clear hf
      have hf := hq
      refine lv_icmp_lt (tgt := 40) S.1 S.2.1 dX12_nothing_31 (by decide) (fun c4 => ?_) (fun c4 => ?_)
      · have hf := (if_pos c4).symm.trans hf
        refine r_iconst S dX12_nothing_40 ?_
        have e1 := Option.some.inj hf
        subst e1
        exact kJ0 _ _ _ hP hS (lv_sub hl [0, 2] rfl)
      · have hf := (if_neg c4).symm.trans hf
        refine r_iconst S dX12_nothing_34 ?_
        refine lv_iload_n S.1 S.2.1 dX12_nothing_35 rfl (lv_at hl 2 rfl) ?_
        refine r_ishl S dX12_nothing_36 ?_
        refine lv_goto (tgt := 41) S.1 S.2.1 dX12_nothing_37 (by decide) ?_
        have e1 := Option.some.inj hf
        subst e1
        exact kJ0 _ _ _ hP hS (lv_sub hl [0, 2] rfl)
set_option maxHeartbeats 4000000 in
set_option maxRecDepth 100000 in
theorem c_X12_nothing (l : Launch) (D : va_G) (cy : Nat → ClassId) (ad : Nat → Nat) (hO : adOK 28 ad) (n : Nat) (σ : Mem) {v : Int} {τ : Mem} (hf : f_X12_nothing n σ = some (v, τ)) : Met l yX12_nothing wsX12_nothing rm_X12_nothing (va_Pc [.ref (ad 0)] (PreW D cy 28 (cellM cy ad) ad σ)) (QI D 28 (cellM cy ad) ad v τ) 0 0 (AC 28 ad) := by
  refine r_met (cc := cX12_nothing) (maxL := 3) (ret := (some .int)) (own := RX12) (by decide) rfl rfl [.ref (ad 0)] (Nat.le_of_ble_eq_true rfl) ?_
  intro p e s m below meth c ls S hK hP hlk hr hl
  have hS : va_S (AC 28 ad) s.heap s.heap [] := va_S.rf
  have hl : lv_has ls 3 [(0, .ref (ad 0))] := hl
  unfold f_X12_nothing at hf
  refine lv_aload_n S.1 S.2.1 dX12_nothing_0 rfl (lv_at hl 0 rfl) ?_
  refine r_iconst S dX12_nothing_1 ?_
  obtain ⟨σ1, hσ1, hf⟩ := nm_some hf
  refine r_put S hK hP hO hS (by decide) rfl rfl h_X12_nothing_X12 tyX12 tyX12_ok nmX12 12 (by decide) k_X12_nothing_1 rfl (tyX12_ok 12 (by decide)) rfl rfl (Nat.le_of_ble_eq_true rfl) hσ1 rfl dX12_nothing_2 (fun H locs hP hS => ?_)
  refine lv_aload_n S.1 S.2.1 dX12_nothing_5 rfl (lv_at hl 0 rfl) ?_
  obtain ⟨σ3, hq2, hf⟩ := bV_some hf
  refine r_callVV S hK hP hS (by decide) rfl rfl [] (c_X12_layMends l D cy ad hO n σ1 hq2) (cw_X12_nothing_X12_layMends S.2.2.2.2) rfl hl.1 (rest := []) rfl (Nat.le_of_ble_eq_true rfl) dX12_nothing_6 ⟨Nat.zero_le _, Nat.zero_le _⟩ (fun H locs hP hS => ?_)
  refine r_iconst S dX12_nothing_9 ?_
  refine r_istore_n S rfl (lv2 := [(1, .int (zI 0)), (0, .ref (ad 0))]) dX12_nothing_10 rfl hl (by decide) rfl (fun ls hl => ?_)
  refine r_iconst S dX12_nothing_11 ?_
  refine r_istore_n S rfl (lv2 := [(2, .int (zI 0)), (1, .int (zI 0)), (0, .ref (ad 0))]) dX12_nothing_12 rfl hl (by decide) rfl (fun ls hl => ?_)
  obtain ⟨x4, hq, hf⟩ := bV_some hf
  refine w_X12_nothing_L13 hO S hK n σ3 (fun x4 H locs ls he hP hS hl => ?_) n 0 0 _ _ _ hq hP hS (lv_sub hl [2, 1, 0] rfl)
  cases he
  refine lv_iload_n S.1 S.2.1 dX12_nothing_49 rfl (lv_at hl 0 rfl) ?_
  obtain ⟨e1, e2⟩ := inj2 hf
  subst e1
  subst e2
  exact e_I S hlk hP hS hr dX12_nothing_50
def rm_X12_rule : Room := { frames := 2, cells := 0, slots := 0, locals := 42 }
theorem k_X12_rule_1 : (.fieldLink RX12 13 "MendTextsModel" "rules" "[I" : Cond) ∈ wsX12_rule := List.mem_of_getElem? (i := 1) (by decide +kernel)
theorem k_X12_rule_2 : (.fieldLink RX12 16 "MendTextsModel" "sizes" "[I" : Cond) ∈ wsX12_rule := List.mem_of_getElem? (i := 2) (by decide +kernel)
theorem k_X12_rule_3 : (.fieldLink RX12 19 "MendTextsModel" "parts" "[I" : Cond) ∈ wsX12_rule := List.mem_of_getElem? (i := 3) (by decide +kernel)
theorem h_X12_rule_X12 : ∀ w ∈ u_ws RX12 TX12 36, w ∈ wsX12_rule := mem_places _ [11, 12, 13, 14, 15, 16, 17, 18, 19, 20, 21, 22, 23, 24, 25, 26, 27, 28, 29, 30, 31, 32, 33, 34, 35, 36, 37, 38, 39, 40, 41, 42, 43, 44, 45, 46] (by decide +kernel)
theorem cw_X12_rule_X12_in {s : State} {args : Array Value} (hts : ∀ w ∈ wsX12_rule, w.before args s = true) : CallB rm_X12_rule s args RX12 93 yX12_in cX12_in 3 (some .boolean) wsX12_in rm_X12_in 0 0 3 ∧ (Cond.static yX12_in).before args s = true := va_cwS 3 hts gX12_rule_X12_in rfl rfl rfl (by decide +kernel) ⟨Nat.le_of_ble_eq_true rfl, Nat.le_of_ble_eq_true rfl⟩
theorem cw_X12_rule_X12_isName {s : State} {args : Array Value} (hts : ∀ w ∈ wsX12_rule, w.before args s = true) : CallB rm_X12_rule s args RX12 111 yX12_isName cX12_isName 1 (some .boolean) wsX12_isName rm_X12_isName 0 0 1 ∧ (Cond.static yX12_isName).before args s = true := va_cwS 1 hts gX12_rule_X12_isName rfl rfl rfl (by decide +kernel) ⟨Nat.le_of_ble_eq_true rfl, Nat.le_of_ble_eq_true rfl⟩
set_option maxHeartbeats 4000000 in
set_option maxRecDepth 100000 in
theorem c_X12_rule (l : Launch) (D : va_G) (cy : Nat → ClassId) (ad : Nat → Nat) (hO : adOK 28 ad) (a0 : Int) (a1 : Int) (a2 : Int) (σ : Mem) {v : Int} (hf : f_X12_rule a0 a1 a2 σ = some v) : Met l yX12_rule wsX12_rule rm_X12_rule (va_Pc [.ref (ad 0), .int (zI a0), .int (zI a1), .int (zI a2)] (PreW D cy 28 (cellM cy ad) ad σ)) (QI D 28 (cellM cy ad) ad v σ) 0 0 (AC 28 ad) := by
  refine r_met (cc := cX12_rule) (maxL := 5) (ret := (some .int)) (own := RX12) (by decide) rfl rfl [.ref (ad 0), .int (zI a0), .int (zI a1), .int (zI a2)] (Nat.le_of_ble_eq_true rfl) ?_
  intro p e s m below meth c ls S hK hP hlk hr hl
  have hS : va_S (AC 28 ad) s.heap s.heap [] := va_S.rf
  have hl : lv_has ls 5 [(0, .ref (ad 0)), (1, .int (zI a0)), (2, .int (zI a1)), (3, .int (zI a2))] := hl
  unfold f_X12_rule at hf
  refine lv_iload_n S.1 S.2.1 dX12_rule_0 rfl (lv_at hl 1 rfl) ?_
  obtain ⟨y2, hq1, hf⟩ := bV_some hf
  refine r_callSI S hK hP hS [.int (zI a0)] (c_X12_isName l D cy ad hO a0 σ hq1) (cw_X12_rule_X12_isName S.2.2.2.2) rfl hl.1 (rest := []) rfl (Nat.le_of_ble_eq_true rfl) dX12_rule_1 ⟨Nat.zero_le _, Nat.zero_le _⟩ (fun H locs hP hS => ?_)
  refine r_if_eq (tgt := 23) S dX12_rule_4 (by decide) (fun c3 => ?_) (fun c3 => ?_)
  · have hf := (if_pos c3).symm.trans hf
    refine r_iconst S dX12_rule_23 ?_
    have e1 := Option.some.inj hf
    subst e1
    exact e_I S hlk hP hS hr dX12_rule_24
  · have hf := (if_neg c3).symm.trans hf
    refine lv_iload_n S.1 S.2.1 dX12_rule_7 rfl (lv_at hl 2 rfl) ?_
    refine r_iconst S dX12_rule_8 ?_
    refine lv_aload_n S.1 S.2.1 dX12_rule_9 rfl (lv_at hl 0 rfl) ?_
    refine r_get S hK hP (by decide) rfl rfl h_X12_rule_X12 2 (by decide) k_X12_rule_1 rfl dX12_rule_10 ?_
    refine lv_iload_n S.1 S.2.1 dX12_rule_13 rfl (lv_at hl 1 rfl) ?_
    obtain ⟨g4, hf⟩ := gd_some hf
    refine r_iald S hK hP (by decide) (n := 6) (fun _ => rfl) (by decide) g4 dX12_rule_14 ?_
    refine r_iconst S dX12_rule_15 ?_
    refine r_isub S dX12_rule_16 ?_
    obtain ⟨y6, hq5, hf⟩ := bV_some hf
    refine r_callSI S hK hP hS [.int (zI a1), .int (zI 0), .int (zI ((σ 2 a0.toNat) - 1))] (c_X12_in l D cy ad hO a1 0 ((σ 2 a0.toNat) - 1) σ hq5) (cw_X12_rule_X12_in S.2.2.2.2) rfl hl.1 (rest := []) rfl (Nat.le_of_ble_eq_true rfl) dX12_rule_17 ⟨Nat.zero_le _, Nat.zero_le _⟩ (fun H locs hP hS => ?_)
    refine r_if_ne (tgt := 25) S dX12_rule_20 (by decide) (fun c7 => ?_) (fun c7 => ?_)
    · have hf := (if_neg c7).symm.trans hf
      refine r_iconst S dX12_rule_25 ?_
      refine lv_iload_n S.1 S.2.1 dX12_rule_26 rfl (lv_at hl 1 rfl) ?_
      refine r_imul S dX12_rule_27 ?_
      refine lv_iload_n S.1 S.2.1 dX12_rule_28 rfl (lv_at hl 2 rfl) ?_
      refine r_iadd S dX12_rule_29 ?_
      obtain ⟨x8, hx8, hf⟩ := nm_some hf
      refine r_istore S hx8 (lv2 := [(4, .int (zI x8)), (0, .ref (ad 0)), (1, .int (zI a0)), (2, .int (zI a1)), (3, .int (zI a2))]) dX12_rule_30 hl (by decide) rfl (fun ls hl => ?_)
      refine lv_iload_n S.1 S.2.1 dX12_rule_32 rfl (lv_at hl 4 rfl) ?_
      refine r_iconst S dX12_rule_33 ?_
      refine lv_icmp_ne (tgt := 47) S.1 S.2.1 dX12_rule_34 (by decide) (fun c9 => ?_) (fun c9 => ?_)
      · have hf := (if_neg c9).symm.trans hf
        refine lv_iload_n S.1 S.2.1 dX12_rule_47 rfl (lv_at hl 4 rfl) ?_
        refine r_iconst S dX12_rule_48 ?_
        refine lv_aload_n S.1 S.2.1 dX12_rule_49 rfl (lv_at hl 1 rfl) ?_
        refine r_get S hK hP (by decide) rfl rfl h_X12_rule_X12 3 (by decide) k_X12_rule_2 rfl dX12_rule_50 ?_
        refine lv_iload S.1 S.2.1 dX12_rule_53 (lv_at hl 0 rfl) ?_
        obtain ⟨g10, hf⟩ := gd_some hf
        refine r_iald S hK hP (by decide) (n := 30) (fun _ => rfl) (by decide) g10 dX12_rule_55 ?_
        refine r_iconst S dX12_rule_56 ?_
        refine r_isub S dX12_rule_57 ?_
        obtain ⟨y12, hq11, hf⟩ := bV_some hf
        refine r_callSI S hK hP hS [.int (zI a2), .int (zI 0), .int (zI ((σ 3 x8.toNat) - 1))] (c_X12_in l D cy ad hO a2 0 ((σ 3 x8.toNat) - 1) σ hq11) (cw_X12_rule_X12_in S.2.2.2.2) rfl hl.1 (rest := []) rfl (Nat.le_of_ble_eq_true rfl) dX12_rule_58 ⟨Nat.zero_le _, Nat.zero_le _⟩ (fun H locs hP hS => ?_)
        refine r_if_eq (tgt := 78) S dX12_rule_61 (by decide) (fun c13 => ?_) (fun c13 => ?_)
        · have hf := (if_pos c13).symm.trans hf
          refine r_bipush S dX12_rule_78 (by decide) ?_
          have e1 := Option.some.inj hf
          subst e1
          exact e_I S hlk hP hS hr dX12_rule_80
        · have hf := (if_neg c13).symm.trans hf
          refine lv_aload_n S.1 S.2.1 dX12_rule_64 rfl (lv_at hl 1 rfl) ?_
          refine r_get S hK hP (by decide) rfl rfl h_X12_rule_X12 4 (by decide) k_X12_rule_3 rfl dX12_rule_65 ?_
          refine r_iconst S dX12_rule_68 ?_
          refine lv_iload S.1 S.2.1 dX12_rule_69 (lv_at hl 0 rfl) ?_
          refine r_imul S dX12_rule_71 ?_
          refine lv_iload_n S.1 S.2.1 dX12_rule_72 rfl (lv_at hl 4 rfl) ?_
          refine r_iadd S dX12_rule_73 ?_
          obtain ⟨g14, hf⟩ := gd_some hf
          refine r_iald S hK hP (by decide) (n := 120) (fun _ => rfl) (by decide) g14 dX12_rule_74 ?_
          refine lv_goto (tgt := 80) S.1 S.2.1 dX12_rule_75 (by decide) ?_
          have e1 := Option.some.inj hf
          subst e1
          exact e_I S hlk hP hS hr dX12_rule_80
      · have hf := (if_pos c9).symm.trans hf
        refine lv_aload_n S.1 S.2.1 dX12_rule_37 rfl (lv_at hl 1 rfl) ?_
        refine r_get S hK hP (by decide) rfl rfl h_X12_rule_X12 3 (by decide) k_X12_rule_2 rfl dX12_rule_38 ?_
        refine lv_iload S.1 S.2.1 dX12_rule_41 (lv_at hl 0 rfl) ?_
        obtain ⟨g15, hf⟩ := gd_some hf
        refine r_iald S hK hP (by decide) (n := 30) (fun _ => rfl) (by decide) g15 dX12_rule_43 ?_
        refine lv_goto (tgt := 80) S.1 S.2.1 dX12_rule_44 (by decide) ?_
        have e1 := Option.some.inj hf
        subst e1
        exact e_I S hlk hP hS hr dX12_rule_80
    · have hf := (if_pos c7).symm.trans hf
      refine r_iconst S dX12_rule_23 ?_
      have e1 := Option.some.inj hf
      subst e1
      exact e_I S hlk hP hS hr dX12_rule_24
def rm_X12_say : Room := { frames := 1, cells := 0, slots := 0, locals := 22 }
theorem k_X12_say_1 : (.fieldLink RX12 97 "MendTextsModel" "signs" "I" : Cond) ∈ wsX12_say := List.mem_of_getElem? (i := 1) (by decide +kernel)
theorem k_X12_say_2 : (.fieldLink RX12 7 "MendTextsModel" "pad" "[I" : Cond) ∈ wsX12_say := List.mem_of_getElem? (i := 2) (by decide +kernel)
theorem h_X12_say_X12 : ∀ w ∈ u_ws RX12 TX12 36, w ∈ wsX12_say := mem_places _ [7, 8, 9, 10, 11, 12, 13, 14, 15, 16, 17, 18, 19, 20, 21, 22, 23, 24, 25, 26, 27, 28, 29, 30, 31, 32, 33, 34, 35, 36, 37, 38, 39, 40, 41, 42] (by decide +kernel)
theorem cw_X12_say_X12_in {s : State} {args : Array Value} (hts : ∀ w ∈ wsX12_say, w.before args s = true) : CallB rm_X12_say s args RX12 93 yX12_in cX12_in 3 (some .boolean) wsX12_in rm_X12_in 0 0 3 ∧ (Cond.static yX12_in).before args s = true := va_cwS 3 hts gX12_say_X12_in rfl rfl rfl (by decide +kernel) ⟨Nat.le_of_ble_eq_true rfl, Nat.le_of_ble_eq_true rfl⟩
set_option maxHeartbeats 4000000 in
set_option maxRecDepth 100000 in
theorem c_X12_say (l : Launch) (D : va_G) (cy : Nat → ClassId) (ad : Nat → Nat) (hO : adOK 28 ad) (a0 : Int) (σ : Mem) {v : Int} {τ : Mem} (hf : f_X12_say a0 σ = some (v, τ)) : Met l yX12_say wsX12_say rm_X12_say (va_Pc [.ref (ad 0), .int (zI a0)] (PreW D cy 28 (cellM cy ad) ad σ)) (QI D 28 (cellM cy ad) ad v τ) 0 0 (AC 28 ad) := by
  refine r_met (cc := cX12_say) (maxL := 2) (ret := (some .int)) (own := RX12) (by decide) rfl rfl [.ref (ad 0), .int (zI a0)] (Nat.le_of_ble_eq_true rfl) ?_
  intro p e s m below meth c ls S hK hP hlk hr hl
  have hS : va_S (AC 28 ad) s.heap s.heap [] := va_S.rf
  have hl : lv_has ls 2 [(0, .ref (ad 0)), (1, .int (zI a0))] := hl
  unfold f_X12_say at hf
  refine lv_iload_n S.1 S.2.1 dX12_say_0 rfl (lv_at hl 1 rfl) ?_
  refine r_bipush S dX12_say_1 (by decide) ?_
  refine r_bipush S dX12_say_3 (by decide) ?_
  obtain ⟨y2, hq1, hf⟩ := bV_some hf
  refine r_callSI S hK hP hS [.int (zI a0), .int (zI 33), .int (zI 126)] (c_X12_in l D cy ad hO a0 33 126 σ hq1) (cw_X12_say_X12_in S.2.2.2.2) rfl hl.1 (rest := []) rfl (Nat.le_of_ble_eq_true rfl) dX12_say_5 ⟨Nat.zero_le _, Nat.zero_le _⟩ (fun H locs hP hS => ?_)
  refine r_if_ne (tgt := 14) S dX12_say_8 (by decide) (fun c3 => ?_) (fun c3 => ?_)
  · have hf := (if_neg c3).symm.trans hf
    refine lv_aload_n S.1 S.2.1 dX12_say_14 rfl (lv_at hl 0 rfl) ?_
    refine r_get S hK hP (by decide) rfl rfl h_X12_say_X12 0 (by decide) k_X12_say_1 rfl dX12_say_15 ?_
    refine r_bipush S dX12_say_18 (by decide) ?_
    refine lv_icmp_ne (tgt := 26) S.1 S.2.1 dX12_say_20 (by decide) (fun c4 => ?_) (fun c4 => ?_)
    · have hf := (if_neg c4).symm.trans hf
      refine lv_aload_n S.1 S.2.1 dX12_say_26 rfl (lv_at hl 0 rfl) ?_
      refine r_get S hK hP (by decide) rfl rfl h_X12_say_X12 1 (by decide) k_X12_say_2 rfl dX12_say_27 ?_
      refine lv_aload_n S.1 S.2.1 dX12_say_30 rfl (lv_at hl 0 rfl) ?_
      refine r_get S hK hP (by decide) rfl rfl h_X12_say_X12 0 (by decide) k_X12_say_1 rfl dX12_say_31 ?_
      refine lv_iload_n S.1 S.2.1 dX12_say_34 rfl (lv_at hl 1 rfl) ?_
      obtain ⟨g5, hf⟩ := gd_some hf
      obtain ⟨σ6, hσ6, hf⟩ := nm_some hf
      refine r_iast S hK hP hO hS (by decide) (n := 60) (fun _ => rfl) (by decide) g5 hσ6 dX12_say_35 (fun H locs hP hS => ?_)
      refine lv_aload_n S.1 S.2.1 dX12_say_36 rfl (lv_at hl 0 rfl) ?_
      refine lv_dup S.1 S.2.1 dX12_say_37 rfl ?_
      refine r_get S hK hP (by decide) rfl rfl h_X12_say_X12 0 (by decide) k_X12_say_1 rfl dX12_say_38 ?_
      refine r_iconst S dX12_say_41 ?_
      refine r_iadd S dX12_say_42 ?_
      obtain ⟨σ7, hσ7, hf⟩ := nm_some hf
      refine r_put S hK hP hO hS (by decide) rfl rfl h_X12_say_X12 tyX12 tyX12_ok nmX12 0 (by decide) k_X12_say_1 rfl (tyX12_ok 0 (by decide)) rfl rfl (Nat.le_of_ble_eq_true rfl) hσ7 rfl dX12_say_43 (fun H locs hP hS => ?_)
      refine lv_aload_n S.1 S.2.1 dX12_say_46 rfl (lv_at hl 0 rfl) ?_
      refine r_get S hK hP (by decide) rfl rfl h_X12_say_X12 0 (by decide) k_X12_say_1 rfl dX12_say_47 ?_
      obtain ⟨e1, e2⟩ := inj2 hf
      subst e1
      subst e2
      exact e_I S hlk hP hS hr dX12_say_50
    · have hf := (if_pos c4).symm.trans hf
      refine r_bipush S dX12_say_23 (by decide) ?_
      obtain ⟨e1, e2⟩ := inj2 hf
      subst e1
      subst e2
      exact e_I S hlk hP hS hr dX12_say_25
  · have hf := (if_pos c3).symm.trans hf
    refine r_bipush S dX12_say_11 (by decide) ?_
    obtain ⟨e1, e2⟩ := inj2 hf
    subst e1
    subst e2
    exact e_I S hlk hP hS hr dX12_say_13
def rm_X12_text : Room := { frames := 4, cells := 0, slots := 0, locals := 104 }
theorem k_X12_text_1 : (.fieldLink RX12 105 "MendTextsModel" "first" "I" : Cond) ∈ wsX12_text := List.mem_of_getElem? (i := 1) (by decide +kernel)
theorem k_X12_text_2 : (.fieldLink RX12 140 "MendTextsModel" "letters" "I" : Cond) ∈ wsX12_text := List.mem_of_getElem? (i := 2) (by decide +kernel)
theorem k_X12_text_3 : (.fieldLink RX12 40 "MendTextsModel" "length" "[I" : Cond) ∈ wsX12_text := List.mem_of_getElem? (i := 3) (by decide +kernel)
theorem k_X12_text_4 : (.fieldLink RX12 43 "MendTextsModel" "text" "[I" : Cond) ∈ wsX12_text := List.mem_of_getElem? (i := 4) (by decide +kernel)
theorem h_X12_text_X12 : ∀ w ∈ u_ws RX12 TX12 36, w ∈ wsX12_text := mem_places _ [49, 50, 51, 52, 53, 54, 55, 56, 57, 58, 59, 60, 61, 62, 63, 64, 65, 66, 67, 68, 69, 70, 71, 72, 73, 74, 75, 76, 77, 78, 79, 80, 81, 82, 83, 84] (by decide +kernel)
theorem cw_X12_text_X12_in {s : State} {args : Array Value} (hts : ∀ w ∈ wsX12_text, w.before args s = true) : CallB rm_X12_text s args RX12 93 yX12_in cX12_in 3 (some .boolean) wsX12_in rm_X12_in 0 0 3 ∧ (Cond.static yX12_in).before args s = true := va_cwS 3 hts gX12_text_X12_in rfl rfl rfl (by decide +kernel) ⟨Nat.le_of_ble_eq_true rfl, Nat.le_of_ble_eq_true rfl⟩
theorem cw_X12_text_X12_layText {s : State} {args : Array Value} (hts : ∀ w ∈ wsX12_text, w.before args s = true) : CallW rm_X12_text s args RX12 RX12 162 yX12_layText cX12_layText 2 (some .int) wsX12_layText rm_X12_layText 0 0 0 := cwV 0 hts gX12_text_X12_layText rfl rfl rfl (by decide +kernel) ⟨Nat.le_of_ble_eq_true rfl, Nat.le_of_ble_eq_true rfl⟩
set_option maxHeartbeats 4000000 in
set_option maxRecDepth 100000 in
theorem c_X12_text (l : Launch) (D : va_G) (cy : Nat → ClassId) (ad : Nat → Nat) (hO : adOK 28 ad) (n : Nat) (a0 : Int) (σ : Mem) {v : Int} {τ : Mem} (hf : f_X12_text n a0 σ = some (v, τ)) : Met l yX12_text wsX12_text rm_X12_text (va_Pc [.ref (ad 0), .int (zI a0)] (PreW D cy 28 (cellM cy ad) ad σ)) (QI D 28 (cellM cy ad) ad v τ) 0 0 (AC 28 ad) := by
  refine r_met (cc := cX12_text) (maxL := 4) (ret := (some .int)) (own := RX12) (by decide) rfl rfl [.ref (ad 0), .int (zI a0)] (Nat.le_of_ble_eq_true rfl) ?_
  intro p e s m below meth c ls S hK hP hlk hr hl
  have hS : va_S (AC 28 ad) s.heap s.heap [] := va_S.rf
  have hl : lv_has ls 4 [(0, .ref (ad 0)), (1, .int (zI a0))] := hl
  unfold f_X12_text at hf
  refine lv_aload_n S.1 S.2.1 dX12_text_0 rfl (lv_at hl 0 rfl) ?_
  obtain ⟨y3, σ2, hq1, hf⟩ := bL1_some hf
  refine r_callVI S hK hP hS (by decide) rfl rfl [] (c_X12_layText l D cy ad hO n σ hq1) (cw_X12_text_X12_layText S.2.2.2.2) rfl hl.1 (rest := []) rfl (Nat.le_of_ble_eq_true rfl) dX12_text_1 ⟨Nat.zero_le _, Nat.zero_le _⟩ (fun H locs hP hS => ?_)
  refine r_istore_n S rfl (lv2 := [(2, .int (zI y3)), (0, .ref (ad 0)), (1, .int (zI a0))]) dX12_text_4 rfl hl (by decide) rfl (fun ls hl => ?_)
  refine lv_iload_n S.1 S.2.1 dX12_text_5 rfl (lv_at hl 0 rfl) ?_
  refine r_if_ge (tgt := 11) S dX12_text_6 (by decide) (fun c4 => ?_) (fun c4 => ?_)
  · have hf := (if_pos c4).symm.trans hf
    refine r_bipush S dX12_text_11 (by decide) ?_
    refine lv_aload_n S.1 S.2.1 dX12_text_13 rfl (lv_at hl 1 rfl) ?_
    refine r_get S hK hP (by decide) rfl rfl h_X12_text_X12 5 (by decide) k_X12_text_1 rfl dX12_text_14 ?_
    refine r_imul S dX12_text_17 ?_
    refine lv_aload_n S.1 S.2.1 dX12_text_18 rfl (lv_at hl 1 rfl) ?_
    refine r_get S hK hP (by decide) rfl rfl h_X12_text_X12 6 (by decide) k_X12_text_2 rfl dX12_text_19 ?_
    refine r_iadd S dX12_text_22 ?_
    obtain ⟨x5, hx5, hf⟩ := nm_some hf
    refine r_istore_n S hx5 (lv2 := [(3, .int (zI x5)), (2, .int (zI y3)), (0, .ref (ad 0)), (1, .int (zI a0))]) dX12_text_23 rfl hl (by decide) rfl (fun ls hl => ?_)
    refine lv_iload_n S.1 S.2.1 dX12_text_24 rfl (lv_at hl 3 rfl) ?_
    refine r_iconst S dX12_text_25 ?_
    refine lv_icmp_ne (tgt := 38) S.1 S.2.1 dX12_text_26 (by decide) (fun c6 => ?_) (fun c6 => ?_)
    · have hf := (if_neg c6).symm.trans hf
      refine lv_iload_n S.1 S.2.1 dX12_text_38 rfl (lv_at hl 3 rfl) ?_
      refine r_iconst S dX12_text_39 ?_
      refine lv_aload_n S.1 S.2.1 dX12_text_40 rfl (lv_at hl 2 rfl) ?_
      refine r_get S hK hP (by decide) rfl rfl h_X12_text_X12 15 (by decide) k_X12_text_3 rfl dX12_text_41 ?_
      refine lv_iload_n S.1 S.2.1 dX12_text_44 rfl (lv_at hl 0 rfl) ?_
      obtain ⟨g7, hf⟩ := gd_some hf
      refine r_iald S hK hP (by decide) (n := 294) (fun _ => rfl) (by decide) g7 dX12_text_45 ?_
      refine r_iconst S dX12_text_46 ?_
      refine r_isub S dX12_text_47 ?_
      obtain ⟨y9, hq8, hf⟩ := bV_some hf
      refine r_callSI S hK hP hS [.int (zI a0), .int (zI 0), .int (zI ((σ2 11 x5.toNat) - 1))] (c_X12_in l D cy ad hO a0 0 ((σ2 11 x5.toNat) - 1) σ2 hq8) (cw_X12_text_X12_in S.2.2.2.2) rfl hl.1 (rest := []) rfl (Nat.le_of_ble_eq_true rfl) dX12_text_48 ⟨Nat.zero_le _, Nat.zero_le _⟩ (fun H locs hP hS => ?_)
      refine r_if_eq (tgt := 78) S dX12_text_51 (by decide) (fun c10 => ?_) (fun c10 => ?_)
      · have hf := (if_pos c10).symm.trans hf
        refine r_bipush S dX12_text_78 (by decide) ?_
        obtain ⟨e1, e2⟩ := inj2 hf
        subst e1
        subst e2
        exact e_I S hlk hP hS hr dX12_text_80
      · have hf := (if_neg c10).symm.trans hf
        refine lv_aload_n S.1 S.2.1 dX12_text_54 rfl (lv_at hl 2 rfl) ?_
        refine r_get S hK hP (by decide) rfl rfl h_X12_text_X12 16 (by decide) k_X12_text_4 rfl dX12_text_55 ?_
        refine lv_iload_n S.1 S.2.1 dX12_text_58 rfl (lv_at hl 0 rfl) ?_
        refine r_iald S hK hP (by decide) (n := 294) (fun _ => rfl) (by decide) g7 dX12_text_59 ?_
        refine r_iconst S dX12_text_60 ?_
        refine lv_aload_n S.1 S.2.1 dX12_text_61 rfl (lv_at hl 2 rfl) ?_
        refine r_get S hK hP (by decide) rfl rfl h_X12_text_X12 15 (by decide) k_X12_text_3 rfl dX12_text_62 ?_
        refine lv_iload_n S.1 S.2.1 dX12_text_65 rfl (lv_at hl 0 rfl) ?_
        refine r_iald S hK hP (by decide) (n := 294) (fun _ => rfl) (by decide) g7 dX12_text_66 ?_
        refine r_iconst S dX12_text_67 ?_
        refine r_isub S dX12_text_68 ?_
        refine lv_iload_n S.1 S.2.1 dX12_text_69 rfl (lv_at hl 3 rfl) ?_
        refine r_isub S dX12_text_70 ?_
        refine r_imul S dX12_text_71 ?_
        refine r_ishr S dX12_text_72 ?_
        refine r_iconst S dX12_text_73 ?_
        refine r_iand S dX12_text_74 ?_
        refine lv_goto (tgt := 80) S.1 S.2.1 dX12_text_75 (by decide) ?_
        obtain ⟨e1, e2⟩ := inj2 hf
        subst e1
        subst e2
        exact e_I S hlk hP hS hr dX12_text_80
    · have hf := (if_pos c6).symm.trans hf
      refine lv_aload_n S.1 S.2.1 dX12_text_29 rfl (lv_at hl 2 rfl) ?_
      refine r_get S hK hP (by decide) rfl rfl h_X12_text_X12 15 (by decide) k_X12_text_3 rfl dX12_text_30 ?_
      refine lv_iload_n S.1 S.2.1 dX12_text_33 rfl (lv_at hl 0 rfl) ?_
      obtain ⟨g11, hf⟩ := gd_some hf
      refine r_iald S hK hP (by decide) (n := 294) (fun _ => rfl) (by decide) g11 dX12_text_34 ?_
      refine lv_goto (tgt := 80) S.1 S.2.1 dX12_text_35 (by decide) ?_
      obtain ⟨e1, e2⟩ := inj2 hf
      subst e1
      subst e2
      exact e_I S hlk hP hS hr dX12_text_80
  · have hf := (if_neg c4).symm.trans hf
    refine lv_iload_n S.1 S.2.1 dX12_text_9 rfl (lv_at hl 0 rfl) ?_
    obtain ⟨e1, e2⟩ := inj2 hf
    subst e1
    subst e2
    exact e_I S hlk hP hS hr dX12_text_10
def rm_X12_told : Room := { frames := 1, cells := 0, slots := 0, locals := 22 }
theorem k_X12_told_1 : (.fieldLink RX12 13 "MendTextsModel" "rules" "[I" : Cond) ∈ wsX12_told := List.mem_of_getElem? (i := 1) (by decide +kernel)
theorem k_X12_told_2 : (.fieldLink RX12 97 "MendTextsModel" "signs" "I" : Cond) ∈ wsX12_told := List.mem_of_getElem? (i := 2) (by decide +kernel)
theorem k_X12_told_3 : (.fieldLink RX12 105 "MendTextsModel" "first" "I" : Cond) ∈ wsX12_told := List.mem_of_getElem? (i := 3) (by decide +kernel)
theorem k_X12_told_4 : (.fieldLink RX12 140 "MendTextsModel" "letters" "I" : Cond) ∈ wsX12_told := List.mem_of_getElem? (i := 4) (by decide +kernel)
theorem k_X12_told_5 : (.fieldLink RX12 187 "MendTextsModel" "examples" "I" : Cond) ∈ wsX12_told := List.mem_of_getElem? (i := 5) (by decide +kernel)
theorem k_X12_told_6 : (.fieldLink RX12 31 "MendTextsModel" "costs" "[I" : Cond) ∈ wsX12_told := List.mem_of_getElem? (i := 6) (by decide +kernel)
theorem h_X12_told_X12 : ∀ w ∈ u_ws RX12 TX12 36, w ∈ wsX12_told := mem_places _ [11, 12, 13, 14, 15, 16, 17, 18, 19, 20, 21, 22, 23, 24, 25, 26, 27, 28, 29, 30, 31, 32, 33, 34, 35, 36, 37, 38, 39, 40, 41, 42, 43, 44, 45, 46] (by decide +kernel)
theorem cw_X12_told_X12_in {s : State} {args : Array Value} (hts : ∀ w ∈ wsX12_told, w.before args s = true) : CallB rm_X12_told s args RX12 93 yX12_in cX12_in 3 (some .boolean) wsX12_in rm_X12_in 0 0 3 ∧ (Cond.static yX12_in).before args s = true := va_cwS 3 hts gX12_told_X12_in rfl rfl rfl (by decide +kernel) ⟨Nat.le_of_ble_eq_true rfl, Nat.le_of_ble_eq_true rfl⟩
set_option maxHeartbeats 4000000 in
set_option maxRecDepth 100000 in
theorem w_X12_told_L4 {p : Program} {l : Launch} {e : Env} {s : State} {m : MethodId} {args : Array Value} {below : List Frame} {meth : Method} {c : Code} {Q : State → Prop} {D : va_G} {cy : Nat → ClassId} {ad : Nat → Nat} {H0 : Heap} (hO : adOK 28 ad) (S : CallFix p m c cX12_told 4 s args wsX12_told RX12) (hK : KK D cy s) (n : Nat) (x1_ : Int) (σ : Mem) {res : Int} (k0 : ∀ (y2_ : Int) (H2 : Heap) (locs2 : List Loc) (ls2 : Array Slot), res = y2_ → va_P D vwCl (WW 28 (cellM cy ad) ad σ) H2 → va_S (AC 28 ad) H0 H2 locs2 → lv_has ls2 4 [(0, .ref (ad 0)), (1, .int (zI x1_)), (2, .int (zI y2_))] → W p l e rm_X12_told s m args below meth c H2 locs2 0 0 Q (F0 m 35 ls2 [])) :
    ∀ (k : Nat) (x2_ : Int) (x3_ : Int) (H : Heap) (locs : List Loc) (ls : Array Slot), f_X12_told_L4 n x1_ σ k x2_ x3_ = some res → va_P D vwCl (WW 28 (cellM cy ad) ad σ) H → va_S (AC 28 ad) H0 H locs → lv_has ls 4 [(0, .ref (ad 0)), (1, .int (zI x1_)), (2, .int (zI x2_)), (3, .int (zI x3_))] → W p l e rm_X12_told s m args below meth c H locs 0 0 Q (F0 m 4 ls []) := by
  intro k
  induction k with
  | zero =>
    intro x2_ x3_ H locs ls hf
    have hf : none = some res := hf
    cases hf
  | succ k ih =>
    intro x2_ x3_ H locs ls hf hP hS hl
    rw [f_X12_told_L4] at hf
    refine lv_iload_n S.1 S.2.1 dX12_told_4 rfl (lv_at hl 3 rfl) ?_
    refine r_bipush S dX12_told_5 (by decide) ?_
    refine lv_icmp_ge (tgt := 35) S.1 S.2.1 dX12_told_7 (by decide) (fun c1 => ?_) (fun c1 => ?_)
    · have hf := (if_pos c1).symm.trans hf
      exact k0 _ _ _ _ (Option.some.inj hf).symm hP hS (lv_sub hl [0, 1, 2] rfl)
    · have hf := (if_neg c1).symm.trans hf
      refine lv_iload_n S.1 S.2.1 dX12_told_10 rfl (lv_at hl 2 rfl) ?_
      refine lv_aload_n S.1 S.2.1 dX12_told_11 rfl (lv_at hl 0 rfl) ?_
      refine r_get S hK hP (by decide) rfl rfl h_X12_told_X12 2 (by decide) k_X12_told_1 rfl dX12_told_12 ?_
      refine lv_iload_n S.1 S.2.1 dX12_told_15 rfl (lv_at hl 3 rfl) ?_
      obtain ⟨g2, hf⟩ := gd_some hf
      refine r_iald S hK hP (by decide) (n := 6) (fun _ => rfl) (by decide) g2 dX12_told_16 ?_
      obtain ⟨v3, hq, hf⟩ := bV_some hf
      have kJ0 : ∀ (H : Heap) (locs : List Loc) (ls : Array Slot), va_P D vwCl (WW 28 (cellM cy ad) ad σ) H → va_S (AC 28 ad) H0 H locs → lv_has ls 4 [(0, .ref (ad 0)), (1, .int (zI x1_)), (3, .int (zI x3_))] → W p l e rm_X12_told s m args below meth c H locs 0 0 Q (F0 m 27 ls [.int (zI v3), .int (zI x2_)]) := by
        intro H locs ls hP hS hl
        refine r_ior S dX12_told_27 ?_
        obtain ⟨x5, hx5, hf⟩ := nm_some hf
        refine r_istore_n S hx5 (lv2 := [(2, .int (zI x5)), (0, .ref (ad 0)), (1, .int (zI x1_)), (3, .int (zI x3_))]) dX12_told_28 rfl hl (by decide) rfl (fun ls hl => ?_)
        obtain ⟨x6, hx6, hf⟩ := nm_some hf
        refine r_iinc S hx6 (k0 := 3) (lv2 := [(3, .int (zI x6)), (2, .int (zI x5)), (0, .ref (ad 0)), (1, .int (zI x1_))]) dX12_told_29 hl rfl (by decide) rfl (fun ls hl => ?_)
        refine lv_goto (tgt := 4) S.1 S.2.1 dX12_told_32 (by decide) ?_
        exact ih x5 x6 _ _ _ hf hP hS (lv_sub hl [2, 3, 1, 0] rfl)
      clear hf
      have hf := hq
      refine r_if_le (tgt := 26) S dX12_told_17 (by decide) (fun c4 => ?_) (fun c4 => ?_)
      · have hf := (if_pos c4).symm.trans hf
        refine r_iconst S dX12_told_26 ?_
        have e1 := Option.some.inj hf
        subst e1
        exact kJ0 _ _ _ hP hS (lv_sub hl [0, 1, 3] rfl)
      · have hf := (if_neg c4).symm.trans hf
        refine r_iconst S dX12_told_20 ?_
        refine lv_iload_n S.1 S.2.1 dX12_told_21 rfl (lv_at hl 3 rfl) ?_
        refine r_ishl S dX12_told_22 ?_
        refine lv_goto (tgt := 27) S.1 S.2.1 dX12_told_23 (by decide) ?_
        have e1 := Option.some.inj hf
        subst e1
        exact kJ0 _ _ _ hP hS (lv_sub hl [0, 1, 3] rfl)
set_option maxHeartbeats 4000000 in
set_option maxRecDepth 100000 in
theorem c_X12_told (l : Launch) (D : va_G) (cy : Nat → ClassId) (ad : Nat → Nat) (hO : adOK 28 ad) (n : Nat) (a0 : Int) (σ : Mem) {v : Int} (hf : f_X12_told n a0 σ = some v) : Met l yX12_told wsX12_told rm_X12_told (va_Pc [.ref (ad 0), .int (zI a0)] (PreW D cy 28 (cellM cy ad) ad σ)) (QI D 28 (cellM cy ad) ad v σ) 0 0 (AC 28 ad) := by
  refine r_met (cc := cX12_told) (maxL := 4) (ret := (some .int)) (own := RX12) (by decide) rfl rfl [.ref (ad 0), .int (zI a0)] (Nat.le_of_ble_eq_true rfl) ?_
  intro p e s m below meth c ls S hK hP hlk hr hl
  have hS : va_S (AC 28 ad) s.heap s.heap [] := va_S.rf
  have hl : lv_has ls 4 [(0, .ref (ad 0)), (1, .int (zI a0))] := hl
  unfold f_X12_told at hf
  refine r_iconst S dX12_told_0 ?_
  refine r_istore_n S rfl (lv2 := [(2, .int (zI 0)), (0, .ref (ad 0)), (1, .int (zI a0))]) dX12_told_1 rfl hl (by decide) rfl (fun ls hl => ?_)
  refine r_iconst S dX12_told_2 ?_
  refine r_istore_n S rfl (lv2 := [(3, .int (zI 0)), (2, .int (zI 0)), (0, .ref (ad 0)), (1, .int (zI a0))]) dX12_told_3 rfl hl (by decide) rfl (fun ls hl => ?_)
  obtain ⟨x1, hq, hf⟩ := bV_some hf
  refine w_X12_told_L4 hO S hK n a0 σ (fun x1 H locs ls he hP hS hl => ?_) n 0 0 _ _ _ hq hP hS (lv_sub hl [2, 3, 1, 0] rfl)
  cases he
  refine lv_iload_n S.1 S.2.1 dX12_told_35 rfl (lv_at hl 1 rfl) ?_
  refine r_bipush S dX12_told_36 (by decide) ?_
  refine r_bipush S dX12_told_38 (by decide) ?_
  obtain ⟨y3, hq2, hf⟩ := bV_some hf
  refine r_callSI S hK hP hS [.int (zI a0), .int (zI 10), .int (zI 15)] (c_X12_in l D cy ad hO a0 10 15 σ hq2) (cw_X12_told_X12_in S.2.2.2.2) rfl hl.1 (rest := []) rfl (Nat.le_of_ble_eq_true rfl) dX12_told_40 ⟨Nat.zero_le _, Nat.zero_le _⟩ (fun H locs hP hS => ?_)
  refine r_if_eq (tgt := 56) S dX12_told_43 (by decide) (fun c4 => ?_) (fun c4 => ?_)
  · have hf := (if_pos c4).symm.trans hf
    refine lv_iload_n S.1 S.2.1 dX12_told_56 rfl (lv_at hl 1 rfl) ?_
    refine r_if_ne (tgt := 67) S dX12_told_57 (by decide) (fun c5 => ?_) (fun c5 => ?_)
    · have hf := (if_neg c5).symm.trans hf
      refine lv_iload_n S.1 S.2.1 dX12_told_67 rfl (lv_at hl 1 rfl) ?_
      refine r_iconst S dX12_told_68 ?_
      refine lv_icmp_ne (tgt := 76) S.1 S.2.1 dX12_told_69 (by decide) (fun c6 => ?_) (fun c6 => ?_)
      · have hf := (if_neg c6).symm.trans hf
        refine lv_iload_n S.1 S.2.1 dX12_told_76 rfl (lv_at hl 1 rfl) ?_
        refine r_iconst S dX12_told_77 ?_
        refine lv_icmp_ne (tgt := 88) S.1 S.2.1 dX12_told_78 (by decide) (fun c7 => ?_) (fun c7 => ?_)
        · have hf := (if_neg c7).symm.trans hf
          refine lv_iload_n S.1 S.2.1 dX12_told_88 rfl (lv_at hl 1 rfl) ?_
          refine r_iconst S dX12_told_89 ?_
          refine lv_icmp_ne (tgt := 100) S.1 S.2.1 dX12_told_90 (by decide) (fun c8 => ?_) (fun c8 => ?_)
          · have hf := (if_neg c8).symm.trans hf
            refine lv_iload_n S.1 S.2.1 dX12_told_100 rfl (lv_at hl 1 rfl) ?_
            refine r_iconst S dX12_told_101 ?_
            refine lv_icmp_ne (tgt := 112) S.1 S.2.1 dX12_told_102 (by decide) (fun c9 => ?_) (fun c9 => ?_)
            · have hf := (if_neg c9).symm.trans hf
              refine lv_iload_n S.1 S.2.1 dX12_told_112 rfl (lv_at hl 1 rfl) ?_
              refine r_iconst S dX12_told_113 ?_
              refine r_bipush S dX12_told_114 (by decide) ?_
              obtain ⟨y11, hq10, hf⟩ := bV_some hf
              refine r_callSI S hK hP hS [.int (zI a0), .int (zI 5), .int (zI 7)] (c_X12_in l D cy ad hO a0 5 7 σ hq10) (cw_X12_told_X12_in S.2.2.2.2) rfl hl.1 (rest := []) rfl (Nat.le_of_ble_eq_true rfl) dX12_told_116 ⟨Nat.zero_le _, Nat.zero_le _⟩ (fun H locs hP hS => ?_)
              refine r_if_eq (tgt := 133) S dX12_told_119 (by decide) (fun c12 => ?_) (fun c12 => ?_)
              · have hf := (if_pos c12).symm.trans hf
                refine r_bipush S dX12_told_133 (by decide) ?_
                have e1 := Option.some.inj hf
                subst e1
                exact e_I S hlk hP hS hr dX12_told_135
              · have hf := (if_neg c12).symm.trans hf
                refine lv_aload_n S.1 S.2.1 dX12_told_122 rfl (lv_at hl 0 rfl) ?_
                refine r_get S hK hP (by decide) rfl rfl h_X12_told_X12 11 (by decide) k_X12_told_6 rfl dX12_told_123 ?_
                refine lv_iload_n S.1 S.2.1 dX12_told_126 rfl (lv_at hl 1 rfl) ?_
                refine r_iconst S dX12_told_127 ?_
                refine r_isub S dX12_told_128 ?_
                obtain ⟨g13, hf⟩ := gd_some hf
                refine r_iald S hK hP (by decide) (n := 3) (fun _ => rfl) (by decide) g13 dX12_told_129 ?_
                refine lv_goto (tgt := 135) S.1 S.2.1 dX12_told_130 (by decide) ?_
                have e1 := Option.some.inj hf
                subst e1
                exact e_I S hlk hP hS hr dX12_told_135
            · have hf := (if_pos c9).symm.trans hf
              refine lv_aload_n S.1 S.2.1 dX12_told_105 rfl (lv_at hl 0 rfl) ?_
              refine r_get S hK hP (by decide) rfl rfl h_X12_told_X12 8 (by decide) k_X12_told_5 rfl dX12_told_106 ?_
              refine lv_goto (tgt := 135) S.1 S.2.1 dX12_told_109 (by decide) ?_
              have e1 := Option.some.inj hf
              subst e1
              exact e_I S hlk hP hS hr dX12_told_135
          · have hf := (if_pos c8).symm.trans hf
            refine lv_aload_n S.1 S.2.1 dX12_told_93 rfl (lv_at hl 0 rfl) ?_
            refine r_get S hK hP (by decide) rfl rfl h_X12_told_X12 6 (by decide) k_X12_told_4 rfl dX12_told_94 ?_
            refine lv_goto (tgt := 135) S.1 S.2.1 dX12_told_97 (by decide) ?_
            have e1 := Option.some.inj hf
            subst e1
            exact e_I S hlk hP hS hr dX12_told_135
        · have hf := (if_pos c7).symm.trans hf
          refine lv_aload_n S.1 S.2.1 dX12_told_81 rfl (lv_at hl 0 rfl) ?_
          refine r_get S hK hP (by decide) rfl rfl h_X12_told_X12 5 (by decide) k_X12_told_3 rfl dX12_told_82 ?_
          refine lv_goto (tgt := 135) S.1 S.2.1 dX12_told_85 (by decide) ?_
          have e1 := Option.some.inj hf
          subst e1
          exact e_I S hlk hP hS hr dX12_told_135
      · have hf := (if_pos c6).symm.trans hf
        refine lv_iload_n S.1 S.2.1 dX12_told_72 rfl (lv_at hl 2 rfl) ?_
        refine lv_goto (tgt := 135) S.1 S.2.1 dX12_told_73 (by decide) ?_
        have e1 := Option.some.inj hf
        subst e1
        exact e_I S hlk hP hS hr dX12_told_135
    · have hf := (if_pos c5).symm.trans hf
      refine lv_aload_n S.1 S.2.1 dX12_told_60 rfl (lv_at hl 0 rfl) ?_
      refine r_get S hK hP (by decide) rfl rfl h_X12_told_X12 0 (by decide) k_X12_told_2 rfl dX12_told_61 ?_
      refine lv_goto (tgt := 135) S.1 S.2.1 dX12_told_64 (by decide) ?_
      have e1 := Option.some.inj hf
      subst e1
      exact e_I S hlk hP hS hr dX12_told_135
  · have hf := (if_neg c4).symm.trans hf
    refine lv_aload_n S.1 S.2.1 dX12_told_46 rfl (lv_at hl 0 rfl) ?_
    refine r_get S hK hP (by decide) rfl rfl h_X12_told_X12 2 (by decide) k_X12_told_1 rfl dX12_told_47 ?_
    refine lv_iload_n S.1 S.2.1 dX12_told_50 rfl (lv_at hl 1 rfl) ?_
    refine r_bipush S dX12_told_51 (by decide) ?_
    refine r_isub S dX12_told_53 ?_
    obtain ⟨g14, hf⟩ := gd_some hf
    refine r_iald S hK hP (by decide) (n := 6) (fun _ => rfl) (by decide) g14 dX12_told_54 ?_
    have e1 := Option.some.inj hf
    subst e1
    exact e_I S hlk hP hS hr dX12_told_55
def rm_X12_total : Room := { frames := 4, cells := 0, slots := 0, locals := 106 }
theorem k_X12_total_1 : (.constant RX12 124 (100000000) : Cond) ∈ wsX12_total := List.mem_of_getElem? (i := 1) (by decide +kernel)
theorem cw_X12_total_X12_totalOf {s : State} {args : Array Value} (hts : ∀ w ∈ wsX12_total, w.before args s = true) : CallW rm_X12_total s args RX12 RX12 193 yX12_totalOf cX12_totalOf 4 (some .int) wsX12_totalOf rm_X12_totalOf 0 0 0 := cwV 0 hts gX12_total_X12_totalOf rfl rfl rfl (by decide +kernel) ⟨Nat.le_of_ble_eq_true rfl, Nat.le_of_ble_eq_true rfl⟩
set_option maxHeartbeats 4000000 in
set_option maxRecDepth 100000 in
theorem c_X12_total (l : Launch) (D : va_G) (cy : Nat → ClassId) (ad : Nat → Nat) (hO : adOK 28 ad) (n : Nat) (σ : Mem) {v : Int} {τ : Mem} (hf : f_X12_total n σ = some (v, τ)) : Met l yX12_total wsX12_total rm_X12_total (va_Pc [.ref (ad 0)] (PreW D cy 28 (cellM cy ad) ad σ)) (QI D 28 (cellM cy ad) ad v τ) 0 0 (AC 28 ad) := by
  refine r_met (cc := cX12_total) (maxL := 2) (ret := (some .int)) (own := RX12) (by decide) rfl rfl [.ref (ad 0)] (Nat.le_of_ble_eq_true rfl) ?_
  intro p e s m below meth c ls S hK hP hlk hr hl
  have hS : va_S (AC 28 ad) s.heap s.heap [] := va_S.rf
  have hl : lv_has ls 2 [(0, .ref (ad 0))] := hl
  unfold f_X12_total at hf
  refine lv_aload_n S.1 S.2.1 dX12_total_0 rfl (lv_at hl 0 rfl) ?_
  obtain ⟨y3, σ2, hq1, hf⟩ := bL1_some hf
  refine r_callVI S hK hP hS (by decide) rfl rfl [] (c_X12_totalOf l D cy ad hO n σ hq1) (cw_X12_total_X12_totalOf S.2.2.2.2) rfl hl.1 (rest := []) rfl (Nat.le_of_ble_eq_true rfl) dX12_total_1 ⟨Nat.zero_le _, Nat.zero_le _⟩ (fun H locs hP hS => ?_)
  refine r_istore_n S rfl (lv2 := [(1, .int (zI y3)), (0, .ref (ad 0))]) dX12_total_4 rfl hl (by decide) rfl (fun ls hl => ?_)
  refine lv_iload_n S.1 S.2.1 dX12_total_5 rfl (lv_at hl 0 rfl) ?_
  refine r_ldc S 100000000 (by decide +kernel) k_X12_total_1 dX12_total_6 ?_
  refine lv_icmp_lt (tgt := 16) S.1 S.2.1 dX12_total_8 (by decide) (fun c4 => ?_) (fun c4 => ?_)
  · have hf := (if_pos c4).symm.trans hf
    refine lv_iload_n S.1 S.2.1 dX12_total_16 rfl (lv_at hl 0 rfl) ?_
    obtain ⟨e1, e2⟩ := inj2 hf
    subst e1
    subst e2
    exact e_I S hlk hP hS hr dX12_total_17
  · have hf := (if_neg c4).symm.trans hf
    refine r_bipush S dX12_total_11 (by decide) ?_
    refine lv_goto (tgt := 17) S.1 S.2.1 dX12_total_13 (by decide) ?_
    obtain ⟨e1, e2⟩ := inj2 hf
    subst e1
    subst e2
    exact e_I S hlk hP hS hr dX12_total_17
def rm_X12_ways : Room := { frames := 4, cells := 0, slots := 0, locals := 104 }
theorem k_X12_ways_1 : (.fieldLink RX12 75 "MendTextsModel" "behindWays" "[J" : Cond) ∈ wsX12_ways := List.mem_of_getElem? (i := 1) (by decide +kernel)
theorem k_X12_ways_2 : (.constantLong RX12 184 (1000000) : Cond) ∈ wsX12_ways := List.mem_of_getElem? (i := 2) (by decide +kernel)
theorem k_X12_ways_3 : (.constant RX12 186 (1000000) : Cond) ∈ wsX12_ways := List.mem_of_getElem? (i := 3) (by decide +kernel)
theorem h_X12_ways_X12 : ∀ w ∈ u_ws RX12 TX12 36, w ∈ wsX12_ways := mem_places _ [74, 75, 76, 77, 78, 79, 80, 81, 82, 83, 84, 85, 86, 87, 88, 89, 90, 91, 92, 93, 94, 95, 96, 97, 98, 99, 100, 101, 102, 103, 104, 105, 106, 107, 108, 109] (by decide +kernel)
theorem cw_X12_ways_X12_layText {s : State} {args : Array Value} (hts : ∀ w ∈ wsX12_ways, w.before args s = true) : CallW rm_X12_ways s args RX12 RX12 162 yX12_layText cX12_layText 2 (some .int) wsX12_layText rm_X12_layText 0 0 0 := cwV 0 hts gX12_ways_X12_layText rfl rfl rfl (by decide +kernel) ⟨Nat.le_of_ble_eq_true rfl, Nat.le_of_ble_eq_true rfl⟩
theorem cw_X12_ways_X12_layTextRows {s : State} {args : Array Value} (hts : ∀ w ∈ wsX12_ways, w.before args s = true) : CallW rm_X12_ways s args RX12 RX12 181 yX12_layTextRows cX12_layTextRows 3 none wsX12_layTextRows rm_X12_layTextRows 0 0 0 := cwV 0 hts gX12_ways_X12_layTextRows rfl rfl rfl (by decide +kernel) ⟨Nat.le_of_ble_eq_true rfl, Nat.le_of_ble_eq_true rfl⟩
set_option maxHeartbeats 4000000 in
set_option maxRecDepth 100000 in
theorem c_X12_ways (l : Launch) (D : va_G) (cy : Nat → ClassId) (ad : Nat → Nat) (hO : adOK 28 ad) (n : Nat) (σ : Mem) {v : Int} {τ : Mem} (hf : f_X12_ways n σ = some (v, τ)) : Met l yX12_ways wsX12_ways rm_X12_ways (va_Pc [.ref (ad 0)] (PreW D cy 28 (cellM cy ad) ad σ)) (QI D 28 (cellM cy ad) ad v τ) 0 0 (AC 28 ad) := by
  refine r_met (cc := cX12_ways) (maxL := 4) (ret := (some .int)) (own := RX12) (by decide) rfl rfl [.ref (ad 0)] (Nat.le_of_ble_eq_true rfl) ?_
  intro p e s m below meth c ls S hK hP hlk hr hl
  have hS : va_S (AC 28 ad) s.heap s.heap [] := va_S.rf
  have hl : lv_has ls 4 [(0, .ref (ad 0))] := hl
  unfold f_X12_ways at hf
  refine lv_aload_n S.1 S.2.1 dX12_ways_0 rfl (lv_at hl 0 rfl) ?_
  obtain ⟨y3, σ2, hq1, hf⟩ := bL1_some hf
  refine r_callVI S hK hP hS (by decide) rfl rfl [] (c_X12_layText l D cy ad hO n σ hq1) (cw_X12_ways_X12_layText S.2.2.2.2) rfl hl.1 (rest := []) rfl (Nat.le_of_ble_eq_true rfl) dX12_ways_1 ⟨Nat.zero_le _, Nat.zero_le _⟩ (fun H locs hP hS => ?_)
  refine r_istore_n S rfl (lv2 := [(1, .int (zI y3)), (0, .ref (ad 0))]) dX12_ways_4 rfl hl (by decide) rfl (fun ls hl => ?_)
  refine lv_iload_n S.1 S.2.1 dX12_ways_5 rfl (lv_at hl 0 rfl) ?_
  refine r_if_ge (tgt := 11) S dX12_ways_6 (by decide) (fun c4 => ?_) (fun c4 => ?_)
  · have hf := (if_pos c4).symm.trans hf
    refine lv_aload_n S.1 S.2.1 dX12_ways_11 rfl (lv_at hl 1 rfl) ?_
    obtain ⟨σ6, hq5, hf⟩ := bV_some hf
    refine r_callVV S hK hP hS (by decide) rfl rfl [] (c_X12_layTextRows l D cy ad hO n σ2 hq5) (cw_X12_ways_X12_layTextRows S.2.2.2.2) rfl hl.1 (rest := []) rfl (Nat.le_of_ble_eq_true rfl) dX12_ways_12 ⟨Nat.zero_le _, Nat.zero_le _⟩ (fun H locs hP hS => ?_)
    refine lv_aload_n S.1 S.2.1 dX12_ways_15 rfl (lv_at hl 1 rfl) ?_
    refine r_get S hK hP (by decide) rfl rfl h_X12_ways_X12 30 (by decide) k_X12_ways_1 rfl dX12_ways_16 ?_
    refine r_iconst S dX12_ways_19 ?_
    obtain ⟨g7, hf⟩ := gd_some hf
    refine r_lald S hK hP (by decide) (n := 91) (fun _ => rfl) (by decide) g7 dX12_ways_20 ?_
    obtain ⟨x8, hx8, hf⟩ := nm_some hf
    refine r_lstore_n S hx8 (lv2 := [(2, .long (zL x8)), (1, .int (zI y3)), (0, .ref (ad 0))]) dX12_ways_21 rfl hl (by decide) rfl (fun ls hl => ?_)
    refine lv_lload_n S.1 S.2.1 dX12_ways_22 rfl (lv_at hl 0 rfl) ?_
    refine r_ldc2 S 1000000 (by decide +kernel) k_X12_ways_2 dX12_ways_23 ?_
    refine r_lcmp S dX12_ways_26 ?_
    refine r_if_le (tgt := 35) S dX12_ways_27 (by decide) (fun c9 => ?_) (fun c9 => ?_)
    · have hf := (if_pos c9).symm.trans hf
      refine lv_lload_n S.1 S.2.1 dX12_ways_35 rfl (lv_at hl 0 rfl) ?_
      refine r_l2i S dX12_ways_36 ?_
      obtain ⟨e1, e2⟩ := inj2 hf
      subst e1
      subst e2
      exact e_I S hlk hP hS hr dX12_ways_37
    · have hf := (if_neg c9).symm.trans hf
      refine r_ldc S 1000000 (by decide +kernel) k_X12_ways_3 dX12_ways_30 ?_
      refine lv_goto (tgt := 37) S.1 S.2.1 dX12_ways_32 (by decide) ?_
      obtain ⟨e1, e2⟩ := inj2 hf
      subst e1
      subst e2
      exact e_I S hlk hP hS hr dX12_ways_37
  · have hf := (if_neg c4).symm.trans hf
    refine lv_iload_n S.1 S.2.1 dX12_ways_9 rfl (lv_at hl 0 rfl) ?_
    obtain ⟨e1, e2⟩ := inj2 hf
    subst e1
    subst e2
    exact e_I S hlk hP hS hr dX12_ways_10
def rm_X12_wipe : Room := { frames := 0, cells := 0, slots := 0, locals := 0 }
theorem k_X12_wipe_1 : (.fieldLink RX12 97 "MendTextsModel" "signs" "I" : Cond) ∈ wsX12_wipe := List.mem_of_getElem? (i := 1) (by decide +kernel)
theorem h_X12_wipe_X12 : ∀ w ∈ u_ws RX12 TX12 36, w ∈ wsX12_wipe := mem_places _ [2, 3, 4, 5, 6, 7, 8, 9, 10, 11, 12, 13, 14, 15, 16, 17, 18, 19, 20, 21, 22, 23, 24, 25, 26, 27, 28, 29, 30, 31, 32, 33, 34, 35, 36, 37] (by decide +kernel)
set_option maxHeartbeats 4000000 in
set_option maxRecDepth 100000 in
theorem c_X12_wipe (l : Launch) (D : va_G) (cy : Nat → ClassId) (ad : Nat → Nat) (hO : adOK 28 ad) (σ : Mem) {v : Int} {τ : Mem} (hf : f_X12_wipe σ = some (v, τ)) : Met l yX12_wipe wsX12_wipe rm_X12_wipe (va_Pc [.ref (ad 0)] (PreW D cy 28 (cellM cy ad) ad σ)) (QI D 28 (cellM cy ad) ad v τ) 0 0 (AC 28 ad) := by
  refine r_met (cc := cX12_wipe) (maxL := 2) (ret := (some .int)) (own := RX12) (by decide) rfl rfl [.ref (ad 0)] (Nat.le_of_ble_eq_true rfl) ?_
  intro p e s m below meth c ls S hK hP hlk hr hl
  have hS : va_S (AC 28 ad) s.heap s.heap [] := va_S.rf
  have hl : lv_has ls 2 [(0, .ref (ad 0))] := hl
  unfold f_X12_wipe at hf
  refine lv_aload_n S.1 S.2.1 dX12_wipe_0 rfl (lv_at hl 0 rfl) ?_
  refine r_get S hK hP (by decide) rfl rfl h_X12_wipe_X12 0 (by decide) k_X12_wipe_1 rfl dX12_wipe_1 ?_
  obtain ⟨x1, hx1, hf⟩ := nm_some hf
  refine r_istore_n S hx1 (lv2 := [(1, .int (zI x1)), (0, .ref (ad 0))]) dX12_wipe_4 rfl hl (by decide) rfl (fun ls hl => ?_)
  refine lv_aload_n S.1 S.2.1 dX12_wipe_5 rfl (lv_at hl 1 rfl) ?_
  refine r_iconst S dX12_wipe_6 ?_
  obtain ⟨σ2, hσ2, hf⟩ := nm_some hf
  refine r_put S hK hP hO hS (by decide) rfl rfl h_X12_wipe_X12 tyX12 tyX12_ok nmX12 0 (by decide) k_X12_wipe_1 rfl (tyX12_ok 0 (by decide)) rfl rfl (Nat.le_of_ble_eq_true rfl) hσ2 rfl dX12_wipe_7 (fun H locs hP hS => ?_)
  refine lv_iload_n S.1 S.2.1 dX12_wipe_10 rfl (lv_at hl 0 rfl) ?_
  obtain ⟨e1, e2⟩ := inj2 hf
  subst e1
  subst e2
  exact e_I S hlk hP hS hr dX12_wipe_11
def rm_X12_word : Room := { frames := 1, cells := 0, slots := 0, locals := 22 }
theorem k_X12_word_1 : (.fieldLink RX12 97 "MendTextsModel" "signs" "I" : Cond) ∈ wsX12_word := List.mem_of_getElem? (i := 1) (by decide +kernel)
theorem k_X12_word_2 : (.fieldLink RX12 7 "MendTextsModel" "pad" "[I" : Cond) ∈ wsX12_word := List.mem_of_getElem? (i := 2) (by decide +kernel)
theorem k_X12_word_3 : (.fieldLink RX12 140 "MendTextsModel" "letters" "I" : Cond) ∈ wsX12_word := List.mem_of_getElem? (i := 3) (by decide +kernel)
theorem k_X12_word_4 : (.fieldLink RX12 22 "MendTextsModel" "word" "[I" : Cond) ∈ wsX12_word := List.mem_of_getElem? (i := 4) (by decide +kernel)
theorem h_X12_word_X12 : ∀ w ∈ u_ws RX12 TX12 36, w ∈ wsX12_word := mem_places _ [9, 10, 11, 12, 13, 14, 15, 16, 17, 18, 19, 20, 21, 22, 23, 24, 25, 26, 27, 28, 29, 30, 31, 32, 33, 34, 35, 36, 37, 38, 39, 40, 41, 42, 43, 44] (by decide +kernel)
theorem cw_X12_word_X12_in {s : State} {args : Array Value} (hts : ∀ w ∈ wsX12_word, w.before args s = true) : CallB rm_X12_word s args RX12 93 yX12_in cX12_in 3 (some .boolean) wsX12_in rm_X12_in 0 0 3 ∧ (Cond.static yX12_in).before args s = true := va_cwS 3 hts gX12_word_X12_in rfl rfl rfl (by decide +kernel) ⟨Nat.le_of_ble_eq_true rfl, Nat.le_of_ble_eq_true rfl⟩
set_option maxHeartbeats 4000000 in
set_option maxRecDepth 100000 in
theorem w_X12_word_L17 {p : Program} {l : Launch} {e : Env} {s : State} {m : MethodId} {args : Array Value} {below : List Frame} {meth : Method} {c : Code} {Q : State → Prop} {D : va_G} {cy : Nat → ClassId} {ad : Nat → Nat} {H0 : Heap} (hO : adOK 28 ad) (S : CallFix p m c cX12_word 3 s args wsX12_word RX12) (hK : KK D cy s) (n : Nat) (σ : Mem) {res : Int} (k0 : ∀ (y1_ : Int) (H2 : Heap) (locs2 : List Loc) (ls2 : Array Slot), res = y1_ → va_P D vwCl (WW 28 (cellM cy ad) ad σ) H2 → va_S (AC 28 ad) H0 H2 locs2 → lv_has ls2 3 [(0, .ref (ad 0)), (1, .int (zI y1_))] → W p l e rm_X12_word s m args below meth c H2 locs2 0 0 Q (F0 m 57 ls2 [])) :
    ∀ (k : Nat) (x1_ : Int) (x2_ : Int) (H : Heap) (locs : List Loc) (ls : Array Slot), f_X12_word_L17 n σ k x1_ x2_ = some res → va_P D vwCl (WW 28 (cellM cy ad) ad σ) H → va_S (AC 28 ad) H0 H locs → lv_has ls 3 [(0, .ref (ad 0)), (1, .int (zI x1_)), (2, .int (zI x2_))] → W p l e rm_X12_word s m args below meth c H locs 0 0 Q (F0 m 17 ls []) := by
  intro k
  induction k with
  | zero =>
    intro x1_ x2_ H locs ls hf
    have hf : none = some res := hf
    cases hf
  | succ k ih =>
    intro x1_ x2_ H locs ls hf hP hS hl
    rw [f_X12_word_L17] at hf
    refine lv_iload_n S.1 S.2.1 dX12_word_17 rfl (lv_at hl 2 rfl) ?_
    refine lv_aload_n S.1 S.2.1 dX12_word_18 rfl (lv_at hl 0 rfl) ?_
    refine r_get S hK hP (by decide) rfl rfl h_X12_word_X12 0 (by decide) k_X12_word_1 rfl dX12_word_19 ?_
    refine lv_icmp_ge (tgt := 57) S.1 S.2.1 dX12_word_22 (by decide) (fun c1 => ?_) (fun c1 => ?_)
    · have hf := (if_pos c1).symm.trans hf
      exact k0 _ _ _ _ (Option.some.inj hf).symm hP hS (lv_sub hl [0, 1] rfl)
    · have hf := (if_neg c1).symm.trans hf
      refine lv_iload_n S.1 S.2.1 dX12_word_25 rfl (lv_at hl 1 rfl) ?_
      obtain ⟨t2, hq, hf⟩ := bV_some hf
      have kJ0 : t2 = 0 → ∀ (H : Heap) (locs : List Loc) (ls : Array Slot), va_P D vwCl (WW 28 (cellM cy ad) ad σ) H → va_S (AC 28 ad) H0 H locs → lv_has ls 3 [(0, .ref (ad 0)), (2, .int (zI x2_))] → W p l e rm_X12_word s m args below meth c H locs 0 0 Q (F0 m 49 ls []) := by
        intro ht
        intro H locs ls hP hS hl
        have hf := (if_pos ht).symm.trans hf
        refine r_iconst S dX12_word_49 ?_
        refine r_istore_n S rfl (lv2 := [(1, .int (zI 0)), (0, .ref (ad 0)), (2, .int (zI x2_))]) dX12_word_50 rfl hl (by decide) rfl (fun ls hl => ?_)
        obtain ⟨x8, hx8, hf⟩ := nm_some hf
        refine r_iinc S hx8 (k0 := 2) (lv2 := [(2, .int (zI x8)), (1, .int (zI 0)), (0, .ref (ad 0))]) dX12_word_51 hl rfl (by decide) rfl (fun ls hl => ?_)
        refine lv_goto (tgt := 17) S.1 S.2.1 dX12_word_54 (by decide) ?_
        exact ih 0 x8 _ _ _ hf hP hS (lv_sub hl [2, 1, 0] rfl)
      have kJ1 : t2 = 1 → ∀ (H : Heap) (locs : List Loc) (ls : Array Slot), va_P D vwCl (WW 28 (cellM cy ad) ad σ) H → va_S (AC 28 ad) H0 H locs → lv_has ls 3 [(0, .ref (ad 0)), (2, .int (zI x2_))] → W p l e rm_X12_word s m args below meth c H locs 0 0 Q (F0 m 45 ls []) := by
        intro ht
        intro H locs ls hP hS hl
        have hf := (if_neg (by rw [ht]; decide)).symm.trans hf
        refine r_iconst S dX12_word_45 ?_
        refine lv_goto (tgt := 50) S.1 S.2.1 dX12_word_46 (by decide) ?_
        refine r_istore_n S rfl (lv2 := [(1, .int (zI 1)), (0, .ref (ad 0)), (2, .int (zI x2_))]) dX12_word_50 rfl hl (by decide) rfl (fun ls hl => ?_)
        obtain ⟨x9, hx9, hf⟩ := nm_some hf
        refine r_iinc S hx9 (k0 := 2) (lv2 := [(2, .int (zI x9)), (1, .int (zI 1)), (0, .ref (ad 0))]) dX12_word_51 hl rfl (by decide) rfl (fun ls hl => ?_)
        refine lv_goto (tgt := 17) S.1 S.2.1 dX12_word_54 (by decide) ?_
        exact ih 1 x9 _ _ _ hf hP hS (lv_sub hl [2, 1, 0] rfl)
      clear hf
      have hf := hq
      refine r_if_eq (tgt := 49) S dX12_word_26 (by decide) (fun c3 => ?_) (fun c3 => ?_)
      · have hf := (if_pos c3).symm.trans hf
        have e1 := Option.some.inj hf
        subst e1
        exact kJ0 rfl _ _ _ hP hS (lv_sub hl [0, 2] rfl)
      · have hf := (if_neg c3).symm.trans hf
        refine lv_aload_n S.1 S.2.1 dX12_word_29 rfl (lv_at hl 0 rfl) ?_
        refine r_get S hK hP (by decide) rfl rfl h_X12_word_X12 1 (by decide) k_X12_word_2 rfl dX12_word_30 ?_
        refine lv_iload_n S.1 S.2.1 dX12_word_33 rfl (lv_at hl 2 rfl) ?_
        obtain ⟨g4, hf⟩ := gd_some hf
        refine r_iald S hK hP (by decide) (n := 60) (fun _ => rfl) (by decide) g4 dX12_word_34 ?_
        refine r_bipush S dX12_word_35 (by decide) ?_
        refine r_bipush S dX12_word_37 (by decide) ?_
        obtain ⟨y6, hq5, hf⟩ := bV_some hf
        refine r_callSI S hK hP hS [.int (zI (σ 1 x2_.toNat)), .int (zI 97), .int (zI 100)] (c_X12_in l D cy ad hO (σ 1 x2_.toNat) 97 100 σ hq5) (cw_X12_word_X12_in S.2.2.2.2) rfl hl.1 (rest := []) rfl (Nat.le_of_ble_eq_true rfl) dX12_word_39 ⟨Nat.zero_le _, Nat.zero_le _⟩ (fun H locs hP hS => ?_)
        refine r_if_eq (tgt := 49) S dX12_word_42 (by decide) (fun c7 => ?_) (fun c7 => ?_)
        · have hf := (if_pos c7).symm.trans hf
          have e1 := Option.some.inj hf
          subst e1
          exact kJ0 rfl _ _ _ hP hS (lv_sub hl [0, 2] rfl)
        · have hf := (if_neg c7).symm.trans hf
          have e1 := Option.some.inj hf
          subst e1
          exact kJ1 rfl _ _ _ hP hS (lv_sub hl [0, 2] rfl)
set_option maxHeartbeats 4000000 in
set_option maxRecDepth 100000 in
theorem w_X12_word_L74 {p : Program} {l : Launch} {e : Env} {s : State} {m : MethodId} {args : Array Value} {below : List Frame} {meth : Method} {c : Code} {Q : State → Prop} {D : va_G} {cy : Nat → ClassId} {ad : Nat → Nat} {H0 : Heap} (hO : adOK 28 ad) (S : CallFix p m c cX12_word 3 s args wsX12_word RX12) (hK : KK D cy s) (n : Nat) {res : Mem} (k0 : ∀ (τ : Mem) (H2 : Heap) (locs2 : List Loc) (ls2 : Array Slot), res = τ → va_P D vwCl (WW 28 (cellM cy ad) ad τ) H2 → va_S (AC 28 ad) H0 H2 locs2 → lv_has ls2 3 [(0, .ref (ad 0))] → W p l e rm_X12_word s m args below meth c H2 locs2 0 0 Q (F0 m 103 ls2 [])) :
    ∀ (k : Nat) (x2_ : Int) (σ : Mem) (H : Heap) (locs : List Loc) (ls : Array Slot), f_X12_word_L74 n k x2_ σ = some res → va_P D vwCl (WW 28 (cellM cy ad) ad σ) H → va_S (AC 28 ad) H0 H locs → lv_has ls 3 [(0, .ref (ad 0)), (2, .int (zI x2_))] → W p l e rm_X12_word s m args below meth c H locs 0 0 Q (F0 m 74 ls []) := by
  intro k
  induction k with
  | zero =>
    intro x2_ σ H locs ls hf
    have hf : none = some res := hf
    cases hf
  | succ k ih =>
    intro x2_ σ H locs ls hf hP hS hl
    rw [f_X12_word_L74] at hf
    refine lv_iload_n S.1 S.2.1 dX12_word_74 rfl (lv_at hl 1 rfl) ?_
    refine lv_aload_n S.1 S.2.1 dX12_word_75 rfl (lv_at hl 0 rfl) ?_
    refine r_get S hK hP (by decide) rfl rfl h_X12_word_X12 0 (by decide) k_X12_word_1 rfl dX12_word_76 ?_
    refine lv_icmp_ge (tgt := 103) S.1 S.2.1 dX12_word_79 (by decide) (fun c1 => ?_) (fun c1 => ?_)
    · have hf := (if_pos c1).symm.trans hf
      exact k0 _ _ _ _ (Option.some.inj hf).symm hP hS (lv_sub hl [0] rfl)
    · have hf := (if_neg c1).symm.trans hf
      refine lv_aload_n S.1 S.2.1 dX12_word_82 rfl (lv_at hl 0 rfl) ?_
      refine r_get S hK hP (by decide) rfl rfl h_X12_word_X12 7 (by decide) k_X12_word_4 rfl dX12_word_83 ?_
      refine lv_iload_n S.1 S.2.1 dX12_word_86 rfl (lv_at hl 1 rfl) ?_
      refine lv_aload_n S.1 S.2.1 dX12_word_87 rfl (lv_at hl 0 rfl) ?_
      refine r_get S hK hP (by decide) rfl rfl h_X12_word_X12 1 (by decide) k_X12_word_2 rfl dX12_word_88 ?_
      refine lv_iload_n S.1 S.2.1 dX12_word_91 rfl (lv_at hl 1 rfl) ?_
      obtain ⟨g2, hf⟩ := gd_some hf
      refine r_iald S hK hP (by decide) (n := 60) (fun _ => rfl) (by decide) g2 dX12_word_92 ?_
      refine r_bipush S dX12_word_93 (by decide) ?_
      refine r_isub S dX12_word_95 ?_
      obtain ⟨g3, hf⟩ := gd_some hf
      obtain ⟨σ4, hσ4, hf⟩ := nm_some hf
      refine r_iast S hK hP hO hS (by decide) (n := 6) (fun _ => rfl) (by decide) g3 hσ4 dX12_word_96 (fun H locs hP hS => ?_)
      obtain ⟨x5, hx5, hf⟩ := nm_some hf
      refine r_iinc S hx5 (k0 := 1) (lv2 := [(2, .int (zI x5)), (0, .ref (ad 0))]) dX12_word_97 hl rfl (by decide) rfl (fun ls hl => ?_)
      refine lv_goto (tgt := 74) S.1 S.2.1 dX12_word_100 (by decide) ?_
      exact ih x5 σ4 _ _ _ hf hP hS (lv_sub hl [1, 0] rfl)
set_option maxHeartbeats 4000000 in
set_option maxRecDepth 100000 in
theorem c_X12_word (l : Launch) (D : va_G) (cy : Nat → ClassId) (ad : Nat → Nat) (hO : adOK 28 ad) (n : Nat) (σ : Mem) {v : Int} {τ : Mem} (hf : f_X12_word n σ = some (v, τ)) : Met l yX12_word wsX12_word rm_X12_word (va_Pc [.ref (ad 0)] (PreW D cy 28 (cellM cy ad) ad σ)) (QI D 28 (cellM cy ad) ad v τ) 0 0 (AC 28 ad) := by
  refine r_met (cc := cX12_word) (maxL := 3) (ret := (some .int)) (own := RX12) (by decide) rfl rfl [.ref (ad 0)] (Nat.le_of_ble_eq_true rfl) ?_
  intro p e s m below meth c ls S hK hP hlk hr hl
  have hS : va_S (AC 28 ad) s.heap s.heap [] := va_S.rf
  have hl : lv_has ls 3 [(0, .ref (ad 0))] := hl
  unfold f_X12_word at hf
  refine lv_aload_n S.1 S.2.1 dX12_word_0 rfl (lv_at hl 0 rfl) ?_
  refine r_get S hK hP (by decide) rfl rfl h_X12_word_X12 0 (by decide) k_X12_word_1 rfl dX12_word_1 ?_
  refine r_bipush S dX12_word_4 (by decide) ?_
  obtain ⟨v1, hq, hf⟩ := bV_some hf
  have kJ0 : ∀ (H : Heap) (locs : List Loc) (ls : Array Slot), va_P D vwCl (WW 28 (cellM cy ad) ad σ) H → va_S (AC 28 ad) s.heap H locs → lv_has ls 3 [(0, .ref (ad 0))] → W p l e rm_X12_word s m ([.ref (ad 0)] : List Value).toArray below meth c H locs 0 0 (MQ below (QI D 28 (cellM cy ad) ad v τ) ([.ref (ad 0)] : List Value).toArray s 0 0 (AC 28 ad)) (F0 m 14 ls [.int (zI v1)]) := by
    intro H locs ls hP hS hl
    refine r_istore_n S rfl (lv2 := [(1, .int (zI v1)), (0, .ref (ad 0))]) dX12_word_14 rfl hl (by decide) rfl (fun ls hl => ?_)
    refine r_iconst S dX12_word_15 ?_
    refine r_istore_n S rfl (lv2 := [(2, .int (zI 0)), (1, .int (zI v1)), (0, .ref (ad 0))]) dX12_word_16 rfl hl (by decide) rfl (fun ls hl => ?_)
    obtain ⟨x3, hq, hf⟩ := bV_some hf
    refine w_X12_word_L17 hO S hK n σ (fun x3 H locs ls he hP hS hl => ?_) n v1 0 _ _ _ hq hP hS (lv_sub hl [2, 1, 0] rfl)
    cases he
    refine lv_iload_n S.1 S.2.1 dX12_word_57 rfl (lv_at hl 1 rfl) ?_
    refine r_if_ne (tgt := 64) S dX12_word_58 (by decide) (fun c4 => ?_) (fun c4 => ?_)
    · have hf := (if_neg c4).symm.trans hf
      refine lv_aload_n S.1 S.2.1 dX12_word_64 rfl (lv_at hl 0 rfl) ?_
      refine lv_aload_n S.1 S.2.1 dX12_word_65 rfl (lv_at hl 0 rfl) ?_
      refine r_get S hK hP (by decide) rfl rfl h_X12_word_X12 0 (by decide) k_X12_word_1 rfl dX12_word_66 ?_
      obtain ⟨σ5, hσ5, hf⟩ := nm_some hf
      refine r_put S hK hP hO hS (by decide) rfl rfl h_X12_word_X12 tyX12 tyX12_ok nmX12 6 (by decide) k_X12_word_3 rfl (tyX12_ok 6 (by decide)) rfl rfl (Nat.le_of_ble_eq_true rfl) hσ5 rfl dX12_word_69 (fun H locs hP hS => ?_)
      refine r_iconst S dX12_word_72 ?_
      refine r_istore_n S rfl (lv2 := [(2, .int (zI 0)), (0, .ref (ad 0)), (1, .int (zI x3))]) dX12_word_73 rfl hl (by decide) rfl (fun ls hl => ?_)
      obtain ⟨σ6, hq, hf⟩ := bV_some hf
      refine w_X12_word_L74 hO S hK n (fun σ6 H locs ls he hP hS hl => ?_) n 0 σ5 _ _ _ hq hP hS (lv_sub hl [1, 0] rfl)
      cases he
      refine lv_aload_n S.1 S.2.1 dX12_word_103 rfl (lv_at hl 0 rfl) ?_
      refine r_iconst S dX12_word_104 ?_
      obtain ⟨σ7, hσ7, hf⟩ := nm_some hf
      refine r_put S hK hP hO hS (by decide) rfl rfl h_X12_word_X12 tyX12 tyX12_ok nmX12 0 (by decide) k_X12_word_1 rfl (tyX12_ok 0 (by decide)) rfl rfl (Nat.le_of_ble_eq_true rfl) hσ7 rfl dX12_word_105 (fun H locs hP hS => ?_)
      refine lv_aload_n S.1 S.2.1 dX12_word_108 rfl (lv_at hl 0 rfl) ?_
      refine r_get S hK hP (by decide) rfl rfl h_X12_word_X12 6 (by decide) k_X12_word_3 rfl dX12_word_109 ?_
      obtain ⟨e1, e2⟩ := inj2 hf
      subst e1
      subst e2
      exact e_I S hlk hP hS hr dX12_word_112
    · have hf := (if_pos c4).symm.trans hf
      refine r_bipush S dX12_word_61 (by decide) ?_
      obtain ⟨e1, e2⟩ := inj2 hf
      subst e1
      subst e2
      exact e_I S hlk hP hS hr dX12_word_63
  clear hf
  have hf := hq
  refine lv_icmp_gt (tgt := 13) S.1 S.2.1 dX12_word_6 (by decide) (fun c2 => ?_) (fun c2 => ?_)
  · have hf := (if_pos c2).symm.trans hf
    refine r_iconst S dX12_word_13 ?_
    have e1 := Option.some.inj hf
    subst e1
    exact kJ0 _ _ _ hP hS (lv_sub hl [0] rfl)
  · have hf := (if_neg c2).symm.trans hf
    refine r_iconst S dX12_word_9 ?_
    refine lv_goto (tgt := 14) S.1 S.2.1 dX12_word_10 (by decide) ?_
    have e1 := Option.some.inj hf
    subst e1
    exact kJ0 _ _ _ hP hS (lv_sub hl [0] rfl)
