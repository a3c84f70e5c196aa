def rm_X11_told : Room := { frames := 2, cells := 0, slots := 0, locals := 41 }
theorem k_X11_told_1 : (.fieldLink RX11 29 "MendTexts" "costs" "LMendTexts$Costs;" : Cond) ∈ wsX11_told := List.mem_of_getElem? (i := 1) (by decide +kernel)
theorem k_X11_told_2 : (.fieldLink RX11 19 "MendTexts" "rules" "LMendTexts$Grammar;" : Cond) ∈ wsX11_told := List.mem_of_getElem? (i := 2) (by decide +kernel)
theorem k_X11_told_3 : (.fieldLink RX11 12 "MendTexts" "pad" "LMendTexts$Pad;" : Cond) ∈ wsX11_told := List.mem_of_getElem? (i := 3) (by decide +kernel)
theorem k_X11_told_4 : (.fieldLink RX11 99 "MendTexts$Pad" "count" "I" : Cond) ∈ wsX11_told := List.mem_of_getElem? (i := 4) (by decide +kernel)
theorem k_X11_told_5 : (.fieldLink RX11 116 "MendTexts$Grammar" "namesTold" "I" : Cond) ∈ wsX11_told := List.mem_of_getElem? (i := 5) (by decide +kernel)
theorem k_X11_told_6 : (.fieldLink RX11 253 "MendTexts$Grammar" "start" "I" : Cond) ∈ wsX11_told := List.mem_of_getElem? (i := 6) (by decide +kernel)
theorem k_X11_told_7 : (.fieldLink RX11 38 "MendTexts" "typed" "LMendTexts$Word;" : Cond) ∈ wsX11_told := List.mem_of_getElem? (i := 7) (by decide +kernel)
theorem k_X11_told_8 : (.fieldLink RX11 171 "MendTexts$Word" "length" "I" : Cond) ∈ wsX11_told := List.mem_of_getElem? (i := 8) (by decide +kernel)
theorem k_X11_told_9 : (.fieldLink RX11 48 "MendTexts" "examples" "LMendTexts$Examples;" : Cond) ∈ wsX11_told := List.mem_of_getElem? (i := 9) (by decide +kernel)
theorem k_X11_told_10 : (.fieldLink RX11 229 "MendTexts$Examples" "count" "I" : Cond) ∈ wsX11_told := List.mem_of_getElem? (i := 10) (by decide +kernel)
theorem h_X11_told_X11 : ∀ w ∈ u_ws RX11 TX11 13, w ∈ wsX11_told := mem_places _ [27, 28, 29, 30, 31, 32, 33, 34, 35, 36, 37, 38, 39] (by decide +kernel)
theorem h_X11_told_X5 : ∀ w ∈ u_ws RX5 TX5 2, w ∈ wsX11_told := mem_places _ [40, 41] (by decide +kernel)
theorem h_X11_told_X4 : ∀ w ∈ u_ws RX4 TX4 7, w ∈ wsX11_told := mem_places _ [42, 43, 44, 45, 46, 47, 48] (by decide +kernel)
theorem h_X11_told_X10 : ∀ w ∈ u_ws RX10 TX10 2, w ∈ wsX11_told := mem_places _ [49, 50] (by decide +kernel)
theorem h_X11_told_X2 : ∀ w ∈ u_ws RX2 TX2 3, w ∈ wsX11_told := mem_places _ [51, 52, 53] (by decide +kernel)
theorem cw_X11_told_X1_of {s : State} {args : Array Value} (hts : ∀ w ∈ wsX11_told, w.before args s = true) : CallW rm_X11_told s args RX11 RX1 181 yX1_of cX1_of 2 (some .int) wsX1_of rm_X1_of 0 0 1 := cwV 1 hts gX11_told_X1_of rfl rfl rfl (by decide +kernel) ⟨Nat.le_of_ble_eq_true rfl, Nat.le_of_ble_eq_true rfl⟩
theorem cw_X11_told_X4_countOf {s : State} {args : Array Value} (hts : ∀ w ∈ wsX11_told, w.before args s = true) : CallW rm_X11_told s args RX11 RX4 128 yX4_countOf cX4_countOf 2 (some .int) wsX4_countOf rm_X4_countOf 0 0 1 := cwV 1 hts gX11_told_X4_countOf rfl rfl rfl (by decide +kernel) ⟨Nat.le_of_ble_eq_true rfl, Nat.le_of_ble_eq_true rfl⟩
set_option maxHeartbeats 4000000 in
set_option maxRecDepth 100000 in
theorem c_X11_told (l : Launch) (D : va_G) (cy : Nat → ClassId) (ad : Nat → Nat) (hO : adOK 39 ad) (a0 : Int) (σ : Mem) {v : Int} (hf : f_X11_told a0 σ = some v) : Met l yX11_told wsX11_told rm_X11_told (va_Pc [.ref (ad 0), .int (zI a0)] (PreW D cy 39 (cellC cy ad) ad σ)) (QI D 39 (cellC cy ad) ad v σ) 0 0 (AC 39 ad) := by
  refine r_met (cc := cX11_told) (maxL := 2) (ret := (some .int)) (own := RX11) (by decide) rfl rfl [.ref (ad 0), .int (zI a0)] (Nat.le_of_ble_eq_true rfl) ?_
  intro p e s m below meth c ls S hK hP hlk hr hl
  have hS : va_S (AC 39 ad) s.heap s.heap [] := va_S.rf
  have hl : lv_has ls 2 [(0, .ref (ad 0)), (1, .int (zI a0))] := hl
  unfold f_X11_told at hf
  refine lv_iload_n S.1 S.2.1 dX11_told_0 rfl (lv_at hl 1 rfl) ?_
  refine r_iconst S dX11_told_1 ?_
  obtain ⟨t1, hq, hf⟩ := bV_some hf
  have kJ0 : t1 = 0 → ∀ (H : Heap) (locs : List Loc) (ls : Array Slot), va_P D vwCl (WW 39 (cellC cy ad) ad σ) H → va_S (AC 39 ad) s.heap H locs → lv_has ls 2 [(0, .ref (ad 0)), (1, .int (zI a0))] → W p l e rm_X11_told s m ([.ref (ad 0), .int (zI a0)] : List Value).toArray below meth c H locs 0 0 (MQ below (QI D 39 (cellC cy ad) ad v σ) ([.ref (ad 0), .int (zI a0)] : List Value).toArray s 0 0 (AC 39 ad)) (F0 m 22 ls []) := by
    intro ht
    intro H locs ls hP hS hl
    have hf := (if_pos ht).symm.trans hf
    refine lv_iload_n S.1 S.2.1 dX11_told_22 rfl (lv_at hl 1 rfl) ?_
    refine r_bipush S dX11_told_23 (by decide) ?_
    obtain ⟨t4, hq, hf⟩ := bV_some hf
    have kJ0 : t4 = 0 → ∀ (H : Heap) (locs : List Loc) (ls : Array Slot), va_P D vwCl (WW 39 (cellC cy ad) ad σ) H → va_S (AC 39 ad) s.heap H locs → lv_has ls 2 [(0, .ref (ad 0)), (1, .int (zI a0))] → W p l e rm_X11_told s m ([.ref (ad 0), .int (zI a0)] : List Value).toArray below meth c H locs 0 0 (MQ below (QI D 39 (cellC cy ad) ad v σ) ([.ref (ad 0), .int (zI a0)] : List Value).toArray s 0 0 (AC 39 ad)) (F0 m 46 ls []) := by
      intro ht
      intro H locs ls hP hS hl
      have hf := (if_pos ht).symm.trans hf
      refine lv_iload_n S.1 S.2.1 dX11_told_46 rfl (lv_at hl 1 rfl) ?_
      by_cases c7 : zI a0 = zI 0
      · have hf := (if_pos c7).symm.trans hf
        refine lv_tableIn (off := 33) (tgt := 80) S.1 S.2.1 dX11_told_47 (by rw [c7]; decide) (by rw [c7]; decide) (by rw [c7]; rfl) (by decide) ?_
        refine lv_aload_n S.1 S.2.1 dX11_told_80 rfl (lv_at hl 0 rfl) ?_
        refine r_get S hK hP (by decide) rfl rfl h_X11_told_X11 0 (by decide) k_X11_told_3 rfl dX11_told_81 ?_
        refine r_get S hK hP (by decide) rfl rfl h_X11_told_X5 1 (by decide) k_X11_told_4 rfl dX11_told_84 ?_
        have e1 := Option.some.inj hf
        subst e1
        exact e_I S hlk hP hS hr dX11_told_87
      have hf := (if_neg c7).symm.trans hf
      by_cases c8 : zI a0 = zI 1
      · have hf := (if_pos c8).symm.trans hf
        refine lv_tableIn (off := 41) (tgt := 88) S.1 S.2.1 dX11_told_47 (by rw [c8]; decide) (by rw [c8]; decide) (by rw [c8]; rfl) (by decide) ?_
        refine lv_aload_n S.1 S.2.1 dX11_told_88 rfl (lv_at hl 0 rfl) ?_
        refine r_get S hK hP (by decide) rfl rfl h_X11_told_X11 1 (by decide) k_X11_told_2 rfl dX11_told_89 ?_
        refine r_get S hK hP (by decide) rfl rfl h_X11_told_X4 3 (by decide) k_X11_told_5 rfl dX11_told_92 ?_
        have e1 := Option.some.inj hf
        subst e1
        exact e_I S hlk hP hS hr dX11_told_95
      have hf := (if_neg c8).symm.trans hf
      by_cases c9 : zI a0 = zI 2
      · have hf := (if_pos c9).symm.trans hf
        refine lv_tableIn (off := 49) (tgt := 96) S.1 S.2.1 dX11_told_47 (by rw [c9]; decide) (by rw [c9]; decide) (by rw [c9]; rfl) (by decide) ?_
        refine lv_aload_n S.1 S.2.1 dX11_told_96 rfl (lv_at hl 0 rfl) ?_
        refine r_get S hK hP (by decide) rfl rfl h_X11_told_X11 1 (by decide) k_X11_told_2 rfl dX11_told_97 ?_
        refine r_get S hK hP (by decide) rfl rfl h_X11_told_X4 4 (by decide) k_X11_told_6 rfl dX11_told_100 ?_
        have e1 := Option.some.inj hf
        subst e1
        exact e_I S hlk hP hS hr dX11_told_103
      have hf := (if_neg c9).symm.trans hf
      by_cases c10 : zI a0 = zI 3
      · have hf := (if_pos c10).symm.trans hf
        refine lv_tableIn (off := 57) (tgt := 104) S.1 S.2.1 dX11_told_47 (by rw [c10]; decide) (by rw [c10]; decide) (by rw [c10]; rfl) (by decide) ?_
        refine lv_aload_n S.1 S.2.1 dX11_told_104 rfl (lv_at hl 0 rfl) ?_
        refine r_get S hK hP (by decide) rfl rfl h_X11_told_X11 4 (by decide) k_X11_told_7 rfl dX11_told_105 ?_
        refine r_get S hK hP (by decide) rfl rfl h_X11_told_X10 1 (by decide) k_X11_told_8 rfl dX11_told_108 ?_
        have e1 := Option.some.inj hf
        subst e1
        exact e_I S hlk hP hS hr dX11_told_111
      have hf := (if_neg c10).symm.trans hf
      by_cases c11 : zI a0 = zI 4
      · have hf := (if_pos c11).symm.trans hf
        refine lv_tableIn (off := 65) (tgt := 112) S.1 S.2.1 dX11_told_47 (by rw [c11]; decide) (by rw [c11]; decide) (by rw [c11]; rfl) (by decide) ?_
        refine lv_aload_n S.1 S.2.1 dX11_told_112 rfl (lv_at hl 0 rfl) ?_
        refine r_get S hK hP (by decide) rfl rfl h_X11_told_X11 6 (by decide) k_X11_told_9 rfl dX11_told_113 ?_
        refine r_get S hK hP (by decide) rfl rfl h_X11_told_X2 2 (by decide) k_X11_told_10 rfl dX11_told_116 ?_
        have e1 := Option.some.inj hf
        subst e1
        exact e_I S hlk hP hS hr dX11_told_119
      have hf := (if_neg c11).symm.trans hf
      refine lv_tableOut (tgt := 120) S.1 S.2.1 dX11_told_47 (tab_out5 c7 c8 c9 c10 c11) (by decide) ?_
      refine r_bipush S dX11_told_120 (by decide) ?_
      have e1 := Option.some.inj hf
      subst e1
      exact e_I S hlk hP hS hr dX11_told_122
    have kJ1 : t4 = 1 → ∀ (H : Heap) (locs : List Loc) (ls : Array Slot), va_P D vwCl (WW 39 (cellC cy ad) ad σ) H → va_S (AC 39 ad) s.heap H locs → lv_has ls 2 [(0, .ref (ad 0)), (1, .int (zI a0))] → W p l e rm_X11_told s m ([.ref (ad 0), .int (zI a0)] : List Value).toArray below meth c H locs 0 0 (MQ below (QI D 39 (cellC cy ad) ad v σ) ([.ref (ad 0), .int (zI a0)] : List Value).toArray s 0 0 (AC 39 ad)) (F0 m 34 ls []) := by
      intro ht
      intro H locs ls hP hS hl
      have hf := (if_neg (by rw [ht]; decide)).symm.trans hf
      refine lv_aload_n S.1 S.2.1 dX11_told_34 rfl (lv_at hl 0 rfl) ?_
      refine r_get S hK hP (by decide) rfl rfl h_X11_told_X11 1 (by decide) k_X11_told_2 rfl dX11_told_35 ?_
      refine lv_iload_n S.1 S.2.1 dX11_told_38 rfl (lv_at hl 1 rfl) ?_
      refine r_bipush S dX11_told_39 (by decide) ?_
      refine r_isub S dX11_told_41 ?_
      obtain ⟨y13, hq12, hf⟩ := bV_some hf
      refine r_callVI S hK hP hS (by decide) rfl rfl [.int (zI (a0 - 10))] (c_X4_countOf l D cy ad hO 3 (by decide) (a0 - 10) σ hq12) (cw_X11_told_X4_countOf S.2.2.2.2) rfl hl.1 (rest := []) rfl (Nat.le_of_ble_eq_true rfl) dX11_told_42 ⟨Nat.zero_le _, Nat.zero_le _⟩ (fun H locs hP hS => ?_)
      have e1 := Option.some.inj hf
      subst e1
      exact e_I S hlk hP hS hr dX11_told_45
    clear hf
    have hf := hq
    refine lv_icmp_lt (tgt := 46) S.1 S.2.1 dX11_told_25 (by decide) (fun c5 => ?_) (fun c5 => ?_)
    · have hf := (if_pos c5).symm.trans hf
      have e1 := Option.some.inj hf
      subst e1
      exact kJ0 rfl _ _ _ hP hS (lv_sub hl [0, 1] rfl)
    · have hf := (if_neg c5).symm.trans hf
      refine lv_iload_n S.1 S.2.1 dX11_told_28 rfl (lv_at hl 1 rfl) ?_
      refine r_bipush S dX11_told_29 (by decide) ?_
      refine lv_icmp_ge (tgt := 46) S.1 S.2.1 dX11_told_31 (by decide) (fun c6 => ?_) (fun c6 => ?_)
      · have hf := (if_pos c6).symm.trans hf
        have e1 := Option.some.inj hf
        subst e1
        exact kJ0 rfl _ _ _ hP hS (lv_sub hl [0, 1] rfl)
      · have hf := (if_neg c6).symm.trans hf
        have e1 := Option.some.inj hf
        subst e1
        exact kJ1 rfl _ _ _ hP hS (lv_sub hl [0, 1] rfl)
  have kJ1 : t1 = 1 → ∀ (H : Heap) (locs : List Loc) (ls : Array Slot), va_P D vwCl (WW 39 (cellC cy ad) ad σ) H → va_S (AC 39 ad) s.heap H locs → lv_has ls 2 [(0, .ref (ad 0)), (1, .int (zI a0))] → W p l e rm_X11_told s m ([.ref (ad 0), .int (zI a0)] : List Value).toArray below meth c H locs 0 0 (MQ below (QI D 39 (cellC cy ad) ad v σ) ([.ref (ad 0), .int (zI a0)] : List Value).toArray s 0 0 (AC 39 ad)) (F0 m 11 ls []) := by
    intro ht
    intro H locs ls hP hS hl
    have hf := (if_neg (by rw [ht]; decide)).symm.trans hf
    refine lv_aload_n S.1 S.2.1 dX11_told_11 rfl (lv_at hl 0 rfl) ?_
    refine r_get S hK hP (by decide) rfl rfl h_X11_told_X11 3 (by decide) k_X11_told_1 rfl dX11_told_12 ?_
    refine lv_iload_n S.1 S.2.1 dX11_told_15 rfl (lv_at hl 1 rfl) ?_
    refine r_iconst S dX11_told_16 ?_
    refine r_isub S dX11_told_17 ?_
    obtain ⟨y15, hq14, hf⟩ := bV_some hf
    refine r_callVI S hK hP hS (by decide) rfl rfl [.int (zI (a0 - 5))] (c_X1_of l D cy ad hO (a0 - 5) σ hq14) (cw_X11_told_X1_of S.2.2.2.2) rfl hl.1 (rest := []) rfl (Nat.le_of_ble_eq_true rfl) dX11_told_18 ⟨Nat.zero_le _, Nat.zero_le _⟩ (fun H locs hP hS => ?_)
    have e1 := Option.some.inj hf
    subst e1
    exact e_I S hlk hP hS hr dX11_told_21
  clear hf
  have hf := hq
  refine lv_icmp_lt (tgt := 22) S.1 S.2.1 dX11_told_2 (by decide) (fun c2 => ?_) (fun c2 => ?_)
  · have hf := (if_pos c2).symm.trans hf
    have e1 := Option.some.inj hf
    subst e1
    exact kJ0 rfl _ _ _ hP hS (lv_sub hl [0, 1] rfl)
  · have hf := (if_neg c2).symm.trans hf
    refine lv_iload_n S.1 S.2.1 dX11_told_5 rfl (lv_at hl 1 rfl) ?_
    refine r_bipush S dX11_told_6 (by decide) ?_
    refine lv_icmp_ge (tgt := 22) S.1 S.2.1 dX11_told_8 (by decide) (fun c3 => ?_) (fun c3 => ?_)
    · have hf := (if_pos c3).symm.trans hf
      have e1 := Option.some.inj hf
      subst e1
      exact kJ0 rfl _ _ _ hP hS (lv_sub hl [0, 1] rfl)
    · have hf := (if_neg c3).symm.trans hf
      have e1 := Option.some.inj hf
      subst e1
      exact kJ1 rfl _ _ _ hP hS (lv_sub hl [0, 1] rfl)
def rm_X11_total : Room := { frames := 6, cells := 0, slots := 0, locals := 163 }
theorem k_X11_total_1 : (.fieldLink RX11 91 "MendTexts" "chartIsOfWord" "Z" : Cond) ∈ wsX11_total := List.mem_of_getElem? (i := 1) (by decide +kernel)
theorem k_X11_total_2 : (.fieldLink RX11 87 "MendTexts" "search" "LMendTexts$Search;" : Cond) ∈ wsX11_total := List.mem_of_getElem? (i := 2) (by decide +kernel)
theorem k_X11_total_3 : (.constant RX11 240 (1073741824) : Cond) ∈ wsX11_total := List.mem_of_getElem? (i := 3) (by decide +kernel)
theorem h_X11_total_X11 : ∀ w ∈ u_ws RX11 TX11 13, w ∈ wsX11_total := mem_places _ [162, 163, 164, 165, 166, 167, 168, 169, 170, 171, 172, 173, 174] (by decide +kernel)
theorem cw_X11_total_X9_totalBelow {s : State} {args : Array Value} (hts : ∀ w ∈ wsX11_total, w.before args s = true) : CallW rm_X11_total s args RX11 RX9 241 yX9_totalBelow cX9_totalBelow 7 (some .int) wsX9_totalBelow rm_X9_totalBelow 0 0 1 := cwV 1 hts gX11_total_X9_totalBelow rfl rfl rfl (by decide +kernel) ⟨Nat.le_of_ble_eq_true rfl, Nat.le_of_ble_eq_true rfl⟩
set_option maxHeartbeats 4000000 in
set_option maxRecDepth 100000 in
theorem c_X11_total (l : Launch) (D : va_G) (cy : Nat → ClassId) (ad : Nat → Nat) (hO : adOK 39 ad) (n : Nat) (σ : Mem) {v : Int} {τ : Mem} (hf : f_X11_total n σ = some (v, τ)) : Met l yX11_total wsX11_total rm_X11_total (va_Pc [.ref (ad 0)] (PreW D cy 39 (cellC cy ad) ad σ)) (QI D 39 (cellC cy ad) ad v τ) 0 0 (AC 39 ad) := by
  refine r_met (cc := cX11_total) (maxL := 2) (ret := (some .int)) (own := RX11) (by decide) rfl rfl [.ref (ad 0)] (Nat.le_of_ble_eq_true rfl) ?_
  intro p e s m below meth c ls S hK hP hlk hr hl
  have hS : va_S (AC 39 ad) s.heap s.heap [] := va_S.rf
  have hl : lv_has ls 2 [(0, .ref (ad 0))] := hl
  unfold f_X11_total at hf
  refine lv_aload_n S.1 S.2.1 dX11_total_0 rfl (lv_at hl 0 rfl) ?_
  refine r_iconst S dX11_total_1 ?_
  obtain ⟨σ1, hσ1, hf⟩ := nm_some hf
  refine r_put S hK hP hO hS (by decide) rfl rfl h_X11_total_X11 tyX11 tyX11_ok nmX11 12 (by decide) k_X11_total_1 rfl (tyX11_ok 12 (by decide)) (by decide) (by decide) (Nat.le_of_ble_eq_true rfl) hσ1 rfl dX11_total_2 (fun H locs hP hS => ?_)
  refine lv_aload_n S.1 S.2.1 dX11_total_5 rfl (lv_at hl 0 rfl) ?_
  refine r_get S hK hP (by decide) rfl rfl h_X11_total_X11 11 (by decide) k_X11_total_2 rfl dX11_total_6 ?_
  refine r_ldc S 1073741824 (by decide +kernel) k_X11_total_3 dX11_total_9 ?_
  obtain ⟨y4, σ3, hq2, hf⟩ := bL1_some hf
  refine r_callVI S hK hP hS (by decide) rfl rfl [.int (zI 1073741824)] (c_X9_totalBelow l D cy ad hO n 1073741824 σ1 hq2) (cw_X11_total_X9_totalBelow S.2.2.2.2) rfl hl.1 (rest := []) rfl (Nat.le_of_ble_eq_true rfl) dX11_total_11 ⟨Nat.zero_le _, Nat.zero_le _⟩ (fun H locs hP hS => ?_)
  refine r_istore_n S rfl (lv2 := [(1, .int (zI y4)), (0, .ref (ad 0))]) dX11_total_14 rfl hl (by decide) rfl (fun ls hl => ?_)
  refine lv_iload_n S.1 S.2.1 dX11_total_15 rfl (lv_at hl 0 rfl) ?_
  refine r_ldc S 1073741824 (by decide +kernel) k_X11_total_3 dX11_total_16 ?_
  refine lv_icmp_ne (tgt := 26) S.1 S.2.1 dX11_total_18 (by decide) (fun c5 => ?_) (fun c5 => ?_)
  · have hf := (if_neg c5).symm.trans hf
    refine lv_iload_n S.1 S.2.1 dX11_total_26 rfl (lv_at hl 0 rfl) ?_
    obtain ⟨e1, e2⟩ := inj2 hf
    subst e1
    subst e2
    exact e_I S hlk hP hS hr dX11_total_27
  · have hf := (if_pos c5).symm.trans hf
    refine r_bipush S dX11_total_21 (by decide) ?_
    refine lv_goto (tgt := 27) S.1 S.2.1 dX11_total_23 (by decide) ?_
    obtain ⟨e1, e2⟩ := inj2 hf
    subst e1
    subst e2
    exact e_I S hlk hP hS hr dX11_total_27
def rm_X11_ways : Room := { frames := 7, cells := 0, slots := 0, locals := 177 }
theorem k_X11_ways_1 : (.fieldLink RX11 75 "MendTexts" "ahead" "LMendTexts$Rows;" : Cond) ∈ wsX11_ways := List.mem_of_getElem? (i := 1) (by decide +kernel)
theorem k_X11_ways_2 : (.fieldLink RX11 38 "MendTexts" "typed" "LMendTexts$Word;" : Cond) ∈ wsX11_ways := List.mem_of_getElem? (i := 2) (by decide +kernel)
theorem k_X11_ways_3 : (.fieldLink RX11 42 "MendTexts" "mended" "LMendTexts$Word;" : Cond) ∈ wsX11_ways := List.mem_of_getElem? (i := 3) (by decide +kernel)
theorem k_X11_ways_4 : (.fieldLink RX11 171 "MendTexts$Word" "length" "I" : Cond) ∈ wsX11_ways := List.mem_of_getElem? (i := 4) (by decide +kernel)
theorem k_X11_ways_5 : (.constant RX11 214 (1000000) : Cond) ∈ wsX11_ways := List.mem_of_getElem? (i := 5) (by decide +kernel)
theorem k_X11_ways_6 : (.methodLink RX11 215 Lib.Math.min.name : Cond) ∈ wsX11_ways := List.mem_of_getElem? (i := 6) (by decide +kernel)
theorem k_X11_ways_7 : (.static Lib.Math.min.name : Cond) ∈ wsX11_ways := List.mem_of_getElem? (i := 7) (by decide +kernel)
theorem k_X11_ways_8 : (.initialized "java/lang/Math" : Cond) ∈ wsX11_ways := List.mem_of_getElem? (i := 8) (by decide +kernel)
theorem k_X11_ways_9 : (.code Lib.Math.min.name Lib.Math.min.code 2 (some .int) : Cond) ∈ wsX11_ways := List.mem_of_getElem? (i := 9) (by decide +kernel)
theorem h_X11_ways_X11 : ∀ w ∈ u_ws RX11 TX11 13, w ∈ wsX11_ways := mem_places _ [201, 202, 203, 204, 205, 206, 207, 208, 209, 210, 211, 212, 213] (by decide +kernel)
theorem h_X11_ways_X10 : ∀ w ∈ u_ws RX10 TX10 2, w ∈ wsX11_ways := mem_places _ [214, 215] (by decide +kernel)
theorem cw_X11_ways_X11_readText {s : State} {args : Array Value} (hts : ∀ w ∈ wsX11_ways, w.before args s = true) : CallW rm_X11_ways s args RX11 RX11 203 yX11_readText cX11_readText 4 none wsX11_readText rm_X11_readText 0 0 1 := cwV 1 hts gX11_ways_X11_readText rfl rfl rfl (by decide +kernel) ⟨Nat.le_of_ble_eq_true rfl, Nat.le_of_ble_eq_true rfl⟩
theorem cw_X11_ways_X11_refusalOf {s : State} {args : Array Value} (hts : ∀ w ∈ wsX11_ways, w.before args s = true) : CallB rm_X11_ways s args RX11 200 yX11_refusalOf cX11_refusalOf 2 (some .int) wsX11_refusalOf rm_X11_refusalOf 0 0 1 ∧ (Cond.static yX11_refusalOf).before args s = true := va_cwS 1 hts gX11_ways_X11_refusalOf rfl rfl rfl (by decide +kernel) ⟨Nat.le_of_ble_eq_true rfl, Nat.le_of_ble_eq_true rfl⟩
theorem cw_X11_ways_X11_textFit {s : State} {args : Array Value} (hts : ∀ w ∈ wsX11_ways, w.before args s = true) : CallW rm_X11_ways s args RX11 RX11 196 yX11_textFit cX11_textFit 1 (some .long) wsX11_textFit rm_X11_textFit 0 0 0 := cwV 0 hts gX11_ways_X11_textFit rfl rfl rfl (by decide +kernel) ⟨Nat.le_of_ble_eq_true rfl, Nat.le_of_ble_eq_true rfl⟩
theorem cw_X11_ways_X7_countAt {s : State} {args : Array Value} (hts : ∀ w ∈ wsX11_ways, w.before args s = true) : CallW rm_X11_ways s args RX11 RX7 211 yX7_countAt cX7_countAt 4 (some .int) wsX7_countAt rm_X7_countAt 0 0 2 := cwV 2 hts gX11_ways_X7_countAt rfl rfl rfl (by decide +kernel) ⟨Nat.le_of_ble_eq_true rfl, Nat.le_of_ble_eq_true rfl⟩
theorem cw_X11_ways_X7_fill {s : State} {args : Array Value} (hts : ∀ w ∈ wsX11_ways, w.before args s = true) : CallW rm_X11_ways s args RX11 RX7 207 yX7_fill cX7_fill 8 none wsX7_fill rm_X7_fill 0 0 3 := cwV 3 hts gX11_ways_X7_fill rfl rfl rfl (by decide +kernel) ⟨Nat.le_of_ble_eq_true rfl, Nat.le_of_ble_eq_true rfl⟩
set_option maxHeartbeats 4000000 in
set_option maxRecDepth 100000 in
theorem c_X11_ways (l : Launch) (D : va_G) (cy : Nat → ClassId) (ad : Nat → Nat) (hO : adOK 39 ad) (n : Nat) (σ : Mem) {v : Int} {τ : Mem} (hf : f_X11_ways n σ = some (v, τ)) : Met l yX11_ways wsX11_ways rm_X11_ways (va_Pc [.ref (ad 0)] (PreW D cy 39 (cellC cy ad) ad σ)) (QI D 39 (cellC cy ad) ad v τ) 0 0 (AC 39 ad) := by
  refine r_met (cc := cX11_ways) (maxL := 4) (ret := (some .int)) (own := RX11) (by decide) rfl rfl [.ref (ad 0)] (Nat.le_of_ble_eq_true rfl) ?_
  intro p e s m below meth c ls S hK hP hlk hr hl
  have hS : va_S (AC 39 ad) s.heap s.heap [] := va_S.rf
  have hl : lv_has ls 4 [(0, .ref (ad 0))] := hl
  unfold f_X11_ways at hf
  refine lv_aload_n S.1 S.2.1 dX11_ways_0 rfl (lv_at hl 0 rfl) ?_
  obtain ⟨y3, σ2, hq1, hf⟩ := bL1_some hf
  refine r_callVL S hK hP hS (by decide) rfl rfl [] (c_X11_textFit l D cy ad hO n σ hq1) (cw_X11_ways_X11_textFit S.2.2.2.2) rfl hl.1 (rest := []) rfl (Nat.le_of_ble_eq_true rfl) dX11_ways_1 ⟨Nat.zero_le _, Nat.zero_le _⟩ (fun H locs hP hS => ?_)
  refine r_lstore_n S rfl (lv2 := [(1, .long (zL y3)), (0, .ref (ad 0))]) dX11_ways_4 rfl hl (by decide) rfl (fun ls hl => ?_)
  refine lv_lload_n S.1 S.2.1 dX11_ways_5 rfl (lv_at hl 0 rfl) ?_
  obtain ⟨y5, hq4, hf⟩ := bV_some hf
  refine r_callSI S hK hP hS [.long (zL y3)] (c_X11_refusalOf l D cy ad hO y3 σ2 hq4) (cw_X11_ways_X11_refusalOf S.2.2.2.2) rfl hl.1 (rest := []) rfl (Nat.le_of_ble_eq_true rfl) dX11_ways_6 ⟨Nat.zero_le _, Nat.zero_le _⟩ (fun H locs hP hS => ?_)
  refine r_istore_n S rfl (lv2 := [(3, .int (zI y5)), (1, .long (zL y3)), (0, .ref (ad 0))]) dX11_ways_9 rfl hl (by decide) rfl (fun ls hl => ?_)
  refine lv_iload_n S.1 S.2.1 dX11_ways_10 rfl (lv_at hl 0 rfl) ?_
  refine r_if_eq (tgt := 16) S dX11_ways_11 (by decide) (fun c6 => ?_) (fun c6 => ?_)
  · have hf := (if_pos c6).symm.trans hf
    refine lv_aload_n S.1 S.2.1 dX11_ways_16 rfl (lv_at hl 2 rfl) ?_
    refine lv_lload_n S.1 S.2.1 dX11_ways_17 rfl (lv_at hl 1 rfl) ?_
    obtain ⟨σ8, hq7, hf⟩ := bV_some hf
    refine r_callVV S hK hP hS (by decide) rfl rfl [.long (zL y3)] (c_X11_readText l D cy ad hO n y3 σ2 hq7) (cw_X11_ways_X11_readText S.2.2.2.2) rfl hl.1 (rest := []) rfl (Nat.le_of_ble_eq_true rfl) dX11_ways_18 ⟨Nat.zero_le _, Nat.zero_le _⟩ (fun H locs hP hS => ?_)
    refine lv_aload_n S.1 S.2.1 dX11_ways_21 rfl (lv_at hl 2 rfl) ?_
    refine r_get S hK hP (by decide) rfl rfl h_X11_ways_X11 9 (by decide) k_X11_ways_1 rfl dX11_ways_22 ?_
    refine lv_aload_n S.1 S.2.1 dX11_ways_25 rfl (lv_at hl 2 rfl) ?_
    refine r_get S hK hP (by decide) rfl rfl h_X11_ways_X11 4 (by decide) k_X11_ways_2 rfl dX11_ways_26 ?_
    refine lv_aload_n S.1 S.2.1 dX11_ways_29 rfl (lv_at hl 2 rfl) ?_
    refine r_get S hK hP (by decide) rfl rfl h_X11_ways_X11 5 (by decide) k_X11_ways_3 rfl dX11_ways_30 ?_
    refine r_iconst S dX11_ways_33 ?_
    obtain ⟨σ10, hq9, hf⟩ := bV_some hf
    refine r_callVV S hK hP hS (by decide) rfl rfl [.ref (ad 13), .ref (ad 15), .int (zI 0)] (c_X7_fill l D cy ad hO n 32 (by decide) 13 (by decide) 15 (by decide) 0 σ8 hq9) (cw_X11_ways_X7_fill S.2.2.2.2) rfl hl.1 (rest := []) rfl (Nat.le_of_ble_eq_true rfl) dX11_ways_34 ⟨Nat.zero_le _, Nat.zero_le _⟩ (fun H locs hP hS => ?_)
    refine lv_aload_n S.1 S.2.1 dX11_ways_37 rfl (lv_at hl 2 rfl) ?_
    refine r_get S hK hP (by decide) rfl rfl h_X11_ways_X11 9 (by decide) k_X11_ways_1 rfl dX11_ways_38 ?_
    refine lv_aload_n S.1 S.2.1 dX11_ways_41 rfl (lv_at hl 2 rfl) ?_
    refine r_get S hK hP (by decide) rfl rfl h_X11_ways_X11 4 (by decide) k_X11_ways_2 rfl dX11_ways_42 ?_
    refine r_get S hK hP (by decide) rfl rfl h_X11_ways_X10 1 (by decide) k_X11_ways_4 rfl dX11_ways_45 ?_
    refine lv_aload_n S.1 S.2.1 dX11_ways_48 rfl (lv_at hl 2 rfl) ?_
    refine r_get S hK hP (by decide) rfl rfl h_X11_ways_X11 5 (by decide) k_X11_ways_3 rfl dX11_ways_49 ?_
    refine r_get S hK hP (by decide) rfl rfl h_X11_ways_X10 1 (by decide) k_X11_ways_4 rfl dX11_ways_52 ?_
    obtain ⟨y12, hq11, hf⟩ := bV_some hf
    refine r_callVI S hK hP hS (by decide) rfl rfl [.int (zI (σ10 13 1)), .int (zI (σ10 15 1))] (c_X7_countAt l D cy ad hO 32 (by decide) (σ10 13 1) (σ10 15 1) σ10 hq11) (cw_X11_ways_X7_countAt S.2.2.2.2) rfl hl.1 (rest := []) rfl (Nat.le_of_ble_eq_true rfl) dX11_ways_55 ⟨Nat.zero_le _, Nat.zero_le _⟩ (fun H locs hP hS => ?_)
    refine r_ldc S 1000000 (by decide +kernel) k_X11_ways_5 dX11_ways_58 ?_
    refine r_mmin S hl.1 k_X11_ways_6 k_X11_ways_7 k_X11_ways_8 k_X11_ways_9 ⟨Nat.le_of_ble_eq_true rfl, Nat.le_of_ble_eq_true rfl⟩ ⟨Nat.zero_le _, Nat.zero_le _⟩ dX11_ways_60 ?_
    obtain ⟨e1, e2⟩ := inj2 hf
    subst e1
    subst e2
    exact e_I S hlk hP hS hr dX11_ways_63
  · have hf := (if_neg c6).symm.trans hf
    refine lv_iload_n S.1 S.2.1 dX11_ways_14 rfl (lv_at hl 0 rfl) ?_
    obtain ⟨e1, e2⟩ := inj2 hf
    subst e1
    subst e2
    exact e_I S hlk hP hS hr dX11_ways_15
def rm_X11_wipe : Room := { frames := 0, cells := 0, slots := 0, locals := 0 }
theorem k_X11_wipe_1 : (.fieldLink RX11 12 "MendTexts" "pad" "LMendTexts$Pad;" : Cond) ∈ wsX11_wipe := List.mem_of_getElem? (i := 1) (by decide +kernel)
theorem k_X11_wipe_2 : (.fieldLink RX11 99 "MendTexts$Pad" "count" "I" : Cond) ∈ wsX11_wipe := List.mem_of_getElem? (i := 2) (by decide +kernel)
theorem h_X11_wipe_X11 : ∀ w ∈ u_ws RX11 TX11 13, w ∈ wsX11_wipe := mem_places _ [3, 4, 5, 6, 7, 8, 9, 10, 11, 12, 13, 14, 15] (by decide +kernel)
theorem h_X11_wipe_X5 : ∀ w ∈ u_ws RX5 TX5 2, w ∈ wsX11_wipe := mem_places _ [16, 17] (by decide +kernel)
set_option maxHeartbeats 4000000 in
set_option maxRecDepth 100000 in
theorem c_X11_wipe (l : Launch) (D : va_G) (cy : Nat → ClassId) (ad : Nat → Nat) (hO : adOK 39 ad) (σ : Mem) {v : Int} {τ : Mem} (hf : f_X11_wipe σ = some (v, τ)) : Met l yX11_wipe wsX11_wipe rm_X11_wipe (va_Pc [.ref (ad 0)] (PreW D cy 39 (cellC cy ad) ad σ)) (QI D 39 (cellC cy ad) ad v τ) 0 0 (AC 39 ad) := by
  refine r_met (cc := cX11_wipe) (maxL := 2) (ret := (some .int)) (own := RX11) (by decide) rfl rfl [.ref (ad 0)] (Nat.le_of_ble_eq_true rfl) ?_
  intro p e s m below meth c ls S hK hP hlk hr hl
  have hS : va_S (AC 39 ad) s.heap s.heap [] := va_S.rf
  have hl : lv_has ls 2 [(0, .ref (ad 0))] := hl
  unfold f_X11_wipe at hf
  refine lv_aload_n S.1 S.2.1 dX11_wipe_0 rfl (lv_at hl 0 rfl) ?_
  refine r_get S hK hP (by decide) rfl rfl h_X11_wipe_X11 0 (by decide) k_X11_wipe_1 rfl dX11_wipe_1 ?_
  refine r_get S hK hP (by decide) rfl rfl h_X11_wipe_X5 1 (by decide) k_X11_wipe_2 rfl dX11_wipe_4 ?_
  obtain ⟨x1, hx1, hf⟩ := nm_some hf
  refine r_istore_n S hx1 (lv2 := [(1, .int (zI x1)), (0, .ref (ad 0))]) dX11_wipe_7 rfl hl (by decide) rfl (fun ls hl => ?_)
  refine lv_aload_n S.1 S.2.1 dX11_wipe_8 rfl (lv_at hl 1 rfl) ?_
  refine r_get S hK hP (by decide) rfl rfl h_X11_wipe_X11 0 (by decide) k_X11_wipe_1 rfl dX11_wipe_9 ?_
  refine r_iconst S dX11_wipe_12 ?_
  obtain ⟨σ2, hσ2, hf⟩ := nm_some hf
  refine r_put S hK hP hO hS (by decide) rfl rfl h_X11_wipe_X5 tyX5 tyX5_ok nmX5 1 (by decide) k_X11_wipe_2 rfl (tyX5_ok 1 (by decide)) rfl rfl (Nat.le_of_ble_eq_true rfl) hσ2 rfl dX11_wipe_13 (fun H locs hP hS => ?_)
  refine lv_iload_n S.1 S.2.1 dX11_wipe_16 rfl (lv_at hl 0 rfl) ?_
  obtain ⟨e1, e2⟩ := inj2 hf
  subst e1
  subst e2
  exact e_I S hlk hP hS hr dX11_wipe_17
def rm_X5_isWord : Room := { frames := 1, cells := 0, slots := 0, locals := 21 }
theorem k_X5_isWord_1 : (.fieldLink RX5 15 "MendTexts$Pad" "count" "I" : Cond) ∈ wsX5_isWord := List.mem_of_getElem? (i := 1) (by decide +kernel)
theorem h_X5_isWord_X5 : ∀ w ∈ u_ws RX5 TX5 2, w ∈ wsX5_isWord := mem_places _ [8, 9] (by decide +kernel)
theorem cw_X5_isWord_X5_signAt {s : State} {args : Array Value} (hts : ∀ w ∈ wsX5_isWord, w.before args s = true) : CallW rm_X5_isWord s args RX5 RX5 19 yX5_signAt cX5_signAt 2 (some .int) wsX5_signAt rm_X5_signAt 0 0 1 := cwV 1 hts gX5_isWord_X5_signAt rfl rfl rfl (by decide +kernel) ⟨Nat.le_of_ble_eq_true rfl, Nat.le_of_ble_eq_true rfl⟩
set_option maxHeartbeats 4000000 in
set_option maxRecDepth 100000 in
theorem w_X5_isWord_L13 {p : Program} {l : Launch} {e : Env} {s : State} {m : MethodId} {args : Array Value} {below : List Frame} {meth : Method} {c : Code} {Q : State → Prop} {D : va_G} {cy : Nat → ClassId} {ad : Nat → Nat} {H0 : Heap} (hO : adOK 39 ad) (S : CallFix p m c cX5_isWord 3 s args wsX5_isWord RX5) (hK : KK D cy s) (n : Nat) (σ : Mem) {res : Nat} (k0 : ∀ (H2 : Heap) (locs2 : List Loc) (ls2 : Array Slot), res = 0 → va_P D vwCl (WW 39 (cellC cy ad) ad σ) H2 → va_S (AC 39 ad) H0 H2 locs2 → lv_has ls2 3 [] → W p l e rm_X5_isWord s m args below meth c H2 locs2 0 0 Q (F0 m 39 ls2 [])) (k1 : ∀ (H2 : Heap) (locs2 : List Loc) (ls2 : Array Slot), res = 1 → va_P D vwCl (WW 39 (cellC cy ad) ad σ) H2 → va_S (AC 39 ad) H0 H2 locs2 → lv_has ls2 3 [] → W p l e rm_X5_isWord s m args below meth c H2 locs2 0 0 Q (F0 m 47 ls2 [])) :
    ∀ (k : Nat) (x1_ : Int) (H : Heap) (locs : List Loc) (ls : Array Slot), f_X5_isWord_L13 n σ k x1_ = some res → va_P D vwCl (WW 39 (cellC cy ad) ad σ) H → va_S (AC 39 ad) H0 H locs → lv_has ls 3 [(0, .ref (ad 1)), (1, .int (zI x1_))] → W p l e rm_X5_isWord s m args below meth c H locs 0 0 Q (F0 m 13 ls []) := by
  intro k
  induction k with
  | zero =>
    intro x1_ H locs ls hf
    have hf : none = some res := hf
    cases hf
  | succ k ih =>
    intro x1_ H locs ls hf hP hS hl
    rw [f_X5_isWord_L13] at hf
    refine lv_iload_n S.1 S.2.1 dX5_isWord_13 rfl (lv_at hl 1 rfl) ?_
    refine lv_aload_n S.1 S.2.1 dX5_isWord_14 rfl (lv_at hl 0 rfl) ?_
    refine r_get S hK hP (by decide) rfl rfl h_X5_isWord_X5 1 (by decide) k_X5_isWord_1 rfl dX5_isWord_15 ?_
    refine lv_icmp_ge (tgt := 47) S.1 S.2.1 dX5_isWord_18 (by decide) (fun c1 => ?_) (fun c1 => ?_)
    · have hf := (if_pos c1).symm.trans hf
      exact k1 _ _ _ (Option.some.inj hf).symm hP hS (lv_sub hl [] rfl)
    · have hf := (if_neg c1).symm.trans hf
      refine lv_aload_n S.1 S.2.1 dX5_isWord_21 rfl (lv_at hl 0 rfl) ?_
      refine lv_iload_n S.1 S.2.1 dX5_isWord_22 rfl (lv_at hl 1 rfl) ?_
      obtain ⟨y3, hq2, hf⟩ := bV_some hf
      refine r_callVI S hK hP hS (by decide) rfl rfl [.int (zI x1_)] (c_X5_signAt l D cy ad hO x1_ σ hq2) (cw_X5_isWord_X5_signAt S.2.2.2.2) rfl hl.1 (rest := []) rfl (Nat.le_of_ble_eq_true rfl) dX5_isWord_23 ⟨Nat.zero_le _, Nat.zero_le _⟩ (fun H locs hP hS => ?_)
      refine r_istore_n S rfl (lv2 := [(2, .int (zI y3)), (0, .ref (ad 1)), (1, .int (zI x1_))]) dX5_isWord_26 rfl hl (by decide) rfl (fun ls hl => ?_)
      refine lv_iload_n S.1 S.2.1 dX5_isWord_27 rfl (lv_at hl 0 rfl) ?_
      refine r_bipush S dX5_isWord_28 (by decide) ?_
      refine lv_icmp_lt (tgt := 39) S.1 S.2.1 dX5_isWord_30 (by decide) (fun c4 => ?_) (fun c4 => ?_)
      · have hf := (if_pos c4).symm.trans hf
        exact k0 _ _ _ (Option.some.inj hf).symm hP hS (lv_sub hl [] rfl)
      · have hf := (if_neg c4).symm.trans hf
        refine lv_iload_n S.1 S.2.1 dX5_isWord_33 rfl (lv_at hl 0 rfl) ?_
        refine r_bipush S dX5_isWord_34 (by decide) ?_
        refine lv_icmp_lt (tgt := 41) S.1 S.2.1 dX5_isWord_36 (by decide) (fun c5 => ?_) (fun c5 => ?_)
        · have hf := (if_pos c5).symm.trans hf
          obtain ⟨x6, hx6, hf⟩ := nm_some hf
          refine r_iinc S hx6 (k0 := 2) (lv2 := [(1, .int (zI x6)), (2, .int (zI y3)), (0, .ref (ad 1))]) dX5_isWord_41 hl rfl (by decide) rfl (fun ls hl => ?_)
          refine lv_goto (tgt := 13) S.1 S.2.1 dX5_isWord_44 (by decide) ?_
          exact ih x6 _ _ _ hf hP hS (lv_sub hl [2, 0] rfl)
        · have hf := (if_neg c5).symm.trans hf
          exact k0 _ _ _ (Option.some.inj hf).symm hP hS (lv_sub hl [] rfl)
set_option maxHeartbeats 4000000 in
set_option maxRecDepth 100000 in
theorem c_X5_isWord (l : Launch) (D : va_G) (cy : Nat → ClassId) (ad : Nat → Nat) (hO : adOK 39 ad) (n : Nat) (σ : Mem) {v : Int} (hf : f_X5_isWord n σ = some v) : Met l yX5_isWord wsX5_isWord rm_X5_isWord (va_Pc [.ref (ad 1)] (PreW D cy 39 (cellC cy ad) ad σ)) (QI D 39 (cellC cy ad) ad v σ) 0 0 (AC 39 ad) := by
  refine r_met (cc := cX5_isWord) (maxL := 3) (ret := (some .boolean)) (own := RX5) (by decide) rfl rfl [.ref (ad 1)] (Nat.le_of_ble_eq_true rfl) ?_
  intro p e s m below meth c ls S hK hP hlk hr hl
  have hS : va_S (AC 39 ad) s.heap s.heap [] := va_S.rf
  have hl : lv_has ls 3 [(0, .ref (ad 1))] := hl
  unfold f_X5_isWord at hf
  refine lv_aload_n S.1 S.2.1 dX5_isWord_0 rfl (lv_at hl 0 rfl) ?_
  refine r_get S hK hP (by decide) rfl rfl h_X5_isWord_X5 1 (by decide) k_X5_isWord_1 rfl dX5_isWord_1 ?_
  refine r_bipush S dX5_isWord_4 (by decide) ?_
  refine lv_icmp_le (tgt := 11) S.1 S.2.1 dX5_isWord_6 (by decide) (fun c1 => ?_) (fun c1 => ?_)
  · have hf := (if_pos c1).symm.trans hf
    refine r_iconst S dX5_isWord_11 ?_
    refine r_istore_n S rfl (lv2 := [(1, .int (zI 0)), (0, .ref (ad 1))]) dX5_isWord_12 rfl hl (by decide) rfl (fun ls hl => ?_)
    obtain ⟨t2, hq, hf⟩ := bV_some hf
    refine w_X5_isWord_L13 hO S hK n σ (fun  H locs ls he hP hS hl => ?_) (fun  H locs ls he hP hS hl => ?_) n 0 _ _ _ hq hP hS (lv_sub hl [1, 0] rfl)
    · cases he
      have hf := (if_pos rfl).symm.trans hf
      refine r_iconst S dX5_isWord_39 ?_
      have e1 := Option.some.inj hf
      subst e1
      exact e_Z S hlk hP hS (Or.inl rfl) hr dX5_isWord_40
    · cases he
      have hf := (if_neg (by decide)).symm.trans hf
      refine r_iconst S dX5_isWord_47 ?_
      have e1 := Option.some.inj hf
      subst e1
      exact e_Z S hlk hP hS (Or.inr rfl) hr dX5_isWord_48
  · have hf := (if_neg c1).symm.trans hf
    refine r_iconst S dX5_isWord_9 ?_
    have e1 := Option.some.inj hf
    subst e1
    exact e_Z S hlk hP hS (Or.inl rfl) hr dX5_isWord_10
def rm_X11_word : Room := { frames := 2, cells := 0, slots := 0, locals := 43 }
theorem k_X11_word_1 : (.fieldLink RX11 12 "MendTexts" "pad" "LMendTexts$Pad;" : Cond) ∈ wsX11_word := List.mem_of_getElem? (i := 1) (by decide +kernel)
theorem k_X11_word_2 : (.fieldLink RX11 38 "MendTexts" "typed" "LMendTexts$Word;" : Cond) ∈ wsX11_word := List.mem_of_getElem? (i := 2) (by decide +kernel)
theorem k_X11_word_3 : (.fieldLink RX11 99 "MendTexts$Pad" "count" "I" : Cond) ∈ wsX11_word := List.mem_of_getElem? (i := 3) (by decide +kernel)
theorem k_X11_word_4 : (.fieldLink RX11 171 "MendTexts$Word" "length" "I" : Cond) ∈ wsX11_word := List.mem_of_getElem? (i := 4) (by decide +kernel)
theorem h_X11_word_X11 : ∀ w ∈ u_ws RX11 TX11 13, w ∈ wsX11_word := mem_places _ [41, 42, 43, 44, 45, 46, 47, 48, 49, 50, 51, 52, 53] (by decide +kernel)
theorem h_X11_word_X5 : ∀ w ∈ u_ws RX5 TX5 2, w ∈ wsX11_word := mem_places _ [54, 55] (by decide +kernel)
theorem h_X11_word_X10 : ∀ w ∈ u_ws RX10 TX10 2, w ∈ wsX11_word := mem_places _ [56, 57] (by decide +kernel)
theorem cw_X11_word_X10_add {s : State} {args : Array Value} (hts : ∀ w ∈ wsX11_word, w.before args s = true) : CallW rm_X11_word s args RX11 RX10 169 yX10_add cX10_add 2 none wsX10_add rm_X10_add 0 0 1 := cwV 1 hts gX11_word_X10_add rfl rfl rfl (by decide +kernel) ⟨Nat.le_of_ble_eq_true rfl, Nat.le_of_ble_eq_true rfl⟩
theorem cw_X11_word_X10_clear {s : State} {args : Array Value} (hts : ∀ w ∈ wsX11_word, w.before args s = true) : CallW rm_X11_word s args RX11 RX10 164 yX10_clear cX10_clear 1 none wsX10_clear rm_X10_clear 0 0 0 := cwV 0 hts gX11_word_X10_clear rfl rfl rfl (by decide +kernel) ⟨Nat.le_of_ble_eq_true rfl, Nat.le_of_ble_eq_true rfl⟩
theorem cw_X11_word_X11_forgetAnswers {s : State} {args : Array Value} (hts : ∀ w ∈ wsX11_word, w.before args s = true) : CallW rm_X11_word s args RX11 RX11 113 yX11_forgetAnswers cX11_forgetAnswers 1 none wsX11_forgetAnswers rm_X11_forgetAnswers 0 0 0 := cwV 0 hts gX11_word_X11_forgetAnswers rfl rfl rfl (by decide +kernel) ⟨Nat.le_of_ble_eq_true rfl, Nat.le_of_ble_eq_true rfl⟩
theorem cw_X11_word_X5_isWord {s : State} {args : Array Value} (hts : ∀ w ∈ wsX11_word, w.before args s = true) : CallW rm_X11_word s args RX11 RX5 160 yX5_isWord cX5_isWord 3 (some .boolean) wsX5_isWord rm_X5_isWord 0 0 0 := cwV 0 hts gX11_word_X5_isWord rfl rfl rfl (by decide +kernel) ⟨Nat.le_of_ble_eq_true rfl, Nat.le_of_ble_eq_true rfl⟩
theorem cw_X11_word_X5_signAt {s : State} {args : Array Value} (hts : ∀ w ∈ wsX11_word, w.before args s = true) : CallW rm_X11_word s args RX11 RX5 167 yX5_signAt cX5_signAt 2 (some .int) wsX5_signAt rm_X5_signAt 0 0 1 := cwV 1 hts gX11_word_X5_signAt rfl rfl rfl (by decide +kernel) ⟨Nat.le_of_ble_eq_true rfl, Nat.le_of_ble_eq_true rfl⟩
set_option maxHeartbeats 4000000 in
set_option maxRecDepth 100000 in
theorem w_X11_word_L22 {p : Program} {l : Launch} {e : Env} {s : State} {m : MethodId} {args : Array Value} {below : List Frame} {meth : Method} {c : Code} {Q : State → Prop} {D : va_G} {cy : Nat → ClassId} {ad : Nat → Nat} {H0 : Heap} (hO : adOK 39 ad) (S : CallFix p m c cX11_word 2 s args wsX11_word RX11) (hK : KK D cy s) (n : Nat) {res : Mem} (k0 : ∀ (τ : Mem) (H2 : Heap) (locs2 : List Loc) (ls2 : Array Slot), res = τ → va_P D vwCl (WW 39 (cellC cy ad) ad τ) H2 → va_S (AC 39 ad) H0 H2 locs2 → lv_has ls2 2 [(0, .ref (ad 0))] → W p l e rm_X11_word s m args below meth c H2 locs2 0 0 Q (F0 m 57 ls2 [])) :
    ∀ (k : Nat) (x1_ : Int) (σ : Mem) (H : Heap) (locs : List Loc) (ls : Array Slot), f_X11_word_L22 n k x1_ σ = some res → va_P D vwCl (WW 39 (cellC cy ad) ad σ) H → va_S (AC 39 ad) H0 H locs → lv_has ls 2 [(0, .ref (ad 0)), (1, .int (zI x1_))] → W p l e rm_X11_word s m args below meth c H locs 0 0 Q (F0 m 22 ls []) := by
  intro k
  induction k with
  | zero =>
    intro x1_ σ H locs ls hf
    have hf : none = some res := hf
    cases hf
  | succ k ih =>
    intro x1_ σ H locs ls hf hP hS hl
    rw [f_X11_word_L22] at hf
    refine lv_iload_n S.1 S.2.1 dX11_word_22 rfl (lv_at hl 1 rfl) ?_
    refine lv_aload_n S.1 S.2.1 dX11_word_23 rfl (lv_at hl 0 rfl) ?_
    refine r_get S hK hP (by decide) rfl rfl h_X11_word_X11 0 (by decide) k_X11_word_1 rfl dX11_word_24 ?_
    refine r_get S hK hP (by decide) rfl rfl h_X11_word_X5 1 (by decide) k_X11_word_3 rfl dX11_word_27 ?_
    refine lv_icmp_ge (tgt := 57) S.1 S.2.1 dX11_word_30 (by decide) (fun c1 => ?_) (fun c1 => ?_)
    · have hf := (if_pos c1).symm.trans hf
      exact k0 _ _ _ _ (Option.some.inj hf).symm hP hS (lv_sub hl [0] rfl)
    · have hf := (if_neg c1).symm.trans hf
      refine lv_aload_n S.1 S.2.1 dX11_word_33 rfl (lv_at hl 0 rfl) ?_
      refine r_get S hK hP (by decide) rfl rfl h_X11_word_X11 4 (by decide) k_X11_word_2 rfl dX11_word_34 ?_
      refine lv_aload_n S.1 S.2.1 dX11_word_37 rfl (lv_at hl 0 rfl) ?_
      refine r_get S hK hP (by decide) rfl rfl h_X11_word_X11 0 (by decide) k_X11_word_1 rfl dX11_word_38 ?_
      refine lv_iload_n S.1 S.2.1 dX11_word_41 rfl (lv_at hl 1 rfl) ?_
      obtain ⟨y3, hq2, hf⟩ := bV_some hf
      refine r_callVI S hK hP hS (by decide) rfl rfl [.int (zI x1_)] (c_X5_signAt l D cy ad hO x1_ σ hq2) (cw_X11_word_X5_signAt S.2.2.2.2) rfl hl.1 (rest := [.ref (ad 13)]) rfl (Nat.le_of_ble_eq_true rfl) dX11_word_42 ⟨Nat.zero_le _, Nat.zero_le _⟩ (fun H locs hP hS => ?_)
      refine r_bipush S dX11_word_45 (by decide) ?_
      refine r_isub S dX11_word_47 ?_
      obtain ⟨σ5, hq4, hf⟩ := bV_some hf
      refine r_callVV S hK hP hS (by decide) rfl rfl [.int (zI (y3 - 97))] (c_X10_add l D cy ad hO 13 (by decide) (y3 - 97) σ hq4) (cw_X11_word_X10_add S.2.2.2.2) rfl hl.1 (rest := []) rfl (Nat.le_of_ble_eq_true rfl) dX11_word_48 ⟨Nat.zero_le _, Nat.zero_le _⟩ (fun H locs hP hS => ?_)
      obtain ⟨x6, hx6, hf⟩ := nm_some hf
      refine r_iinc S hx6 (k0 := 1) (lv2 := [(1, .int (zI x6)), (0, .ref (ad 0))]) dX11_word_51 hl rfl (by decide) rfl (fun ls hl => ?_)
      refine lv_goto (tgt := 22) S.1 S.2.1 dX11_word_54 (by decide) ?_
      exact ih x6 σ5 _ _ _ hf hP hS (lv_sub hl [1, 0] rfl)
set_option maxHeartbeats 4000000 in
set_option maxRecDepth 100000 in
theorem c_X11_word (l : Launch) (D : va_G) (cy : Nat → ClassId) (ad : Nat → Nat) (hO : adOK 39 ad) (n : Nat) (σ : Mem) {v : Int} {τ : Mem} (hf : f_X11_word n σ = some (v, τ)) : Met l yX11_word wsX11_word rm_X11_word (va_Pc [.ref (ad 0)] (PreW D cy 39 (cellC cy ad) ad σ)) (QI D 39 (cellC cy ad) ad v τ) 0 0 (AC 39 ad) := by
  refine r_met (cc := cX11_word) (maxL := 2) (ret := (some .int)) (own := RX11) (by decide) rfl rfl [.ref (ad 0)] (Nat.le_of_ble_eq_true rfl) ?_
  intro p e s m below meth c ls S hK hP hlk hr hl
  have hS : va_S (AC 39 ad) s.heap s.heap [] := va_S.rf
  have hl : lv_has ls 2 [(0, .ref (ad 0))] := hl
  unfold f_X11_word at hf
  refine lv_aload_n S.1 S.2.1 dX11_word_0 rfl (lv_at hl 0 rfl) ?_
  refine r_get S hK hP (by decide) rfl rfl h_X11_word_X11 0 (by decide) k_X11_word_1 rfl dX11_word_1 ?_
  obtain ⟨y2, hq1, hf⟩ := bV_some hf
  refine r_callVI S hK hP hS (by decide) rfl rfl [] (c_X5_isWord l D cy ad hO n σ hq1) (cw_X11_word_X5_isWord S.2.2.2.2) rfl hl.1 (rest := []) rfl (Nat.le_of_ble_eq_true rfl) dX11_word_4 ⟨Nat.zero_le _, Nat.zero_le _⟩ (fun H locs hP hS => ?_)
  refine r_if_ne (tgt := 13) S dX11_word_7 (by decide) (fun c3 => ?_) (fun c3 => ?_)
  · have hf := (if_neg c3).symm.trans hf
    refine lv_aload_n S.1 S.2.1 dX11_word_13 rfl (lv_at hl 0 rfl) ?_
    refine r_get S hK hP (by decide) rfl rfl h_X11_word_X11 4 (by decide) k_X11_word_2 rfl dX11_word_14 ?_
    obtain ⟨σ5, hq4, hf⟩ := bV_some hf
    refine r_callVV S hK hP hS (by decide) rfl rfl [] (c_X10_clear l D cy ad hO 13 (by decide) σ hq4) (cw_X11_word_X10_clear S.2.2.2.2) rfl hl.1 (rest := []) rfl (Nat.le_of_ble_eq_true rfl) dX11_word_17 ⟨Nat.zero_le _, Nat.zero_le _⟩ (fun H locs hP hS => ?_)
    refine r_iconst S dX11_word_20 ?_
    refine r_istore_n S rfl (lv2 := [(1, .int (zI 0)), (0, .ref (ad 0))]) dX11_word_21 rfl hl (by decide) rfl (fun ls hl => ?_)
    obtain ⟨σ6, hq, hf⟩ := bV_some hf
    refine w_X11_word_L22 hO S hK n (fun σ6 H locs ls he hP hS hl => ?_) n 0 σ5 _ _ _ hq hP hS (lv_sub hl [1, 0] rfl)
    cases he
    refine lv_aload_n S.1 S.2.1 dX11_word_57 rfl (lv_at hl 0 rfl) ?_
    refine r_get S hK hP (by decide) rfl rfl h_X11_word_X11 0 (by decide) k_X11_word_1 rfl dX11_word_58 ?_
    refine r_iconst S dX11_word_61 ?_
    obtain ⟨σ7, hσ7, hf⟩ := nm_some hf
    refine r_put S hK hP hO hS (by decide) rfl rfl h_X11_word_X5 tyX5 tyX5_ok nmX5 1 (by decide) k_X11_word_3 rfl (tyX5_ok 1 (by decide)) rfl rfl (Nat.le_of_ble_eq_true rfl) hσ7 rfl dX11_word_62 (fun H locs hP hS => ?_)
    refine lv_aload_n S.1 S.2.1 dX11_word_65 rfl (lv_at hl 0 rfl) ?_
    obtain ⟨σ9, hq8, hf⟩ := bV_some hf
    refine r_callVV S hK hP hS (by decide) rfl rfl [] (c_X11_forgetAnswers l D cy ad hO σ7 hq8) (cw_X11_word_X11_forgetAnswers S.2.2.2.2) rfl hl.1 (rest := []) rfl (Nat.le_of_ble_eq_true rfl) dX11_word_66 ⟨Nat.zero_le _, Nat.zero_le _⟩ (fun H locs hP hS => ?_)
    refine lv_aload_n S.1 S.2.1 dX11_word_69 rfl (lv_at hl 0 rfl) ?_
    refine r_get S hK hP (by decide) rfl rfl h_X11_word_X11 4 (by decide) k_X11_word_2 rfl dX11_word_70 ?_
    refine r_get S hK hP (by decide) rfl rfl h_X11_word_X10 1 (by decide) k_X11_word_4 rfl dX11_word_73 ?_
    obtain ⟨e1, e2⟩ := inj2 hf
    subst e1
    subst e2
    exact e_I S hlk hP hS hr dX11_word_76
  · have hf := (if_pos c3).symm.trans hf
    refine r_bipush S dX11_word_10 (by decide) ?_
    obtain ⟨e1, e2⟩ := inj2 hf
    subst e1
    subst e2
    exact e_I S hlk hP hS hr dX11_word_12
