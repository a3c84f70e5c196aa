def rm_X1_set : Room := { frames := 0, cells := 0, slots := 0, locals := 0 }
theorem k_X1_set_1 : (.fieldLink RX1 7 "MendTexts$Costs" "values" "[I" : Cond) ∈ wsX1_set := List.mem_of_getElem? (i := 1) (by decide +kernel)
theorem h_X1_set_X1 : ∀ w ∈ u_ws RX1 TX1 1, w ∈ wsX1_set := mem_places _ [2] (by decide +kernel)
set_option maxHeartbeats 4000000 in
set_option maxRecDepth 100000 in
theorem c_X1_set (l : Launch) (D : va_G) (cy : Nat → ClassId) (ad : Nat → Nat) (hO : adOK 39 ad) (a0 : Int) (a1 : Int) (σ : Mem) {τ : Mem} (hf : f_X1_set a0 a1 σ = some τ) : Met l yX1_set wsX1_set rm_X1_set (va_Pc [.ref (ad 11), .int (zI a0), .int (zI a1)] (PreW D cy 39 (cellC cy ad) ad σ)) (QV D 39 (cellC cy ad) ad τ) 0 0 (AC 39 ad) := by
  refine r_met (cc := cX1_set) (maxL := 3) (ret := none) (own := RX1) (by decide) rfl rfl [.ref (ad 11), .int (zI a0), .int (zI a1)] (Nat.le_of_ble_eq_true rfl) ?_
  intro p e s m below meth c ls S hK hP hlk hr hl
  have hS : va_S (AC 39 ad) s.heap s.heap [] := va_S.rf
  have hl : lv_has ls 3 [(0, .ref (ad 11)), (1, .int (zI a0)), (2, .int (zI a1))] := hl
  unfold f_X1_set at hf
  refine lv_iload_n S.1 S.2.1 dX1_set_0 rfl (lv_at hl 1 rfl) ?_
  refine r_if_lt (tgt := 16) S dX1_set_1 (by decide) (fun c1 => ?_) (fun c1 => ?_)
  · have hf := (if_pos c1).symm.trans hf
    have e1 := Option.some.inj hf
    subst e1
    exact e_V S hlk hP hS hr dX1_set_16
  · have hf := (if_neg c1).symm.trans hf
    refine lv_iload_n S.1 S.2.1 dX1_set_4 rfl (lv_at hl 1 rfl) ?_
    refine r_iconst S dX1_set_5 ?_
    refine lv_icmp_ge (tgt := 16) S.1 S.2.1 dX1_set_6 (by decide) (fun c2 => ?_) (fun c2 => ?_)
    · have hf := (if_pos c2).symm.trans hf
      have e1 := Option.some.inj hf
      subst e1
      exact e_V S hlk hP hS hr dX1_set_16
    · have hf := (if_neg c2).symm.trans hf
      refine lv_aload_n S.1 S.2.1 dX1_set_9 rfl (lv_at hl 0 rfl) ?_
      refine r_get S hK hP (by decide) rfl rfl h_X1_set_X1 0 (by decide) k_X1_set_1 rfl dX1_set_10 ?_
      refine lv_iload_n S.1 S.2.1 dX1_set_13 rfl (lv_at hl 1 rfl) ?_
      refine lv_iload_n S.1 S.2.1 dX1_set_14 rfl (lv_at hl 2 rfl) ?_
      obtain ⟨g3, hf⟩ := gd_some hf
      obtain ⟨σ4, hσ4, hf⟩ := nm_some hf
      refine r_iast S hK hP hO hS (by decide) (n := 3) (fun _ => rfl) (by decide) g3 hσ4 dX1_set_15 (fun H locs hP hS => ?_)
      have e1 := Option.some.inj hf
      subst e1
      exact e_V S hlk hP hS hr dX1_set_16
def rm_X9_forgetBest : Room := { frames := 0, cells := 0, slots := 0, locals := 0 }
theorem k_X9_forgetBest_1 : (.fieldLink RX9 9 "MendTexts$Search" "nameSought" "I" : Cond) ∈ wsX9_forgetBest := List.mem_of_getElem? (i := 1) (by decide +kernel)
theorem h_X9_forgetBest_X9 : ∀ w ∈ u_ws RX9 TX9 6, w ∈ wsX9_forgetBest := mem_places _ [2, 3, 4, 5, 6, 7] (by decide +kernel)
set_option maxHeartbeats 4000000 in
set_option maxRecDepth 100000 in
theorem c_X9_forgetBest (l : Launch) (D : va_G) (cy : Nat → ClassId) (ad : Nat → Nat) (hO : adOK 39 ad) (σ : Mem) {τ : Mem} (hf : f_X9_forgetBest σ = some τ) : Met l yX9_forgetBest wsX9_forgetBest rm_X9_forgetBest (va_Pc [.ref (ad 38)] (PreW D cy 39 (cellC cy ad) ad σ)) (QV D 39 (cellC cy ad) ad τ) 0 0 (AC 39 ad) := by
  refine r_met (cc := cX9_forgetBest) (maxL := 1) (ret := none) (own := RX9) (by decide) rfl rfl [.ref (ad 38)] (Nat.le_of_ble_eq_true rfl) ?_
  intro p e s m below meth c ls S hK hP hlk hr hl
  have hS : va_S (AC 39 ad) s.heap s.heap [] := va_S.rf
  have hl : lv_has ls 1 [(0, .ref (ad 38))] := hl
  unfold f_X9_forgetBest at hf
  refine lv_aload_n S.1 S.2.1 dX9_forgetBest_0 rfl (lv_at hl 0 rfl) ?_
  refine r_iconst S dX9_forgetBest_1 ?_
  obtain ⟨σ1, hσ1, hf⟩ := nm_some hf
  refine r_put S hK hP hO hS (by decide) rfl rfl h_X9_forgetBest_X9 tyX9 tyX9_ok nmX9 3 (by decide) k_X9_forgetBest_1 rfl (tyX9_ok 3 (by decide)) rfl rfl (Nat.le_of_ble_eq_true rfl) hσ1 rfl dX9_forgetBest_2 (fun H locs hP hS => ?_)
  have e1 := Option.some.inj hf
  subst e1
  exact e_V S hlk hP hS hr dX9_forgetBest_5
def rm_X11_forgetAnswers : Room := { frames := 1, cells := 0, slots := 0, locals := 20 }
theorem k_X11_forgetAnswers_1 : (.fieldLink RX11 91 "MendTexts" "chartIsOfWord" "Z" : Cond) ∈ wsX11_forgetAnswers := List.mem_of_getElem? (i := 1) (by decide +kernel)
theorem k_X11_forgetAnswers_2 : (.fieldLink RX11 87 "MendTexts" "search" "LMendTexts$Search;" : Cond) ∈ wsX11_forgetAnswers := List.mem_of_getElem? (i := 2) (by decide +kernel)
theorem h_X11_forgetAnswers_X11 : ∀ w ∈ u_ws RX11 TX11 13, w ∈ wsX11_forgetAnswers := mem_places _ [9, 10, 11, 12, 13, 14, 15, 16, 17, 18, 19, 20, 21] (by decide +kernel)
theorem cw_X11_forgetAnswers_X9_forgetBest {s : State} {args : Array Value} (hts : ∀ w ∈ wsX11_forgetAnswers, w.before args s = true) : CallW rm_X11_forgetAnswers s args RX11 RX9 226 yX9_forgetBest cX9_forgetBest 1 none wsX9_forgetBest rm_X9_forgetBest 0 0 0 := cwV 0 hts gX11_forgetAnswers_X9_forgetBest rfl rfl rfl (by decide +kernel) ⟨Nat.le_of_ble_eq_true rfl, Nat.le_of_ble_eq_true rfl⟩
set_option maxHeartbeats 4000000 in
set_option maxRecDepth 100000 in
theorem c_X11_forgetAnswers (l : Launch) (D : va_G) (cy : Nat → ClassId) (ad : Nat → Nat) (hO : adOK 39 ad) (σ : Mem) {τ : Mem} (hf : f_X11_forgetAnswers σ = some τ) : Met l yX11_forgetAnswers wsX11_forgetAnswers rm_X11_forgetAnswers (va_Pc [.ref (ad 0)] (PreW D cy 39 (cellC cy ad) ad σ)) (QV D 39 (cellC cy ad) ad τ) 0 0 (AC 39 ad) := by
  refine r_met (cc := cX11_forgetAnswers) (maxL := 1) (ret := none) (own := RX11) (by decide) rfl rfl [.ref (ad 0)] (Nat.le_of_ble_eq_true rfl) ?_
  intro p e s m below meth c ls S hK hP hlk hr hl
  have hS : va_S (AC 39 ad) s.heap s.heap [] := va_S.rf
  have hl : lv_has ls 1 [(0, .ref (ad 0))] := hl
  unfold f_X11_forgetAnswers at hf
  refine lv_aload_n S.1 S.2.1 dX11_forgetAnswers_0 rfl (lv_at hl 0 rfl) ?_
  refine r_iconst S dX11_forgetAnswers_1 ?_
  obtain ⟨σ1, hσ1, hf⟩ := nm_some hf
  refine r_put S hK hP hO hS (by decide) rfl rfl h_X11_forgetAnswers_X11 tyX11 tyX11_ok nmX11 12 (by decide) k_X11_forgetAnswers_1 rfl (tyX11_ok 12 (by decide)) (by decide) (by decide) (Nat.le_of_ble_eq_true rfl) hσ1 rfl dX11_forgetAnswers_2 (fun H locs hP hS => ?_)
  refine lv_aload_n S.1 S.2.1 dX11_forgetAnswers_5 rfl (lv_at hl 0 rfl) ?_
  refine r_get S hK hP (by decide) rfl rfl h_X11_forgetAnswers_X11 11 (by decide) k_X11_forgetAnswers_2 rfl dX11_forgetAnswers_6 ?_
  obtain ⟨σ3, hq2, hf⟩ := bV_some hf
  refine r_callVV S hK hP hS (by decide) rfl rfl [] (c_X9_forgetBest l D cy ad hO σ1 hq2) (cw_X11_forgetAnswers_X9_forgetBest S.2.2.2.2) rfl hl.1 (rest := []) rfl (Nat.le_of_ble_eq_true rfl) dX11_forgetAnswers_9 ⟨Nat.zero_le _, Nat.zero_le _⟩ (fun H locs hP hS => ?_)
  have e1 := Option.some.inj hf
  subst e1
  exact e_V S hlk hP hS hr dX11_forgetAnswers_12
def rm_X11_cost : Room := { frames := 2, cells := 0, slots := 0, locals := 40 }
theorem k_X11_cost_1 : (.fieldLink RX11 29 "MendTexts" "costs" "LMendTexts$Costs;" : Cond) ∈ wsX11_cost := List.mem_of_getElem? (i := 1) (by decide +kernel)
theorem h_X11_cost_X11 : ∀ w ∈ u_ws RX11 TX11 13, w ∈ wsX11_cost := mem_places _ [25, 26, 27, 28, 29, 30, 31, 32, 33, 34, 35, 36, 37] (by decide +kernel)
theorem cw_X11_cost_X11_forgetAnswers {s : State} {args : Array Value} (hts : ∀ w ∈ wsX11_cost, w.before args s = true) : CallW rm_X11_cost s args RX11 RX11 113 yX11_forgetAnswers cX11_forgetAnswers 1 none wsX11_forgetAnswers rm_X11_forgetAnswers 0 0 0 := cwV 0 hts gX11_cost_X11_forgetAnswers rfl rfl rfl (by decide +kernel) ⟨Nat.le_of_ble_eq_true rfl, Nat.le_of_ble_eq_true rfl⟩
theorem cw_X11_cost_X1_of {s : State} {args : Array Value} (hts : ∀ w ∈ wsX11_cost, w.before args s = true) : CallW rm_X11_cost s args RX11 RX1 181 yX1_of cX1_of 2 (some .int) wsX1_of rm_X1_of 0 0 1 := cwV 1 hts gX11_cost_X1_of rfl rfl rfl (by decide +kernel) ⟨Nat.le_of_ble_eq_true rfl, Nat.le_of_ble_eq_true rfl⟩
theorem cw_X11_cost_X1_set {s : State} {args : Array Value} (hts : ∀ w ∈ wsX11_cost, w.before args s = true) : CallW rm_X11_cost s args RX11 RX1 184 yX1_set cX1_set 3 none wsX1_set rm_X1_set 0 0 2 := cwV 2 hts gX11_cost_X1_set rfl rfl rfl (by decide +kernel) ⟨Nat.le_of_ble_eq_true rfl, Nat.le_of_ble_eq_true rfl⟩
set_option maxHeartbeats 4000000 in
set_option maxRecDepth 100000 in
theorem c_X11_cost (l : Launch) (D : va_G) (cy : Nat → ClassId) (ad : Nat → Nat) (hO : adOK 39 ad) (a0 : Int) (a1 : Int) (σ : Mem) {v : Int} {τ : Mem} (hf : f_X11_cost a0 a1 σ = some (v, τ)) : Met l yX11_cost wsX11_cost rm_X11_cost (va_Pc [.ref (ad 0), .int (zI a0), .int (zI a1)] (PreW D cy 39 (cellC cy ad) ad σ)) (QI D 39 (cellC cy ad) ad v τ) 0 0 (AC 39 ad) := by
  refine r_met (cc := cX11_cost) (maxL := 4) (ret := (some .int)) (own := RX11) (by decide) rfl rfl [.ref (ad 0), .int (zI a0), .int (zI a1)] (Nat.le_of_ble_eq_true rfl) ?_
  intro p e s m below meth c ls S hK hP hlk hr hl
  have hS : va_S (AC 39 ad) s.heap s.heap [] := va_S.rf
  have hl : lv_has ls 4 [(0, .ref (ad 0)), (1, .int (zI a0)), (2, .int (zI a1))] := hl
  unfold f_X11_cost at hf
  refine lv_iload_n S.1 S.2.1 dX11_cost_0 rfl (lv_at hl 1 rfl) ?_
  refine r_if_lt (tgt := 20) S dX11_cost_1 (by decide) (fun c1 => ?_) (fun c1 => ?_)
  · have hf := (if_pos c1).symm.trans hf
    refine r_bipush S dX11_cost_20 (by decide) ?_
    obtain ⟨e1, e2⟩ := inj2 hf
    subst e1
    subst e2
    exact e_I S hlk hP hS hr dX11_cost_22
  · have hf := (if_neg c1).symm.trans hf
    refine lv_iload_n S.1 S.2.1 dX11_cost_4 rfl (lv_at hl 1 rfl) ?_
    refine r_iconst S dX11_cost_5 ?_
    refine lv_icmp_ge (tgt := 20) S.1 S.2.1 dX11_cost_6 (by decide) (fun c2 => ?_) (fun c2 => ?_)
    · have hf := (if_pos c2).symm.trans hf
      refine r_bipush S dX11_cost_20 (by decide) ?_
      obtain ⟨e1, e2⟩ := inj2 hf
      subst e1
      subst e2
      exact e_I S hlk hP hS hr dX11_cost_22
    · have hf := (if_neg c2).symm.trans hf
      refine lv_iload_n S.1 S.2.1 dX11_cost_9 rfl (lv_at hl 2 rfl) ?_
      refine r_iconst S dX11_cost_10 ?_
      refine lv_icmp_lt (tgt := 20) S.1 S.2.1 dX11_cost_11 (by decide) (fun c3 => ?_) (fun c3 => ?_)
      · have hf := (if_pos c3).symm.trans hf
        refine r_bipush S dX11_cost_20 (by decide) ?_
        obtain ⟨e1, e2⟩ := inj2 hf
        subst e1
        subst e2
        exact e_I S hlk hP hS hr dX11_cost_22
      · have hf := (if_neg c3).symm.trans hf
        refine lv_iload_n S.1 S.2.1 dX11_cost_14 rfl (lv_at hl 2 rfl) ?_
        refine r_bipush S dX11_cost_15 (by decide) ?_
        refine lv_icmp_le (tgt := 23) S.1 S.2.1 dX11_cost_17 (by decide) (fun c4 => ?_) (fun c4 => ?_)
        · have hf := (if_pos c4).symm.trans hf
          refine lv_aload_n S.1 S.2.1 dX11_cost_23 rfl (lv_at hl 0 rfl) ?_
          refine r_get S hK hP (by decide) rfl rfl h_X11_cost_X11 3 (by decide) k_X11_cost_1 rfl dX11_cost_24 ?_
          refine lv_iload_n S.1 S.2.1 dX11_cost_27 rfl (lv_at hl 1 rfl) ?_
          obtain ⟨y6, hq5, hf⟩ := bV_some hf
          refine r_callVI S hK hP hS (by decide) rfl rfl [.int (zI a0)] (c_X1_of l D cy ad hO a0 σ hq5) (cw_X11_cost_X1_of S.2.2.2.2) rfl hl.1 (rest := []) rfl (Nat.le_of_ble_eq_true rfl) dX11_cost_28 ⟨Nat.zero_le _, Nat.zero_le _⟩ (fun H locs hP hS => ?_)
          refine r_istore_n S rfl (lv2 := [(3, .int (zI y6)), (0, .ref (ad 0)), (1, .int (zI a0)), (2, .int (zI a1))]) dX11_cost_31 rfl hl (by decide) rfl (fun ls hl => ?_)
          refine lv_aload_n S.1 S.2.1 dX11_cost_32 rfl (lv_at hl 1 rfl) ?_
          refine r_get S hK hP (by decide) rfl rfl h_X11_cost_X11 3 (by decide) k_X11_cost_1 rfl dX11_cost_33 ?_
          refine lv_iload_n S.1 S.2.1 dX11_cost_36 rfl (lv_at hl 2 rfl) ?_
          refine lv_iload_n S.1 S.2.1 dX11_cost_37 rfl (lv_at hl 3 rfl) ?_
          obtain ⟨σ8, hq7, hf⟩ := bV_some hf
          refine r_callVV S hK hP hS (by decide) rfl rfl [.int (zI a0), .int (zI a1)] (c_X1_set l D cy ad hO a0 a1 σ hq7) (cw_X11_cost_X1_set S.2.2.2.2) rfl hl.1 (rest := []) rfl (Nat.le_of_ble_eq_true rfl) dX11_cost_38 ⟨Nat.zero_le _, Nat.zero_le _⟩ (fun H locs hP hS => ?_)
          refine lv_aload_n S.1 S.2.1 dX11_cost_41 rfl (lv_at hl 1 rfl) ?_
          obtain ⟨σ10, hq9, hf⟩ := bV_some hf
          refine r_callVV S hK hP hS (by decide) rfl rfl [] (c_X11_forgetAnswers l D cy ad hO σ8 hq9) (cw_X11_cost_X11_forgetAnswers S.2.2.2.2) rfl hl.1 (rest := []) rfl (Nat.le_of_ble_eq_true rfl) dX11_cost_42 ⟨Nat.zero_le _, Nat.zero_le _⟩ (fun H locs hP hS => ?_)
          refine lv_iload_n S.1 S.2.1 dX11_cost_45 rfl (lv_at hl 0 rfl) ?_
          obtain ⟨e1, e2⟩ := inj2 hf
          subst e1
          subst e2
          exact e_I S hlk hP hS hr dX11_cost_46
        · have hf := (if_neg c4).symm.trans hf
          refine r_bipush S dX11_cost_20 (by decide) ?_
          obtain ⟨e1, e2⟩ := inj2 hf
          subst e1
          subst e2
          exact e_I S hlk hP hS hr dX11_cost_22
def rm_X2_has : Room := { frames := 0, cells := 0, slots := 0, locals := 0 }
theorem k_X2_has_1 : (.fieldLink RX2 24 "MendTexts$Examples" "count" "I" : Cond) ∈ wsX2_has := List.mem_of_getElem? (i := 1) (by decide +kernel)
theorem h_X2_has_X2 : ∀ w ∈ u_ws RX2 TX2 3, w ∈ wsX2_has := mem_places _ [2, 3, 4] (by decide +kernel)
set_option maxHeartbeats 4000000 in
set_option maxRecDepth 100000 in
theorem c_X2_has (l : Launch) (D : va_G) (cy : Nat → ClassId) (ad : Nat → Nat) (hO : adOK 39 ad) (a0 : Int) (σ : Mem) {v : Int} (hf : f_X2_has a0 σ = some v) : Met l yX2_has wsX2_has rm_X2_has (va_Pc [.ref (ad 25), .int (zI a0)] (PreW D cy 39 (cellC cy ad) ad σ)) (QI D 39 (cellC cy ad) ad v σ) 0 0 (AC 39 ad) := by
  refine r_met (cc := cX2_has) (maxL := 2) (ret := (some .boolean)) (own := RX2) (by decide) rfl rfl [.ref (ad 25), .int (zI a0)] (Nat.le_of_ble_eq_true rfl) ?_
  intro p e s m below meth c ls S hK hP hlk hr hl
  have hS : va_S (AC 39 ad) s.heap s.heap [] := va_S.rf
  have hl : lv_has ls 2 [(0, .ref (ad 25)), (1, .int (zI a0))] := hl
  unfold f_X2_has at hf
  refine lv_iload_n S.1 S.2.1 dX2_has_0 rfl (lv_at hl 1 rfl) ?_
  refine r_if_lt (tgt := 21) S dX2_has_1 (by decide) (fun c1 => ?_) (fun c1 => ?_)
  · have hf := (if_pos c1).symm.trans hf
    refine r_iconst S dX2_has_21 ?_
    have e1 := Option.some.inj hf
    subst e1
    exact e_Z S hlk hP hS (Or.inl rfl) hr dX2_has_22
  · have hf := (if_neg c1).symm.trans hf
    refine lv_iload_n S.1 S.2.1 dX2_has_4 rfl (lv_at hl 1 rfl) ?_
    refine lv_aload_n S.1 S.2.1 dX2_has_5 rfl (lv_at hl 0 rfl) ?_
    refine r_get S hK hP (by decide) rfl rfl h_X2_has_X2 2 (by decide) k_X2_has_1 rfl dX2_has_6 ?_
    refine lv_icmp_ge (tgt := 21) S.1 S.2.1 dX2_has_9 (by decide) (fun c2 => ?_) (fun c2 => ?_)
    · have hf := (if_pos c2).symm.trans hf
      refine r_iconst S dX2_has_21 ?_
      have e1 := Option.some.inj hf
      subst e1
      exact e_Z S hlk hP hS (Or.inl rfl) hr dX2_has_22
    · have hf := (if_neg c2).symm.trans hf
      refine lv_iload_n S.1 S.2.1 dX2_has_12 rfl (lv_at hl 1 rfl) ?_
      refine r_iconst S dX2_has_13 ?_
      refine lv_icmp_ge (tgt := 21) S.1 S.2.1 dX2_has_14 (by decide) (fun c3 => ?_) (fun c3 => ?_)
      · have hf := (if_pos c3).symm.trans hf
        refine r_iconst S dX2_has_21 ?_
        have e1 := Option.some.inj hf
        subst e1
        exact e_Z S hlk hP hS (Or.inl rfl) hr dX2_has_22
      · have hf := (if_neg c3).symm.trans hf
        refine r_iconst S dX2_has_17 ?_
        refine lv_goto (tgt := 22) S.1 S.2.1 dX2_has_18 (by decide) ?_
        have e1 := Option.some.inj hf
        subst e1
        exact e_Z S hlk hP hS (Or.inr rfl) hr dX2_has_22
def rm_X2_at : Room := { frames := 1, cells := 0, slots := 0, locals := 21 }
theorem k_X2_at_1 : (.fieldLink RX2 11 "MendTexts$Examples" "words" "[LMendTexts$Word;" : Cond) ∈ wsX2_at := List.mem_of_getElem? (i := 1) (by decide +kernel)
theorem k_X2_at_2 : (.fieldLink RX2 20 "MendTexts$Examples" "empty" "LMendTexts$Word;" : Cond) ∈ wsX2_at := List.mem_of_getElem? (i := 2) (by decide +kernel)
theorem h_X2_at_X2 : ∀ w ∈ u_ws RX2 TX2 3, w ∈ wsX2_at := mem_places _ [9, 10, 11] (by decide +kernel)
theorem cw_X2_at_X2_has {s : State} {args : Array Value} (hts : ∀ w ∈ wsX2_at, w.before args s = true) : CallW rm_X2_at s args RX2 RX2 36 yX2_has cX2_has 2 (some .boolean) wsX2_has rm_X2_has 0 0 1 := cwV 1 hts gX2_at_X2_has rfl rfl rfl (by decide +kernel) ⟨Nat.le_of_ble_eq_true rfl, Nat.le_of_ble_eq_true rfl⟩
set_option maxHeartbeats 4000000 in
set_option maxRecDepth 100000 in
theorem c_X2_at (l : Launch) (D : va_G) (cy : Nat → ClassId) (ad : Nat → Nat) (hO : adOK 39 ad) (a0 : Int) (σ : Mem) {v : Nat} (hf : f_X2_at a0 σ = some v) : Met l yX2_at wsX2_at rm_X2_at (va_Pc [.ref (ad 25), .int (zI a0)] (PreW D cy 39 (cellC cy ad) ad σ)) (QR D 39 (cellC cy ad) ad v σ) 0 0 (AC 39 ad) := by
  refine r_met (cc := cX2_at) (maxL := 2) (ret := (some (.object "MendTexts$Word"))) (own := RX2) (by decide) rfl rfl [.ref (ad 25), .int (zI a0)] (Nat.le_of_ble_eq_true rfl) ?_
  intro p e s m below meth c ls S hK hP hlk hr hl
  have hS : va_S (AC 39 ad) s.heap s.heap [] := va_S.rf
  have hl : lv_has ls 2 [(0, .ref (ad 25)), (1, .int (zI a0))] := hl
  unfold f_X2_at at hf
  refine lv_aload_n S.1 S.2.1 dX2_at_0 rfl (lv_at hl 0 rfl) ?_
  refine lv_iload_n S.1 S.2.1 dX2_at_1 rfl (lv_at hl 1 rfl) ?_
  obtain ⟨y2, hq1, hf⟩ := bV_some hf
  refine r_callVI S hK hP hS (by decide) rfl rfl [.int (zI a0)] (c_X2_has l D cy ad hO a0 σ hq1) (cw_X2_at_X2_has S.2.2.2.2) rfl hl.1 (rest := []) rfl (Nat.le_of_ble_eq_true rfl) dX2_at_2 ⟨Nat.zero_le _, Nat.zero_le _⟩ (fun H locs hP hS => ?_)
  refine r_if_eq (tgt := 26) S dX2_at_5 (by decide) (fun c3 => ?_) (fun c3 => ?_)
  · have hf := (if_pos c3).symm.trans hf
    refine lv_aload_n S.1 S.2.1 dX2_at_26 rfl (lv_at hl 0 rfl) ?_
    refine r_get S hK hP (by decide) rfl rfl h_X2_at_X2 1 (by decide) k_X2_at_2 rfl dX2_at_27 ?_
    have e1 := Option.some.inj hf
    subst e1
    exact e_R S hlk hP hS hr dX2_at_30
  · have hf := (if_neg c3).symm.trans hf
    refine lv_aload_n S.1 S.2.1 dX2_at_8 rfl (lv_at hl 0 rfl) ?_
    refine r_get S hK hP (by decide) rfl rfl h_X2_at_X2 0 (by decide) k_X2_at_1 rfl dX2_at_9 ?_
    refine lv_iload_n S.1 S.2.1 dX2_at_12 rfl (lv_at hl 1 rfl) ?_
    obtain ⟨g4, hf⟩ := gd_some hf
    refine r_aald S hK hP (by decide) (n := 3) (fun _ => rfl) (by decide) g4 dX2_at_13 ?_
    obtain ⟨hw5, hf⟩ := gd_some hf
    refine lv_ifnull S.1 S.2.1 dX2_at_14 ?_
    refine lv_aload_n S.1 S.2.1 dX2_at_17 rfl (lv_at hl 0 rfl) ?_
    refine r_get S hK hP (by decide) rfl rfl h_X2_at_X2 0 (by decide) k_X2_at_1 rfl dX2_at_18 ?_
    refine lv_iload_n S.1 S.2.1 dX2_at_21 rfl (lv_at hl 1 rfl) ?_
    refine r_aald S hK hP (by decide) (n := 3) (fun _ => rfl) (by decide) g4 dX2_at_22 ?_
    refine lv_goto (tgt := 30) S.1 S.2.1 dX2_at_23 (by decide) ?_
    have e1 := Option.some.inj hf
    subst e1
    exact e_R S hlk hP hS hr dX2_at_30
def rm_X2_add : Room := { frames := 2, cells := 0, slots := 0, locals := 43 }
theorem k_X2_add_1 : (.fieldLink RX2 24 "MendTexts$Examples" "count" "I" : Cond) ∈ wsX2_add := List.mem_of_getElem? (i := 1) (by decide +kernel)
theorem h_X2_add_X2 : ∀ w ∈ u_ws RX2 TX2 3, w ∈ wsX2_add := mem_places _ [32, 33, 34] (by decide +kernel)
theorem cw_X2_add_X10_copy {s : State} {args : Array Value} (hts : ∀ w ∈ wsX2_add, w.before args s = true) : CallW rm_X2_add s args RX2 RX10 32 yX10_copy cX10_copy 3 none wsX10_copy rm_X10_copy 0 0 1 := cwV 1 hts gX2_add_X10_copy rfl rfl rfl (by decide +kernel) ⟨Nat.le_of_ble_eq_true rfl, Nat.le_of_ble_eq_true rfl⟩
theorem cw_X2_add_X2_at {s : State} {args : Array Value} (hts : ∀ w ∈ wsX2_add, w.before args s = true) : CallW rm_X2_add s args RX2 RX2 28 yX2_at cX2_at 2 (some (.object "MendTexts$Word")) wsX2_at rm_X2_at 0 0 1 := cwV 1 hts gX2_add_X2_at rfl rfl rfl (by decide +kernel) ⟨Nat.le_of_ble_eq_true rfl, Nat.le_of_ble_eq_true rfl⟩
set_option maxHeartbeats 4000000 in
set_option maxRecDepth 100000 in
theorem c_X2_add (l : Launch) (D : va_G) (cy : Nat → ClassId) (ad : Nat → Nat) (hO : adOK 39 ad) (n : Nat) (w0 : Nat) (hw0 : isW w0) (σ : Mem) {v : Int} {τ : Mem} (hf : f_X2_add n w0 σ = some (v, τ)) : Met l yX2_add wsX2_add rm_X2_add (va_Pc [.ref (ad 25), .ref (ad w0)] (PreW D cy 39 (cellC cy ad) ad σ)) (QI D 39 (cellC cy ad) ad v τ) 0 0 (AC 39 ad) := by
  refine r_met (cc := cX2_add) (maxL := 2) (ret := (some .boolean)) (own := RX2) (by decide) rfl rfl [.ref (ad 25), .ref (ad w0)] (Nat.le_of_ble_eq_true rfl) ?_
  intro p e s m below meth c ls S hK hP hlk hr hl
  have hS : va_S (AC 39 ad) s.heap s.heap [] := va_S.rf
  have hl : lv_has ls 2 [(0, .ref (ad 25)), (1, .ref (ad w0))] := hl
  unfold f_X2_add at hf
  refine lv_aload_n S.1 S.2.1 dX2_add_0 rfl (lv_at hl 0 rfl) ?_
  refine r_get S hK hP (by decide) rfl rfl h_X2_add_X2 2 (by decide) k_X2_add_1 rfl dX2_add_1 ?_
  refine r_iconst S dX2_add_4 ?_
  refine lv_icmp_lt (tgt := 10) S.1 S.2.1 dX2_add_5 (by decide) (fun c1 => ?_) (fun c1 => ?_)
  · have hf := (if_pos c1).symm.trans hf
    refine lv_aload_n S.1 S.2.1 dX2_add_10 rfl (lv_at hl 0 rfl) ?_
    refine lv_dup S.1 S.2.1 dX2_add_11 rfl ?_
    refine r_get S hK hP (by decide) rfl rfl h_X2_add_X2 2 (by decide) k_X2_add_1 rfl dX2_add_12 ?_
    refine r_iconst S dX2_add_15 ?_
    refine r_iadd S dX2_add_16 ?_
    obtain ⟨σ2, hσ2, hf⟩ := nm_some hf
    refine r_put S hK hP hO hS (by decide) rfl rfl h_X2_add_X2 tyX2 tyX2_ok nmX2 2 (by decide) k_X2_add_1 rfl (tyX2_ok 2 (by decide)) rfl rfl (Nat.le_of_ble_eq_true rfl) hσ2 rfl dX2_add_17 (fun H locs hP hS => ?_)
    refine lv_aload_n S.1 S.2.1 dX2_add_20 rfl (lv_at hl 0 rfl) ?_
    refine lv_aload_n S.1 S.2.1 dX2_add_21 rfl (lv_at hl 0 rfl) ?_
    refine r_get S hK hP (by decide) rfl rfl h_X2_add_X2 2 (by decide) k_X2_add_1 rfl dX2_add_22 ?_
    refine r_iconst S dX2_add_25 ?_
    refine r_isub S dX2_add_26 ?_
    obtain ⟨w4, hq3, hf⟩ := bV_some hf
    refine r_callVR S hK hP hS (by decide) rfl rfl [.int (zI ((σ2 25 2) - 1))] (c_X2_at l D cy ad hO ((σ2 25 2) - 1) σ2 hq3) (cw_X2_add_X2_at S.2.2.2.2) rfl hl.1 (rest := []) rfl (Nat.le_of_ble_eq_true rfl) dX2_add_27 ⟨Nat.zero_le _, Nat.zero_le _⟩ (fun H locs hP hS => ?_)
    obtain ⟨hw5, hf⟩ := gd_some hf
    refine lv_aload_n S.1 S.2.1 dX2_add_30 rfl (lv_at hl 1 rfl) ?_
    obtain ⟨σ7, hq6, hf⟩ := bV_some hf
    refine r_callVV S hK hP hS (ltW hw5) (cellW cy ad hw5 _) rfl [.ref (ad w0)] (c_X10_copy l D cy ad hO n w4 hw5 w0 hw0 σ2 hq6) (cw_X2_add_X10_copy S.2.2.2.2) rfl hl.1 (rest := []) rfl (Nat.le_of_ble_eq_true rfl) dX2_add_31 ⟨Nat.zero_le _, Nat.zero_le _⟩ (fun H locs hP hS => ?_)
    refine r_iconst S dX2_add_34 ?_
    obtain ⟨e1, e2⟩ := inj2 hf
    subst e1
    subst e2
    exact e_Z S hlk hP hS (Or.inr rfl) hr dX2_add_35
  · have hf := (if_neg c1).symm.trans hf
    refine r_iconst S dX2_add_8 ?_
    obtain ⟨e1, e2⟩ := inj2 hf
    subst e1
    subst e2
    exact e_Z S hlk hP hS (Or.inl rfl) hr dX2_add_9
def rm_X11_example : Room := { frames := 3, cells := 0, slots := 0, locals := 64 }
theorem k_X11_example_1 : (.fieldLink RX11 48 "MendTexts" "examples" "LMendTexts$Examples;" : Cond) ∈ wsX11_example := List.mem_of_getElem? (i := 1) (by decide +kernel)
theorem k_X11_example_2 : (.fieldLink RX11 38 "MendTexts" "typed" "LMendTexts$Word;" : Cond) ∈ wsX11_example := List.mem_of_getElem? (i := 2) (by decide +kernel)
theorem k_X11_example_3 : (.fieldLink RX11 87 "MendTexts" "search" "LMendTexts$Search;" : Cond) ∈ wsX11_example := List.mem_of_getElem? (i := 3) (by decide +kernel)
theorem k_X11_example_4 : (.fieldLink RX11 229 "MendTexts$Examples" "count" "I" : Cond) ∈ wsX11_example := List.mem_of_getElem? (i := 4) (by decide +kernel)
theorem h_X11_example_X11 : ∀ w ∈ u_ws RX11 TX11 13, w ∈ wsX11_example := mem_places _ [46, 47, 48, 49, 50, 51, 52, 53, 54, 55, 56, 57, 58] (by decide +kernel)
theorem h_X11_example_X2 : ∀ w ∈ u_ws RX2 TX2 3, w ∈ wsX11_example := mem_places _ [59, 60, 61] (by decide +kernel)
theorem cw_X11_example_X2_add {s : State} {args : Array Value} (hts : ∀ w ∈ wsX11_example, w.before args s = true) : CallW rm_X11_example s args RX11 RX2 223 yX2_add cX2_add 2 (some .boolean) wsX2_add rm_X2_add 0 0 1 := cwV 1 hts gX11_example_X2_add rfl rfl rfl (by decide +kernel) ⟨Nat.le_of_ble_eq_true rfl, Nat.le_of_ble_eq_true rfl⟩
theorem cw_X11_example_X9_forgetBest {s : State} {args : Array Value} (hts : ∀ w ∈ wsX11_example, w.before args s = true) : CallW rm_X11_example s args RX11 RX9 226 yX9_forgetBest cX9_forgetBest 1 none wsX9_forgetBest rm_X9_forgetBest 0 0 0 := cwV 0 hts gX11_example_X9_forgetBest rfl rfl rfl (by decide +kernel) ⟨Nat.le_of_ble_eq_true rfl, Nat.le_of_ble_eq_true rfl⟩
set_option maxHeartbeats 4000000 in
set_option maxRecDepth 100000 in
theorem c_X11_example (l : Launch) (D : va_G) (cy : Nat → ClassId) (ad : Nat → Nat) (hO : adOK 39 ad) (n : Nat) (σ : Mem) {v : Int} {τ : Mem} (hf : f_X11_example n σ = some (v, τ)) : Met l yX11_example wsX11_example rm_X11_example (va_Pc [.ref (ad 0)] (PreW D cy 39 (cellC cy ad) ad σ)) (QI D 39 (cellC cy ad) ad v τ) 0 0 (AC 39 ad) := by
  refine r_met (cc := cX11_example) (maxL := 1) (ret := (some .int)) (own := RX11) (by decide) rfl rfl [.ref (ad 0)] (Nat.le_of_ble_eq_true rfl) ?_
  intro p e s m below meth c ls S hK hP hlk hr hl
  have hS : va_S (AC 39 ad) s.heap s.heap [] := va_S.rf
  have hl : lv_has ls 1 [(0, .ref (ad 0))] := hl
  unfold f_X11_example at hf
  refine lv_aload_n S.1 S.2.1 dX11_example_0 rfl (lv_at hl 0 rfl) ?_
  refine r_get S hK hP (by decide) rfl rfl h_X11_example_X11 6 (by decide) k_X11_example_1 rfl dX11_example_1 ?_
  refine lv_aload_n S.1 S.2.1 dX11_example_4 rfl (lv_at hl 0 rfl) ?_
  refine r_get S hK hP (by decide) rfl rfl h_X11_example_X11 4 (by decide) k_X11_example_2 rfl dX11_example_5 ?_
  obtain ⟨y3, σ2, hq1, hf⟩ := bL1_some hf
  refine r_callVI S hK hP hS (by decide) rfl rfl [.ref (ad 13)] (c_X2_add l D cy ad hO n 13 (by decide) σ hq1) (cw_X11_example_X2_add S.2.2.2.2) rfl hl.1 (rest := []) rfl (Nat.le_of_ble_eq_true rfl) dX11_example_8 ⟨Nat.zero_le _, Nat.zero_le _⟩ (fun H locs hP hS => ?_)
  refine r_if_ne (tgt := 17) S dX11_example_11 (by decide) (fun c4 => ?_) (fun c4 => ?_)
  · have hf := (if_neg c4).symm.trans hf
    refine lv_aload_n S.1 S.2.1 dX11_example_17 rfl (lv_at hl 0 rfl) ?_
    refine r_get S hK hP (by decide) rfl rfl h_X11_example_X11 11 (by decide) k_X11_example_3 rfl dX11_example_18 ?_
    obtain ⟨σ6, hq5, hf⟩ := bV_some hf
    refine r_callVV S hK hP hS (by decide) rfl rfl [] (c_X9_forgetBest l D cy ad hO σ2 hq5) (cw_X11_example_X9_forgetBest S.2.2.2.2) rfl hl.1 (rest := []) rfl (Nat.le_of_ble_eq_true rfl) dX11_example_21 ⟨Nat.zero_le _, Nat.zero_le _⟩ (fun H locs hP hS => ?_)
    refine lv_aload_n S.1 S.2.1 dX11_example_24 rfl (lv_at hl 0 rfl) ?_
    refine r_get S hK hP (by decide) rfl rfl h_X11_example_X11 6 (by decide) k_X11_example_1 rfl dX11_example_25 ?_
    refine r_get S hK hP (by decide) rfl rfl h_X11_example_X2 2 (by decide) k_X11_example_4 rfl dX11_example_28 ?_
    refine r_iconst S dX11_example_31 ?_
    refine r_isub S dX11_example_32 ?_
    obtain ⟨e1, e2⟩ := inj2 hf
    subst e1
    subst e2
    exact e_I S hlk hP hS hr dX11_example_33
  · have hf := (if_pos c4).symm.trans hf
    refine r_bipush S dX11_example_14 (by decide) ?_
    obtain ⟨e1, e2⟩ := inj2 hf
    subst e1
    subst e2
    exact e_I S hlk hP hS hr dX11_example_16
def rm_X4_clear : Room := { frames := 1, cells := 0, slots := 0, locals := 23 }
theorem k_X4_clear_1 : (.fieldLink RX4 11 "MendTexts$Grammar" "counts" "[I" : Cond) ∈ wsX4_clear := List.mem_of_getElem? (i := 1) (by decide +kernel)
theorem k_X4_clear_2 : (.fieldLink RX4 21 "MendTexts$Grammar" "namesTold" "I" : Cond) ∈ wsX4_clear := List.mem_of_getElem? (i := 2) (by decide +kernel)
theorem k_X4_clear_3 : (.fieldLink RX4 25 "MendTexts$Grammar" "start" "I" : Cond) ∈ wsX4_clear := List.mem_of_getElem? (i := 3) (by decide +kernel)
theorem k_X4_clear_4 : (.fieldLink RX4 28 "MendTexts$Grammar" "last" "I" : Cond) ∈ wsX4_clear := List.mem_of_getElem? (i := 4) (by decide +kernel)
theorem h_X4_clear_X4 : ∀ w ∈ u_ws RX4 TX4 7, w ∈ wsX4_clear := mem_places _ [9, 10, 11, 12, 13, 14, 15] (by decide +kernel)
theorem cw_X4_clear_J7_fill_53178 {s : State} {args : Array Value} (hts : ∀ w ∈ wsX4_clear, w.before args s = true) : CallB rm_X4_clear s args RX4 34 yJ7_fill_53178 cJ7_fill_53178 4 none wsJ7_fill_53178 rm_J7_fill 0 0 2 ∧ (Cond.static yJ7_fill_53178).before args s = true := va_cwS 2 hts gX4_clear_J7_fill_53178 rfl rfl rfl (by decide +kernel) ⟨Nat.le_of_ble_eq_true rfl, Nat.le_of_ble_eq_true rfl⟩
set_option maxHeartbeats 4000000 in
set_option maxRecDepth 100000 in
theorem c_X4_clear (l : Launch) (D : va_G) (cy : Nat → ClassId) (ad : Nat → Nat) (hO : adOK 39 ad) (σ : Mem) {τ : Mem} (hf : f_X4_clear σ = some τ) : Met l yX4_clear wsX4_clear rm_X4_clear (va_Pc [.ref (ad 7)] (PreW D cy 39 (cellC cy ad) ad σ)) (QV D 39 (cellC cy ad) ad τ) 0 0 (AC 39 ad) := by
  refine r_met (cc := cX4_clear) (maxL := 1) (ret := none) (own := RX4) (by decide) rfl rfl [.ref (ad 7)] (Nat.le_of_ble_eq_true rfl) ?_
  intro p e s m below meth c ls S hK hP hlk hr hl
  have hS : va_S (AC 39 ad) s.heap s.heap [] := va_S.rf
  have hl : lv_has ls 1 [(0, .ref (ad 7))] := hl
  unfold f_X4_clear at hf
  refine lv_aload_n S.1 S.2.1 dX4_clear_0 rfl (lv_at hl 0 rfl) ?_
  refine r_get S hK hP (by decide) rfl rfl h_X4_clear_X4 0 (by decide) k_X4_clear_1 rfl dX4_clear_1 ?_
  refine r_iconst S dX4_clear_4 ?_
  obtain ⟨σ1, hσ1, hf⟩ := nm_some hf
  refine r_callSV S hK hP hS [.ref (ad 8), .int (zI 0)] (c_J7_fill l D cy 39 (cell := cellC cy ad) ad hO (k := 8) 6 (by decide) (fun _ => rfl) (by decide) 0 _ hσ1) (cw_X4_clear_J7_fill_53178 S.2.2.2.2) rfl hl.1 (rest := []) rfl (Nat.le_of_ble_eq_true rfl) dX4_clear_5 ⟨Nat.zero_le _, Nat.zero_le _⟩ (fun H locs hP hS => ?_)
  refine lv_aload_n S.1 S.2.1 dX4_clear_8 rfl (lv_at hl 0 rfl) ?_
  refine r_iconst S dX4_clear_9 ?_
  obtain ⟨σ2, hσ2, hf⟩ := nm_some hf
  refine r_put S hK hP hO hS (by decide) rfl rfl h_X4_clear_X4 tyX4 tyX4_ok nmX4 3 (by decide) k_X4_clear_2 rfl (tyX4_ok 3 (by decide)) rfl rfl (Nat.le_of_ble_eq_true rfl) hσ2 rfl dX4_clear_10 (fun H locs hP hS => ?_)
  refine lv_aload_n S.1 S.2.1 dX4_clear_13 rfl (lv_at hl 0 rfl) ?_
  refine r_iconst S dX4_clear_14 ?_
  obtain ⟨σ3, hσ3, hf⟩ := nm_some hf
  refine r_put S hK hP hO hS (by decide) rfl rfl h_X4_clear_X4 tyX4 tyX4_ok nmX4 4 (by decide) k_X4_clear_3 rfl (tyX4_ok 4 (by decide)) rfl rfl (Nat.le_of_ble_eq_true rfl) hσ3 rfl dX4_clear_15 (fun H locs hP hS => ?_)
  refine lv_aload_n S.1 S.2.1 dX4_clear_18 rfl (lv_at hl 0 rfl) ?_
  refine r_iconst S dX4_clear_19 ?_
  obtain ⟨σ4, hσ4, hf⟩ := nm_some hf
  refine r_put S hK hP hO hS (by decide) rfl rfl h_X4_clear_X4 tyX4 tyX4_ok nmX4 5 (by decide) k_X4_clear_4 rfl (tyX4_ok 5 (by decide)) rfl rfl (Nat.le_of_ble_eq_true rfl) hσ4 rfl dX4_clear_20 (fun H locs hP hS => ?_)
  have e1 := Option.some.inj hf
  subst e1
  exact e_V S hlk hP hS hr dX4_clear_23
def rm_X5_signAt : Room := { frames := 0, cells := 0, slots := 0, locals := 0 }
theorem k_X5_signAt_1 : (.fieldLink RX5 15 "MendTexts$Pad" "count" "I" : Cond) ∈ wsX5_signAt := List.mem_of_getElem? (i := 1) (by decide +kernel)
theorem k_X5_signAt_2 : (.fieldLink RX5 11 "MendTexts$Pad" "signs" "[I" : Cond) ∈ wsX5_signAt := List.mem_of_getElem? (i := 2) (by decide +kernel)
theorem h_X5_signAt_X5 : ∀ w ∈ u_ws RX5 TX5 2, w ∈ wsX5_signAt := mem_places _ [3, 4] (by decide +kernel)
set_option maxHeartbeats 4000000 in
set_option maxRecDepth 100000 in
theorem c_X5_signAt (l : Launch) (D : va_G) (cy : Nat → ClassId) (ad : Nat → Nat) (hO : adOK 39 ad) (a0 : Int) (σ : Mem) {v : Int} (hf : f_X5_signAt a0 σ = some v) : Met l yX5_signAt wsX5_signAt rm_X5_signAt (va_Pc [.ref (ad 1), .int (zI a0)] (PreW D cy 39 (cellC cy ad) ad σ)) (QI D 39 (cellC cy ad) ad v σ) 0 0 (AC 39 ad) := by
  refine r_met (cc := cX5_signAt) (maxL := 2) (ret := (some .int)) (own := RX5) (by decide) rfl rfl [.ref (ad 1), .int (zI a0)] (Nat.le_of_ble_eq_true rfl) ?_
  intro p e s m below meth c ls S hK hP hlk hr hl
  have hS : va_S (AC 39 ad) s.heap s.heap [] := va_S.rf
  have hl : lv_has ls 2 [(0, .ref (ad 1)), (1, .int (zI a0))] := hl
  unfold f_X5_signAt at hf
  refine lv_iload_n S.1 S.2.1 dX5_signAt_0 rfl (lv_at hl 1 rfl) ?_
  refine r_if_lt (tgt := 27) S dX5_signAt_1 (by decide) (fun c1 => ?_) (fun c1 => ?_)
  · have hf := (if_pos c1).symm.trans hf
    refine r_iconst S dX5_signAt_27 ?_
    have e1 := Option.some.inj hf
    subst e1
    exact e_I S hlk hP hS hr dX5_signAt_28
  · have hf := (if_neg c1).symm.trans hf
    refine lv_iload_n S.1 S.2.1 dX5_signAt_4 rfl (lv_at hl 1 rfl) ?_
    refine lv_aload_n S.1 S.2.1 dX5_signAt_5 rfl (lv_at hl 0 rfl) ?_
    refine r_get S hK hP (by decide) rfl rfl h_X5_signAt_X5 1 (by decide) k_X5_signAt_1 rfl dX5_signAt_6 ?_
    refine lv_icmp_ge (tgt := 27) S.1 S.2.1 dX5_signAt_9 (by decide) (fun c2 => ?_) (fun c2 => ?_)
    · have hf := (if_pos c2).symm.trans hf
      refine r_iconst S dX5_signAt_27 ?_
      have e1 := Option.some.inj hf
      subst e1
      exact e_I S hlk hP hS hr dX5_signAt_28
    · have hf := (if_neg c2).symm.trans hf
      refine lv_iload_n S.1 S.2.1 dX5_signAt_12 rfl (lv_at hl 1 rfl) ?_
      refine r_bipush S dX5_signAt_13 (by decide) ?_
      refine lv_icmp_ge (tgt := 27) S.1 S.2.1 dX5_signAt_15 (by decide) (fun c3 => ?_) (fun c3 => ?_)
      · have hf := (if_pos c3).symm.trans hf
        refine r_iconst S dX5_signAt_27 ?_
        have e1 := Option.some.inj hf
        subst e1
        exact e_I S hlk hP hS hr dX5_signAt_28
      · have hf := (if_neg c3).symm.trans hf
        refine lv_aload_n S.1 S.2.1 dX5_signAt_18 rfl (lv_at hl 0 rfl) ?_
        refine r_get S hK hP (by decide) rfl rfl h_X5_signAt_X5 0 (by decide) k_X5_signAt_2 rfl dX5_signAt_19 ?_
        refine lv_iload_n S.1 S.2.1 dX5_signAt_22 rfl (lv_at hl 1 rfl) ?_
        obtain ⟨g4, hf⟩ := gd_some hf
        refine r_iald S hK hP (by decide) (n := 60) (fun _ => rfl) (by decide) g4 dX5_signAt_23 ?_
        refine lv_goto (tgt := 28) S.1 S.2.1 dX5_signAt_24 (by decide) ?_
        have e1 := Option.some.inj hf
        subst e1
        exact e_I S hlk hP hS hr dX5_signAt_28
def rm_X4_tellName : Room := { frames := 1, cells := 0, slots := 0, locals := 20 }
theorem k_X4_tellName_1 : (.fieldLink RX4 21 "MendTexts$Grammar" "namesTold" "I" : Cond) ∈ wsX4_tellName := List.mem_of_getElem? (i := 1) (by decide +kernel)
theorem k_X4_tellName_2 : (.fieldLink RX4 25 "MendTexts$Grammar" "start" "I" : Cond) ∈ wsX4_tellName := List.mem_of_getElem? (i := 2) (by decide +kernel)
theorem k_X4_tellName_3 : (.fieldLink RX4 28 "MendTexts$Grammar" "last" "I" : Cond) ∈ wsX4_tellName := List.mem_of_getElem? (i := 3) (by decide +kernel)
theorem h_X4_tellName_X4 : ∀ w ∈ u_ws RX4 TX4 7, w ∈ wsX4_tellName := mem_places _ [7, 8, 9, 10, 11, 12, 13] (by decide +kernel)
theorem cw_X4_tellName_X11_isName {s : State} {args : Array Value} (hts : ∀ w ∈ wsX4_tellName, w.before args s = true) (hn : va_Nw nestW s) : va_CN rm_X4_tellName s args RX4 46 yX11_isName "MendTexts" cX11_isName 1 (some .boolean) wsX11_isName rm_X11_isName 0 0 1 ∧ (Cond.static yX11_isName).before args s = true ∧ True := ⟨va_cnB 1 hts gX4_tellName_X11_isName_n46 rfl rfl rfl hn (hts _ (List.mem_of_getElem? (i := 5) (a := Cond.initialized RX11) (by decide +kernel))) (by decide +kernel) ⟨Nat.le_of_ble_eq_true rfl, Nat.le_of_ble_eq_true rfl⟩, hts _ (List.mem_of_getElem? (i := 4) (a := Cond.static yX11_isName) (by decide +kernel)), trivial⟩
set_option maxHeartbeats 4000000 in
set_option maxRecDepth 100000 in
theorem c_X4_tellName (l : Launch) (D : va_G) (cy : Nat → ClassId) (ad : Nat → Nat) (hO : adOK 39 ad) (a0 : Int) (σ : Mem) {v : Int} {τ : Mem} (hf : f_X4_tellName a0 σ = some (v, τ)) : Met l yX4_tellName wsX4_tellName rm_X4_tellName (va_Pc [.ref (ad 7), .int (zI a0)] (PreW D cy 39 (cellC cy ad) ad σ)) (QI D 39 (cellC cy ad) ad v τ) 0 0 (AC 39 ad) := by
  refine r_met (cc := cX4_tellName) (maxL := 2) (ret := (some .boolean)) (own := RX4) (by decide) rfl rfl [.ref (ad 7), .int (zI a0)] (Nat.le_of_ble_eq_true rfl) ?_
  intro p e s m below meth c ls S hK hP hlk hr hl
  have hS : va_S (AC 39 ad) s.heap s.heap [] := va_S.rf
  have hl : lv_has ls 2 [(0, .ref (ad 7)), (1, .int (zI a0))] := hl
  unfold f_X4_tellName at hf
  refine lv_iload_n S.1 S.2.1 dX4_tellName_0 rfl (lv_at hl 1 rfl) ?_
  obtain ⟨y2, hq1, hf⟩ := bV_some hf
  refine r_callSNI S hK hP hS [.int (zI a0)] (c_X11_isName l D cy ad hO a0 σ hq1) (cw_X4_tellName_X11_isName S.2.2.2.2 hK.2) rfl hl.1 (rest := []) rfl (Nat.le_of_ble_eq_true rfl) dX4_tellName_1 ⟨Nat.zero_le _, Nat.zero_le _⟩ (fun H locs hP hS => ?_)
  refine r_if_eq (tgt := 18) S dX4_tellName_4 (by decide) (fun c3 => ?_) (fun c3 => ?_)
  · have hf := (if_pos c3).symm.trans hf
    refine r_iconst S dX4_tellName_18 ?_
    obtain ⟨e1, e2⟩ := inj2 hf
    subst e1
    subst e2
    exact e_Z S hlk hP hS (Or.inl rfl) hr dX4_tellName_19
  · have hf := (if_neg c3).symm.trans hf
    refine lv_aload_n S.1 S.2.1 dX4_tellName_7 rfl (lv_at hl 0 rfl) ?_
    refine r_get S hK hP (by decide) rfl rfl h_X4_tellName_X4 3 (by decide) k_X4_tellName_1 rfl dX4_tellName_8 ?_
    refine lv_iload_n S.1 S.2.1 dX4_tellName_11 rfl (lv_at hl 1 rfl) ?_
    refine r_ishr S dX4_tellName_12 ?_
    refine r_iconst S dX4_tellName_13 ?_
    refine r_iand S dX4_tellName_14 ?_
    refine r_if_eq (tgt := 20) S dX4_tellName_15 (by decide) (fun c4 => ?_) (fun c4 => ?_)
    · have hf := (if_pos c4).symm.trans hf
      refine lv_aload_n S.1 S.2.1 dX4_tellName_20 rfl (lv_at hl 0 rfl) ?_
      refine r_get S hK hP (by decide) rfl rfl h_X4_tellName_X4 3 (by decide) k_X4_tellName_1 rfl dX4_tellName_21 ?_
      obtain ⟨σ5, hq, hf⟩ := bV_some hf
      have kJ0 : ∀ (H : Heap) (locs : List Loc) (ls : Array Slot), va_P D vwCl (WW 39 (cellC cy ad) ad σ5) H → va_S (AC 39 ad) s.heap H locs → lv_has ls 2 [(0, .ref (ad 7)), (1, .int (zI a0))] → W p l e rm_X4_tellName s m ([.ref (ad 7), .int (zI a0)] : List Value).toArray below meth c H locs 0 0 (MQ below (QI D 39 (cellC cy ad) ad v τ) ([.ref (ad 7), .int (zI a0)] : List Value).toArray s 0 0 (AC 39 ad)) (F0 m 32 ls []) := by
        intro H locs ls hP hS hl
        refine lv_aload_n S.1 S.2.1 dX4_tellName_32 rfl (lv_at hl 0 rfl) ?_
        refine lv_dup S.1 S.2.1 dX4_tellName_33 rfl ?_
        refine r_get S hK hP (by decide) rfl rfl h_X4_tellName_X4 3 (by decide) k_X4_tellName_1 rfl dX4_tellName_34 ?_
        refine r_iconst S dX4_tellName_37 ?_
        refine lv_iload_n S.1 S.2.1 dX4_tellName_38 rfl (lv_at hl 1 rfl) ?_
        refine r_ishl S dX4_tellName_39 ?_
        refine r_ior S dX4_tellName_40 ?_
        obtain ⟨σ8, hσ8, hf⟩ := nm_some hf
        refine r_put S hK hP hO hS (by decide) rfl rfl h_X4_tellName_X4 tyX4 tyX4_ok nmX4 3 (by decide) k_X4_tellName_1 rfl (tyX4_ok 3 (by decide)) rfl rfl (Nat.le_of_ble_eq_true rfl) hσ8 rfl dX4_tellName_41 (fun H locs hP hS => ?_)
        refine lv_aload_n S.1 S.2.1 dX4_tellName_44 rfl (lv_at hl 0 rfl) ?_
        refine lv_iload_n S.1 S.2.1 dX4_tellName_45 rfl (lv_at hl 1 rfl) ?_
        obtain ⟨σ9, hσ9, hf⟩ := nm_some hf
        refine r_put S hK hP hO hS (by decide) rfl rfl h_X4_tellName_X4 tyX4 tyX4_ok nmX4 5 (by decide) k_X4_tellName_3 rfl (tyX4_ok 5 (by decide)) rfl rfl (Nat.le_of_ble_eq_true rfl) hσ9 rfl dX4_tellName_46 (fun H locs hP hS => ?_)
        refine r_iconst S dX4_tellName_49 ?_
        obtain ⟨e1, e2⟩ := inj2 hf
        subst e1
        subst e2
        exact e_Z S hlk hP hS (Or.inr rfl) hr dX4_tellName_50
      clear hf
      have hf := hq
      refine r_if_ne (tgt := 32) S dX4_tellName_24 (by decide) (fun c6 => ?_) (fun c6 => ?_)
      · have hf := (if_neg c6).symm.trans hf
        have e1 := Option.some.inj hf
        subst e1
        exact kJ0 _ _ _ hP hS (lv_sub hl [0, 1] rfl)
      · have hf := (if_pos c6).symm.trans hf
        refine lv_aload_n S.1 S.2.1 dX4_tellName_27 rfl (lv_at hl 0 rfl) ?_
        refine lv_iload_n S.1 S.2.1 dX4_tellName_28 rfl (lv_at hl 1 rfl) ?_
        obtain ⟨σ7, hσ7, hf⟩ := nm_some hf
        refine r_put S hK hP hO hS (by decide) rfl rfl h_X4_tellName_X4 tyX4 tyX4_ok nmX4 4 (by decide) k_X4_tellName_2 rfl (tyX4_ok 4 (by decide)) rfl rfl (Nat.le_of_ble_eq_true rfl) hσ7 rfl dX4_tellName_29 (fun H locs hP hS => ?_)
        have e1 := Option.some.inj hf
        subst e1
        exact kJ0 _ _ _ hP hS (lv_sub hl [0, 1] rfl)
    · have hf := (if_neg c4).symm.trans hf
      refine r_iconst S dX4_tellName_18 ?_
      obtain ⟨e1, e2⟩ := inj2 hf
      subst e1
      subst e2
      exact e_Z S hlk hP hS (Or.inl rfl) hr dX4_tellName_19
def rm_X4_hasRoomForRule : Room := { frames := 2, cells := 0, slots := 0, locals := 41 }
theorem k_X4_hasRoomForRule_1 : (.fieldLink RX4 28 "MendTexts$Grammar" "last" "I" : Cond) ∈ wsX4_hasRoomForRule := List.mem_of_getElem? (i := 1) (by decide +kernel)
theorem h_X4_hasRoomForRule_X4 : ∀ w ∈ u_ws RX4 TX4 7, w ∈ wsX4_hasRoomForRule := mem_places _ [12, 13, 14, 15, 16, 17, 18] (by decide +kernel)
theorem cw_X4_hasRoomForRule_X4_countOf {s : State} {args : Array Value} (hts : ∀ w ∈ wsX4_hasRoomForRule, w.before args s = true) : CallW rm_X4_hasRoomForRule s args RX4 RX4 50 yX4_countOf cX4_countOf 2 (some .int) wsX4_countOf rm_X4_countOf 0 0 1 := cwV 1 hts gX4_hasRoomForRule_X4_countOf rfl rfl rfl (by decide +kernel) ⟨Nat.le_of_ble_eq_true rfl, Nat.le_of_ble_eq_true rfl⟩
set_option maxHeartbeats 4000000 in
set_option maxRecDepth 100000 in
theorem c_X4_hasRoomForRule (l : Launch) (D : va_G) (cy : Nat → ClassId) (ad : Nat → Nat) (hO : adOK 39 ad) (σ : Mem) {v : Int} (hf : f_X4_hasRoomForRule σ = some v) : Met l yX4_hasRoomForRule wsX4_hasRoomForRule rm_X4_hasRoomForRule (va_Pc [.ref (ad 7)] (PreW D cy 39 (cellC cy ad) ad σ)) (QI D 39 (cellC cy ad) ad v σ) 0 0 (AC 39 ad) := by
  refine r_met (cc := cX4_hasRoomForRule) (maxL := 1) (ret := (some .boolean)) (own := RX4) (by decide) rfl rfl [.ref (ad 7)] (Nat.le_of_ble_eq_true rfl) ?_
  intro p e s m below meth c ls S hK hP hlk hr hl
  have hS : va_S (AC 39 ad) s.heap s.heap [] := va_S.rf
  have hl : lv_has ls 1 [(0, .ref (ad 7))] := hl
  unfold f_X4_hasRoomForRule at hf
  refine lv_aload_n S.1 S.2.1 dX4_hasRoomForRule_0 rfl (lv_at hl 0 rfl) ?_
  refine lv_aload_n S.1 S.2.1 dX4_hasRoomForRule_1 rfl (lv_at hl 0 rfl) ?_
  refine r_get S hK hP (by decide) rfl rfl h_X4_hasRoomForRule_X4 5 (by decide) k_X4_hasRoomForRule_1 rfl dX4_hasRoomForRule_2 ?_
  obtain ⟨y2, hq1, hf⟩ := bV_some hf
  refine r_callVI S hK hP hS (by decide) rfl rfl [.int (zI (σ 7 5))] (c_X4_countOf l D cy ad hO 7 (by decide) (σ 7 5) σ hq1) (cw_X4_hasRoomForRule_X4_countOf S.2.2.2.2) rfl hl.1 (rest := []) rfl (Nat.le_of_ble_eq_true rfl) dX4_hasRoomForRule_5 ⟨Nat.zero_le _, Nat.zero_le _⟩ (fun H locs hP hS => ?_)
  refine r_iconst S dX4_hasRoomForRule_8 ?_
  refine lv_icmp_ge (tgt := 16) S.1 S.2.1 dX4_hasRoomForRule_9 (by decide) (fun c3 => ?_) (fun c3 => ?_)
  · have hf := (if_pos c3).symm.trans hf
    refine r_iconst S dX4_hasRoomForRule_16 ?_
    have e1 := Option.some.inj hf
    subst e1
    exact e_Z S hlk hP hS (Or.inl rfl) hr dX4_hasRoomForRule_17
  · have hf := (if_neg c3).symm.trans hf
    refine r_iconst S dX4_hasRoomForRule_12 ?_
    refine lv_goto (tgt := 17) S.1 S.2.1 dX4_hasRoomForRule_13 (by decide) ?_
    have e1 := Option.some.inj hf
    subst e1
    exact e_Z S hlk hP hS (Or.inr rfl) hr dX4_hasRoomForRule_17
def rm_X4_isSlot : Room := { frames := 0, cells := 0, slots := 0, locals := 0 }
set_option maxHeartbeats 4000000 in
set_option maxRecDepth 100000 in
theorem c_X4_isSlot (l : Launch) (D : va_G) (cy : Nat → ClassId) (ad : Nat → Nat) (hO : adOK 39 ad) (a0 : Int) (σ : Mem) {v : Int} (hf : f_X4_isSlot a0 = some v) : Met l yX4_isSlot wsX4_isSlot rm_X4_isSlot (va_Pc [.int (zI a0)] (PreW D cy 39 (cellC cy ad) ad σ)) (QI D 39 (cellC cy ad) ad v σ) 0 0 (AC 39 ad) := by
  refine r_met (cc := cX4_isSlot) (maxL := 1) (ret := (some .boolean)) (own := RX4) (by decide) rfl rfl [.int (zI a0)] (Nat.le_of_ble_eq_true rfl) ?_
  intro p e s m below meth c ls S hK hP hlk hr hl
  have hS : va_S (AC 39 ad) s.heap s.heap [] := va_S.rf
  have hl : lv_has ls 1 [(0, .int (zI a0))] := hl
  unfold f_X4_isSlot at hf
  refine lv_iload_n S.1 S.2.1 dX4_isSlot_0 rfl (lv_at hl 0 rfl) ?_
  refine r_if_lt (tgt := 14) S dX4_isSlot_1 (by decide) (fun c1 => ?_) (fun c1 => ?_)
  · have hf := (if_pos c1).symm.trans hf
    refine r_iconst S dX4_isSlot_14 ?_
    have e1 := Option.some.inj hf
    subst e1
    exact e_Z S hlk hP hS (Or.inl rfl) hr dX4_isSlot_15
  · have hf := (if_neg c1).symm.trans hf
    refine lv_iload_n S.1 S.2.1 dX4_isSlot_4 rfl (lv_at hl 0 rfl) ?_
    refine r_bipush S dX4_isSlot_5 (by decide) ?_
    refine lv_icmp_ge (tgt := 14) S.1 S.2.1 dX4_isSlot_7 (by decide) (fun c2 => ?_) (fun c2 => ?_)
    · have hf := (if_pos c2).symm.trans hf
      refine r_iconst S dX4_isSlot_14 ?_
      have e1 := Option.some.inj hf
      subst e1
      exact e_Z S hlk hP hS (Or.inl rfl) hr dX4_isSlot_15
    · have hf := (if_neg c2).symm.trans hf
      refine r_iconst S dX4_isSlot_10 ?_
      refine lv_goto (tgt := 15) S.1 S.2.1 dX4_isSlot_11 (by decide) ?_
      have e1 := Option.some.inj hf
      subst e1
      exact e_Z S hlk hP hS (Or.inr rfl) hr dX4_isSlot_15
def rm_X4_emptySlot : Room := { frames := 1, cells := 0, slots := 0, locals := 20 }
theorem k_X4_emptySlot_1 : (.fieldLink RX4 15 "MendTexts$Grammar" "lengths" "[I" : Cond) ∈ wsX4_emptySlot := List.mem_of_getElem? (i := 1) (by decide +kernel)
theorem h_X4_emptySlot_X4 : ∀ w ∈ u_ws RX4 TX4 7, w ∈ wsX4_emptySlot := mem_places _ [6, 7, 8, 9, 10, 11, 12] (by decide +kernel)
theorem cw_X4_emptySlot_X4_isSlot {s : State} {args : Array Value} (hts : ∀ w ∈ wsX4_emptySlot, w.before args s = true) : CallB rm_X4_emptySlot s args RX4 66 yX4_isSlot cX4_isSlot 1 (some .boolean) wsX4_isSlot rm_X4_isSlot 0 0 1 ∧ (Cond.static yX4_isSlot).before args s = true := va_cwS 1 hts gX4_emptySlot_X4_isSlot rfl rfl rfl (by decide +kernel) ⟨Nat.le_of_ble_eq_true rfl, Nat.le_of_ble_eq_true rfl⟩
set_option maxHeartbeats 4000000 in
set_option maxRecDepth 100000 in
theorem c_X4_emptySlot (l : Launch) (D : va_G) (cy : Nat → ClassId) (ad : Nat → Nat) (hO : adOK 39 ad) (g : Nat) (hg : isG g) (a0 : Int) (σ : Mem) {τ : Mem} (hf : f_X4_emptySlot g a0 σ = some τ) : Met l yX4_emptySlot wsX4_emptySlot rm_X4_emptySlot (va_Pc [.ref (ad g), .int (zI a0)] (PreW D cy 39 (cellC cy ad) ad σ)) (QV D 39 (cellC cy ad) ad τ) 0 0 (AC 39 ad) := by
  refine r_met (cc := cX4_emptySlot) (maxL := 2) (ret := none) (own := RX4) (by decide) rfl rfl [.ref (ad g), .int (zI a0)] (Nat.le_of_ble_eq_true rfl) ?_
  intro p e s m below meth c ls S hK hP hlk hr hl
  have hS : va_S (AC 39 ad) s.heap s.heap [] := va_S.rf
  have hl : lv_has ls 2 [(0, .ref (ad g)), (1, .int (zI a0))] := hl
  unfold f_X4_emptySlot at hf
  refine lv_iload_n S.1 S.2.1 dX4_emptySlot_0 rfl (lv_at hl 1 rfl) ?_
  obtain ⟨y2, hq1, hf⟩ := bV_some hf
  refine r_callSI S hK hP hS [.int (zI a0)] (c_X4_isSlot l D cy ad hO a0 σ hq1) (cw_X4_emptySlot_X4_isSlot S.2.2.2.2) rfl hl.1 (rest := []) rfl (Nat.le_of_ble_eq_true rfl) dX4_emptySlot_1 ⟨Nat.zero_le _, Nat.zero_le _⟩ (fun H locs hP hS => ?_)
  refine r_if_eq (tgt := 14) S dX4_emptySlot_4 (by decide) (fun c3 => ?_) (fun c3 => ?_)
  · have hf := (if_pos c3).symm.trans hf
    have e1 := Option.some.inj hf
    subst e1
    exact e_V S hlk hP hS hr dX4_emptySlot_14
  · have hf := (if_neg c3).symm.trans hf
    refine lv_aload_n S.1 S.2.1 dX4_emptySlot_7 rfl (lv_at hl 0 rfl) ?_
    refine r_get S hK hP (ltG hg) (cellG cy ad hg _) rfl h_X4_emptySlot_X4 1 (by decide) k_X4_emptySlot_1 rfl dX4_emptySlot_8 ?_
    refine lv_iload_n S.1 S.2.1 dX4_emptySlot_11 rfl (lv_at hl 1 rfl) ?_
    refine r_iconst S dX4_emptySlot_12 ?_
    obtain ⟨g4, hf⟩ := gd_some hf
    obtain ⟨σ5, hσ5, hf⟩ := nm_some hf
    refine r_iast S hK hP hO hS (ltG2 hg) (n := 25) (cellG2 cy ad hg) (by decide) g4 hσ5 dX4_emptySlot_13 (fun H locs hP hS => ?_)
    have e1 := Option.some.inj hf
    subst e1
    exact e_V S hlk hP hS hr dX4_emptySlot_14
def rm_X4_beginRule : Room := { frames := 3, cells := 0, slots := 0, locals := 61 }
theorem k_X4_beginRule_1 : (.fieldLink RX4 28 "MendTexts$Grammar" "last" "I" : Cond) ∈ wsX4_beginRule := List.mem_of_getElem? (i := 1) (by decide +kernel)
theorem k_X4_beginRule_2 : (.fieldLink RX4 11 "MendTexts$Grammar" "counts" "[I" : Cond) ∈ wsX4_beginRule := List.mem_of_getElem? (i := 2) (by decide +kernel)
theorem h_X4_beginRule_X4 : ∀ w ∈ u_ws RX4 TX4 7, w ∈ wsX4_beginRule := mem_places _ [24, 25, 26, 27, 28, 29, 30] (by decide +kernel)
theorem cw_X4_beginRule_X11_isName {s : State} {args : Array Value} (hts : ∀ w ∈ wsX4_beginRule, w.before args s = true) (hn : va_Nw nestW s) : va_CN rm_X4_beginRule s args RX4 46 yX11_isName "MendTexts" cX11_isName 1 (some .boolean) wsX11_isName rm_X11_isName 0 0 1 ∧ (Cond.static yX11_isName).before args s = true ∧ True := ⟨va_cnB 1 hts gX4_beginRule_X11_isName_n46 rfl rfl rfl hn (hts _ (List.mem_of_getElem? (i := 4) (a := Cond.initialized RX11) (by decide +kernel))) (by decide +kernel) ⟨Nat.le_of_ble_eq_true rfl, Nat.le_of_ble_eq_true rfl⟩, hts _ (List.mem_of_getElem? (i := 3) (a := Cond.static yX11_isName) (by decide +kernel)), trivial⟩
theorem cw_X4_beginRule_X4_emptySlot {s : State} {args : Array Value} (hts : ∀ w ∈ wsX4_beginRule, w.before args s = true) : CallW rm_X4_beginRule s args RX4 RX4 58 yX4_emptySlot cX4_emptySlot 2 none wsX4_emptySlot rm_X4_emptySlot 0 0 1 := cwV 1 hts gX4_beginRule_X4_emptySlot rfl rfl rfl (by decide +kernel) ⟨Nat.le_of_ble_eq_true rfl, Nat.le_of_ble_eq_true rfl⟩
theorem cw_X4_beginRule_X4_hasRoomForRule {s : State} {args : Array Value} (hts : ∀ w ∈ wsX4_beginRule, w.before args s = true) : CallW rm_X4_beginRule s args RX4 RX4 54 yX4_hasRoomForRule cX4_hasRoomForRule 1 (some .boolean) wsX4_hasRoomForRule rm_X4_hasRoomForRule 0 0 0 := cwV 0 hts gX4_beginRule_X4_hasRoomForRule rfl rfl rfl (by decide +kernel) ⟨Nat.le_of_ble_eq_true rfl, Nat.le_of_ble_eq_true rfl⟩
set_option maxHeartbeats 4000000 in
set_option maxRecDepth 100000 in
theorem c_X4_beginRule (l : Launch) (D : va_G) (cy : Nat → ClassId) (ad : Nat → Nat) (hO : adOK 39 ad) (σ : Mem) {τ : Mem} (hf : f_X4_beginRule σ = some τ) : Met l yX4_beginRule wsX4_beginRule rm_X4_beginRule (va_Pc [.ref (ad 7)] (PreW D cy 39 (cellC cy ad) ad σ)) (QV D 39 (cellC cy ad) ad τ) 0 0 (AC 39 ad) := by
  refine r_met (cc := cX4_beginRule) (maxL := 1) (ret := none) (own := RX4) (by decide) rfl rfl [.ref (ad 7)] (Nat.le_of_ble_eq_true rfl) ?_
  intro p e s m below meth c ls S hK hP hlk hr hl
  have hS : va_S (AC 39 ad) s.heap s.heap [] := va_S.rf
  have hl : lv_has ls 1 [(0, .ref (ad 7))] := hl
  unfold f_X4_beginRule at hf
  refine lv_aload_n S.1 S.2.1 dX4_beginRule_0 rfl (lv_at hl 0 rfl) ?_
  refine r_get S hK hP (by decide) rfl rfl h_X4_beginRule_X4 5 (by decide) k_X4_beginRule_1 rfl dX4_beginRule_1 ?_
  obtain ⟨y2, hq1, hf⟩ := bV_some hf
  refine r_callSNI S hK hP hS [.int (zI (σ 7 5))] (c_X11_isName l D cy ad hO (σ 7 5) σ hq1) (cw_X4_beginRule_X11_isName S.2.2.2.2 hK.2) rfl hl.1 (rest := []) rfl (Nat.le_of_ble_eq_true rfl) dX4_beginRule_4 ⟨Nat.zero_le _, Nat.zero_le _⟩ (fun H locs hP hS => ?_)
  refine r_if_eq (tgt := 50) S dX4_beginRule_7 (by decide) (fun c3 => ?_) (fun c3 => ?_)
  · have hf := (if_pos c3).symm.trans hf
    have e1 := Option.some.inj hf
    subst e1
    exact e_V S hlk hP hS hr dX4_beginRule_50
  · have hf := (if_neg c3).symm.trans hf
    refine lv_aload_n S.1 S.2.1 dX4_beginRule_10 rfl (lv_at hl 0 rfl) ?_
    obtain ⟨y5, hq4, hf⟩ := bV_some hf
    refine r_callVI S hK hP hS (by decide) rfl rfl [] (c_X4_hasRoomForRule l D cy ad hO σ hq4) (cw_X4_beginRule_X4_hasRoomForRule S.2.2.2.2) rfl hl.1 (rest := []) rfl (Nat.le_of_ble_eq_true rfl) dX4_beginRule_11 ⟨Nat.zero_le _, Nat.zero_le _⟩ (fun H locs hP hS => ?_)
    refine r_if_eq (tgt := 50) S dX4_beginRule_14 (by decide) (fun c6 => ?_) (fun c6 => ?_)
    · have hf := (if_pos c6).symm.trans hf
      have e1 := Option.some.inj hf
      subst e1
      exact e_V S hlk hP hS hr dX4_beginRule_50
    · have hf := (if_neg c6).symm.trans hf
      refine lv_aload_n S.1 S.2.1 dX4_beginRule_17 rfl (lv_at hl 0 rfl) ?_
      refine lv_aload_n S.1 S.2.1 dX4_beginRule_18 rfl (lv_at hl 0 rfl) ?_
      refine r_get S hK hP (by decide) rfl rfl h_X4_beginRule_X4 5 (by decide) k_X4_beginRule_1 rfl dX4_beginRule_19 ?_
      refine r_iconst S dX4_beginRule_22 ?_
      refine r_imul S dX4_beginRule_23 ?_
      refine lv_aload_n S.1 S.2.1 dX4_beginRule_24 rfl (lv_at hl 0 rfl) ?_
      refine r_get S hK hP (by decide) rfl rfl h_X4_beginRule_X4 0 (by decide) k_X4_beginRule_2 rfl dX4_beginRule_25 ?_
      refine lv_aload_n S.1 S.2.1 dX4_beginRule_28 rfl (lv_at hl 0 rfl) ?_
      refine r_get S hK hP (by decide) rfl rfl h_X4_beginRule_X4 5 (by decide) k_X4_beginRule_1 rfl dX4_beginRule_29 ?_
      obtain ⟨g7, hf⟩ := gd_some hf
      refine r_iald S hK hP (by decide) (n := 6) (fun _ => rfl) (by decide) g7 dX4_beginRule_32 ?_
      refine r_iadd S dX4_beginRule_33 ?_
      obtain ⟨σ9, hq8, hf⟩ := bV_some hf
      refine r_callVV S hK hP hS (by decide) rfl rfl [.int (zI (((σ 7 5) * 4) + (σ 8 (σ 7 5).toNat)))] (c_X4_emptySlot l D cy ad hO 7 (by decide) (((σ 7 5) * 4) + (σ 8 (σ 7 5).toNat)) σ hq8) (cw_X4_beginRule_X4_emptySlot S.2.2.2.2) rfl hl.1 (rest := []) rfl (Nat.le_of_ble_eq_true rfl) dX4_beginRule_34 ⟨Nat.zero_le _, Nat.zero_le _⟩ (fun H locs hP hS => ?_)
      refine lv_aload_n S.1 S.2.1 dX4_beginRule_37 rfl (lv_at hl 0 rfl) ?_
      refine r_get S hK hP (by decide) rfl rfl h_X4_beginRule_X4 0 (by decide) k_X4_beginRule_2 rfl dX4_beginRule_38 ?_
      refine lv_aload_n S.1 S.2.1 dX4_beginRule_41 rfl (lv_at hl 0 rfl) ?_
      refine r_get S hK hP (by decide) rfl rfl h_X4_beginRule_X4 5 (by decide) k_X4_beginRule_1 rfl dX4_beginRule_42 ?_
      refine lv_dup2_11 S.1 S.2.1 dX4_beginRule_45 rfl rfl ?_
      obtain ⟨g10, hf⟩ := gd_some hf
      refine r_iald S hK hP (by decide) (n := 6) (fun _ => rfl) (by decide) g10 dX4_beginRule_46 ?_
      refine r_iconst S dX4_beginRule_47 ?_
      refine r_iadd S dX4_beginRule_48 ?_
      obtain ⟨σ11, hσ11, hf⟩ := nm_some hf
      refine r_iast S hK hP hO hS (by decide) (n := 6) (fun _ => rfl) (by decide) g10 hσ11 dX4_beginRule_49 (fun H locs hP hS => ?_)
      have e1 := Option.some.inj hf
      subst e1
      exact e_V S hlk hP hS hr dX4_beginRule_50
def rm_X8_isSign : Room := { frames := 0, cells := 0, slots := 0, locals := 0 }
set_option maxHeartbeats 4000000 in
set_option maxRecDepth 100000 in
theorem c_X8_isSign (l : Launch) (D : va_G) (cy : Nat → ClassId) (ad : Nat → Nat) (hO : adOK 39 ad) (a0 : Int) (σ : Mem) {v : Int} (hf : f_X8_isSign a0 = some v) : Met l yX8_isSign wsX8_isSign rm_X8_isSign (va_Pc [.int (zI a0)] (PreW D cy 39 (cellC cy ad) ad σ)) (QI D 39 (cellC cy ad) ad v σ) 0 0 (AC 39 ad) := by
  refine r_met (cc := cX8_isSign) (maxL := 1) (ret := (some .boolean)) (own := RX8) (by decide) rfl rfl [.int (zI a0)] (Nat.le_of_ble_eq_true rfl) ?_
  intro p e s m below meth c ls S hK hP hlk hr hl
  have hS : va_S (AC 39 ad) s.heap s.heap [] := va_S.rf
  have hl : lv_has ls 1 [(0, .int (zI a0))] := hl
  unfold f_X8_isSign at hf
  refine lv_iload_n S.1 S.2.1 dX8_isSign_0 rfl (lv_at hl 0 rfl) ?_
  refine r_bipush S dX8_isSign_1 (by decide) ?_
  obtain ⟨t1, hq, hf⟩ := bV_some hf
  have kJ0 : t1 = 0 → ∀ (H : Heap) (locs : List Loc) (ls : Array Slot), va_P D vwCl (WW 39 (cellC cy ad) ad σ) H → va_S (AC 39 ad) s.heap H locs → lv_has ls 1 [(0, .int (zI a0))] → W p l e rm_X8_isSign s m ([.int (zI a0)] : List Value).toArray below meth c H locs 0 0 (MQ below (QI D 39 (cellC cy ad) ad v σ) ([.int (zI a0)] : List Value).toArray s 0 0 (AC 39 ad)) (F0 m 12 ls []) := by
    intro ht
    intro H locs ls hP hS hl
    have hf := (if_pos ht).symm.trans hf
    refine lv_iload_n S.1 S.2.1 dX8_isSign_12 rfl (lv_at hl 0 rfl) ?_
    refine r_bipush S dX8_isSign_13 (by decide) ?_
    refine lv_icmp_lt (tgt := 28) S.1 S.2.1 dX8_isSign_15 (by decide) (fun c4 => ?_) (fun c4 => ?_)
    · have hf := (if_pos c4).symm.trans hf
      refine r_iconst S dX8_isSign_28 ?_
      have e1 := Option.some.inj hf
      subst e1
      exact e_Z S hlk hP hS (Or.inl rfl) hr dX8_isSign_29
    · have hf := (if_neg c4).symm.trans hf
      refine lv_iload_n S.1 S.2.1 dX8_isSign_18 rfl (lv_at hl 0 rfl) ?_
      refine r_bipush S dX8_isSign_19 (by decide) ?_
      refine lv_icmp_ge (tgt := 28) S.1 S.2.1 dX8_isSign_21 (by decide) (fun c5 => ?_) (fun c5 => ?_)
      · have hf := (if_pos c5).symm.trans hf
        refine r_iconst S dX8_isSign_28 ?_
        have e1 := Option.some.inj hf
        subst e1
        exact e_Z S hlk hP hS (Or.inl rfl) hr dX8_isSign_29
      · have hf := (if_neg c5).symm.trans hf
        refine r_iconst S dX8_isSign_24 ?_
        refine lv_goto (tgt := 29) S.1 S.2.1 dX8_isSign_25 (by decide) ?_
        have e1 := Option.some.inj hf
        subst e1
        exact e_Z S hlk hP hS (Or.inr rfl) hr dX8_isSign_29
  have kJ1 : t1 = 1 → ∀ (H : Heap) (locs : List Loc) (ls : Array Slot), va_P D vwCl (WW 39 (cellC cy ad) ad σ) H → va_S (AC 39 ad) s.heap H locs → lv_has ls 1 [] → W p l e rm_X8_isSign s m ([.int (zI a0)] : List Value).toArray below meth c H locs 0 0 (MQ below (QI D 39 (cellC cy ad) ad v σ) ([.int (zI a0)] : List Value).toArray s 0 0 (AC 39 ad)) (F0 m 24 ls []) := by
    intro ht
    intro H locs ls hP hS hl
    have hf := (if_neg (by rw [ht]; decide)).symm.trans hf
    refine r_iconst S dX8_isSign_24 ?_
    refine lv_goto (tgt := 29) S.1 S.2.1 dX8_isSign_25 (by decide) ?_
    have e1 := Option.some.inj hf
    subst e1
    exact e_Z S hlk hP hS (Or.inr rfl) hr dX8_isSign_29
  clear hf
  have hf := hq
  refine lv_icmp_lt (tgt := 12) S.1 S.2.1 dX8_isSign_3 (by decide) (fun c2 => ?_) (fun c2 => ?_)
  · have hf := (if_pos c2).symm.trans hf
    have e1 := Option.some.inj hf
    subst e1
    exact kJ0 rfl _ _ _ hP hS (lv_sub hl [0] rfl)
  · have hf := (if_neg c2).symm.trans hf
    refine lv_iload_n S.1 S.2.1 dX8_isSign_6 rfl (lv_at hl 0 rfl) ?_
    refine r_bipush S dX8_isSign_7 (by decide) ?_
    refine lv_icmp_lt (tgt := 24) S.1 S.2.1 dX8_isSign_9 (by decide) (fun c3 => ?_) (fun c3 => ?_)
    · have hf := (if_pos c3).symm.trans hf
      have e1 := Option.some.inj hf
      subst e1
      exact kJ1 rfl _ _ _ hP hS (lv_sub hl [] rfl)
    · have hf := (if_neg c3).symm.trans hf
      have e1 := Option.some.inj hf
      subst e1
      exact kJ0 rfl _ _ _ hP hS (lv_sub hl [0] rfl)
def rm_X4_addTo : Room := { frames := 1, cells := 0, slots := 0, locals := 21 }
theorem k_X4_addTo_1 : (.fieldLink RX4 18 "MendTexts$Grammar" "signs" "[I" : Cond) ∈ wsX4_addTo := List.mem_of_getElem? (i := 1) (by decide +kernel)
theorem k_X4_addTo_2 : (.fieldLink RX4 15 "MendTexts$Grammar" "lengths" "[I" : Cond) ∈ wsX4_addTo := List.mem_of_getElem? (i := 2) (by decide +kernel)
theorem h_X4_addTo_X4 : ∀ w ∈ u_ws RX4 TX4 7, w ∈ wsX4_addTo := mem_places _ [11, 12, 13, 14, 15, 16, 17] (by decide +kernel)
theorem cw_X4_addTo_X4_isSlot {s : State} {args : Array Value} (hts : ∀ w ∈ wsX4_addTo, w.before args s = true) : CallB rm_X4_addTo s args RX4 66 yX4_isSlot cX4_isSlot 1 (some .boolean) wsX4_isSlot rm_X4_isSlot 0 0 1 ∧ (Cond.static yX4_isSlot).before args s = true := va_cwS 1 hts gX4_addTo_X4_isSlot rfl rfl rfl (by decide +kernel) ⟨Nat.le_of_ble_eq_true rfl, Nat.le_of_ble_eq_true rfl⟩
theorem cw_X4_addTo_X4_lengthOf {s : State} {args : Array Value} (hts : ∀ w ∈ wsX4_addTo, w.before args s = true) : CallW rm_X4_addTo s args RX4 RX4 69 yX4_lengthOf cX4_lengthOf 2 (some .int) wsX4_lengthOf rm_X4_lengthOf 0 0 1 := cwV 1 hts gX4_addTo_X4_lengthOf rfl rfl rfl (by decide +kernel) ⟨Nat.le_of_ble_eq_true rfl, Nat.le_of_ble_eq_true rfl⟩
set_option maxHeartbeats 4000000 in
set_option maxRecDepth 100000 in
theorem c_X4_addTo (l : Launch) (D : va_G) (cy : Nat → ClassId) (ad : Nat → Nat) (hO : adOK 39 ad) (g : Nat) (hg : isG g) (a0 : Int) (a1 : Int) (σ : Mem) {v : Int} {τ : Mem} (hf : f_X4_addTo g a0 a1 σ = some (v, τ)) : Met l yX4_addTo wsX4_addTo rm_X4_addTo (va_Pc [.ref (ad g), .int (zI a0), .int (zI a1)] (PreW D cy 39 (cellC cy ad) ad σ)) (QI D 39 (cellC cy ad) ad v τ) 0 0 (AC 39 ad) := by
  refine r_met (cc := cX4_addTo) (maxL := 4) (ret := (some .boolean)) (own := RX4) (by decide) rfl rfl [.ref (ad g), .int (zI a0), .int (zI a1)] (Nat.le_of_ble_eq_true rfl) ?_
  intro p e s m below meth c ls S hK hP hlk hr hl
  have hS : va_S (AC 39 ad) s.heap s.heap [] := va_S.rf
  have hl : lv_has ls 4 [(0, .ref (ad g)), (1, .int (zI a0)), (2, .int (zI a1))] := hl
  unfold f_X4_addTo at hf
  refine lv_aload_n S.1 S.2.1 dX4_addTo_0 rfl (lv_at hl 0 rfl) ?_
  refine lv_iload_n S.1 S.2.1 dX4_addTo_1 rfl (lv_at hl 1 rfl) ?_
  obtain ⟨y2, hq1, hf⟩ := bV_some hf
  refine r_callVI S hK hP hS (ltG hg) (cellG cy ad hg _) rfl [.int (zI a0)] (c_X4_lengthOf l D cy ad hO g hg a0 σ hq1) (cw_X4_addTo_X4_lengthOf S.2.2.2.2) rfl hl.1 (rest := []) rfl (Nat.le_of_ble_eq_true rfl) dX4_addTo_2 ⟨Nat.zero_le _, Nat.zero_le _⟩ (fun H locs hP hS => ?_)
  refine r_istore_n S rfl (lv2 := [(3, .int (zI y2)), (0, .ref (ad g)), (1, .int (zI a0)), (2, .int (zI a1))]) dX4_addTo_5 rfl hl (by decide) rfl (fun ls hl => ?_)
  refine lv_iload_n S.1 S.2.1 dX4_addTo_6 rfl (lv_at hl 2 rfl) ?_
  obtain ⟨y4, hq3, hf⟩ := bV_some hf
  refine r_callSI S hK hP hS [.int (zI a0)] (c_X4_isSlot l D cy ad hO a0 σ hq3) (cw_X4_addTo_X4_isSlot S.2.2.2.2) rfl hl.1 (rest := []) rfl (Nat.le_of_ble_eq_true rfl) dX4_addTo_7 ⟨Nat.zero_le _, Nat.zero_le _⟩ (fun H locs hP hS => ?_)
  refine r_if_eq (tgt := 22) S dX4_addTo_10 (by decide) (fun c5 => ?_) (fun c5 => ?_)
  · have hf := (if_pos c5).symm.trans hf
    refine r_iconst S dX4_addTo_22 ?_
    obtain ⟨e1, e2⟩ := inj2 hf
    subst e1
    subst e2
    exact e_Z S hlk hP hS (Or.inl rfl) hr dX4_addTo_23
  · have hf := (if_neg c5).symm.trans hf
    refine lv_iload_n S.1 S.2.1 dX4_addTo_13 rfl (lv_at hl 0 rfl) ?_
    refine r_if_lt (tgt := 22) S dX4_addTo_14 (by decide) (fun c6 => ?_) (fun c6 => ?_)
    · have hf := (if_pos c6).symm.trans hf
      refine r_iconst S dX4_addTo_22 ?_
      obtain ⟨e1, e2⟩ := inj2 hf
      subst e1
      subst e2
      exact e_Z S hlk hP hS (Or.inl rfl) hr dX4_addTo_23
    · have hf := (if_neg c6).symm.trans hf
      refine lv_iload_n S.1 S.2.1 dX4_addTo_17 rfl (lv_at hl 0 rfl) ?_
      refine r_iconst S dX4_addTo_18 ?_
      refine lv_icmp_lt (tgt := 24) S.1 S.2.1 dX4_addTo_19 (by decide) (fun c7 => ?_) (fun c7 => ?_)
      · have hf := (if_pos c7).symm.trans hf
        refine lv_aload_n S.1 S.2.1 dX4_addTo_24 rfl (lv_at hl 1 rfl) ?_
        refine r_get S hK hP (ltG hg) (cellG cy ad hg _) rfl h_X4_addTo_X4 2 (by decide) k_X4_addTo_1 rfl dX4_addTo_25 ?_
        refine lv_iload_n S.1 S.2.1 dX4_addTo_28 rfl (lv_at hl 2 rfl) ?_
        refine r_iconst S dX4_addTo_29 ?_
        refine r_imul S dX4_addTo_30 ?_
        refine lv_iload_n S.1 S.2.1 dX4_addTo_31 rfl (lv_at hl 0 rfl) ?_
        refine r_iadd S dX4_addTo_32 ?_
        refine lv_iload_n S.1 S.2.1 dX4_addTo_33 rfl (lv_at hl 3 rfl) ?_
        obtain ⟨g8, hf⟩ := gd_some hf
        obtain ⟨σ9, hσ9, hf⟩ := nm_some hf
        refine r_iast S hK hP hO hS (ltG3 hg) (n := 100) (cellG3 cy ad hg) (by decide) g8 hσ9 dX4_addTo_34 (fun H locs hP hS => ?_)
        refine lv_aload_n S.1 S.2.1 dX4_addTo_35 rfl (lv_at hl 1 rfl) ?_
        refine r_get S hK hP (ltG hg) (cellG cy ad hg _) rfl h_X4_addTo_X4 1 (by decide) k_X4_addTo_2 rfl dX4_addTo_36 ?_
        refine lv_iload_n S.1 S.2.1 dX4_addTo_39 rfl (lv_at hl 2 rfl) ?_
        refine lv_iload_n S.1 S.2.1 dX4_addTo_40 rfl (lv_at hl 0 rfl) ?_
        refine r_iconst S dX4_addTo_41 ?_
        refine r_iadd S dX4_addTo_42 ?_
        obtain ⟨g10, hf⟩ := gd_some hf
        obtain ⟨σ11, hσ11, hf⟩ := nm_some hf
        refine r_iast S hK hP hO hS (ltG2 hg) (n := 25) (cellG2 cy ad hg) (by decide) g10 hσ11 dX4_addTo_43 (fun H locs hP hS => ?_)
        refine r_iconst S dX4_addTo_44 ?_
        obtain ⟨e1, e2⟩ := inj2 hf
        subst e1
        subst e2
        exact e_Z S hlk hP hS (Or.inr rfl) hr dX4_addTo_45
      · have hf := (if_neg c7).symm.trans hf
        refine r_iconst S dX4_addTo_22 ?_
        obtain ⟨e1, e2⟩ := inj2 hf
        subst e1
        subst e2
        exact e_Z S hlk hP hS (Or.inl rfl) hr dX4_addTo_23
def rm_X4_addSign : Room := { frames := 2, cells := 0, slots := 0, locals := 44 }
theorem k_X4_addSign_1 : (.fieldLink RX4 28 "MendTexts$Grammar" "last" "I" : Cond) ∈ wsX4_addSign := List.mem_of_getElem? (i := 1) (by decide +kernel)
theorem h_X4_addSign_X4 : ∀ w ∈ u_ws RX4 TX4 7, w ∈ wsX4_addSign := mem_places _ [25, 26, 27, 28, 29, 30, 31] (by decide +kernel)
theorem cw_X4_addSign_X4_addTo {s : State} {args : Array Value} (hts : ∀ w ∈ wsX4_addSign, w.before args s = true) : CallW rm_X4_addSign s args RX4 RX4 62 yX4_addTo cX4_addTo 4 (some .boolean) wsX4_addTo rm_X4_addTo 0 0 2 := cwV 2 hts gX4_addSign_X4_addTo rfl rfl rfl (by decide +kernel) ⟨Nat.le_of_ble_eq_true rfl, Nat.le_of_ble_eq_true rfl⟩
theorem cw_X4_addSign_X4_countOf {s : State} {args : Array Value} (hts : ∀ w ∈ wsX4_addSign, w.before args s = true) : CallW rm_X4_addSign s args RX4 RX4 50 yX4_countOf cX4_countOf 2 (some .int) wsX4_countOf rm_X4_countOf 0 0 1 := cwV 1 hts gX4_addSign_X4_countOf rfl rfl rfl (by decide +kernel) ⟨Nat.le_of_ble_eq_true rfl, Nat.le_of_ble_eq_true rfl⟩
set_option maxHeartbeats 4000000 in
set_option maxRecDepth 100000 in
theorem c_X4_addSign (l : Launch) (D : va_G) (cy : Nat → ClassId) (ad : Nat → Nat) (hO : adOK 39 ad) (a0 : Int) (σ : Mem) {v : Int} {τ : Mem} (hf : f_X4_addSign a0 σ = some (v, τ)) : Met l yX4_addSign wsX4_addSign rm_X4_addSign (va_Pc [.ref (ad 7), .int (zI a0)] (PreW D cy 39 (cellC cy ad) ad σ)) (QI D 39 (cellC cy ad) ad v τ) 0 0 (AC 39 ad) := by
  refine r_met (cc := cX4_addSign) (maxL := 2) (ret := (some .boolean)) (own := RX4) (by decide) rfl rfl [.ref (ad 7), .int (zI a0)] (Nat.le_of_ble_eq_true rfl) ?_
  intro p e s m below meth c ls S hK hP hlk hr hl
  have hS : va_S (AC 39 ad) s.heap s.heap [] := va_S.rf
  have hl : lv_has ls 2 [(0, .ref (ad 7)), (1, .int (zI a0))] := hl
  unfold f_X4_addSign at hf
  refine lv_aload_n S.1 S.2.1 dX4_addSign_0 rfl (lv_at hl 0 rfl) ?_
  refine lv_aload_n S.1 S.2.1 dX4_addSign_1 rfl (lv_at hl 0 rfl) ?_
  refine r_get S hK hP (by decide) rfl rfl h_X4_addSign_X4 5 (by decide) k_X4_addSign_1 rfl dX4_addSign_2 ?_
  refine r_iconst S dX4_addSign_5 ?_
  refine r_imul S dX4_addSign_6 ?_
  refine lv_aload_n S.1 S.2.1 dX4_addSign_7 rfl (lv_at hl 0 rfl) ?_
  refine lv_aload_n S.1 S.2.1 dX4_addSign_8 rfl (lv_at hl 0 rfl) ?_
  refine r_get S hK hP (by decide) rfl rfl h_X4_addSign_X4 5 (by decide) k_X4_addSign_1 rfl dX4_addSign_9 ?_
  obtain ⟨y2, hq1, hf⟩ := bV_some hf
  refine r_callVI S hK hP hS (by decide) rfl rfl [.int (zI (σ 7 5))] (c_X4_countOf l D cy ad hO 7 (by decide) (σ 7 5) σ hq1) (cw_X4_addSign_X4_countOf S.2.2.2.2) rfl hl.1 (rest := [.int (zI ((σ 7 5) * 4)), .ref (ad 7)]) rfl (Nat.le_of_ble_eq_true rfl) dX4_addSign_12 ⟨Nat.zero_le _, Nat.zero_le _⟩ (fun H locs hP hS => ?_)
  refine r_iadd S dX4_addSign_15 ?_
  refine r_iconst S dX4_addSign_16 ?_
  refine r_isub S dX4_addSign_17 ?_
  refine lv_iload_n S.1 S.2.1 dX4_addSign_18 rfl (lv_at hl 1 rfl) ?_
  obtain ⟨y5, σ4, hq3, hf⟩ := bL1_some hf
  refine r_callVI S hK hP hS (by decide) rfl rfl [.int (zI ((((σ 7 5) * 4) + y2) - 1)), .int (zI a0)] (c_X4_addTo l D cy ad hO 7 (by decide) ((((σ 7 5) * 4) + y2) - 1) a0 σ hq3) (cw_X4_addSign_X4_addTo S.2.2.2.2) rfl hl.1 (rest := []) rfl (Nat.le_of_ble_eq_true rfl) dX4_addSign_19 ⟨Nat.zero_le _, Nat.zero_le _⟩ (fun H locs hP hS => ?_)
  obtain ⟨hb6, hf⟩ := gd_some hf
  obtain ⟨e1, e2⟩ := inj2 hf
  subst e1
  subst e2
  exact e_Z S hlk hP hS hb6 hr dX4_addSign_22
def rm_X8_addSign : Room := { frames := 3, cells := 0, slots := 0, locals := 65 }
theorem cw_X8_addSign_X4_addSign {s : State} {args : Array Value} (hts : ∀ w ∈ wsX8_addSign, w.before args s = true) : CallW rm_X8_addSign s args RX8 RX4 50 yX4_addSign cX4_addSign 2 (some .boolean) wsX4_addSign rm_X4_addSign 0 0 1 := cwV 1 hts gX8_addSign_X4_addSign rfl rfl rfl (by decide +kernel) ⟨Nat.le_of_ble_eq_true rfl, Nat.le_of_ble_eq_true rfl⟩
set_option maxHeartbeats 4000000 in
set_option maxRecDepth 100000 in
theorem c_X8_addSign (l : Launch) (D : va_G) (cy : Nat → ClassId) (ad : Nat → Nat) (hO : adOK 39 ad) (a0 : Int) (σ : Mem) {v : Int} {τ : Mem} (hf : f_X8_addSign a0 σ = some (v, τ)) : Met l yX8_addSign wsX8_addSign rm_X8_addSign (va_Pc [.int (zI a0), .ref (ad 7)] (PreW D cy 39 (cellC cy ad) ad σ)) (QI D 39 (cellC cy ad) ad v τ) 0 0 (AC 39 ad) := by
  refine r_met (cc := cX8_addSign) (maxL := 3) (ret := (some .int)) (own := RX8) (by decide) rfl rfl [.int (zI a0), .ref (ad 7)] (Nat.le_of_ble_eq_true rfl) ?_
  intro p e s m below meth c ls S hK hP hlk hr hl
  have hS : va_S (AC 39 ad) s.heap s.heap [] := va_S.rf
  have hl : lv_has ls 3 [(0, .int (zI a0)), (1, .ref (ad 7))] := hl
  unfold f_X8_addSign at hf
  refine lv_iload_n S.1 S.2.1 dX8_addSign_0 rfl (lv_at hl 0 rfl) ?_
  refine r_bipush S dX8_addSign_1 (by decide) ?_
  obtain ⟨v1, hq, hf⟩ := bV_some hf
  have kJ0 : ∀ (H : Heap) (locs : List Loc) (ls : Array Slot), va_P D vwCl (WW 39 (cellC cy ad) ad σ) H → va_S (AC 39 ad) s.heap H locs → lv_has ls 3 [(1, .ref (ad 7))] → W p l e rm_X8_addSign s m ([.int (zI a0), .ref (ad 7)] : List Value).toArray below meth c H locs 0 0 (MQ below (QI D 39 (cellC cy ad) ad v τ) ([.int (zI a0), .ref (ad 7)] : List Value).toArray s 0 0 (AC 39 ad)) (F0 m 19 ls [.int (zI v1)]) := by
    intro H locs ls hP hS hl
    refine r_istore_n S rfl (lv2 := [(2, .int (zI v1)), (1, .ref (ad 7))]) dX8_addSign_19 rfl hl (by decide) rfl (fun ls hl => ?_)
    refine lv_aload_n S.1 S.2.1 dX8_addSign_20 rfl (lv_at hl 1 rfl) ?_
    refine lv_iload_n S.1 S.2.1 dX8_addSign_21 rfl (lv_at hl 0 rfl) ?_
    obtain ⟨y5, σ4, hq3, hf⟩ := bL1_some hf
    refine r_callVI S hK hP hS (by decide) rfl rfl [.int (zI v1)] (c_X4_addSign l D cy ad hO v1 σ hq3) (cw_X8_addSign_X4_addSign S.2.2.2.2) rfl hl.1 (rest := []) rfl (Nat.le_of_ble_eq_true rfl) dX8_addSign_22 ⟨Nat.zero_le _, Nat.zero_le _⟩ (fun H locs hP hS => ?_)
    refine r_if_eq (tgt := 32) S dX8_addSign_25 (by decide) (fun c6 => ?_) (fun c6 => ?_)
    · have hf := (if_pos c6).symm.trans hf
      refine r_iconst S dX8_addSign_32 ?_
      obtain ⟨e1, e2⟩ := inj2 hf
      subst e1
      subst e2
      exact e_I S hlk hP hS hr dX8_addSign_33
    · have hf := (if_neg c6).symm.trans hf
      refine r_iconst S dX8_addSign_28 ?_
      refine lv_goto (tgt := 33) S.1 S.2.1 dX8_addSign_29 (by decide) ?_
      obtain ⟨e1, e2⟩ := inj2 hf
      subst e1
      subst e2
      exact e_I S hlk hP hS hr dX8_addSign_33
  clear hf
  have hf := hq
  refine lv_icmp_lt (tgt := 13) S.1 S.2.1 dX8_addSign_3 (by decide) (fun c2 => ?_) (fun c2 => ?_)
  · have hf := (if_pos c2).symm.trans hf
    refine r_iconst S dX8_addSign_13 ?_
    refine lv_iload_n S.1 S.2.1 dX8_addSign_14 rfl (lv_at hl 0 rfl) ?_
    refine r_iadd S dX8_addSign_15 ?_
    refine r_bipush S dX8_addSign_16 (by decide) ?_
    refine r_isub S dX8_addSign_18 ?_
    have e1 := Option.some.inj hf
    subst e1
    exact kJ0 _ _ _ hP hS (lv_sub hl [1] rfl)
  · have hf := (if_neg c2).symm.trans hf
    refine lv_iload_n S.1 S.2.1 dX8_addSign_6 rfl (lv_at hl 0 rfl) ?_
    refine r_bipush S dX8_addSign_7 (by decide) ?_
    refine r_isub S dX8_addSign_9 ?_
    refine lv_goto (tgt := 19) S.1 S.2.1 dX8_addSign_10 (by decide) ?_
    have e1 := Option.some.inj hf
    subst e1
    exact kJ0 _ _ _ hP hS (lv_sub hl [1] rfl)
def rm_X8_openRule : Room := { frames := 4, cells := 0, slots := 0, locals := 87 }
theorem cw_X8_openRule_X4_beginRule {s : State} {args : Array Value} (hts : ∀ w ∈ wsX8_openRule, w.before args s = true) : CallW rm_X8_openRule s args RX8 RX4 47 yX4_beginRule cX4_beginRule 1 none wsX4_beginRule rm_X4_beginRule 0 0 0 := cwV 0 hts gX8_openRule_X4_beginRule rfl rfl rfl (by decide +kernel) ⟨Nat.le_of_ble_eq_true rfl, Nat.le_of_ble_eq_true rfl⟩
theorem cw_X8_openRule_X8_addSign {s : State} {args : Array Value} (hts : ∀ w ∈ wsX8_openRule, w.before args s = true) : CallB rm_X8_openRule s args RX8 41 yX8_addSign cX8_addSign 3 (some .int) wsX8_addSign rm_X8_addSign 0 0 2 ∧ (Cond.static yX8_addSign).before args s = true := va_cwS 2 hts gX8_openRule_X8_addSign rfl rfl rfl (by decide +kernel) ⟨Nat.le_of_ble_eq_true rfl, Nat.le_of_ble_eq_true rfl⟩
theorem cw_X8_openRule_X8_isSign {s : State} {args : Array Value} (hts : ∀ w ∈ wsX8_openRule, w.before args s = true) : CallB rm_X8_openRule s args RX8 38 yX8_isSign cX8_isSign 1 (some .boolean) wsX8_isSign rm_X8_isSign 0 0 1 ∧ (Cond.static yX8_isSign).before args s = true := va_cwS 1 hts gX8_openRule_X8_isSign rfl rfl rfl (by decide +kernel) ⟨Nat.le_of_ble_eq_true rfl, Nat.le_of_ble_eq_true rfl⟩
set_option maxHeartbeats 4000000 in
set_option maxRecDepth 100000 in
theorem c_X8_openRule (l : Launch) (D : va_G) (cy : Nat → ClassId) (ad : Nat → Nat) (hO : adOK 39 ad) (a0 : Int) (σ : Mem) {v : Int} {τ : Mem} (hf : f_X8_openRule a0 σ = some (v, τ)) : Met l yX8_openRule wsX8_openRule rm_X8_openRule (va_Pc [.int (zI a0), .ref (ad 7)] (PreW D cy 39 (cellC cy ad) ad σ)) (QI D 39 (cellC cy ad) ad v τ) 0 0 (AC 39 ad) := by
  refine r_met (cc := cX8_openRule) (maxL := 2) (ret := (some .int)) (own := RX8) (by decide) rfl rfl [.int (zI a0), .ref (ad 7)] (Nat.le_of_ble_eq_true rfl) ?_
  intro p e s m below meth c ls S hK hP hlk hr hl
  have hS : va_S (AC 39 ad) s.heap s.heap [] := va_S.rf
  have hl : lv_has ls 2 [(0, .int (zI a0)), (1, .ref (ad 7))] := hl
  unfold f_X8_openRule at hf
  refine lv_iload_n S.1 S.2.1 dX8_openRule_0 rfl (lv_at hl 0 rfl) ?_
  refine r_bipush S dX8_openRule_1 (by decide) ?_
  refine lv_icmp_ne (tgt := 12) S.1 S.2.1 dX8_openRule_3 (by decide) (fun c1 => ?_) (fun c1 => ?_)
  · have hf := (if_neg c1).symm.trans hf
    refine lv_iload_n S.1 S.2.1 dX8_openRule_12 rfl (lv_at hl 0 rfl) ?_
    obtain ⟨y3, hq2, hf⟩ := bV_some hf
    refine r_callSI S hK hP hS [.int (zI a0)] (c_X8_isSign l D cy ad hO a0 σ hq2) (cw_X8_openRule_X8_isSign S.2.2.2.2) rfl hl.1 (rest := []) rfl (Nat.le_of_ble_eq_true rfl) dX8_openRule_13 ⟨Nat.zero_le _, Nat.zero_le _⟩ (fun H locs hP hS => ?_)
    refine r_if_ne (tgt := 21) S dX8_openRule_16 (by decide) (fun c4 => ?_) (fun c4 => ?_)
    · have hf := (if_neg c4).symm.trans hf
      refine lv_aload_n S.1 S.2.1 dX8_openRule_21 rfl (lv_at hl 1 rfl) ?_
      obtain ⟨σ6, hq5, hf⟩ := bV_some hf
      refine r_callVV S hK hP hS (by decide) rfl rfl [] (c_X4_beginRule l D cy ad hO σ hq5) (cw_X8_openRule_X4_beginRule S.2.2.2.2) rfl hl.1 (rest := []) rfl (Nat.le_of_ble_eq_true rfl) dX8_openRule_22 ⟨Nat.zero_le _, Nat.zero_le _⟩ (fun H locs hP hS => ?_)
      refine lv_iload_n S.1 S.2.1 dX8_openRule_25 rfl (lv_at hl 0 rfl) ?_
      refine lv_aload_n S.1 S.2.1 dX8_openRule_26 rfl (lv_at hl 1 rfl) ?_
      obtain ⟨y9, σ8, hq7, hf⟩ := bL1_some hf
      refine r_callSI S hK hP hS [.int (zI a0), .ref (ad 7)] (c_X8_addSign l D cy ad hO a0 σ6 hq7) (cw_X8_openRule_X8_addSign S.2.2.2.2) rfl hl.1 (rest := []) rfl (Nat.le_of_ble_eq_true rfl) dX8_openRule_27 ⟨Nat.zero_le _, Nat.zero_le _⟩ (fun H locs hP hS => ?_)
      obtain ⟨e1, e2⟩ := inj2 hf
      subst e1
      subst e2
      exact e_I S hlk hP hS hr dX8_openRule_30
    · have hf := (if_pos c4).symm.trans hf
      refine r_iconst S dX8_openRule_19 ?_
      obtain ⟨e1, e2⟩ := inj2 hf
      subst e1
      subst e2
      exact e_I S hlk hP hS hr dX8_openRule_20
  · have hf := (if_pos c1).symm.trans hf
    refine lv_aload_n S.1 S.2.1 dX8_openRule_6 rfl (lv_at hl 1 rfl) ?_
    obtain ⟨σ11, hq10, hf⟩ := bV_some hf
    refine r_callVV S hK hP hS (by decide) rfl rfl [] (c_X4_beginRule l D cy ad hO σ hq10) (cw_X8_openRule_X4_beginRule S.2.2.2.2) rfl hl.1 (rest := []) rfl (Nat.le_of_ble_eq_true rfl) dX8_openRule_7 ⟨Nat.zero_le _, Nat.zero_le _⟩ (fun H locs hP hS => ?_)
    refine r_iconst S dX8_openRule_10 ?_
    obtain ⟨e1, e2⟩ := inj2 hf
    subst e1
    subst e2
    exact e_I S hlk hP hS hr dX8_openRule_11
def rm_X4_hasRoomForName : Room := { frames := 0, cells := 0, slots := 0, locals := 0 }
theorem k_X4_hasRoomForName_1 : (.fieldLink RX4 21 "MendTexts$Grammar" "namesTold" "I" : Cond) ∈ wsX4_hasRoomForName := List.mem_of_getElem? (i := 1) (by decide +kernel)
theorem h_X4_hasRoomForName_X4 : ∀ w ∈ u_ws RX4 TX4 7, w ∈ wsX4_hasRoomForName := mem_places _ [2, 3, 4, 5, 6, 7, 8] (by decide +kernel)
set_option maxHeartbeats 4000000 in
set_option maxRecDepth 100000 in
theorem c_X4_hasRoomForName (l : Launch) (D : va_G) (cy : Nat → ClassId) (ad : Nat → Nat) (hO : adOK 39 ad) (σ : Mem) {v : Int} (hf : f_X4_hasRoomForName σ = some v) : Met l yX4_hasRoomForName wsX4_hasRoomForName rm_X4_hasRoomForName (va_Pc [.ref (ad 7)] (PreW D cy 39 (cellC cy ad) ad σ)) (QI D 39 (cellC cy ad) ad v σ) 0 0 (AC 39 ad) := by
  refine r_met (cc := cX4_hasRoomForName) (maxL := 1) (ret := (some .boolean)) (own := RX4) (by decide) rfl rfl [.ref (ad 7)] (Nat.le_of_ble_eq_true rfl) ?_
  intro p e s m below meth c ls S hK hP hlk hr hl
  have hS : va_S (AC 39 ad) s.heap s.heap [] := va_S.rf
  have hl : lv_has ls 1 [(0, .ref (ad 7))] := hl
  unfold f_X4_hasRoomForName at hf
  refine lv_aload_n S.1 S.2.1 dX4_hasRoomForName_0 rfl (lv_at hl 0 rfl) ?_
  refine r_get S hK hP (by decide) rfl rfl h_X4_hasRoomForName_X4 3 (by decide) k_X4_hasRoomForName_1 rfl dX4_hasRoomForName_1 ?_
  refine r_bipush S dX4_hasRoomForName_4 (by decide) ?_
  refine lv_icmp_eq (tgt := 13) S.1 S.2.1 dX4_hasRoomForName_6 (by decide) (fun c1 => ?_) (fun c1 => ?_)
  · have hf := (if_pos c1).symm.trans hf
    refine r_iconst S dX4_hasRoomForName_13 ?_
    have e1 := Option.some.inj hf
    subst e1
    exact e_Z S hlk hP hS (Or.inl rfl) hr dX4_hasRoomForName_14
  · have hf := (if_neg c1).symm.trans hf
    refine r_iconst S dX4_hasRoomForName_9 ?_
    refine lv_goto (tgt := 14) S.1 S.2.1 dX4_hasRoomForName_10 (by decide) ?_
    have e1 := Option.some.inj hf
    subst e1
    exact e_Z S hlk hP hS (Or.inr rfl) hr dX4_hasRoomForName_14
def rm_X8_closeRule : Room := { frames := 3, cells := 0, slots := 0, locals := 61 }
theorem cw_X8_closeRule_X4_hasRoomForName {s : State} {args : Array Value} (hts : ∀ w ∈ wsX8_closeRule, w.before args s = true) : CallW rm_X8_closeRule s args RX8 RX4 56 yX4_hasRoomForName cX4_hasRoomForName 1 (some .boolean) wsX4_hasRoomForName rm_X4_hasRoomForName 0 0 0 := cwV 0 hts gX8_closeRule_X4_hasRoomForName rfl rfl rfl (by decide +kernel) ⟨Nat.le_of_ble_eq_true rfl, Nat.le_of_ble_eq_true rfl⟩
theorem cw_X8_closeRule_X4_hasRoomForRule {s : State} {args : Array Value} (hts : ∀ w ∈ wsX8_closeRule, w.before args s = true) : CallW rm_X8_closeRule s args RX8 RX4 52 yX4_hasRoomForRule cX4_hasRoomForRule 1 (some .boolean) wsX4_hasRoomForRule rm_X4_hasRoomForRule 0 0 0 := cwV 0 hts gX8_closeRule_X4_hasRoomForRule rfl rfl rfl (by decide +kernel) ⟨Nat.le_of_ble_eq_true rfl, Nat.le_of_ble_eq_true rfl⟩
set_option maxHeartbeats 4000000 in
set_option maxRecDepth 100000 in
theorem c_X8_closeRule (l : Launch) (D : va_G) (cy : Nat → ClassId) (ad : Nat → Nat) (hO : adOK 39 ad) (a0 : Int) (σ : Mem) {v : Int} (hf : f_X8_closeRule a0 σ = some v) : Met l yX8_closeRule wsX8_closeRule rm_X8_closeRule (va_Pc [.int (zI a0), .ref (ad 7)] (PreW D cy 39 (cellC cy ad) ad σ)) (QI D 39 (cellC cy ad) ad v σ) 0 0 (AC 39 ad) := by
  refine r_met (cc := cX8_closeRule) (maxL := 2) (ret := (some .int)) (own := RX8) (by decide) rfl rfl [.int (zI a0), .ref (ad 7)] (Nat.le_of_ble_eq_true rfl) ?_
  intro p e s m below meth c ls S hK hP hlk hr hl
  have hS : va_S (AC 39 ad) s.heap s.heap [] := va_S.rf
  have hl : lv_has ls 2 [(0, .int (zI a0)), (1, .ref (ad 7))] := hl
  unfold f_X8_closeRule at hf
  refine lv_iload_n S.1 S.2.1 dX8_closeRule_0 rfl (lv_at hl 0 rfl) ?_
  refine r_bipush S dX8_closeRule_1 (by decide) ?_
  obtain ⟨t1, hq, hf⟩ := bV_some hf
  have kJ0 : t1 = 0 → ∀ (H : Heap) (locs : List Loc) (ls : Array Slot), va_P D vwCl (WW 39 (cellC cy ad) ad σ) H → va_S (AC 39 ad) s.heap H locs → lv_has ls 2 [(0, .int (zI a0)), (1, .ref (ad 7))] → W p l e rm_X8_closeRule s m ([.int (zI a0), .ref (ad 7)] : List Value).toArray below meth c H locs 0 0 (MQ below (QI D 39 (cellC cy ad) ad v σ) ([.int (zI a0), .ref (ad 7)] : List Value).toArray s 0 0 (AC 39 ad)) (F0 m 15 ls []) := by
    intro ht
    intro H locs ls hP hS hl
    have hf := (if_pos ht).symm.trans hf
    refine lv_iload_n S.1 S.2.1 dX8_closeRule_15 rfl (lv_at hl 0 rfl) ?_
    refine r_bipush S dX8_closeRule_16 (by decide) ?_
    refine lv_icmp_ne (tgt := 32) S.1 S.2.1 dX8_closeRule_18 (by decide) (fun c6 => ?_) (fun c6 => ?_)
    · have hf := (if_neg c6).symm.trans hf
      refine r_iconst S dX8_closeRule_32 ?_
      have e1 := Option.some.inj hf
      subst e1
      exact e_I S hlk hP hS hr dX8_closeRule_33
    · have hf := (if_pos c6).symm.trans hf
      refine lv_aload_n S.1 S.2.1 dX8_closeRule_21 rfl (lv_at hl 1 rfl) ?_
      obtain ⟨y8, hq7, hf⟩ := bV_some hf
      refine r_callVI S hK hP hS (by decide) rfl rfl [] (c_X4_hasRoomForName l D cy ad hO σ hq7) (cw_X8_closeRule_X4_hasRoomForName S.2.2.2.2) rfl hl.1 (rest := []) rfl (Nat.le_of_ble_eq_true rfl) dX8_closeRule_22 ⟨Nat.zero_le _, Nat.zero_le _⟩ (fun H locs hP hS => ?_)
      refine r_if_eq (tgt := 32) S dX8_closeRule_25 (by decide) (fun c9 => ?_) (fun c9 => ?_)
      · have hf := (if_pos c9).symm.trans hf
        refine r_iconst S dX8_closeRule_32 ?_
        have e1 := Option.some.inj hf
        subst e1
        exact e_I S hlk hP hS hr dX8_closeRule_33
      · have hf := (if_neg c9).symm.trans hf
        refine r_iconst S dX8_closeRule_28 ?_
        refine lv_goto (tgt := 33) S.1 S.2.1 dX8_closeRule_29 (by decide) ?_
        have e1 := Option.some.inj hf
        subst e1
        exact e_I S hlk hP hS hr dX8_closeRule_33
  have kJ1 : t1 = 1 → ∀ (H : Heap) (locs : List Loc) (ls : Array Slot), va_P D vwCl (WW 39 (cellC cy ad) ad σ) H → va_S (AC 39 ad) s.heap H locs → lv_has ls 2 [] → W p l e rm_X8_closeRule s m ([.int (zI a0), .ref (ad 7)] : List Value).toArray below meth c H locs 0 0 (MQ below (QI D 39 (cellC cy ad) ad v σ) ([.int (zI a0), .ref (ad 7)] : List Value).toArray s 0 0 (AC 39 ad)) (F0 m 13 ls []) := by
    intro ht
    intro H locs ls hP hS hl
    have hf := (if_neg (by rw [ht]; decide)).symm.trans hf
    refine r_iconst S dX8_closeRule_13 ?_
    have e1 := Option.some.inj hf
    subst e1
    exact e_I S hlk hP hS hr dX8_closeRule_14
  clear hf
  have hf := hq
  refine lv_icmp_ne (tgt := 15) S.1 S.2.1 dX8_closeRule_3 (by decide) (fun c2 => ?_) (fun c2 => ?_)
  · have hf := (if_neg c2).symm.trans hf
    have e1 := Option.some.inj hf
    subst e1
    exact kJ0 rfl _ _ _ hP hS (lv_sub hl [0, 1] rfl)
  · have hf := (if_pos c2).symm.trans hf
    refine lv_aload_n S.1 S.2.1 dX8_closeRule_6 rfl (lv_at hl 1 rfl) ?_
    obtain ⟨y4, hq3, hf⟩ := bV_some hf
    refine r_callVI S hK hP hS (by decide) rfl rfl [] (c_X4_hasRoomForRule l D cy ad hO σ hq3) (cw_X8_closeRule_X4_hasRoomForRule S.2.2.2.2) rfl hl.1 (rest := []) rfl (Nat.le_of_ble_eq_true rfl) dX8_closeRule_7 ⟨Nat.zero_le _, Nat.zero_le _⟩ (fun H locs hP hS => ?_)
    refine r_if_eq (tgt := 15) S dX8_closeRule_10 (by decide) (fun c5 => ?_) (fun c5 => ?_)
    · have hf := (if_pos c5).symm.trans hf
      have e1 := Option.some.inj hf
      subst e1
      exact kJ0 rfl _ _ _ hP hS (lv_sub hl [0, 1] rfl)
    · have hf := (if_neg c5).symm.trans hf
      have e1 := Option.some.inj hf
      subst e1
      exact kJ1 rfl _ _ _ hP hS (lv_sub hl [] rfl)
def rm_X8_next : Room := { frames := 5, cells := 0, slots := 0, locals := 108 }
theorem cw_X8_next_X4_tellName {s : State} {args : Array Value} (hts : ∀ w ∈ wsX8_next, w.before args s = true) : CallW rm_X8_next s args RX8 RX4 30 yX4_tellName cX4_tellName 2 (some .boolean) wsX4_tellName rm_X4_tellName 0 0 1 := cwV 1 hts gX8_next_X4_tellName rfl rfl rfl (by decide +kernel) ⟨Nat.le_of_ble_eq_true rfl, Nat.le_of_ble_eq_true rfl⟩
theorem cw_X8_next_X8_addSign {s : State} {args : Array Value} (hts : ∀ w ∈ wsX8_next, w.before args s = true) : CallB rm_X8_next s args RX8 41 yX8_addSign cX8_addSign 3 (some .int) wsX8_addSign rm_X8_addSign 0 0 2 ∧ (Cond.static yX8_addSign).before args s = true := va_cwS 2 hts gX8_next_X8_addSign rfl rfl rfl (by decide +kernel) ⟨Nat.le_of_ble_eq_true rfl, Nat.le_of_ble_eq_true rfl⟩
theorem cw_X8_next_X8_closeRule {s : State} {args : Array Value} (hts : ∀ w ∈ wsX8_next, w.before args s = true) : CallB rm_X8_next s args RX8 44 yX8_closeRule cX8_closeRule 2 (some .int) wsX8_closeRule rm_X8_closeRule 0 0 2 ∧ (Cond.static yX8_closeRule).before args s = true := va_cwS 2 hts gX8_next_X8_closeRule rfl rfl rfl (by decide +kernel) ⟨Nat.le_of_ble_eq_true rfl, Nat.le_of_ble_eq_true rfl⟩
theorem cw_X8_next_X8_isSign {s : State} {args : Array Value} (hts : ∀ w ∈ wsX8_next, w.before args s = true) : CallB rm_X8_next s args RX8 38 yX8_isSign cX8_isSign 1 (some .boolean) wsX8_isSign rm_X8_isSign 0 0 1 ∧ (Cond.static yX8_isSign).before args s = true := va_cwS 1 hts gX8_next_X8_isSign rfl rfl rfl (by decide +kernel) ⟨Nat.le_of_ble_eq_true rfl, Nat.le_of_ble_eq_true rfl⟩
theorem cw_X8_next_X8_openRule {s : State} {args : Array Value} (hts : ∀ w ∈ wsX8_next, w.before args s = true) : CallB rm_X8_next s args RX8 34 yX8_openRule cX8_openRule 2 (some .int) wsX8_openRule rm_X8_openRule 0 0 2 ∧ (Cond.static yX8_openRule).before args s = true := va_cwS 2 hts gX8_next_X8_openRule rfl rfl rfl (by decide +kernel) ⟨Nat.le_of_ble_eq_true rfl, Nat.le_of_ble_eq_true rfl⟩
set_option maxHeartbeats 4000000 in
set_option maxRecDepth 100000 in
theorem c_X8_next (l : Launch) (D : va_G) (cy : Nat → ClassId) (ad : Nat → Nat) (hO : adOK 39 ad) (a0 : Int) (a1 : Int) (σ : Mem) {v : Int} {τ : Mem} (hf : f_X8_next a0 a1 σ = some (v, τ)) : Met l yX8_next wsX8_next rm_X8_next (va_Pc [.int (zI a0), .int (zI a1), .ref (ad 7)] (PreW D cy 39 (cellC cy ad) ad σ)) (QI D 39 (cellC cy ad) ad v τ) 0 0 (AC 39 ad) := by
  refine r_met (cc := cX8_next) (maxL := 3) (ret := (some .int)) (own := RX8) (by decide) rfl rfl [.int (zI a0), .int (zI a1), .ref (ad 7)] (Nat.le_of_ble_eq_true rfl) ?_
  intro p e s m below meth c ls S hK hP hlk hr hl
  have hS : va_S (AC 39 ad) s.heap s.heap [] := va_S.rf
  have hl : lv_has ls 3 [(0, .int (zI a0)), (1, .int (zI a1)), (2, .ref (ad 7))] := hl
  unfold f_X8_next at hf
  refine lv_iload_n S.1 S.2.1 dX8_next_0 rfl (lv_at hl 0 rfl) ?_
  by_cases c5 : zI a0 = zI 0
  · have hf := (if_pos c5).symm.trans hf
    refine lv_tableIn (off := 31) (tgt := 32) S.1 S.2.1 dX8_next_1 (by rw [c5]; decide) (by rw [c5]; decide) (by rw [c5]; rfl) (by decide) ?_
    refine lv_aload_n S.1 S.2.1 dX8_next_32 rfl (lv_at hl 2 rfl) ?_
    refine lv_iload_n S.1 S.2.1 dX8_next_33 rfl (lv_at hl 1 rfl) ?_
    refine r_bipush S dX8_next_34 (by decide) ?_
    refine r_isub S dX8_next_36 ?_
    obtain ⟨y3, σ2, hq1, hf⟩ := bL1_some hf
    refine r_callVI S hK hP hS (by decide) rfl rfl [.int (zI (a1 - 65))] (c_X4_tellName l D cy ad hO (a1 - 65) σ hq1) (cw_X8_next_X4_tellName S.2.2.2.2) rfl hl.1 (rest := []) rfl (Nat.le_of_ble_eq_true rfl) dX8_next_37 ⟨Nat.zero_le _, Nat.zero_le _⟩ (fun H locs hP hS => ?_)
    refine r_if_eq (tgt := 47) S dX8_next_40 (by decide) (fun c4 => ?_) (fun c4 => ?_)
    · have hf := (if_pos c4).symm.trans hf
      refine r_iconst S dX8_next_47 ?_
      obtain ⟨e1, e2⟩ := inj2 hf
      subst e1
      subst e2
      exact e_I S hlk hP hS hr dX8_next_48
    · have hf := (if_neg c4).symm.trans hf
      refine r_iconst S dX8_next_43 ?_
      refine lv_goto (tgt := 48) S.1 S.2.1 dX8_next_44 (by decide) ?_
      obtain ⟨e1, e2⟩ := inj2 hf
      subst e1
      subst e2
      exact e_I S hlk hP hS hr dX8_next_48
  have hf := (if_neg c5).symm.trans hf
  by_cases c7 : zI a0 = zI 1
  · have hf := (if_pos c7).symm.trans hf
    refine lv_tableIn (off := 48) (tgt := 49) S.1 S.2.1 dX8_next_1 (by rw [c7]; decide) (by rw [c7]; decide) (by rw [c7]; rfl) (by decide) ?_
    refine lv_iload_n S.1 S.2.1 dX8_next_49 rfl (lv_at hl 1 rfl) ?_
    refine r_bipush S dX8_next_50 (by decide) ?_
    refine lv_icmp_ne (tgt := 59) S.1 S.2.1 dX8_next_52 (by decide) (fun c6 => ?_) (fun c6 => ?_)
    · have hf := (if_neg c6).symm.trans hf
      refine r_iconst S dX8_next_59 ?_
      obtain ⟨e1, e2⟩ := inj2 hf
      subst e1
      subst e2
      exact e_I S hlk hP hS hr dX8_next_60
    · have hf := (if_pos c6).symm.trans hf
      refine r_iconst S dX8_next_55 ?_
      refine lv_goto (tgt := 60) S.1 S.2.1 dX8_next_56 (by decide) ?_
      obtain ⟨e1, e2⟩ := inj2 hf
      subst e1
      subst e2
      exact e_I S hlk hP hS hr dX8_next_60
  have hf := (if_neg c7).symm.trans hf
  by_cases c11 : zI a0 = zI 2
  · have hf := (if_pos c11).symm.trans hf
    refine lv_tableIn (off := 60) (tgt := 61) S.1 S.2.1 dX8_next_1 (by rw [c11]; decide) (by rw [c11]; decide) (by rw [c11]; rfl) (by decide) ?_
    refine lv_iload_n S.1 S.2.1 dX8_next_61 rfl (lv_at hl 1 rfl) ?_
    refine lv_aload_n S.1 S.2.1 dX8_next_62 rfl (lv_at hl 2 rfl) ?_
    obtain ⟨y10, σ9, hq8, hf⟩ := bL1_some hf
    refine r_callSI S hK hP hS [.int (zI a1), .ref (ad 7)] (c_X8_openRule l D cy ad hO a1 σ hq8) (cw_X8_next_X8_openRule S.2.2.2.2) rfl hl.1 (rest := []) rfl (Nat.le_of_ble_eq_true rfl) dX8_next_63 ⟨Nat.zero_le _, Nat.zero_le _⟩ (fun H locs hP hS => ?_)
    obtain ⟨e1, e2⟩ := inj2 hf
    subst e1
    subst e2
    exact e_I S hlk hP hS hr dX8_next_66
  have hf := (if_neg c11).symm.trans hf
  by_cases c20 : zI a0 = zI 3
  · have hf := (if_pos c20).symm.trans hf
    refine lv_tableIn (off := 66) (tgt := 67) S.1 S.2.1 dX8_next_1 (by rw [c20]; decide) (by rw [c20]; decide) (by rw [c20]; rfl) (by decide) ?_
    refine lv_iload_n S.1 S.2.1 dX8_next_67 rfl (lv_at hl 1 rfl) ?_
    obtain ⟨y13, hq12, hf⟩ := bV_some hf
    refine r_callSI S hK hP hS [.int (zI a1)] (c_X8_isSign l D cy ad hO a1 σ hq12) (cw_X8_next_X8_isSign S.2.2.2.2) rfl hl.1 (rest := []) rfl (Nat.le_of_ble_eq_true rfl) dX8_next_68 ⟨Nat.zero_le _, Nat.zero_le _⟩ (fun H locs hP hS => ?_)
    refine r_if_eq (tgt := 82) S dX8_next_71 (by decide) (fun c14 => ?_) (fun c14 => ?_)
    · have hf := (if_pos c14).symm.trans hf
      refine lv_iload_n S.1 S.2.1 dX8_next_82 rfl (lv_at hl 1 rfl) ?_
      refine lv_aload_n S.1 S.2.1 dX8_next_83 rfl (lv_at hl 2 rfl) ?_
      obtain ⟨y16, hq15, hf⟩ := bV_some hf
      refine r_callSI S hK hP hS [.int (zI a1), .ref (ad 7)] (c_X8_closeRule l D cy ad hO a1 σ hq15) (cw_X8_next_X8_closeRule S.2.2.2.2) rfl hl.1 (rest := []) rfl (Nat.le_of_ble_eq_true rfl) dX8_next_84 ⟨Nat.zero_le _, Nat.zero_le _⟩ (fun H locs hP hS => ?_)
      obtain ⟨e1, e2⟩ := inj2 hf
      subst e1
      subst e2
      exact e_I S hlk hP hS hr dX8_next_87
    · have hf := (if_neg c14).symm.trans hf
      refine lv_iload_n S.1 S.2.1 dX8_next_74 rfl (lv_at hl 1 rfl) ?_
      refine lv_aload_n S.1 S.2.1 dX8_next_75 rfl (lv_at hl 2 rfl) ?_
      obtain ⟨y19, σ18, hq17, hf⟩ := bL1_some hf
      refine r_callSI S hK hP hS [.int (zI a1), .ref (ad 7)] (c_X8_addSign l D cy ad hO a1 σ hq17) (cw_X8_next_X8_addSign S.2.2.2.2) rfl hl.1 (rest := []) rfl (Nat.le_of_ble_eq_true rfl) dX8_next_76 ⟨Nat.zero_le _, Nat.zero_le _⟩ (fun H locs hP hS => ?_)
      refine lv_goto (tgt := 87) S.1 S.2.1 dX8_next_79 (by decide) ?_
      obtain ⟨e1, e2⟩ := inj2 hf
      subst e1
      subst e2
      exact e_I S hlk hP hS hr dX8_next_87
  have hf := (if_neg c20).symm.trans hf
  refine lv_tableOut (tgt := 88) S.1 S.2.1 dX8_next_1 (tab_out4 c5 c7 c11 c20) (by decide) ?_
  refine lv_iload_n S.1 S.2.1 dX8_next_88 rfl (lv_at hl 1 rfl) ?_
  refine lv_aload_n S.1 S.2.1 dX8_next_89 rfl (lv_at hl 2 rfl) ?_
  obtain ⟨y22, hq21, hf⟩ := bV_some hf
  refine r_callSI S hK hP hS [.int (zI a1), .ref (ad 7)] (c_X8_closeRule l D cy ad hO a1 σ hq21) (cw_X8_next_X8_closeRule S.2.2.2.2) rfl hl.1 (rest := []) rfl (Nat.le_of_ble_eq_true rfl) dX8_next_90 ⟨Nat.zero_le _, Nat.zero_le _⟩ (fun H locs hP hS => ?_)
  obtain ⟨e1, e2⟩ := inj2 hf
  subst e1
  subst e2
  exact e_I S hlk hP hS hr dX8_next_93
def rm_X8_read : Room := { frames := 6, cells := 0, slots := 0, locals := 130 }
theorem k_X8_read_1 : (.fieldLink RX8 16 "MendTexts$Pad" "count" "I" : Cond) ∈ wsX8_read := List.mem_of_getElem? (i := 1) (by decide +kernel)
theorem h_X8_read_X5 : ∀ w ∈ u_ws RX5 TX5 2, w ∈ wsX8_read := mem_places _ [84, 85] (by decide +kernel)
theorem cw_X8_read_X4_clear {s : State} {args : Array Value} (hts : ∀ w ∈ wsX8_read, w.before args s = true) : CallW rm_X8_read s args RX8 RX4 9 yX4_clear cX4_clear 1 none wsX4_clear rm_X4_clear 0 0 0 := cwV 0 hts gX8_read_X4_clear rfl rfl rfl (by decide +kernel) ⟨Nat.le_of_ble_eq_true rfl, Nat.le_of_ble_eq_true rfl⟩
theorem cw_X8_read_X5_signAt {s : State} {args : Array Value} (hts : ∀ w ∈ wsX8_read, w.before args s = true) : CallW rm_X8_read s args RX8 RX5 22 yX5_signAt cX5_signAt 2 (some .int) wsX5_signAt rm_X5_signAt 0 0 1 := cwV 1 hts gX8_read_X5_signAt rfl rfl rfl (by decide +kernel) ⟨Nat.le_of_ble_eq_true rfl, Nat.le_of_ble_eq_true rfl⟩
theorem cw_X8_read_X8_next {s : State} {args : Array Value} (hts : ∀ w ∈ wsX8_read, w.before args s = true) : CallB rm_X8_read s args RX8 26 yX8_next cX8_next 3 (some .int) wsX8_next rm_X8_next 0 0 3 ∧ (Cond.static yX8_next).before args s = true := va_cwS 3 hts gX8_read_X8_next rfl rfl rfl (by decide +kernel) ⟨Nat.le_of_ble_eq_true rfl, Nat.le_of_ble_eq_true rfl⟩
set_option maxHeartbeats 4000000 in
set_option maxRecDepth 100000 in
theorem w_X8_read_L8 {p : Program} {l : Launch} {e : Env} {s : State} {m : MethodId} {args : Array Value} {below : List Frame} {meth : Method} {c : Code} {Q : State → Prop} {D : va_G} {cy : Nat → ClassId} {ad : Nat → Nat} {H0 : Heap} (hO : adOK 39 ad) (S : CallFix p m c cX8_read 4 s args wsX8_read RX8) (hK : KK D cy s) (n : Nat) {res : Nat × Int × Int × Mem} (k0 : ∀ (y2_ : Int) (y3_ : Int) (τ : Mem) (H2 : Heap) (locs2 : List Loc) (ls2 : Array Slot), res = (0, y2_, y3_, τ) → va_P D vwCl (WW 39 (cellC cy ad) ad τ) H2 → va_S (AC 39 ad) H0 H2 locs2 → lv_has ls2 4 [(3, .int (zI y3_))] → W p l e rm_X8_read s m args below meth c H2 locs2 0 0 Q (F0 m 32 ls2 [])) (k1 : ∀ (y2_ : Int) (y3_ : Int) (τ : Mem) (H2 : Heap) (locs2 : List Loc) (ls2 : Array Slot), res = (1, y2_, y3_, τ) → va_P D vwCl (WW 39 (cellC cy ad) ad τ) H2 → va_S (AC 39 ad) H0 H2 locs2 → lv_has ls2 4 [(0, .ref (ad 1)), (2, .int (zI y2_))] → W p l e rm_X8_read s m args below meth c H2 locs2 0 0 Q (F0 m 40 ls2 [])) :
    ∀ (k : Nat) (x2_ : Int) (x3_ : Int) (σ : Mem) (H : Heap) (locs : List Loc) (ls : Array Slot), f_X8_read_L8 n k x2_ x3_ σ = some res → va_P D vwCl (WW 39 (cellC cy ad) ad σ) H → va_S (AC 39 ad) H0 H locs → lv_has ls 4 [(0, .ref (ad 1)), (1, .ref (ad 7)), (2, .int (zI x2_)), (3, .int (zI x3_))] → W p l e rm_X8_read s m args below meth c H locs 0 0 Q (F0 m 8 ls []) := by
  intro k
  induction k with
  | zero =>
    intro x2_ x3_ σ H locs ls hf
    have hf : none = some res := hf
    cases hf
  | succ k ih =>
    intro x2_ x3_ σ H locs ls hf hP hS hl
    rw [f_X8_read_L8] at hf
    refine lv_iload_n S.1 S.2.1 dX8_read_8 rfl (lv_at hl 3 rfl) ?_
    refine lv_aload_n S.1 S.2.1 dX8_read_9 rfl (lv_at hl 0 rfl) ?_
    refine r_get S hK hP (by decide) rfl rfl h_X8_read_X5 1 (by decide) k_X8_read_1 rfl dX8_read_10 ?_
    refine lv_icmp_ge (tgt := 40) S.1 S.2.1 dX8_read_13 (by decide) (fun c1 => ?_) (fun c1 => ?_)
    · have hf := (if_pos c1).symm.trans hf
      exact k1 _ _ _ _ _ _ (Option.some.inj hf).symm hP hS (lv_sub hl [0, 2] rfl)
    · have hf := (if_neg c1).symm.trans hf
      refine lv_iload_n S.1 S.2.1 dX8_read_16 rfl (lv_at hl 2 rfl) ?_
      refine lv_aload_n S.1 S.2.1 dX8_read_17 rfl (lv_at hl 0 rfl) ?_
      refine lv_iload_n S.1 S.2.1 dX8_read_18 rfl (lv_at hl 3 rfl) ?_
      obtain ⟨y3, hq2, hf⟩ := bV_some hf
      refine r_callVI S hK hP hS (by decide) rfl rfl [.int (zI x3_)] (c_X5_signAt l D cy ad hO x3_ σ hq2) (cw_X8_read_X5_signAt S.2.2.2.2) rfl hl.1 (rest := [.int (zI x2_)]) rfl (Nat.le_of_ble_eq_true rfl) dX8_read_19 ⟨Nat.zero_le _, Nat.zero_le _⟩ (fun H locs hP hS => ?_)
      refine lv_aload_n S.1 S.2.1 dX8_read_22 rfl (lv_at hl 1 rfl) ?_
      obtain ⟨y6, σ5, hq4, hf⟩ := bL1_some hf
      refine r_callSI S hK hP hS [.int (zI x2_), .int (zI y3), .ref (ad 7)] (c_X8_next l D cy ad hO x2_ y3 σ hq4) (cw_X8_read_X8_next S.2.2.2.2) rfl hl.1 (rest := []) rfl (Nat.le_of_ble_eq_true rfl) dX8_read_23 ⟨Nat.zero_le _, Nat.zero_le _⟩ (fun H locs hP hS => ?_)
      refine r_istore_n S rfl (lv2 := [(2, .int (zI y6)), (0, .ref (ad 1)), (1, .ref (ad 7)), (3, .int (zI x3_))]) dX8_read_26 rfl hl (by decide) rfl (fun ls hl => ?_)
      refine lv_iload_n S.1 S.2.1 dX8_read_27 rfl (lv_at hl 0 rfl) ?_
      refine r_iconst S dX8_read_28 ?_
      refine lv_icmp_ne (tgt := 34) S.1 S.2.1 dX8_read_29 (by decide) (fun c7 => ?_) (fun c7 => ?_)
      · have hf := (if_neg c7).symm.trans hf
        obtain ⟨x8, hx8, hf⟩ := nm_some hf
        refine r_iinc S hx8 (k0 := 3) (lv2 := [(3, .int (zI x8)), (2, .int (zI y6)), (0, .ref (ad 1)), (1, .ref (ad 7))]) dX8_read_34 hl rfl (by decide) rfl (fun ls hl => ?_)
        refine lv_goto (tgt := 8) S.1 S.2.1 dX8_read_37 (by decide) ?_
        exact ih y6 x8 σ5 _ _ _ hf hP hS (lv_sub hl [2, 3, 1, 0] rfl)
      · have hf := (if_pos c7).symm.trans hf
        exact k0 _ _ _ _ _ _ (Option.some.inj hf).symm hP hS (lv_sub hl [3] rfl)
set_option maxHeartbeats 4000000 in
set_option maxRecDepth 100000 in
theorem c_X8_read (l : Launch) (D : va_G) (cy : Nat → ClassId) (ad : Nat → Nat) (hO : adOK 39 ad) (n : Nat) (σ : Mem) {v : Int} {τ : Mem} (hf : f_X8_read n σ = some (v, τ)) : Met l yX8_read wsX8_read rm_X8_read (va_Pc [.ref (ad 1), .ref (ad 7)] (PreW D cy 39 (cellC cy ad) ad σ)) (QI D 39 (cellC cy ad) ad v τ) 0 0 (AC 39 ad) := by
  refine r_met (cc := cX8_read) (maxL := 4) (ret := (some .int)) (own := RX8) (by decide) rfl rfl [.ref (ad 1), .ref (ad 7)] (Nat.le_of_ble_eq_true rfl) ?_
  intro p e s m below meth c ls S hK hP hlk hr hl
  have hS : va_S (AC 39 ad) s.heap s.heap [] := va_S.rf
  have hl : lv_has ls 4 [(0, .ref (ad 1)), (1, .ref (ad 7))] := hl
  unfold f_X8_read at hf
  refine lv_aload_n S.1 S.2.1 dX8_read_0 rfl (lv_at hl 1 rfl) ?_
  obtain ⟨σ2, hq1, hf⟩ := bV_some hf
  refine r_callVV S hK hP hS (by decide) rfl rfl [] (c_X4_clear l D cy ad hO σ hq1) (cw_X8_read_X4_clear S.2.2.2.2) rfl hl.1 (rest := []) rfl (Nat.le_of_ble_eq_true rfl) dX8_read_1 ⟨Nat.zero_le _, Nat.zero_le _⟩ (fun H locs hP hS => ?_)
  refine r_iconst S dX8_read_4 ?_
  refine r_istore_n S rfl (lv2 := [(2, .int (zI 0)), (0, .ref (ad 1)), (1, .ref (ad 7))]) dX8_read_5 rfl hl (by decide) rfl (fun ls hl => ?_)
  refine r_iconst S dX8_read_6 ?_
  refine r_istore_n S rfl (lv2 := [(3, .int (zI 0)), (2, .int (zI 0)), (0, .ref (ad 1)), (1, .ref (ad 7))]) dX8_read_7 rfl hl (by decide) rfl (fun ls hl => ?_)
  obtain ⟨t3, x4, x5, σ6, hq, hf⟩ := bL3_some hf
  refine w_X8_read_L8 hO S hK n (fun x4 x5 σ6 H locs ls he hP hS hl => ?_) (fun x4 x5 σ6 H locs ls he hP hS hl => ?_) n 0 0 σ2 _ _ _ hq hP hS (lv_sub hl [2, 3, 1, 0] rfl)
  · cases he
    have hf := (if_pos rfl).symm.trans hf
    refine lv_iload_n S.1 S.2.1 dX8_read_32 rfl (lv_at hl 0 rfl) ?_
    obtain ⟨e1, e2⟩ := inj2 hf
    subst e1
    subst e2
    exact e_I S hlk hP hS hr dX8_read_33
  · cases he
    have hf := (if_neg (by decide)).symm.trans hf
    refine lv_iload_n S.1 S.2.1 dX8_read_40 rfl (lv_at hl 1 rfl) ?_
    refine r_iconst S dX8_read_41 ?_
    refine lv_icmp_eq (tgt := 50) S.1 S.2.1 dX8_read_42 (by decide) (fun c7 => ?_) (fun c7 => ?_)
    · have hf := (if_pos c7).symm.trans hf
      refine r_bipush S dX8_read_50 (by decide) ?_
      refine lv_goto (tgt := 59) S.1 S.2.1 dX8_read_52 (by decide) ?_
      obtain ⟨e1, e2⟩ := inj2 hf
      subst e1
      subst e2
      exact e_I S hlk hP hS hr dX8_read_59
    · have hf := (if_neg c7).symm.trans hf
      refine lv_iload_n S.1 S.2.1 dX8_read_45 rfl (lv_at hl 1 rfl) ?_
      refine r_iconst S dX8_read_46 ?_
      refine lv_icmp_ne (tgt := 55) S.1 S.2.1 dX8_read_47 (by decide) (fun c8 => ?_) (fun c8 => ?_)
      · have hf := (if_neg c8).symm.trans hf
        refine lv_aload_n S.1 S.2.1 dX8_read_55 rfl (lv_at hl 0 rfl) ?_
        refine r_get S hK hP (by decide) rfl rfl h_X8_read_X5 1 (by decide) k_X8_read_1 rfl dX8_read_56 ?_
        obtain ⟨e1, e2⟩ := inj2 hf
        subst e1
        subst e2
        exact e_I S hlk hP hS hr dX8_read_59
      · have hf := (if_pos c8).symm.trans hf
        refine r_bipush S dX8_read_50 (by decide) ?_
        refine lv_goto (tgt := 59) S.1 S.2.1 dX8_read_52 (by decide) ?_
        obtain ⟨e1, e2⟩ := inj2 hf
        subst e1
        subst e2
        exact e_I S hlk hP hS hr dX8_read_59
def rm_X11_fault : Room := { frames := 7, cells := 0, slots := 0, locals := 153 }
theorem k_X11_fault_1 : (.fieldLink RX11 12 "MendTexts" "pad" "LMendTexts$Pad;" : Cond) ∈ wsX11_fault := List.mem_of_getElem? (i := 1) (by decide +kernel)
theorem k_X11_fault_2 : (.fieldLink RX11 23 "MendTexts" "draft" "LMendTexts$Grammar;" : Cond) ∈ wsX11_fault := List.mem_of_getElem? (i := 2) (by decide +kernel)
theorem h_X11_fault_X11 : ∀ w ∈ u_ws RX11 TX11 13, w ∈ wsX11_fault := mem_places _ [89, 90, 91, 92, 93, 94, 95, 96, 97, 98, 99, 100, 101] (by decide +kernel)
theorem cw_X11_fault_X8_read {s : State} {args : Array Value} (hts : ∀ w ∈ wsX11_fault, w.before args s = true) : CallB rm_X11_fault s args RX11 103 yX8_read cX8_read 4 (some .int) wsX8_read rm_X8_read 0 0 2 ∧ (Cond.static yX8_read).before args s = true := va_cwS 2 hts gX11_fault_X8_read rfl rfl rfl (by decide +kernel) ⟨Nat.le_of_ble_eq_true rfl, Nat.le_of_ble_eq_true rfl⟩
set_option maxHeartbeats 4000000 in
set_option maxRecDepth 100000 in
theorem c_X11_fault (l : Launch) (D : va_G) (cy : Nat → ClassId) (ad : Nat → Nat) (hO : adOK 39 ad) (n : Nat) (σ : Mem) {v : Int} {τ : Mem} (hf : f_X11_fault n σ = some (v, τ)) : Met l yX11_fault wsX11_fault rm_X11_fault (va_Pc [.ref (ad 0)] (PreW D cy 39 (cellC cy ad) ad σ)) (QI D 39 (cellC cy ad) ad v τ) 0 0 (AC 39 ad) := by
  refine r_met (cc := cX11_fault) (maxL := 1) (ret := (some .int)) (own := RX11) (by decide) rfl rfl [.ref (ad 0)] (Nat.le_of_ble_eq_true rfl) ?_
  intro p e s m below meth c ls S hK hP hlk hr hl
  have hS : va_S (AC 39 ad) s.heap s.heap [] := va_S.rf
  have hl : lv_has ls 1 [(0, .ref (ad 0))] := hl
  unfold f_X11_fault at hf
  refine lv_aload_n S.1 S.2.1 dX11_fault_0 rfl (lv_at hl 0 rfl) ?_
  refine r_get S hK hP (by decide) rfl rfl h_X11_fault_X11 0 (by decide) k_X11_fault_1 rfl dX11_fault_1 ?_
  refine lv_aload_n S.1 S.2.1 dX11_fault_4 rfl (lv_at hl 0 rfl) ?_
  refine r_get S hK hP (by decide) rfl rfl h_X11_fault_X11 2 (by decide) k_X11_fault_2 rfl dX11_fault_5 ?_
  obtain ⟨y3, σ2, hq1, hf⟩ := bL1_some hf
  refine r_callSI S hK hP hS [.ref (ad 1), .ref (ad 7)] (c_X8_read l D cy ad hO n σ hq1) (cw_X11_fault_X8_read S.2.2.2.2) rfl hl.1 (rest := []) rfl (Nat.le_of_ble_eq_true rfl) dX11_fault_8 ⟨Nat.zero_le _, Nat.zero_le _⟩ (fun H locs hP hS => ?_)
  obtain ⟨e1, e2⟩ := inj2 hf
  subst e1
  subst e2
  exact e_I S hlk hP hS hr dX11_fault_11
