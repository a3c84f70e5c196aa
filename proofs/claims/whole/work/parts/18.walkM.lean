def rm_X12_isBetter : Room := { frames := 0, cells := 0, slots := 0, locals := 0 }
set_option maxHeartbeats 4000000 in
set_option maxRecDepth 100000 in
theorem c_X12_isBetter (l : Launch) (D : va_G) (cy : Nat → ClassId) (ad : Nat → Nat) (hO : adOK 28 ad) (a0 : Int) (a1 : Int) (a2 : Int) (a3 : Int) (a4 : Int) (a5 : Int) (σ : Mem) {v : Int} (hf : f_X12_isBetter a0 a1 a2 a3 a4 a5 = some v) : Met l yX12_isBetter wsX12_isBetter rm_X12_isBetter (va_Pc [.int (zI a0), .int (zI a1), .int (zI a2), .int (zI a3), .int (zI a4), .int (zI a5)] (PreW D cy 28 (cellM cy ad) ad σ)) (QI D 28 (cellM cy ad) ad v σ) 0 0 (AC 28 ad) := by
  refine r_met (cc := cX12_isBetter) (maxL := 6) (ret := (some .boolean)) (own := RX12) (by decide) rfl rfl [.int (zI a0), .int (zI a1), .int (zI a2), .int (zI a3), .int (zI a4), .int (zI a5)] (Nat.le_of_ble_eq_true rfl) ?_
  intro p e s m below meth c ls S hK hP hlk hr hl
  have hS : va_S (AC 28 ad) s.heap s.heap [] := va_S.rf
  have hl : lv_has ls 6 [(0, .int (zI a0)), (1, .int (zI a1)), (2, .int (zI a2)), (3, .int (zI a3)), (4, .int (zI a4)), (5, .int (zI a5))] := hl
  unfold f_X12_isBetter at hf
  refine lv_iload_n S.1 S.2.1 dX12_isBetter_0 rfl (lv_at hl 0 rfl) ?_
  refine lv_iload_n S.1 S.2.1 dX12_isBetter_1 rfl (lv_at hl 3 rfl) ?_
  refine lv_icmp_eq (tgt := 16) S.1 S.2.1 dX12_isBetter_2 (by decide) (fun c1 => ?_) (fun c1 => ?_)
  · have hf := (if_pos c1).symm.trans hf
    refine lv_iload_n S.1 S.2.1 dX12_isBetter_16 rfl (lv_at hl 1 rfl) ?_
    refine lv_iload S.1 S.2.1 dX12_isBetter_17 (lv_at hl 4 rfl) ?_
    refine lv_icmp_eq (tgt := 36) S.1 S.2.1 dX12_isBetter_19 (by decide) (fun c2 => ?_) (fun c2 => ?_)
    · have hf := (if_pos c2).symm.trans hf
      refine lv_iload_n S.1 S.2.1 dX12_isBetter_36 rfl (lv_at hl 1 rfl) ?_
      refine r_bipush S dX12_isBetter_37 (by decide) ?_
      refine lv_icmp_gt (tgt := 52) S.1 S.2.1 dX12_isBetter_39 (by decide) (fun c3 => ?_) (fun c3 => ?_)
      · have hf := (if_pos c3).symm.trans hf
        refine r_iconst S dX12_isBetter_52 ?_
        have e1 := Option.some.inj hf
        subst e1
        exact e_Z S hlk hP hS (Or.inl rfl) hr dX12_isBetter_53
      · have hf := (if_neg c3).symm.trans hf
        refine lv_iload_n S.1 S.2.1 dX12_isBetter_42 rfl (lv_at hl 2 rfl) ?_
        refine lv_iload S.1 S.2.1 dX12_isBetter_43 (lv_at hl 5 rfl) ?_
        refine lv_icmp_ge (tgt := 52) S.1 S.2.1 dX12_isBetter_45 (by decide) (fun c4 => ?_) (fun c4 => ?_)
        · have hf := (if_pos c4).symm.trans hf
          refine r_iconst S dX12_isBetter_52 ?_
          have e1 := Option.some.inj hf
          subst e1
          exact e_Z S hlk hP hS (Or.inl rfl) hr dX12_isBetter_53
        · have hf := (if_neg c4).symm.trans hf
          refine r_iconst S dX12_isBetter_48 ?_
          refine lv_goto (tgt := 53) S.1 S.2.1 dX12_isBetter_49 (by decide) ?_
          have e1 := Option.some.inj hf
          subst e1
          exact e_Z S hlk hP hS (Or.inr rfl) hr dX12_isBetter_53
    · have hf := (if_neg c2).symm.trans hf
      refine lv_iload_n S.1 S.2.1 dX12_isBetter_22 rfl (lv_at hl 1 rfl) ?_
      refine lv_iload S.1 S.2.1 dX12_isBetter_23 (lv_at hl 4 rfl) ?_
      refine lv_icmp_ge (tgt := 32) S.1 S.2.1 dX12_isBetter_25 (by decide) (fun c5 => ?_) (fun c5 => ?_)
      · have hf := (if_pos c5).symm.trans hf
        refine r_iconst S dX12_isBetter_32 ?_
        refine lv_goto (tgt := 53) S.1 S.2.1 dX12_isBetter_33 (by decide) ?_
        have e1 := Option.some.inj hf
        subst e1
        exact e_Z S hlk hP hS (Or.inl rfl) hr dX12_isBetter_53
      · have hf := (if_neg c5).symm.trans hf
        refine r_iconst S dX12_isBetter_28 ?_
        refine lv_goto (tgt := 53) S.1 S.2.1 dX12_isBetter_29 (by decide) ?_
        have e1 := Option.some.inj hf
        subst e1
        exact e_Z S hlk hP hS (Or.inr rfl) hr dX12_isBetter_53
  · have hf := (if_neg c1).symm.trans hf
    refine lv_iload_n S.1 S.2.1 dX12_isBetter_5 rfl (lv_at hl 0 rfl) ?_
    refine lv_iload_n S.1 S.2.1 dX12_isBetter_6 rfl (lv_at hl 3 rfl) ?_
    refine lv_icmp_ge (tgt := 14) S.1 S.2.1 dX12_isBetter_7 (by decide) (fun c6 => ?_) (fun c6 => ?_)
    · have hf := (if_pos c6).symm.trans hf
      refine r_iconst S dX12_isBetter_14 ?_
      have e1 := Option.some.inj hf
      subst e1
      exact e_Z S hlk hP hS (Or.inl rfl) hr dX12_isBetter_15
    · have hf := (if_neg c6).symm.trans hf
      refine r_iconst S dX12_isBetter_10 ?_
      refine lv_goto (tgt := 15) S.1 S.2.1 dX12_isBetter_11 (by decide) ?_
      have e1 := Option.some.inj hf
      subst e1
      exact e_Z S hlk hP hS (Or.inr rfl) hr dX12_isBetter_15
def rm_X12_better : Room := { frames := 1, cells := 0, slots := 0, locals := 25 }
theorem k_X12_better_1 : (.fieldLink RX12 16 "MendTextsModel" "sizes" "[I" : Cond) ∈ wsX12_better := List.mem_of_getElem? (i := 1) (by decide +kernel)
theorem k_X12_better_2 : (.fieldLink RX12 46 "MendTextsModel" "rowCost" "[I" : Cond) ∈ wsX12_better := List.mem_of_getElem? (i := 2) (by decide +kernel)
theorem k_X12_better_3 : (.constant RX12 124 (100000000) : Cond) ∈ wsX12_better := List.mem_of_getElem? (i := 3) (by decide +kernel)
theorem k_X12_better_4 : (.fieldLink RX12 49 "MendTextsModel" "rowLength" "[I" : Cond) ∈ wsX12_better := List.mem_of_getElem? (i := 4) (by decide +kernel)
theorem k_X12_better_5 : (.fieldLink RX12 52 "MendTextsModel" "rowText" "[I" : Cond) ∈ wsX12_better := List.mem_of_getElem? (i := 5) (by decide +kernel)
theorem k_X12_better_6 : (.fieldLink RX12 19 "MendTextsModel" "parts" "[I" : Cond) ∈ wsX12_better := List.mem_of_getElem? (i := 6) (by decide +kernel)
theorem k_X12_better_7 : (.fieldLink RX12 115 "MendTextsModel" "oneCost" "I" : Cond) ∈ wsX12_better := List.mem_of_getElem? (i := 7) (by decide +kernel)
theorem k_X12_better_8 : (.fieldLink RX12 118 "MendTextsModel" "oneLength" "I" : Cond) ∈ wsX12_better := List.mem_of_getElem? (i := 8) (by decide +kernel)
theorem k_X12_better_9 : (.fieldLink RX12 121 "MendTextsModel" "oneText" "I" : Cond) ∈ wsX12_better := List.mem_of_getElem? (i := 9) (by decide +kernel)
theorem k_X12_better_10 : (.fieldLink RX12 31 "MendTextsModel" "costs" "[I" : Cond) ∈ wsX12_better := List.mem_of_getElem? (i := 10) (by decide +kernel)
theorem k_X12_better_11 : (.fieldLink RX12 37 "MendTextsModel" "cost" "[I" : Cond) ∈ wsX12_better := List.mem_of_getElem? (i := 11) (by decide +kernel)
theorem k_X12_better_12 : (.fieldLink RX12 40 "MendTextsModel" "length" "[I" : Cond) ∈ wsX12_better := List.mem_of_getElem? (i := 12) (by decide +kernel)
theorem k_X12_better_13 : (.fieldLink RX12 43 "MendTextsModel" "text" "[I" : Cond) ∈ wsX12_better := List.mem_of_getElem? (i := 13) (by decide +kernel)
theorem h_X12_better_X12 : ∀ w ∈ u_ws RX12 TX12 36, w ∈ wsX12_better := mem_places _ [23, 24, 25, 26, 27, 28, 29, 30, 31, 32, 33, 34, 35, 36, 37, 38, 39, 40, 41, 42, 43, 44, 45, 46, 47, 48, 49, 50, 51, 52, 53, 54, 55, 56, 57, 58] (by decide +kernel)
theorem cw_X12_better_X12_isBetter {s : State} {args : Array Value} (hts : ∀ w ∈ wsX12_better, w.before args s = true) : CallB rm_X12_better s args RX12 129 yX12_isBetter cX12_isBetter 6 (some .boolean) wsX12_isBetter rm_X12_isBetter 0 0 6 ∧ (Cond.static yX12_isBetter).before args s = true := va_cwS 6 hts gX12_better_X12_isBetter rfl rfl rfl (by decide +kernel) ⟨Nat.le_of_ble_eq_true rfl, Nat.le_of_ble_eq_true rfl⟩
theorem cw_X12_better_X12_one {s : State} {args : Array Value} (hts : ∀ w ∈ wsX12_better, w.before args s = true) : CallW rm_X12_better s args RX12 RX12 125 yX12_one cX12_one 6 none wsX12_one rm_X12_one 0 0 3 := cwV 3 hts gX12_better_X12_one rfl rfl rfl (by decide +kernel) ⟨Nat.le_of_ble_eq_true rfl, Nat.le_of_ble_eq_true rfl⟩
set_option maxHeartbeats 4000000 in
set_option maxRecDepth 100000 in
theorem w_X12_better_L19 {p : Program} {l : Launch} {e : Env} {s : State} {m : MethodId} {args : Array Value} {below : List Frame} {meth : Method} {c : Code} {Q : State → Prop} {D : va_G} {cy : Nat → ClassId} {ad : Nat → Nat} {H0 : Heap} (hO : adOK 28 ad) (S : CallFix p m c cX12_better 14 s args wsX12_better RX12) (hK : KK D cy s) (n : Nat) (x1_ : Int) (x3_ : Int) (x4_ : Int) (x5_ : Int) (x6_ : Int) {res : Mem} (k0 : ∀ (τ : Mem) (H2 : Heap) (locs2 : List Loc) (ls2 : Array Slot), res = τ → va_P D vwCl (WW 28 (cellM cy ad) ad τ) H2 → va_S (AC 28 ad) H0 H2 locs2 → lv_has ls2 14 [(0, .ref (ad 0)), (1, .int (zI x1_)), (3, .int (zI x3_)), (4, .int (zI x4_)), (5, .int (zI x5_)), (6, .int (zI x6_))] → W p l e rm_X12_better s m args below meth c H2 locs2 0 0 Q (F0 m 46 ls2 [])) :
    ∀ (k : Nat) (x7_ : Int) (σ : Mem) (H : Heap) (locs : List Loc) (ls : Array Slot), f_X12_better_L19 n x1_ x3_ x4_ x5_ x6_ k x7_ σ = some res → va_P D vwCl (WW 28 (cellM cy ad) ad σ) H → va_S (AC 28 ad) H0 H locs → lv_has ls 14 [(0, .ref (ad 0)), (1, .int (zI x1_)), (3, .int (zI x3_)), (4, .int (zI x4_)), (5, .int (zI x5_)), (6, .int (zI x6_)), (7, .int (zI x7_))] → W p l e rm_X12_better s m args below meth c H locs 0 0 Q (F0 m 19 ls []) := by
  intro k
  induction k with
  | zero =>
    intro x7_ σ H locs ls hf
    have hf : none = some res := hf
    cases hf
  | succ k ih =>
    intro x7_ σ H locs ls hf hP hS hl
    rw [f_X12_better_L19] at hf
    refine lv_iload S.1 S.2.1 dX12_better_19 (lv_at hl 6 rfl) ?_
    refine r_bipush S dX12_better_21 (by decide) ?_
    refine lv_iload S.1 S.2.1 dX12_better_23 (lv_at hl 5 rfl) ?_
    refine r_iconst S dX12_better_25 ?_
    refine r_iadd S dX12_better_26 ?_
    refine r_imul S dX12_better_27 ?_
    refine lv_icmp_ge (tgt := 46) S.1 S.2.1 dX12_better_28 (by decide) (fun c1 => ?_) (fun c1 => ?_)
    · have hf := (if_pos c1).symm.trans hf
      exact k0 _ _ _ _ (Option.some.inj hf).symm hP hS (lv_sub hl [0, 1, 2, 3, 4, 5] rfl)
    · have hf := (if_neg c1).symm.trans hf
      refine lv_aload_n S.1 S.2.1 dX12_better_31 rfl (lv_at hl 0 rfl) ?_
      refine r_get S hK hP (by decide) rfl rfl h_X12_better_X12 17 (by decide) k_X12_better_2 rfl dX12_better_32 ?_
      refine lv_iload S.1 S.2.1 dX12_better_35 (lv_at hl 6 rfl) ?_
      refine r_ldc S 100000000 (by decide +kernel) k_X12_better_3 dX12_better_37 ?_
      obtain ⟨g2, hf⟩ := gd_some hf
      obtain ⟨σ3, hσ3, hf⟩ := nm_some hf
      refine r_iast S hK hP hO hS (by decide) (n := 35) (fun _ => rfl) (by decide) g2 hσ3 dX12_better_39 (fun H locs hP hS => ?_)
      obtain ⟨x4, hx4, hf⟩ := nm_some hf
      refine r_iinc S hx4 (k0 := 6) (lv2 := [(7, .int (zI x4)), (0, .ref (ad 0)), (1, .int (zI x1_)), (3, .int (zI x3_)), (4, .int (zI x4_)), (5, .int (zI x5_)), (6, .int (zI x6_))]) dX12_better_40 hl rfl (by decide) rfl (fun ls hl => ?_)
      refine lv_goto (tgt := 19) S.1 S.2.1 dX12_better_43 (by decide) ?_
      exact ih x4 σ3 _ _ _ hf hP hS (lv_sub hl [1, 2, 3, 4, 5, 6, 0] rfl)
set_option maxHeartbeats 4000000 in
set_option maxRecDepth 100000 in
theorem w_X12_better_L91 {p : Program} {l : Launch} {e : Env} {s : State} {m : MethodId} {args : Array Value} {below : List Frame} {meth : Method} {c : Code} {Q : State → Prop} {D : va_G} {cy : Nat → ClassId} {ad : Nat → Nat} {H0 : Heap} (hO : adOK 28 ad) (S : CallFix p m c cX12_better 14 s args wsX12_better RX12) (hK : KK D cy s) (n : Nat) (x1_ : Int) (x3_ : Int) (x4_ : Int) (x5_ : Int) (x6_ : Int) (x7_ : Int) (x8_ : Int) {res : Mem} (k0 : ∀ (τ : Mem) (H2 : Heap) (locs2 : List Loc) (ls2 : Array Slot), res = τ → va_P D vwCl (WW 28 (cellM cy ad) ad τ) H2 → va_S (AC 28 ad) H0 H2 locs2 → lv_has ls2 14 [(0, .ref (ad 0)), (1, .int (zI x1_)), (3, .int (zI x3_)), (4, .int (zI x4_)), (5, .int (zI x5_)), (6, .int (zI x6_)), (7, .int (zI x7_)), (8, .int (zI x8_))] → W p l e rm_X12_better s m args below meth c H2 locs2 0 0 Q (F0 m 313 ls2 [])) :
    ∀ (k : Nat) (x9_ : Int) (σ : Mem) (H : Heap) (locs : List Loc) (ls : Array Slot), f_X12_better_L91 n x1_ x3_ x4_ x5_ x6_ x7_ x8_ k x9_ σ = some res → va_P D vwCl (WW 28 (cellM cy ad) ad σ) H → va_S (AC 28 ad) H0 H locs → lv_has ls 14 [(0, .ref (ad 0)), (1, .int (zI x1_)), (3, .int (zI x3_)), (4, .int (zI x4_)), (5, .int (zI x5_)), (6, .int (zI x6_)), (7, .int (zI x7_)), (8, .int (zI x8_)), (9, .int (zI x9_))] → W p l e rm_X12_better s m args below meth c H locs 0 0 Q (F0 m 91 ls []) := by
  intro k
  induction k with
  | zero =>
    intro x9_ σ H locs ls hf
    have hf : none = some res := hf
    cases hf
  | succ k ih =>
    intro x9_ σ H locs ls hf hP hS hl
    rw [f_X12_better_L91] at hf
    refine lv_iload S.1 S.2.1 dX12_better_91 (lv_at hl 8 rfl) ?_
    refine lv_iload S.1 S.2.1 dX12_better_93 (lv_at hl 3 rfl) ?_
    refine lv_icmp_gt (tgt := 313) S.1 S.2.1 dX12_better_95 (by decide) (fun c1 => ?_) (fun c1 => ?_)
    · have hf := (if_pos c1).symm.trans hf
      exact k0 _ _ _ _ (Option.some.inj hf).symm hP hS (lv_sub hl [0, 1, 2, 3, 4, 5, 6, 7] rfl)
    · have hf := (if_neg c1).symm.trans hf
      refine lv_aload_n S.1 S.2.1 dX12_better_98 rfl (lv_at hl 0 rfl) ?_
      refine r_get S hK hP (by decide) rfl rfl h_X12_better_X12 17 (by decide) k_X12_better_2 rfl dX12_better_99 ?_
      refine r_bipush S dX12_better_102 (by decide) ?_
      refine lv_iload S.1 S.2.1 dX12_better_104 (lv_at hl 6 rfl) ?_
      refine r_imul S dX12_better_106 ?_
      refine lv_iload S.1 S.2.1 dX12_better_107 (lv_at hl 7 rfl) ?_
      refine r_iadd S dX12_better_109 ?_
      obtain ⟨g2, hf⟩ := gd_some hf
      refine r_iald S hK hP (by decide) (n := 35) (fun _ => rfl) (by decide) g2 dX12_better_110 ?_
      refine r_ldc S 100000000 (by decide +kernel) k_X12_better_3 dX12_better_111 ?_
      refine lv_icmp_ge (tgt := 313) S.1 S.2.1 dX12_better_113 (by decide) (fun c3 => ?_) (fun c3 => ?_)
      · have hf := (if_pos c3).symm.trans hf
        exact k0 _ _ _ _ (Option.some.inj hf).symm hP hS (lv_sub hl [0, 1, 2, 3, 4, 5, 6, 7] rfl)
      · have hf := (if_neg c3).symm.trans hf
        refine lv_aload_n S.1 S.2.1 dX12_better_116 rfl (lv_at hl 0 rfl) ?_
        refine lv_aload_n S.1 S.2.1 dX12_better_117 rfl (lv_at hl 0 rfl) ?_
        refine r_get S hK hP (by decide) rfl rfl h_X12_better_X12 4 (by decide) k_X12_better_6 rfl dX12_better_118 ?_
        refine r_iconst S dX12_better_121 ?_
        refine lv_iload S.1 S.2.1 dX12_better_122 (lv_at hl 4 rfl) ?_
        refine r_imul S dX12_better_124 ?_
        refine lv_iload S.1 S.2.1 dX12_better_125 (lv_at hl 6 rfl) ?_
        refine r_iadd S dX12_better_127 ?_
        obtain ⟨g4, hf⟩ := gd_some hf
        refine r_iald S hK hP (by decide) (n := 120) (fun _ => rfl) (by decide) g4 dX12_better_128 ?_
        refine lv_iload S.1 S.2.1 dX12_better_129 (lv_at hl 7 rfl) ?_
        refine lv_iload S.1 S.2.1 dX12_better_131 (lv_at hl 8 rfl) ?_
        obtain ⟨σ6, hq5, hf⟩ := bV_some hf
        refine r_callVV S hK hP hS (by decide) rfl rfl [.int (zI (σ 4 ((4 * x5_) + x7_).toNat)), .int (zI x8_), .int (zI x9_)] (c_X12_one l D cy ad hO n (σ 4 ((4 * x5_) + x7_).toNat) x8_ x9_ σ hq5) (cw_X12_better_X12_one S.2.2.2.2) rfl hl.1 (rest := []) rfl (Nat.le_of_ble_eq_true rfl) dX12_better_133 ⟨Nat.zero_le _, Nat.zero_le _⟩ (fun H locs hP hS => ?_)
        refine r_bipush S dX12_better_136 (by decide) ?_
        refine lv_iload S.1 S.2.1 dX12_better_138 (lv_at hl 6 rfl) ?_
        refine r_iconst S dX12_better_140 ?_
        refine r_iadd S dX12_better_141 ?_
        refine r_imul S dX12_better_142 ?_
        refine lv_iload S.1 S.2.1 dX12_better_143 (lv_at hl 8 rfl) ?_
        refine r_iadd S dX12_better_145 ?_
        obtain ⟨x7, hx7, hf⟩ := nm_some hf
        refine r_istore S hx7 (lv2 := [(10, .int (zI x7)), (0, .ref (ad 0)), (1, .int (zI x1_)), (3, .int (zI x3_)), (4, .int (zI x4_)), (5, .int (zI x5_)), (6, .int (zI x6_)), (7, .int (zI x7_)), (8, .int (zI x8_)), (9, .int (zI x9_))]) dX12_better_146 hl (by decide) rfl (fun ls hl => ?_)
        refine lv_aload_n S.1 S.2.1 dX12_better_148 rfl (lv_at hl 1 rfl) ?_
        refine r_get S hK hP (by decide) rfl rfl h_X12_better_X12 17 (by decide) k_X12_better_2 rfl dX12_better_149 ?_
        refine r_bipush S dX12_better_152 (by decide) ?_
        refine lv_iload S.1 S.2.1 dX12_better_154 (lv_at hl 7 rfl) ?_
        refine r_imul S dX12_better_156 ?_
        refine lv_iload S.1 S.2.1 dX12_better_157 (lv_at hl 8 rfl) ?_
        refine r_iadd S dX12_better_159 ?_
        refine r_iald S hK hP (by decide) (n := 35) (fun _ => rfl) (by decide) g2 dX12_better_160 ?_
        refine lv_aload_n S.1 S.2.1 dX12_better_161 rfl (lv_at hl 1 rfl) ?_
        refine r_get S hK hP (by decide) rfl rfl h_X12_better_X12 20 (by decide) k_X12_better_7 rfl dX12_better_162 ?_
        refine r_iadd S dX12_better_165 ?_
        obtain ⟨x8, hx8, hf⟩ := nm_some hf
        refine r_istore S hx8 (lv2 := [(11, .int (zI x8)), (10, .int (zI x7)), (0, .ref (ad 0)), (1, .int (zI x1_)), (3, .int (zI x3_)), (4, .int (zI x4_)), (5, .int (zI x5_)), (6, .int (zI x6_)), (7, .int (zI x7_)), (8, .int (zI x8_)), (9, .int (zI x9_))]) dX12_better_166 hl (by decide) rfl (fun ls hl => ?_)
        refine lv_aload_n S.1 S.2.1 dX12_better_168 rfl (lv_at hl 2 rfl) ?_
        refine r_get S hK hP (by decide) rfl rfl h_X12_better_X12 18 (by decide) k_X12_better_4 rfl dX12_better_169 ?_
        refine r_bipush S dX12_better_172 (by decide) ?_
        refine lv_iload S.1 S.2.1 dX12_better_174 (lv_at hl 8 rfl) ?_
        refine r_imul S dX12_better_176 ?_
        refine lv_iload S.1 S.2.1 dX12_better_177 (lv_at hl 9 rfl) ?_
        refine r_iadd S dX12_better_179 ?_
        refine r_iald S hK hP (by decide) (n := 35) (fun _ => rfl) (by decide) g2 dX12_better_180 ?_
        refine lv_aload_n S.1 S.2.1 dX12_better_181 rfl (lv_at hl 2 rfl) ?_
        refine r_get S hK hP (by decide) rfl rfl h_X12_better_X12 21 (by decide) k_X12_better_8 rfl dX12_better_182 ?_
        refine r_iadd S dX12_better_185 ?_
        obtain ⟨x9, hx9, hf⟩ := nm_some hf
        refine r_istore S hx9 (lv2 := [(12, .int (zI x9)), (11, .int (zI x8)), (10, .int (zI x7)), (0, .ref (ad 0)), (1, .int (zI x1_)), (3, .int (zI x3_)), (4, .int (zI x4_)), (5, .int (zI x5_)), (6, .int (zI x6_)), (7, .int (zI x7_)), (8, .int (zI x8_)), (9, .int (zI x9_))]) dX12_better_186 hl (by decide) rfl (fun ls hl => ?_)
        refine lv_iload S.1 S.2.1 dX12_better_188 (lv_at hl 0 rfl) ?_
        refine r_bipush S dX12_better_190 (by decide) ?_
        obtain ⟨v10, hq, hf⟩ := bV_some hf
        have kJ0 : ∀ (H : Heap) (locs : List Loc) (ls : Array Slot), va_P D vwCl (WW 28 (cellM cy ad) ad σ6) H → va_S (AC 28 ad) H0 H locs → lv_has ls 14 [(0, .ref (ad 0)), (1, .int (zI x1_)), (3, .int (zI x3_)), (4, .int (zI x4_)), (5, .int (zI x5_)), (6, .int (zI x6_)), (7, .int (zI x7_)), (8, .int (zI x8_)), (9, .int (zI x9_)), (10, .int (zI x7)), (11, .int (zI x8)), (12, .int (zI x9))] → W p l e rm_X12_better s m args below meth c H locs 0 0 Q (F0 m 224 ls [.int (zI v10)]) := by
          intro H locs ls hP hS hl
          refine r_istore S rfl (lv2 := [(13, .int (zI v10)), (0, .ref (ad 0)), (1, .int (zI x1_)), (3, .int (zI x3_)), (4, .int (zI x4_)), (5, .int (zI x5_)), (6, .int (zI x6_)), (7, .int (zI x7_)), (8, .int (zI x8_)), (9, .int (zI x9_)), (10, .int (zI x7)), (11, .int (zI x8)), (12, .int (zI x9))]) dX12_better_224 hl (by decide) rfl (fun ls hl => ?_)
          refine lv_aload_n S.1 S.2.1 dX12_better_226 rfl (lv_at hl 1 rfl) ?_
          refine r_get S hK hP (by decide) rfl rfl h_X12_better_X12 20 (by decide) k_X12_better_7 rfl dX12_better_227 ?_
          refine r_ldc S 100000000 (by decide +kernel) k_X12_better_3 dX12_better_230 ?_
          obtain ⟨σ12, hq, hf⟩ := bV_some hf
          have kJ0 : ∀ (H : Heap) (locs : List Loc) (ls : Array Slot), va_P D vwCl (WW 28 (cellM cy ad) ad σ12) H → va_S (AC 28 ad) H0 H locs → lv_has ls 14 [(0, .ref (ad 0)), (1, .int (zI x1_)), (3, .int (zI x3_)), (4, .int (zI x4_)), (5, .int (zI x5_)), (6, .int (zI x6_)), (7, .int (zI x7_)), (8, .int (zI x8_)), (9, .int (zI x9_))] → W p l e rm_X12_better s m args below meth c H locs 0 0 Q (F0 m 307 ls []) := by
            intro H locs ls hP hS hl
            obtain ⟨x23, hx23, hf⟩ := nm_some hf
            refine r_iinc S hx23 (k0 := 8) (lv2 := [(9, .int (zI x23)), (0, .ref (ad 0)), (1, .int (zI x1_)), (3, .int (zI x3_)), (4, .int (zI x4_)), (5, .int (zI x5_)), (6, .int (zI x6_)), (7, .int (zI x7_)), (8, .int (zI x8_))]) dX12_better_307 hl rfl (by decide) rfl (fun ls hl => ?_)
            refine lv_goto (tgt := 91) S.1 S.2.1 dX12_better_310 (by decide) ?_
            exact ih x23 σ12 _ _ _ hf hP hS (lv_sub hl [1, 2, 3, 4, 5, 6, 7, 8, 0] rfl)
          clear hf
          have hf := hq
          refine lv_icmp_ge (tgt := 307) S.1 S.2.1 dX12_better_232 (by decide) (fun c13 => ?_) (fun c13 => ?_)
          · have hf := (if_pos c13).symm.trans hf
            have e1 := Option.some.inj hf
            subst e1
            exact kJ0 _ _ _ hP hS (lv_sub hl [1, 2, 3, 4, 5, 6, 7, 8, 9] rfl)
          · have hf := (if_neg c13).symm.trans hf
            refine lv_aload_n S.1 S.2.1 dX12_better_235 rfl (lv_at hl 1 rfl) ?_
            refine r_get S hK hP (by decide) rfl rfl h_X12_better_X12 17 (by decide) k_X12_better_2 rfl dX12_better_236 ?_
            refine lv_iload S.1 S.2.1 dX12_better_239 (lv_at hl 10 rfl) ?_
            obtain ⟨g14, hf⟩ := gd_some hf
            refine r_iald S hK hP (by decide) (n := 35) (fun _ => rfl) (by decide) g14 dX12_better_241 ?_
            refine r_ldc S 100000000 (by decide +kernel) k_X12_better_3 dX12_better_242 ?_
            obtain ⟨t15, hq, hf⟩ := bV_some hf
            have kJ0 : t15 = 0 → ∀ (H : Heap) (locs : List Loc) (ls : Array Slot), va_P D vwCl (WW 28 (cellM cy ad) ad σ6) H → va_S (AC 28 ad) H0 H locs → lv_has ls 14 [(0, .ref (ad 0)), (1, .int (zI x1_)), (3, .int (zI x3_)), (4, .int (zI x4_)), (5, .int (zI x5_)), (6, .int (zI x6_)), (7, .int (zI x7_)), (8, .int (zI x8_)), (9, .int (zI x9_)), (10, .int (zI x7)), (11, .int (zI x8)), (12, .int (zI x9)), (13, .int (zI v10))] → W p l e rm_X12_better s m args below meth c H locs 0 0 Q (F0 m 280 ls []) := by
              intro ht
              intro H locs ls hP hS hl
              have hf := (if_pos ht).symm.trans hf
              refine lv_aload_n S.1 S.2.1 dX12_better_280 rfl (lv_at hl 0 rfl) ?_
              refine r_get S hK hP (by decide) rfl rfl h_X12_better_X12 17 (by decide) k_X12_better_2 rfl dX12_better_281 ?_
              refine lv_iload S.1 S.2.1 dX12_better_284 (lv_at hl 9 rfl) ?_
              refine lv_iload S.1 S.2.1 dX12_better_286 (lv_at hl 10 rfl) ?_
              obtain ⟨σ20, hσ20, hf⟩ := nm_some hf
              refine r_iast S hK hP hO hS (by decide) (n := 35) (fun _ => rfl) (by decide) g14 hσ20 dX12_better_288 (fun H locs hP hS => ?_)
              refine lv_aload_n S.1 S.2.1 dX12_better_289 rfl (lv_at hl 0 rfl) ?_
              refine r_get S hK hP (by decide) rfl rfl h_X12_better_X12 18 (by decide) k_X12_better_4 rfl dX12_better_290 ?_
              refine lv_iload S.1 S.2.1 dX12_better_293 (lv_at hl 9 rfl) ?_
              refine lv_iload S.1 S.2.1 dX12_better_295 (lv_at hl 11 rfl) ?_
              obtain ⟨σ21, hσ21, hf⟩ := nm_some hf
              refine r_iast S hK hP hO hS (by decide) (n := 35) (fun _ => rfl) (by decide) g14 hσ21 dX12_better_297 (fun H locs hP hS => ?_)
              refine lv_aload_n S.1 S.2.1 dX12_better_298 rfl (lv_at hl 0 rfl) ?_
              refine r_get S hK hP (by decide) rfl rfl h_X12_better_X12 19 (by decide) k_X12_better_5 rfl dX12_better_299 ?_
              refine lv_iload S.1 S.2.1 dX12_better_302 (lv_at hl 9 rfl) ?_
              refine lv_iload S.1 S.2.1 dX12_better_304 (lv_at hl 12 rfl) ?_
              obtain ⟨σ22, hσ22, hf⟩ := nm_some hf
              refine r_iast S hK hP hO hS (by decide) (n := 35) (fun _ => rfl) (by decide) g14 hσ22 dX12_better_306 (fun H locs hP hS => ?_)
              have e1 := Option.some.inj hf
              subst e1
              exact kJ0 _ _ _ hP hS (lv_sub hl [0, 1, 2, 3, 4, 5, 6, 7, 8] rfl)
            have kJ1 : t15 = 1 → ∀ (H : Heap) (locs : List Loc) (ls : Array Slot), va_P D vwCl (WW 28 (cellM cy ad) ad σ6) H → va_S (AC 28 ad) H0 H locs → lv_has ls 14 [(0, .ref (ad 0)), (1, .int (zI x1_)), (3, .int (zI x3_)), (4, .int (zI x4_)), (5, .int (zI x5_)), (6, .int (zI x6_)), (7, .int (zI x7_)), (8, .int (zI x8_)), (9, .int (zI x9_))] → W p l e rm_X12_better s m args below meth c H locs 0 0 Q (F0 m 307 ls []) := by
              intro ht
              intro H locs ls hP hS hl
              have hf := (if_neg (by rw [ht]; decide)).symm.trans hf
              have e1 := Option.some.inj hf
              subst e1
              exact kJ0 _ _ _ hP hS (lv_sub hl [0, 1, 2, 3, 4, 5, 6, 7, 8] rfl)
            clear hf
            have hf := hq
            refine lv_icmp_eq (tgt := 280) S.1 S.2.1 dX12_better_244 (by decide) (fun c16 => ?_) (fun c16 => ?_)
            · have hf := (if_pos c16).symm.trans hf
              have e1 := Option.some.inj hf
              subst e1
              exact kJ0 rfl _ _ _ hP hS (lv_sub hl [1, 2, 3, 4, 5, 6, 7, 8, 9, 10, 11, 12, 0] rfl)
            · have hf := (if_neg c16).symm.trans hf
              refine lv_iload S.1 S.2.1 dX12_better_247 (lv_at hl 11 rfl) ?_
              refine lv_iload S.1 S.2.1 dX12_better_249 (lv_at hl 12 rfl) ?_
              refine lv_iload S.1 S.2.1 dX12_better_251 (lv_at hl 0 rfl) ?_
              refine lv_aload_n S.1 S.2.1 dX12_better_253 rfl (lv_at hl 1 rfl) ?_
              refine r_get S hK hP (by decide) rfl rfl h_X12_better_X12 17 (by decide) k_X12_better_2 rfl dX12_better_254 ?_
              refine lv_iload S.1 S.2.1 dX12_better_257 (lv_at hl 10 rfl) ?_
              refine r_iald S hK hP (by decide) (n := 35) (fun _ => rfl) (by decide) g14 dX12_better_259 ?_
              refine lv_aload_n S.1 S.2.1 dX12_better_260 rfl (lv_at hl 1 rfl) ?_
              refine r_get S hK hP (by decide) rfl rfl h_X12_better_X12 18 (by decide) k_X12_better_4 rfl dX12_better_261 ?_
              refine lv_iload S.1 S.2.1 dX12_better_264 (lv_at hl 10 rfl) ?_
              refine r_iald S hK hP (by decide) (n := 35) (fun _ => rfl) (by decide) g14 dX12_better_266 ?_
              refine lv_aload_n S.1 S.2.1 dX12_better_267 rfl (lv_at hl 1 rfl) ?_
              refine r_get S hK hP (by decide) rfl rfl h_X12_better_X12 19 (by decide) k_X12_better_5 rfl dX12_better_268 ?_
              refine lv_iload S.1 S.2.1 dX12_better_271 (lv_at hl 10 rfl) ?_
              refine r_iald S hK hP (by decide) (n := 35) (fun _ => rfl) (by decide) g14 dX12_better_273 ?_
              obtain ⟨y18, hq17, hf⟩ := bV_some hf
              refine r_callSI S hK hP hS [.int (zI x8), .int (zI x9), .int (zI v10), .int (zI (σ6 13 x7.toNat)), .int (zI (σ6 14 x7.toNat)), .int (zI (σ6 15 x7.toNat))] (c_X12_isBetter l D cy ad hO x8 x9 v10 (σ6 13 x7.toNat) (σ6 14 x7.toNat) (σ6 15 x7.toNat) σ6 hq17) (cw_X12_better_X12_isBetter S.2.2.2.2) rfl hl.1 (rest := []) rfl (Nat.le_of_ble_eq_true rfl) dX12_better_274 ⟨Nat.zero_le _, Nat.zero_le _⟩ (fun H locs hP hS => ?_)
              refine r_if_eq (tgt := 307) S dX12_better_277 (by decide) (fun c19 => ?_) (fun c19 => ?_)
              · have hf := (if_pos c19).symm.trans hf
                have e1 := Option.some.inj hf
                subst e1
                exact kJ1 rfl _ _ _ hP hS (lv_sub hl [1, 2, 3, 4, 5, 6, 7, 8, 9] rfl)
              · have hf := (if_neg c19).symm.trans hf
                have e1 := Option.some.inj hf
                subst e1
                exact kJ0 rfl _ _ _ hP hS (lv_sub hl [1, 2, 3, 4, 5, 6, 7, 8, 9, 10, 11, 12, 0] rfl)
        clear hf
        have hf := hq
        refine lv_icmp_le (tgt := 199) S.1 S.2.1 dX12_better_192 (by decide) (fun c11 => ?_) (fun c11 => ?_)
        · have hf := (if_pos c11).symm.trans hf
          refine lv_aload_n S.1 S.2.1 dX12_better_199 rfl (lv_at hl 3 rfl) ?_
          refine r_get S hK hP (by decide) rfl rfl h_X12_better_X12 19 (by decide) k_X12_better_5 rfl dX12_better_200 ?_
          refine r_bipush S dX12_better_203 (by decide) ?_
          refine lv_iload S.1 S.2.1 dX12_better_205 (lv_at hl 9 rfl) ?_
          refine r_imul S dX12_better_207 ?_
          refine lv_iload S.1 S.2.1 dX12_better_208 (lv_at hl 10 rfl) ?_
          refine r_iadd S dX12_better_210 ?_
          refine r_iald S hK hP (by decide) (n := 35) (fun _ => rfl) (by decide) g2 dX12_better_211 ?_
          refine r_iconst S dX12_better_212 ?_
          refine lv_aload_n S.1 S.2.1 dX12_better_213 rfl (lv_at hl 3 rfl) ?_
          refine r_get S hK hP (by decide) rfl rfl h_X12_better_X12 21 (by decide) k_X12_better_8 rfl dX12_better_214 ?_
          refine r_imul S dX12_better_217 ?_
          refine r_ishl S dX12_better_218 ?_
          refine lv_aload_n S.1 S.2.1 dX12_better_219 rfl (lv_at hl 3 rfl) ?_
          refine r_get S hK hP (by decide) rfl rfl h_X12_better_X12 22 (by decide) k_X12_better_9 rfl dX12_better_220 ?_
          refine r_ior S dX12_better_223 ?_
          have e1 := Option.some.inj hf
          subst e1
          exact kJ0 _ _ _ hP hS (lv_sub hl [3, 4, 5, 6, 7, 8, 9, 10, 11, 2, 1, 0] rfl)
        · have hf := (if_neg c11).symm.trans hf
          refine r_iconst S dX12_better_195 ?_
          refine lv_goto (tgt := 224) S.1 S.2.1 dX12_better_196 (by decide) ?_
          have e1 := Option.some.inj hf
          subst e1
          exact kJ0 _ _ _ hP hS (lv_sub hl [3, 4, 5, 6, 7, 8, 9, 10, 11, 2, 1, 0] rfl)
set_option maxHeartbeats 4000000 in
set_option maxRecDepth 100000 in
theorem w_X12_better_L80 {p : Program} {l : Launch} {e : Env} {s : State} {m : MethodId} {args : Array Value} {below : List Frame} {meth : Method} {c : Code} {Q : State → Prop} {D : va_G} {cy : Nat → ClassId} {ad : Nat → Nat} {H0 : Heap} (hO : adOK 28 ad) (S : CallFix p m c cX12_better 14 s args wsX12_better RX12) (hK : KK D cy s) (n : Nat) (x1_ : Int) (x3_ : Int) (x4_ : Int) (x5_ : Int) (x6_ : Int) (x7_ : Int) {res : Mem} (k0 : ∀ (τ : Mem) (H2 : Heap) (locs2 : List Loc) (ls2 : Array Slot), res = τ → va_P D vwCl (WW 28 (cellM cy ad) ad τ) H2 → va_S (AC 28 ad) H0 H2 locs2 → lv_has ls2 14 [(0, .ref (ad 0)), (1, .int (zI x1_)), (3, .int (zI x3_)), (4, .int (zI x4_)), (5, .int (zI x5_)), (6, .int (zI x6_)), (7, .int (zI x7_))] → W p l e rm_X12_better s m args below meth c H2 locs2 0 0 Q (F0 m 319 ls2 [])) :
    ∀ (k : Nat) (x8_ : Int) (σ : Mem) (H : Heap) (locs : List Loc) (ls : Array Slot), f_X12_better_L80 n x1_ x3_ x4_ x5_ x6_ x7_ k x8_ σ = some res → va_P D vwCl (WW 28 (cellM cy ad) ad σ) H → va_S (AC 28 ad) H0 H locs → lv_has ls 14 [(0, .ref (ad 0)), (1, .int (zI x1_)), (3, .int (zI x3_)), (4, .int (zI x4_)), (5, .int (zI x5_)), (6, .int (zI x6_)), (7, .int (zI x7_)), (8, .int (zI x8_))] → W p l e rm_X12_better s m args below meth c H locs 0 0 Q (F0 m 80 ls []) := by
  intro k
  induction k with
  | zero =>
    intro x8_ σ H locs ls hf
    have hf : none = some res := hf
    cases hf
  | succ k ih =>
    intro x8_ σ H locs ls hf hP hS hl
    rw [f_X12_better_L80] at hf
    refine lv_iload S.1 S.2.1 dX12_better_80 (lv_at hl 7 rfl) ?_
    refine lv_iload S.1 S.2.1 dX12_better_82 (lv_at hl 3 rfl) ?_
    refine lv_icmp_gt (tgt := 319) S.1 S.2.1 dX12_better_84 (by decide) (fun c1 => ?_) (fun c1 => ?_)
    · have hf := (if_pos c1).symm.trans hf
      exact k0 _ _ _ _ (Option.some.inj hf).symm hP hS (lv_sub hl [0, 1, 2, 3, 4, 5, 6] rfl)
    · have hf := (if_neg c1).symm.trans hf
      refine lv_iload S.1 S.2.1 dX12_better_87 (lv_at hl 7 rfl) ?_
      refine r_istore S rfl (lv2 := [(9, .int (zI x8_)), (0, .ref (ad 0)), (1, .int (zI x1_)), (3, .int (zI x3_)), (4, .int (zI x4_)), (5, .int (zI x5_)), (6, .int (zI x6_)), (7, .int (zI x7_)), (8, .int (zI x8_))]) dX12_better_89 hl (by decide) rfl (fun ls hl => ?_)
      obtain ⟨σ2, hq, hf⟩ := bV_some hf
      refine w_X12_better_L91 hO S hK n x1_ x3_ x4_ x5_ x6_ x7_ x8_ (fun σ2 H locs ls he hP hS hl => ?_) n x8_ σ _ _ _ hq hP hS (lv_sub hl [1, 2, 3, 4, 5, 6, 7, 8, 0] rfl)
      cases he
      obtain ⟨x3, hx3, hf⟩ := nm_some hf
      refine r_iinc S hx3 (k0 := 7) (lv2 := [(8, .int (zI x3)), (0, .ref (ad 0)), (1, .int (zI x1_)), (3, .int (zI x3_)), (4, .int (zI x4_)), (5, .int (zI x5_)), (6, .int (zI x6_)), (7, .int (zI x7_))]) dX12_better_313 hl rfl (by decide) rfl (fun ls hl => ?_)
      refine lv_goto (tgt := 80) S.1 S.2.1 dX12_better_316 (by decide) ?_
      exact ih x3 σ2 _ _ _ hf hP hS (lv_sub hl [1, 2, 3, 4, 5, 6, 7, 0] rfl)
set_option maxHeartbeats 4000000 in
set_option maxRecDepth 100000 in
theorem w_X12_better_L70 {p : Program} {l : Launch} {e : Env} {s : State} {m : MethodId} {args : Array Value} {below : List Frame} {meth : Method} {c : Code} {Q : State → Prop} {D : va_G} {cy : Nat → ClassId} {ad : Nat → Nat} {H0 : Heap} (hO : adOK 28 ad) (S : CallFix p m c cX12_better 14 s args wsX12_better RX12) (hK : KK D cy s) (n : Nat) (x1_ : Int) (x3_ : Int) (x4_ : Int) (x5_ : Int) (x6_ : Int) {res : Mem} (k0 : ∀ (τ : Mem) (H2 : Heap) (locs2 : List Loc) (ls2 : Array Slot), res = τ → va_P D vwCl (WW 28 (cellM cy ad) ad τ) H2 → va_S (AC 28 ad) H0 H2 locs2 → lv_has ls2 14 [(0, .ref (ad 0)), (1, .int (zI x1_)), (3, .int (zI x3_)), (4, .int (zI x4_)), (6, .int (zI x6_))] → W p l e rm_X12_better s m args below meth c H2 locs2 0 0 Q (F0 m 325 ls2 [])) :
    ∀ (k : Nat) (x7_ : Int) (σ : Mem) (H : Heap) (locs : List Loc) (ls : Array Slot), f_X12_better_L70 n x1_ x3_ x4_ x5_ x6_ k x7_ σ = some res → va_P D vwCl (WW 28 (cellM cy ad) ad σ) H → va_S (AC 28 ad) H0 H locs → lv_has ls 14 [(0, .ref (ad 0)), (1, .int (zI x1_)), (3, .int (zI x3_)), (4, .int (zI x4_)), (5, .int (zI x5_)), (6, .int (zI x6_)), (7, .int (zI x7_))] → W p l e rm_X12_better s m args below meth c H locs 0 0 Q (F0 m 70 ls []) := by
  intro k
  induction k with
  | zero =>
    intro x7_ σ H locs ls hf
    have hf : none = some res := hf
    cases hf
  | succ k ih =>
    intro x7_ σ H locs ls hf hP hS hl
    rw [f_X12_better_L70] at hf
    refine lv_iload S.1 S.2.1 dX12_better_70 (lv_at hl 6 rfl) ?_
    refine lv_iload S.1 S.2.1 dX12_better_72 (lv_at hl 5 rfl) ?_
    refine lv_icmp_ge (tgt := 325) S.1 S.2.1 dX12_better_74 (by decide) (fun c1 => ?_) (fun c1 => ?_)
    · have hf := (if_pos c1).symm.trans hf
      exact k0 _ _ _ _ (Option.some.inj hf).symm hP hS (lv_sub hl [0, 1, 2, 3, 5] rfl)
    · have hf := (if_neg c1).symm.trans hf
      refine lv_iload_n S.1 S.2.1 dX12_better_77 rfl (lv_at hl 2 rfl) ?_
      refine r_istore S rfl (lv2 := [(8, .int (zI x3_)), (0, .ref (ad 0)), (1, .int (zI x1_)), (3, .int (zI x3_)), (4, .int (zI x4_)), (5, .int (zI x5_)), (6, .int (zI x6_)), (7, .int (zI x7_))]) dX12_better_78 hl (by decide) rfl (fun ls hl => ?_)
      obtain ⟨σ2, hq, hf⟩ := bV_some hf
      refine w_X12_better_L80 hO S hK n x1_ x3_ x4_ x5_ x6_ x7_ (fun σ2 H locs ls he hP hS hl => ?_) n x3_ σ _ _ _ hq hP hS (lv_sub hl [1, 2, 3, 4, 5, 6, 7, 0] rfl)
      cases he
      obtain ⟨x3, hx3, hf⟩ := nm_some hf
      refine r_iinc S hx3 (k0 := 6) (lv2 := [(7, .int (zI x3)), (0, .ref (ad 0)), (1, .int (zI x1_)), (3, .int (zI x3_)), (4, .int (zI x4_)), (5, .int (zI x5_)), (6, .int (zI x6_))]) dX12_better_319 hl rfl (by decide) rfl (fun ls hl => ?_)
      refine lv_goto (tgt := 70) S.1 S.2.1 dX12_better_322 (by decide) ?_
      exact ih x3 σ2 _ _ _ hf hP hS (lv_sub hl [1, 2, 3, 4, 5, 6, 0] rfl)
set_option maxHeartbeats 4000000 in
set_option maxRecDepth 100000 in
theorem c_X12_better (l : Launch) (D : va_G) (cy : Nat → ClassId) (ad : Nat → Nat) (hO : adOK 28 ad) (n : Nat) (a0 : Int) (a1 : Int) (a2 : Int) (a3 : Int) (σ : Mem) {v : Int} {τ : Mem} (hf : f_X12_better n a0 a1 a2 a3 σ = some (v, τ)) : Met l yX12_better wsX12_better rm_X12_better (va_Pc [.ref (ad 0), .int (zI a0), .int (zI a1), .int (zI a2), .int (zI a3)] (PreW D cy 28 (cellM cy ad) ad σ)) (QI D 28 (cellM cy ad) ad v τ) 0 0 (AC 28 ad) := by
  refine r_met (cc := cX12_better) (maxL := 14) (ret := (some .boolean)) (own := RX12) (by decide) rfl rfl [.ref (ad 0), .int (zI a0), .int (zI a1), .int (zI a2), .int (zI a3)] (Nat.le_of_ble_eq_true rfl) ?_
  intro p e s m below meth c ls S hK hP hlk hr hl
  have hS : va_S (AC 28 ad) s.heap s.heap [] := va_S.rf
  have hl : lv_has ls 14 [(0, .ref (ad 0)), (1, .int (zI a0)), (2, .int (zI a1)), (3, .int (zI a2)), (4, .int (zI a3))] := hl
  unfold f_X12_better at hf
  refine r_iconst S dX12_better_0 ?_
  refine lv_iload_n S.1 S.2.1 dX12_better_1 rfl (lv_at hl 1 rfl) ?_
  refine r_imul S dX12_better_2 ?_
  refine lv_iload_n S.1 S.2.1 dX12_better_3 rfl (lv_at hl 2 rfl) ?_
  refine r_iadd S dX12_better_4 ?_
  obtain ⟨x1, hx1, hf⟩ := nm_some hf
  refine r_istore S hx1 (lv2 := [(5, .int (zI x1)), (0, .ref (ad 0)), (1, .int (zI a0)), (2, .int (zI a1)), (3, .int (zI a2)), (4, .int (zI a3))]) dX12_better_5 hl (by decide) rfl (fun ls hl => ?_)
  refine lv_aload_n S.1 S.2.1 dX12_better_7 rfl (lv_at hl 1 rfl) ?_
  refine r_get S hK hP (by decide) rfl rfl h_X12_better_X12 3 (by decide) k_X12_better_1 rfl dX12_better_8 ?_
  refine lv_iload S.1 S.2.1 dX12_better_11 (lv_at hl 0 rfl) ?_
  obtain ⟨g2, hf⟩ := gd_some hf
  refine r_iald S hK hP (by decide) (n := 30) (fun _ => rfl) (by decide) g2 dX12_better_13 ?_
  obtain ⟨x3, hx3, hf⟩ := nm_some hf
  refine r_istore S hx3 (lv2 := [(6, .int (zI x3)), (5, .int (zI x1)), (0, .ref (ad 0)), (1, .int (zI a0)), (2, .int (zI a1)), (3, .int (zI a2)), (4, .int (zI a3))]) dX12_better_14 hl (by decide) rfl (fun ls hl => ?_)
  refine r_iconst S dX12_better_16 ?_
  refine r_istore S rfl (lv2 := [(7, .int (zI 0)), (6, .int (zI x3)), (5, .int (zI x1)), (0, .ref (ad 0)), (1, .int (zI a0)), (2, .int (zI a1)), (3, .int (zI a2)), (4, .int (zI a3))]) dX12_better_17 hl (by decide) rfl (fun ls hl => ?_)
  obtain ⟨σ4, hq, hf⟩ := bV_some hf
  refine w_X12_better_L19 hO S hK n a0 a2 a3 x1 x3 (fun σ4 H locs ls he hP hS hl => ?_) n 0 σ _ _ _ hq hP hS (lv_sub hl [3, 4, 6, 7, 2, 1, 0] rfl)
  cases he
  refine lv_aload_n S.1 S.2.1 dX12_better_46 rfl (lv_at hl 0 rfl) ?_
  refine r_get S hK hP (by decide) rfl rfl h_X12_better_X12 17 (by decide) k_X12_better_2 rfl dX12_better_47 ?_
  refine lv_iload_n S.1 S.2.1 dX12_better_50 rfl (lv_at hl 2 rfl) ?_
  refine r_iconst S dX12_better_51 ?_
  obtain ⟨g5, hf⟩ := gd_some hf
  obtain ⟨σ6, hσ6, hf⟩ := nm_some hf
  refine r_iast S hK hP hO hS (by decide) (n := 35) (fun _ => rfl) (by decide) g5 hσ6 dX12_better_52 (fun H locs hP hS => ?_)
  refine lv_aload_n S.1 S.2.1 dX12_better_53 rfl (lv_at hl 0 rfl) ?_
  refine r_get S hK hP (by decide) rfl rfl h_X12_better_X12 18 (by decide) k_X12_better_4 rfl dX12_better_54 ?_
  refine lv_iload_n S.1 S.2.1 dX12_better_57 rfl (lv_at hl 2 rfl) ?_
  refine r_iconst S dX12_better_58 ?_
  obtain ⟨σ7, hσ7, hf⟩ := nm_some hf
  refine r_iast S hK hP hO hS (by decide) (n := 35) (fun _ => rfl) (by decide) g5 hσ7 dX12_better_59 (fun H locs hP hS => ?_)
  refine lv_aload_n S.1 S.2.1 dX12_better_60 rfl (lv_at hl 0 rfl) ?_
  refine r_get S hK hP (by decide) rfl rfl h_X12_better_X12 19 (by decide) k_X12_better_5 rfl dX12_better_61 ?_
  refine lv_iload_n S.1 S.2.1 dX12_better_64 rfl (lv_at hl 2 rfl) ?_
  refine r_iconst S dX12_better_65 ?_
  obtain ⟨σ8, hσ8, hf⟩ := nm_some hf
  refine r_iast S hK hP hO hS (by decide) (n := 35) (fun _ => rfl) (by decide) g5 hσ8 dX12_better_66 (fun H locs hP hS => ?_)
  refine r_iconst S dX12_better_67 ?_
  refine r_istore S rfl (lv2 := [(7, .int (zI 0)), (0, .ref (ad 0)), (1, .int (zI a0)), (3, .int (zI a2)), (4, .int (zI a3)), (5, .int (zI x1)), (6, .int (zI x3))]) dX12_better_68 hl (by decide) rfl (fun ls hl => ?_)
  obtain ⟨σ9, hq, hf⟩ := bV_some hf
  refine w_X12_better_L70 hO S hK n a0 a2 a3 x1 x3 (fun σ9 H locs ls he hP hS hl => ?_) n 0 σ8 _ _ _ hq hP hS (lv_sub hl [1, 2, 3, 4, 5, 6, 0] rfl)
  cases he
  refine lv_iload S.1 S.2.1 dX12_better_325 (lv_at hl 4 rfl) ?_
  obtain ⟨v10, hq, hf⟩ := bV_some hf
  have kJ0 : ∀ (H : Heap) (locs : List Loc) (ls : Array Slot), va_P D vwCl (WW 28 (cellM cy ad) ad σ9) H → va_S (AC 28 ad) s.heap H locs → lv_has ls 14 [(0, .ref (ad 0)), (1, .int (zI a0)), (3, .int (zI a2)), (4, .int (zI a3)), (6, .int (zI x3))] → W p l e rm_X12_better s m ([.ref (ad 0), .int (zI a0), .int (zI a1), .int (zI a2), .int (zI a3)] : List Value).toArray below meth c H locs 0 0 (MQ below (QI D 28 (cellM cy ad) ad v τ) ([.ref (ad 0), .int (zI a0), .int (zI a1), .int (zI a2), .int (zI a3)] : List Value).toArray s 0 0 (AC 28 ad)) (F0 m 342 ls [.int (zI v10)]) := by
    intro H locs ls hP hS hl
    refine r_istore S rfl (lv2 := [(7, .int (zI v10)), (0, .ref (ad 0)), (1, .int (zI a0)), (3, .int (zI a2)), (4, .int (zI a3)), (6, .int (zI x3))]) dX12_better_342 hl (by decide) rfl (fun ls hl => ?_)
    refine lv_iload S.1 S.2.1 dX12_better_344 (lv_at hl 5 rfl) ?_
    obtain ⟨v12, hq, hf⟩ := bV_some hf
    have kJ0 : ∀ (H : Heap) (locs : List Loc) (ls : Array Slot), va_P D vwCl (WW 28 (cellM cy ad) ad σ9) H → va_S (AC 28 ad) s.heap H locs → lv_has ls 14 [(0, .ref (ad 0)), (1, .int (zI a0)), (3, .int (zI a2)), (4, .int (zI a3)), (7, .int (zI v10))] → W p l e rm_X12_better s m ([.ref (ad 0), .int (zI a0), .int (zI a1), .int (zI a2), .int (zI a3)] : List Value).toArray below meth c H locs 0 0 (MQ below (QI D 28 (cellM cy ad) ad v τ) ([.ref (ad 0), .int (zI a0), .int (zI a1), .int (zI a2), .int (zI a3)] : List Value).toArray s 0 0 (AC 28 ad)) (F0 m 370 ls [.int (zI v12)]) := by
      intro H locs ls hP hS hl
      refine r_istore S rfl (lv2 := [(8, .int (zI v12)), (0, .ref (ad 0)), (1, .int (zI a0)), (3, .int (zI a2)), (4, .int (zI a3)), (7, .int (zI v10))]) dX12_better_370 hl (by decide) rfl (fun ls hl => ?_)
      refine r_bipush S dX12_better_372 (by decide) ?_
      refine lv_iload_n S.1 S.2.1 dX12_better_374 rfl (lv_at hl 2 rfl) ?_
      refine r_imul S dX12_better_375 ?_
      refine r_bipush S dX12_better_376 (by decide) ?_
      refine lv_iload_n S.1 S.2.1 dX12_better_378 rfl (lv_at hl 3 rfl) ?_
      refine r_imul S dX12_better_379 ?_
      refine r_iadd S dX12_better_380 ?_
      refine lv_iload S.1 S.2.1 dX12_better_381 (lv_at hl 4 rfl) ?_
      refine r_iadd S dX12_better_383 ?_
      obtain ⟨x16, hx16, hf⟩ := nm_some hf
      refine r_istore S hx16 (lv2 := [(9, .int (zI x16)), (8, .int (zI v12)), (0, .ref (ad 0)), (1, .int (zI a0)), (3, .int (zI a2)), (4, .int (zI a3)), (7, .int (zI v10))]) dX12_better_384 hl (by decide) rfl (fun ls hl => ?_)
      refine lv_iload S.1 S.2.1 dX12_better_386 (lv_at hl 1 rfl) ?_
      refine r_ldc S 100000000 (by decide +kernel) k_X12_better_3 dX12_better_388 ?_
      refine lv_icmp_ge (tgt := 448) S.1 S.2.1 dX12_better_390 (by decide) (fun c17 => ?_) (fun c17 => ?_)
      · have hf := (if_pos c17).symm.trans hf
        refine r_iconst S dX12_better_448 ?_
        obtain ⟨e1, e2⟩ := inj2 hf
        subst e1
        subst e2
        exact e_Z S hlk hP hS (Or.inl rfl) hr dX12_better_449
      · have hf := (if_neg c17).symm.trans hf
        refine lv_aload_n S.1 S.2.1 dX12_better_393 rfl (lv_at hl 2 rfl) ?_
        refine r_get S hK hP (by decide) rfl rfl h_X12_better_X12 14 (by decide) k_X12_better_11 rfl dX12_better_394 ?_
        refine lv_iload S.1 S.2.1 dX12_better_397 (lv_at hl 0 rfl) ?_
        obtain ⟨g18, hf⟩ := gd_some hf
        refine r_iald S hK hP (by decide) (n := 294) (fun _ => rfl) (by decide) g18 dX12_better_399 ?_
        refine r_ldc S 100000000 (by decide +kernel) k_X12_better_3 dX12_better_400 ?_
        obtain ⟨t19, hq, hf⟩ := bV_some hf
        have kJ0 : t19 = 0 → ∀ (H : Heap) (locs : List Loc) (ls : Array Slot), va_P D vwCl (WW 28 (cellM cy ad) ad σ9) H → va_S (AC 28 ad) s.heap H locs → lv_has ls 14 [(0, .ref (ad 0)), (7, .int (zI v10)), (8, .int (zI v12)), (9, .int (zI x16))] → W p l e rm_X12_better s m ([.ref (ad 0), .int (zI a0), .int (zI a1), .int (zI a2), .int (zI a3)] : List Value).toArray below meth c H locs 0 0 (MQ below (QI D 28 (cellM cy ad) ad v τ) ([.ref (ad 0), .int (zI a0), .int (zI a1), .int (zI a2), .int (zI a3)] : List Value).toArray s 0 0 (AC 28 ad)) (F0 m 450 ls []) := by
          intro ht
          intro H locs ls hP hS hl
          have hf := (if_pos ht).symm.trans hf
          refine lv_aload_n S.1 S.2.1 dX12_better_450 rfl (lv_at hl 0 rfl) ?_
          refine r_get S hK hP (by decide) rfl rfl h_X12_better_X12 14 (by decide) k_X12_better_11 rfl dX12_better_451 ?_
          refine lv_iload S.1 S.2.1 dX12_better_454 (lv_at hl 3 rfl) ?_
          refine lv_iload S.1 S.2.1 dX12_better_456 (lv_at hl 2 rfl) ?_
          obtain ⟨σ25, hσ25, hf⟩ := nm_some hf
          refine r_iast S hK hP hO hS (by decide) (n := 294) (fun _ => rfl) (by decide) g18 hσ25 dX12_better_458 (fun H locs hP hS => ?_)
          refine lv_aload_n S.1 S.2.1 dX12_better_459 rfl (lv_at hl 0 rfl) ?_
          refine r_get S hK hP (by decide) rfl rfl h_X12_better_X12 15 (by decide) k_X12_better_12 rfl dX12_better_460 ?_
          refine lv_iload S.1 S.2.1 dX12_better_463 (lv_at hl 3 rfl) ?_
          refine lv_aload_n S.1 S.2.1 dX12_better_465 rfl (lv_at hl 0 rfl) ?_
          refine r_get S hK hP (by decide) rfl rfl h_X12_better_X12 18 (by decide) k_X12_better_4 rfl dX12_better_466 ?_
          refine lv_iload S.1 S.2.1 dX12_better_469 (lv_at hl 1 rfl) ?_
          obtain ⟨g26, hf⟩ := gd_some hf
          refine r_iald S hK hP (by decide) (n := 35) (fun _ => rfl) (by decide) g26 dX12_better_471 ?_
          obtain ⟨σ27, hσ27, hf⟩ := nm_some hf
          refine r_iast S hK hP hO hS (by decide) (n := 294) (fun _ => rfl) (by decide) g18 hσ27 dX12_better_472 (fun H locs hP hS => ?_)
          refine lv_aload_n S.1 S.2.1 dX12_better_473 rfl (lv_at hl 0 rfl) ?_
          refine r_get S hK hP (by decide) rfl rfl h_X12_better_X12 16 (by decide) k_X12_better_13 rfl dX12_better_474 ?_
          refine lv_iload S.1 S.2.1 dX12_better_477 (lv_at hl 3 rfl) ?_
          refine lv_aload_n S.1 S.2.1 dX12_better_479 rfl (lv_at hl 0 rfl) ?_
          refine r_get S hK hP (by decide) rfl rfl h_X12_better_X12 19 (by decide) k_X12_better_5 rfl dX12_better_480 ?_
          refine lv_iload S.1 S.2.1 dX12_better_483 (lv_at hl 1 rfl) ?_
          refine r_iald S hK hP (by decide) (n := 35) (fun _ => rfl) (by decide) g26 dX12_better_485 ?_
          obtain ⟨σ28, hσ28, hf⟩ := nm_some hf
          refine r_iast S hK hP hO hS (by decide) (n := 294) (fun _ => rfl) (by decide) g18 hσ28 dX12_better_486 (fun H locs hP hS => ?_)
          refine r_iconst S dX12_better_487 ?_
          obtain ⟨e1, e2⟩ := inj2 hf
          subst e1
          subst e2
          exact e_Z S hlk hP hS (Or.inr rfl) hr dX12_better_488
        have kJ1 : t19 = 1 → ∀ (H : Heap) (locs : List Loc) (ls : Array Slot), va_P D vwCl (WW 28 (cellM cy ad) ad σ9) H → va_S (AC 28 ad) s.heap H locs → lv_has ls 14 [] → W p l e rm_X12_better s m ([.ref (ad 0), .int (zI a0), .int (zI a1), .int (zI a2), .int (zI a3)] : List Value).toArray below meth c H locs 0 0 (MQ below (QI D 28 (cellM cy ad) ad v τ) ([.ref (ad 0), .int (zI a0), .int (zI a1), .int (zI a2), .int (zI a3)] : List Value).toArray s 0 0 (AC 28 ad)) (F0 m 448 ls []) := by
          intro ht
          intro H locs ls hP hS hl
          have hf := (if_neg (by rw [ht]; decide)).symm.trans hf
          refine r_iconst S dX12_better_448 ?_
          obtain ⟨e1, e2⟩ := inj2 hf
          subst e1
          subst e2
          exact e_Z S hlk hP hS (Or.inl rfl) hr dX12_better_449
        clear hf
        have hf := hq
        refine lv_icmp_ge (tgt := 450) S.1 S.2.1 dX12_better_402 (by decide) (fun c20 => ?_) (fun c20 => ?_)
        · have hf := (if_pos c20).symm.trans hf
          have e1 := Option.some.inj hf
          subst e1
          exact kJ0 rfl _ _ _ hP hS (lv_sub hl [2, 6, 1, 0] rfl)
        · have hf := (if_neg c20).symm.trans hf
          refine lv_iload S.1 S.2.1 dX12_better_405 (lv_at hl 1 rfl) ?_
          refine lv_aload_n S.1 S.2.1 dX12_better_407 rfl (lv_at hl 2 rfl) ?_
          refine r_get S hK hP (by decide) rfl rfl h_X12_better_X12 18 (by decide) k_X12_better_4 rfl dX12_better_408 ?_
          refine lv_iload S.1 S.2.1 dX12_better_411 (lv_at hl 6 rfl) ?_
          obtain ⟨g21, hf⟩ := gd_some hf
          refine r_iald S hK hP (by decide) (n := 35) (fun _ => rfl) (by decide) g21 dX12_better_413 ?_
          refine lv_aload_n S.1 S.2.1 dX12_better_414 rfl (lv_at hl 2 rfl) ?_
          refine r_get S hK hP (by decide) rfl rfl h_X12_better_X12 19 (by decide) k_X12_better_5 rfl dX12_better_415 ?_
          refine lv_iload S.1 S.2.1 dX12_better_418 (lv_at hl 6 rfl) ?_
          refine r_iald S hK hP (by decide) (n := 35) (fun _ => rfl) (by decide) g21 dX12_better_420 ?_
          refine lv_aload_n S.1 S.2.1 dX12_better_421 rfl (lv_at hl 2 rfl) ?_
          refine r_get S hK hP (by decide) rfl rfl h_X12_better_X12 14 (by decide) k_X12_better_11 rfl dX12_better_422 ?_
          refine lv_iload S.1 S.2.1 dX12_better_425 (lv_at hl 0 rfl) ?_
          refine r_iald S hK hP (by decide) (n := 294) (fun _ => rfl) (by decide) g18 dX12_better_427 ?_
          refine lv_aload_n S.1 S.2.1 dX12_better_428 rfl (lv_at hl 2 rfl) ?_
          refine r_get S hK hP (by decide) rfl rfl h_X12_better_X12 15 (by decide) k_X12_better_12 rfl dX12_better_429 ?_
          refine lv_iload S.1 S.2.1 dX12_better_432 (lv_at hl 0 rfl) ?_
          refine r_iald S hK hP (by decide) (n := 294) (fun _ => rfl) (by decide) g18 dX12_better_434 ?_
          refine lv_aload_n S.1 S.2.1 dX12_better_435 rfl (lv_at hl 2 rfl) ?_
          refine r_get S hK hP (by decide) rfl rfl h_X12_better_X12 16 (by decide) k_X12_better_13 rfl dX12_better_436 ?_
          refine lv_iload S.1 S.2.1 dX12_better_439 (lv_at hl 0 rfl) ?_
          refine r_iald S hK hP (by decide) (n := 294) (fun _ => rfl) (by decide) g18 dX12_better_441 ?_
          obtain ⟨y23, hq22, hf⟩ := bV_some hf
          refine r_callSI S hK hP hS [.int (zI v12), .int (zI (σ9 14 v10.toNat)), .int (zI (σ9 15 v10.toNat)), .int (zI (σ9 10 x16.toNat)), .int (zI (σ9 11 x16.toNat)), .int (zI (σ9 12 x16.toNat))] (c_X12_isBetter l D cy ad hO v12 (σ9 14 v10.toNat) (σ9 15 v10.toNat) (σ9 10 x16.toNat) (σ9 11 x16.toNat) (σ9 12 x16.toNat) σ9 hq22) (cw_X12_better_X12_isBetter S.2.2.2.2) rfl hl.1 (rest := []) rfl (Nat.le_of_ble_eq_true rfl) dX12_better_442 ⟨Nat.zero_le _, Nat.zero_le _⟩ (fun H locs hP hS => ?_)
          refine r_if_ne (tgt := 450) S dX12_better_445 (by decide) (fun c24 => ?_) (fun c24 => ?_)
          · have hf := (if_neg c24).symm.trans hf
            have e1 := Option.some.inj hf
            subst e1
            exact kJ0 rfl _ _ _ hP hS (lv_sub hl [2, 6, 1, 0] rfl)
          · have hf := (if_pos c24).symm.trans hf
            have e1 := Option.some.inj hf
            subst e1
            exact kJ1 rfl _ _ _ hP hS (lv_sub hl [] rfl)
    clear hf
    have hf := hq
    refine r_if_ne (tgt := 363) S dX12_better_346 (by decide) (fun c13 => ?_) (fun c13 => ?_)
    · have hf := (if_neg c13).symm.trans hf
      refine lv_aload_n S.1 S.2.1 dX12_better_363 rfl (lv_at hl 1 rfl) ?_
      refine r_get S hK hP (by decide) rfl rfl h_X12_better_X12 17 (by decide) k_X12_better_2 rfl dX12_better_364 ?_
      refine lv_iload S.1 S.2.1 dX12_better_367 (lv_at hl 0 rfl) ?_
      obtain ⟨g14, hf⟩ := gd_some hf
      refine r_iald S hK hP (by decide) (n := 35) (fun _ => rfl) (by decide) g14 dX12_better_369 ?_
      have e1 := Option.some.inj hf
      subst e1
      exact kJ0 _ _ _ hP hS (lv_sub hl [1, 2, 3, 4, 0] rfl)
    · have hf := (if_pos c13).symm.trans hf
      refine lv_iload S.1 S.2.1 dX12_better_349 (lv_at hl 4 rfl) ?_
      refine lv_iload_n S.1 S.2.1 dX12_better_351 rfl (lv_at hl 3 rfl) ?_
      refine r_isub S dX12_better_352 ?_
      refine lv_aload_n S.1 S.2.1 dX12_better_353 rfl (lv_at hl 1 rfl) ?_
      refine r_get S hK hP (by decide) rfl rfl h_X12_better_X12 11 (by decide) k_X12_better_10 rfl dX12_better_354 ?_
      refine r_iconst S dX12_better_357 ?_
      obtain ⟨g15, hf⟩ := gd_some hf
      refine r_iald S hK hP (by decide) (n := 3) (fun _ => rfl) (by decide) g15 dX12_better_358 ?_
      refine r_imul S dX12_better_359 ?_
      refine lv_goto (tgt := 370) S.1 S.2.1 dX12_better_360 (by decide) ?_
      have e1 := Option.some.inj hf
      subst e1
      exact kJ0 _ _ _ hP hS (lv_sub hl [1, 2, 3, 4, 0] rfl)
  clear hf
  have hf := hq
  refine r_if_ne (tgt := 334) S dX12_better_327 (by decide) (fun c11 => ?_) (fun c11 => ?_)
  · have hf := (if_neg c11).symm.trans hf
    refine r_bipush S dX12_better_334 (by decide) ?_
    refine lv_iload S.1 S.2.1 dX12_better_336 (lv_at hl 4 rfl) ?_
    refine r_imul S dX12_better_338 ?_
    refine lv_iload S.1 S.2.1 dX12_better_339 (lv_at hl 3 rfl) ?_
    refine r_iadd S dX12_better_341 ?_
    have e1 := Option.some.inj hf
    subst e1
    exact kJ0 _ _ _ hP hS (lv_sub hl [0, 1, 2, 3, 4] rfl)
  · have hf := (if_pos c11).symm.trans hf
    refine lv_iload_n S.1 S.2.1 dX12_better_330 rfl (lv_at hl 2 rfl) ?_
    refine lv_goto (tgt := 342) S.1 S.2.1 dX12_better_331 (by decide) ?_
    have e1 := Option.some.inj hf
    subst e1
    exact kJ0 _ _ _ hP hS (lv_sub hl [0, 1, 2, 3, 4] rfl)
def rm_X12_in : Room := { frames := 0, cells := 0, slots := 0, locals := 0 }
set_option maxHeartbeats 4000000 in
set_option maxRecDepth 100000 in
theorem c_X12_in (l : Launch) (D : va_G) (cy : Nat → ClassId) (ad : Nat → Nat) (hO : adOK 28 ad) (a0 : Int) (a1 : Int) (a2 : Int) (σ : Mem) {v : Int} (hf : f_X12_in a0 a1 a2 = some v) : Met l yX12_in wsX12_in rm_X12_in (va_Pc [.int (zI a0), .int (zI a1), .int (zI a2)] (PreW D cy 28 (cellM cy ad) ad σ)) (QI D 28 (cellM cy ad) ad v σ) 0 0 (AC 28 ad) := by
  refine r_met (cc := cX12_in) (maxL := 3) (ret := (some .boolean)) (own := RX12) (by decide) rfl rfl [.int (zI a0), .int (zI a1), .int (zI a2)] (Nat.le_of_ble_eq_true rfl) ?_
  intro p e s m below meth c ls S hK hP hlk hr hl
  have hS : va_S (AC 28 ad) s.heap s.heap [] := va_S.rf
  have hl : lv_has ls 3 [(0, .int (zI a0)), (1, .int (zI a1)), (2, .int (zI a2))] := hl
  unfold f_X12_in at hf
  refine lv_iload_n S.1 S.2.1 dX12_in_0 rfl (lv_at hl 0 rfl) ?_
  refine lv_iload_n S.1 S.2.1 dX12_in_1 rfl (lv_at hl 1 rfl) ?_
  refine lv_icmp_lt (tgt := 14) S.1 S.2.1 dX12_in_2 (by decide) (fun c1 => ?_) (fun c1 => ?_)
  · have hf := (if_pos c1).symm.trans hf
    refine r_iconst S dX12_in_14 ?_
    have e1 := Option.some.inj hf
    subst e1
    exact e_Z S hlk hP hS (Or.inl rfl) hr dX12_in_15
  · have hf := (if_neg c1).symm.trans hf
    refine lv_iload_n S.1 S.2.1 dX12_in_5 rfl (lv_at hl 0 rfl) ?_
    refine lv_iload_n S.1 S.2.1 dX12_in_6 rfl (lv_at hl 2 rfl) ?_
    refine lv_icmp_gt (tgt := 14) S.1 S.2.1 dX12_in_7 (by decide) (fun c2 => ?_) (fun c2 => ?_)
    · have hf := (if_pos c2).symm.trans hf
      refine r_iconst S dX12_in_14 ?_
      have e1 := Option.some.inj hf
      subst e1
      exact e_Z S hlk hP hS (Or.inl rfl) hr dX12_in_15
    · have hf := (if_neg c2).symm.trans hf
      refine r_iconst S dX12_in_10 ?_
      refine lv_goto (tgt := 15) S.1 S.2.1 dX12_in_11 (by decide) ?_
      have e1 := Option.some.inj hf
      subst e1
      exact e_Z S hlk hP hS (Or.inr rfl) hr dX12_in_15
def rm_X12_turn : Room := { frames := 0, cells := 0, slots := 0, locals := 0 }
theorem k_X12_turn_1 : (.fieldLink RX12 78 "MendTextsModel" "isKnown" "[Z" : Cond) ∈ wsX12_turn := List.mem_of_getElem? (i := 1) (by decide +kernel)
theorem h_X12_turn_X12 : ∀ w ∈ u_ws RX12 TX12 36, w ∈ wsX12_turn := mem_places _ [2, 3, 4, 5, 6, 7, 8, 9, 10, 11, 12, 13, 14, 15, 16, 17, 18, 19, 20, 21, 22, 23, 24, 25, 26, 27, 28, 29, 30, 31, 32, 33, 34, 35, 36, 37] (by decide +kernel)
set_option maxHeartbeats 4000000 in
set_option maxRecDepth 100000 in
theorem w_X12_turn_L2 {p : Program} {l : Launch} {e : Env} {s : State} {m : MethodId} {args : Array Value} {below : List Frame} {meth : Method} {c : Code} {Q : State → Prop} {D : va_G} {cy : Nat → ClassId} {ad : Nat → Nat} {H0 : Heap} (hO : adOK 28 ad) (S : CallFix p m c cX12_turn 2 s args wsX12_turn RX12) (hK : KK D cy s) (n : Nat) {res : Mem} (k0 : ∀ (τ : Mem) (H2 : Heap) (locs2 : List Loc) (ls2 : Array Slot), res = τ → va_P D vwCl (WW 28 (cellM cy ad) ad τ) H2 → va_S (AC 28 ad) H0 H2 locs2 → lv_has ls2 2 [] → W p l e rm_X12_turn s m args below meth c H2 locs2 0 0 Q (F0 m 21 ls2 [])) :
    ∀ (k : Nat) (x1_ : Int) (σ : Mem) (H : Heap) (locs : List Loc) (ls : Array Slot), f_X12_turn_L2 n k x1_ σ = some res → va_P D vwCl (WW 28 (cellM cy ad) ad σ) H → va_S (AC 28 ad) H0 H locs → lv_has ls 2 [(0, .ref (ad 0)), (1, .int (zI x1_))] → W p l e rm_X12_turn s m args below meth c H locs 0 0 Q (F0 m 2 ls []) := by
  intro k
  induction k with
  | zero =>
    intro x1_ σ H locs ls hf
    have hf : none = some res := hf
    cases hf
  | succ k ih =>
    intro x1_ σ H locs ls hf hP hS hl
    rw [f_X12_turn_L2] at hf
    refine lv_iload_n S.1 S.2.1 dX12_turn_2 rfl (lv_at hl 1 rfl) ?_
    refine r_bipush S dX12_turn_3 (by decide) ?_
    refine lv_icmp_ge (tgt := 21) S.1 S.2.1 dX12_turn_5 (by decide) (fun c1 => ?_) (fun c1 => ?_)
    · have hf := (if_pos c1).symm.trans hf
      exact k0 _ _ _ _ (Option.some.inj hf).symm hP hS (lv_sub hl [] rfl)
    · have hf := (if_neg c1).symm.trans hf
      refine lv_aload_n S.1 S.2.1 dX12_turn_8 rfl (lv_at hl 0 rfl) ?_
      refine r_get S hK hP (by decide) rfl rfl h_X12_turn_X12 31 (by decide) k_X12_turn_1 rfl dX12_turn_9 ?_
      refine lv_iload_n S.1 S.2.1 dX12_turn_12 rfl (lv_at hl 1 rfl) ?_
      refine r_iconst S dX12_turn_13 ?_
      obtain ⟨g2, hf⟩ := gd_some hf
      obtain ⟨σ3, hσ3, hf⟩ := nm_some hf
      refine r_zast S hK hP hO hS (by decide) (n := 6) (fun _ => rfl) (by decide) g2 (Or.inl rfl) hσ3 dX12_turn_14 (fun H locs hP hS => ?_)
      obtain ⟨x4, hx4, hf⟩ := nm_some hf
      refine r_iinc S hx4 (k0 := 1) (lv2 := [(1, .int (zI x4)), (0, .ref (ad 0))]) dX12_turn_15 hl rfl (by decide) rfl (fun ls hl => ?_)
      refine lv_goto (tgt := 2) S.1 S.2.1 dX12_turn_18 (by decide) ?_
      exact ih x4 σ3 _ _ _ hf hP hS (lv_sub hl [1, 0] rfl)
set_option maxHeartbeats 4000000 in
set_option maxRecDepth 100000 in
theorem c_X12_turn (l : Launch) (D : va_G) (cy : Nat → ClassId) (ad : Nat → Nat) (hO : adOK 28 ad) (n : Nat) (σ : Mem) {τ : Mem} (hf : f_X12_turn n σ = some τ) : Met l yX12_turn wsX12_turn rm_X12_turn (va_Pc [.ref (ad 0)] (PreW D cy 28 (cellM cy ad) ad σ)) (QV D 28 (cellM cy ad) ad τ) 0 0 (AC 28 ad) := by
  refine r_met (cc := cX12_turn) (maxL := 2) (ret := none) (own := RX12) (by decide) rfl rfl [.ref (ad 0)] (Nat.le_of_ble_eq_true rfl) ?_
  intro p e s m below meth c ls S hK hP hlk hr hl
  have hS : va_S (AC 28 ad) s.heap s.heap [] := va_S.rf
  have hl : lv_has ls 2 [(0, .ref (ad 0))] := hl
  unfold f_X12_turn at hf
  refine r_iconst S dX12_turn_0 ?_
  refine r_istore_n S rfl (lv2 := [(1, .int (zI 0)), (0, .ref (ad 0))]) dX12_turn_1 rfl hl (by decide) rfl (fun ls hl => ?_)
  obtain ⟨σ1, hq, hf⟩ := bV_some hf
  refine w_X12_turn_L2 hO S hK n (fun σ1 H locs ls he hP hS hl => ?_) n 0 σ _ _ _ hq hP hS (lv_sub hl [1, 0] rfl)
  cases he
  have e1 := Option.some.inj hf
  subst e1
  exact e_V S hlk hP hS hr dX12_turn_21
def rm_X12_cost : Room := { frames := 1, cells := 0, slots := 0, locals := 22 }
theorem k_X12_cost_1 : (.fieldLink RX12 31 "MendTextsModel" "costs" "[I" : Cond) ∈ wsX12_cost := List.mem_of_getElem? (i := 1) (by decide +kernel)
theorem h_X12_cost_X12 : ∀ w ∈ u_ws RX12 TX12 36, w ∈ wsX12_cost := mem_places _ [11, 12, 13, 14, 15, 16, 17, 18, 19, 20, 21, 22, 23, 24, 25, 26, 27, 28, 29, 30, 31, 32, 33, 34, 35, 36, 37, 38, 39, 40, 41, 42, 43, 44, 45, 46] (by decide +kernel)
theorem cw_X12_cost_X12_in {s : State} {args : Array Value} (hts : ∀ w ∈ wsX12_cost, w.before args s = true) : CallB rm_X12_cost s args RX12 93 yX12_in cX12_in 3 (some .boolean) wsX12_in rm_X12_in 0 0 3 ∧ (Cond.static yX12_in).before args s = true := va_cwS 3 hts gX12_cost_X12_in rfl rfl rfl (by decide +kernel) ⟨Nat.le_of_ble_eq_true rfl, Nat.le_of_ble_eq_true rfl⟩
theorem cw_X12_cost_X12_turn {s : State} {args : Array Value} (hts : ∀ w ∈ wsX12_cost, w.before args s = true) : CallW rm_X12_cost s args RX12 RX12 108 yX12_turn cX12_turn 2 none wsX12_turn rm_X12_turn 0 0 0 := cwV 0 hts gX12_cost_X12_turn rfl rfl rfl (by decide +kernel) ⟨Nat.le_of_ble_eq_true rfl, Nat.le_of_ble_eq_true rfl⟩
set_option maxHeartbeats 4000000 in
set_option maxRecDepth 100000 in
theorem c_X12_cost (l : Launch) (D : va_G) (cy : Nat → ClassId) (ad : Nat → Nat) (hO : adOK 28 ad) (n : Nat) (a0 : Int) (a1 : Int) (σ : Mem) {v : Int} {τ : Mem} (hf : f_X12_cost n a0 a1 σ = some (v, τ)) : Met l yX12_cost wsX12_cost rm_X12_cost (va_Pc [.ref (ad 0), .int (zI a0), .int (zI a1)] (PreW D cy 28 (cellM cy ad) ad σ)) (QI D 28 (cellM cy ad) ad v τ) 0 0 (AC 28 ad) := by
  refine r_met (cc := cX12_cost) (maxL := 4) (ret := (some .int)) (own := RX12) (by decide) rfl rfl [.ref (ad 0), .int (zI a0), .int (zI a1)] (Nat.le_of_ble_eq_true rfl) ?_
  intro p e s m below meth c ls S hK hP hlk hr hl
  have hS : va_S (AC 28 ad) s.heap s.heap [] := va_S.rf
  have hl : lv_has ls 4 [(0, .ref (ad 0)), (1, .int (zI a0)), (2, .int (zI a1))] := hl
  unfold f_X12_cost at hf
  refine lv_iload_n S.1 S.2.1 dX12_cost_0 rfl (lv_at hl 1 rfl) ?_
  refine r_iconst S dX12_cost_1 ?_
  refine r_iconst S dX12_cost_2 ?_
  obtain ⟨y2, hq1, hf⟩ := bV_some hf
  refine r_callSI S hK hP hS [.int (zI a0), .int (zI 0), .int (zI 2)] (c_X12_in l D cy ad hO a0 0 2 σ hq1) (cw_X12_cost_X12_in S.2.2.2.2) rfl hl.1 (rest := []) rfl (Nat.le_of_ble_eq_true rfl) dX12_cost_3 ⟨Nat.zero_le _, Nat.zero_le _⟩ (fun H locs hP hS => ?_)
  refine r_if_eq (tgt := 19) S dX12_cost_6 (by decide) (fun c3 => ?_) (fun c3 => ?_)
  · have hf := (if_pos c3).symm.trans hf
    refine r_bipush S dX12_cost_19 (by decide) ?_
    obtain ⟨e1, e2⟩ := inj2 hf
    subst e1
    subst e2
    exact e_I S hlk hP hS hr dX12_cost_21
  · have hf := (if_neg c3).symm.trans hf
    refine lv_iload_n S.1 S.2.1 dX12_cost_9 rfl (lv_at hl 2 rfl) ?_
    refine r_iconst S dX12_cost_10 ?_
    refine r_bipush S dX12_cost_11 (by decide) ?_
    obtain ⟨y5, hq4, hf⟩ := bV_some hf
    refine r_callSI S hK hP hS [.int (zI a1), .int (zI 1), .int (zI 9)] (c_X12_in l D cy ad hO a1 1 9 σ hq4) (cw_X12_cost_X12_in S.2.2.2.2) rfl hl.1 (rest := []) rfl (Nat.le_of_ble_eq_true rfl) dX12_cost_13 ⟨Nat.zero_le _, Nat.zero_le _⟩ (fun H locs hP hS => ?_)
    refine r_if_ne (tgt := 22) S dX12_cost_16 (by decide) (fun c6 => ?_) (fun c6 => ?_)
    · have hf := (if_neg c6).symm.trans hf
      refine lv_aload_n S.1 S.2.1 dX12_cost_22 rfl (lv_at hl 0 rfl) ?_
      refine r_get S hK hP (by decide) rfl rfl h_X12_cost_X12 11 (by decide) k_X12_cost_1 rfl dX12_cost_23 ?_
      refine lv_iload_n S.1 S.2.1 dX12_cost_26 rfl (lv_at hl 1 rfl) ?_
      obtain ⟨g7, hf⟩ := gd_some hf
      refine r_iald S hK hP (by decide) (n := 3) (fun _ => rfl) (by decide) g7 dX12_cost_27 ?_
      obtain ⟨x8, hx8, hf⟩ := nm_some hf
      refine r_istore_n S hx8 (lv2 := [(3, .int (zI x8)), (0, .ref (ad 0)), (1, .int (zI a0)), (2, .int (zI a1))]) dX12_cost_28 rfl hl (by decide) rfl (fun ls hl => ?_)
      refine lv_aload_n S.1 S.2.1 dX12_cost_29 rfl (lv_at hl 1 rfl) ?_
      refine r_get S hK hP (by decide) rfl rfl h_X12_cost_X12 11 (by decide) k_X12_cost_1 rfl dX12_cost_30 ?_
      refine lv_iload_n S.1 S.2.1 dX12_cost_33 rfl (lv_at hl 2 rfl) ?_
      refine lv_iload_n S.1 S.2.1 dX12_cost_34 rfl (lv_at hl 3 rfl) ?_
      obtain ⟨σ9, hσ9, hf⟩ := nm_some hf
      refine r_iast S hK hP hO hS (by decide) (n := 3) (fun _ => rfl) (by decide) g7 hσ9 dX12_cost_35 (fun H locs hP hS => ?_)
      refine lv_aload_n S.1 S.2.1 dX12_cost_36 rfl (lv_at hl 1 rfl) ?_
      obtain ⟨σ11, hq10, hf⟩ := bV_some hf
      refine r_callVV S hK hP hS (by decide) rfl rfl [] (c_X12_turn l D cy ad hO n σ9 hq10) (cw_X12_cost_X12_turn S.2.2.2.2) rfl hl.1 (rest := []) rfl (Nat.le_of_ble_eq_true rfl) dX12_cost_37 ⟨Nat.zero_le _, Nat.zero_le _⟩ (fun H locs hP hS => ?_)
      refine lv_iload_n S.1 S.2.1 dX12_cost_40 rfl (lv_at hl 0 rfl) ?_
      obtain ⟨e1, e2⟩ := inj2 hf
      subst e1
      subst e2
      exact e_I S hlk hP hS hr dX12_cost_41
    · have hf := (if_pos c6).symm.trans hf
      refine r_bipush S dX12_cost_19 (by decide) ?_
      obtain ⟨e1, e2⟩ := inj2 hf
      subst e1
      subst e2
      exact e_I S hlk hP hS hr dX12_cost_21
def rm_X12_example : Room := { frames := 1, cells := 0, slots := 0, locals := 21 }
theorem k_X12_example_1 : (.fieldLink RX12 187 "MendTextsModel" "examples" "I" : Cond) ∈ wsX12_example := List.mem_of_getElem? (i := 1) (by decide +kernel)
theorem k_X12_example_2 : (.fieldLink RX12 25 "MendTextsModel" "exampleMany" "[I" : Cond) ∈ wsX12_example := List.mem_of_getElem? (i := 2) (by decide +kernel)
theorem k_X12_example_3 : (.fieldLink RX12 140 "MendTextsModel" "letters" "I" : Cond) ∈ wsX12_example := List.mem_of_getElem? (i := 3) (by decide +kernel)
theorem k_X12_example_4 : (.fieldLink RX12 28 "MendTextsModel" "exampleLetter" "[I" : Cond) ∈ wsX12_example := List.mem_of_getElem? (i := 4) (by decide +kernel)
theorem k_X12_example_5 : (.fieldLink RX12 22 "MendTextsModel" "word" "[I" : Cond) ∈ wsX12_example := List.mem_of_getElem? (i := 5) (by decide +kernel)
theorem h_X12_example_X12 : ∀ w ∈ u_ws RX12 TX12 36, w ∈ wsX12_example := mem_places _ [12, 13, 14, 15, 16, 17, 18, 19, 20, 21, 22, 23, 24, 25, 26, 27, 28, 29, 30, 31, 32, 33, 34, 35, 36, 37, 38, 39, 40, 41, 42, 43, 44, 45, 46, 47] (by decide +kernel)
theorem cw_X12_example_X12_turn {s : State} {args : Array Value} (hts : ∀ w ∈ wsX12_example, w.before args s = true) : CallW rm_X12_example s args RX12 RX12 108 yX12_turn cX12_turn 2 none wsX12_turn rm_X12_turn 0 0 0 := cwV 0 hts gX12_example_X12_turn rfl rfl rfl (by decide +kernel) ⟨Nat.le_of_ble_eq_true rfl, Nat.le_of_ble_eq_true rfl⟩
set_option maxHeartbeats 4000000 in
set_option maxRecDepth 100000 in
theorem w_X12_example_L26 {p : Program} {l : Launch} {e : Env} {s : State} {m : MethodId} {args : Array Value} {below : List Frame} {meth : Method} {c : Code} {Q : State → Prop} {D : va_G} {cy : Nat → ClassId} {ad : Nat → Nat} {H0 : Heap} (hO : adOK 28 ad) (S : CallFix p m c cX12_example 2 s args wsX12_example RX12) (hK : KK D cy s) (n : Nat) {res : Mem} (k0 : ∀ (τ : Mem) (H2 : Heap) (locs2 : List Loc) (ls2 : Array Slot), res = τ → va_P D vwCl (WW 28 (cellM cy ad) ad τ) H2 → va_S (AC 28 ad) H0 H2 locs2 → lv_has ls2 2 [(0, .ref (ad 0))] → W p l e rm_X12_example s m args below meth c H2 locs2 0 0 Q (F0 m 60 ls2 [])) :
    ∀ (k : Nat) (x1_ : Int) (σ : Mem) (H : Heap) (locs : List Loc) (ls : Array Slot), f_X12_example_L26 n k x1_ σ = some res → va_P D vwCl (WW 28 (cellM cy ad) ad σ) H → va_S (AC 28 ad) H0 H locs → lv_has ls 2 [(0, .ref (ad 0)), (1, .int (zI x1_))] → W p l e rm_X12_example s m args below meth c H locs 0 0 Q (F0 m 26 ls []) := by
  intro k
  induction k with
  | zero =>
    intro x1_ σ H locs ls hf
    have hf : none = some res := hf
    cases hf
  | succ k ih =>
    intro x1_ σ H locs ls hf hP hS hl
    rw [f_X12_example_L26] at hf
    refine lv_iload_n S.1 S.2.1 dX12_example_26 rfl (lv_at hl 1 rfl) ?_
    refine lv_aload_n S.1 S.2.1 dX12_example_27 rfl (lv_at hl 0 rfl) ?_
    refine r_get S hK hP (by decide) rfl rfl h_X12_example_X12 6 (by decide) k_X12_example_3 rfl dX12_example_28 ?_
    refine lv_icmp_ge (tgt := 60) S.1 S.2.1 dX12_example_31 (by decide) (fun c1 => ?_) (fun c1 => ?_)
    · have hf := (if_pos c1).symm.trans hf
      exact k0 _ _ _ _ (Option.some.inj hf).symm hP hS (lv_sub hl [0] rfl)
    · have hf := (if_neg c1).symm.trans hf
      refine lv_aload_n S.1 S.2.1 dX12_example_34 rfl (lv_at hl 0 rfl) ?_
      refine r_get S hK hP (by decide) rfl rfl h_X12_example_X12 10 (by decide) k_X12_example_4 rfl dX12_example_35 ?_
      refine r_bipush S dX12_example_38 (by decide) ?_
      refine lv_aload_n S.1 S.2.1 dX12_example_40 rfl (lv_at hl 0 rfl) ?_
      refine r_get S hK hP (by decide) rfl rfl h_X12_example_X12 8 (by decide) k_X12_example_1 rfl dX12_example_41 ?_
      refine r_imul S dX12_example_44 ?_
      refine lv_iload_n S.1 S.2.1 dX12_example_45 rfl (lv_at hl 1 rfl) ?_
      refine r_iadd S dX12_example_46 ?_
      refine lv_aload_n S.1 S.2.1 dX12_example_47 rfl (lv_at hl 0 rfl) ?_
      refine r_get S hK hP (by decide) rfl rfl h_X12_example_X12 7 (by decide) k_X12_example_5 rfl dX12_example_48 ?_
      refine lv_iload_n S.1 S.2.1 dX12_example_51 rfl (lv_at hl 1 rfl) ?_
      obtain ⟨g2, hf⟩ := gd_some hf
      refine r_iald S hK hP (by decide) (n := 6) (fun _ => rfl) (by decide) g2 dX12_example_52 ?_
      obtain ⟨g3, hf⟩ := gd_some hf
      obtain ⟨σ4, hσ4, hf⟩ := nm_some hf
      refine r_iast S hK hP hO hS (by decide) (n := 18) (fun _ => rfl) (by decide) g3 hσ4 dX12_example_53 (fun H locs hP hS => ?_)
      obtain ⟨x5, hx5, hf⟩ := nm_some hf
      refine r_iinc S hx5 (k0 := 1) (lv2 := [(1, .int (zI x5)), (0, .ref (ad 0))]) dX12_example_54 hl rfl (by decide) rfl (fun ls hl => ?_)
      refine lv_goto (tgt := 26) S.1 S.2.1 dX12_example_57 (by decide) ?_
      exact ih x5 σ4 _ _ _ hf hP hS (lv_sub hl [1, 0] rfl)
set_option maxHeartbeats 4000000 in
set_option maxRecDepth 100000 in
theorem c_X12_example (l : Launch) (D : va_G) (cy : Nat → ClassId) (ad : Nat → Nat) (hO : adOK 28 ad) (n : Nat) (σ : Mem) {v : Int} {τ : Mem} (hf : f_X12_example n σ = some (v, τ)) : Met l yX12_example wsX12_example rm_X12_example (va_Pc [.ref (ad 0)] (PreW D cy 28 (cellM cy ad) ad σ)) (QI D 28 (cellM cy ad) ad v τ) 0 0 (AC 28 ad) := by
  refine r_met (cc := cX12_example) (maxL := 2) (ret := (some .int)) (own := RX12) (by decide) rfl rfl [.ref (ad 0)] (Nat.le_of_ble_eq_true rfl) ?_
  intro p e s m below meth c ls S hK hP hlk hr hl
  have hS : va_S (AC 28 ad) s.heap s.heap [] := va_S.rf
  have hl : lv_has ls 2 [(0, .ref (ad 0))] := hl
  unfold f_X12_example at hf
  refine lv_aload_n S.1 S.2.1 dX12_example_0 rfl (lv_at hl 0 rfl) ?_
  refine r_get S hK hP (by decide) rfl rfl h_X12_example_X12 8 (by decide) k_X12_example_1 rfl dX12_example_1 ?_
  refine r_iconst S dX12_example_4 ?_
  refine lv_icmp_ne (tgt := 11) S.1 S.2.1 dX12_example_5 (by decide) (fun c1 => ?_) (fun c1 => ?_)
  · have hf := (if_neg c1).symm.trans hf
    refine lv_aload_n S.1 S.2.1 dX12_example_11 rfl (lv_at hl 0 rfl) ?_
    refine r_get S hK hP (by decide) rfl rfl h_X12_example_X12 9 (by decide) k_X12_example_2 rfl dX12_example_12 ?_
    refine lv_aload_n S.1 S.2.1 dX12_example_15 rfl (lv_at hl 0 rfl) ?_
    refine r_get S hK hP (by decide) rfl rfl h_X12_example_X12 8 (by decide) k_X12_example_1 rfl dX12_example_16 ?_
    refine lv_aload_n S.1 S.2.1 dX12_example_19 rfl (lv_at hl 0 rfl) ?_
    refine r_get S hK hP (by decide) rfl rfl h_X12_example_X12 6 (by decide) k_X12_example_3 rfl dX12_example_20 ?_
    obtain ⟨g2, hf⟩ := gd_some hf
    obtain ⟨σ3, hσ3, hf⟩ := nm_some hf
    refine r_iast S hK hP hO hS (by decide) (n := 3) (fun _ => rfl) (by decide) g2 hσ3 dX12_example_23 (fun H locs hP hS => ?_)
    refine r_iconst S dX12_example_24 ?_
    refine r_istore_n S rfl (lv2 := [(1, .int (zI 0)), (0, .ref (ad 0))]) dX12_example_25 rfl hl (by decide) rfl (fun ls hl => ?_)
    obtain ⟨σ4, hq, hf⟩ := bV_some hf
    refine w_X12_example_L26 hO S hK n (fun σ4 H locs ls he hP hS hl => ?_) n 0 σ3 _ _ _ hq hP hS (lv_sub hl [1, 0] rfl)
    cases he
    refine lv_aload_n S.1 S.2.1 dX12_example_60 rfl (lv_at hl 0 rfl) ?_
    refine lv_dup S.1 S.2.1 dX12_example_61 rfl ?_
    refine r_get S hK hP (by decide) rfl rfl h_X12_example_X12 8 (by decide) k_X12_example_1 rfl dX12_example_62 ?_
    refine r_iconst S dX12_example_65 ?_
    refine r_iadd S dX12_example_66 ?_
    obtain ⟨σ5, hσ5, hf⟩ := nm_some hf
    refine r_put S hK hP hO hS (by decide) rfl rfl h_X12_example_X12 tyX12 tyX12_ok nmX12 8 (by decide) k_X12_example_1 rfl (tyX12_ok 8 (by decide)) rfl rfl (Nat.le_of_ble_eq_true rfl) hσ5 rfl dX12_example_67 (fun H locs hP hS => ?_)
    refine lv_aload_n S.1 S.2.1 dX12_example_70 rfl (lv_at hl 0 rfl) ?_
    obtain ⟨σ7, hq6, hf⟩ := bV_some hf
    refine r_callVV S hK hP hS (by decide) rfl rfl [] (c_X12_turn l D cy ad hO n σ5 hq6) (cw_X12_example_X12_turn S.2.2.2.2) rfl hl.1 (rest := []) rfl (Nat.le_of_ble_eq_true rfl) dX12_example_71 ⟨Nat.zero_le _, Nat.zero_le _⟩ (fun H locs hP hS => ?_)
    refine lv_aload_n S.1 S.2.1 dX12_example_74 rfl (lv_at hl 0 rfl) ?_
    refine r_get S hK hP (by decide) rfl rfl h_X12_example_X12 8 (by decide) k_X12_example_1 rfl dX12_example_75 ?_
    refine r_iconst S dX12_example_78 ?_
    refine r_isub S dX12_example_79 ?_
    obtain ⟨e1, e2⟩ := inj2 hf
    subst e1
    subst e2
    exact e_I S hlk hP hS hr dX12_example_80
  · have hf := (if_pos c1).symm.trans hf
    refine r_bipush S dX12_example_8 (by decide) ?_
    obtain ⟨e1, e2⟩ := inj2 hf
    subst e1
    subst e2
    exact e_I S hlk hP hS hr dX12_example_10
