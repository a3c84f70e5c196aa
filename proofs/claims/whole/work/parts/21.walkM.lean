def rm_X12_layTextRows : Room := { frames := 2, cells := 0, slots := 0, locals := 47 }
theorem k_X12_layTextRows_1 : (.fieldLink RX12 105 "MendTextsModel" "first" "I" : Cond) ∈ wsX12_layTextRows := List.mem_of_getElem? (i := 1) (by decide +kernel)
theorem k_X12_layTextRows_2 : (.fieldLink RX12 140 "MendTextsModel" "letters" "I" : Cond) ∈ wsX12_layTextRows := List.mem_of_getElem? (i := 2) (by decide +kernel)
theorem k_X12_layTextRows_3 : (.fieldLink RX12 40 "MendTextsModel" "length" "[I" : Cond) ∈ wsX12_layTextRows := List.mem_of_getElem? (i := 3) (by decide +kernel)
theorem k_X12_layTextRows_4 : (.fieldLink RX12 165 "MendTextsModel" "otherMany" "I" : Cond) ∈ wsX12_layTextRows := List.mem_of_getElem? (i := 4) (by decide +kernel)
theorem k_X12_layTextRows_5 : (.fieldLink RX12 62 "MendTextsModel" "other" "[I" : Cond) ∈ wsX12_layTextRows := List.mem_of_getElem? (i := 5) (by decide +kernel)
theorem k_X12_layTextRows_6 : (.fieldLink RX12 43 "MendTextsModel" "text" "[I" : Cond) ∈ wsX12_layTextRows := List.mem_of_getElem? (i := 6) (by decide +kernel)
theorem h_X12_layTextRows_X12 : ∀ w ∈ u_ws RX12 TX12 36, w ∈ wsX12_layTextRows := mem_places _ [32, 33, 34, 35, 36, 37, 38, 39, 40, 41, 42, 43, 44, 45, 46, 47, 48, 49, 50, 51, 52, 53, 54, 55, 56, 57, 58, 59, 60, 61, 62, 63, 64, 65, 66, 67] (by decide +kernel)
theorem cw_X12_layTextRows_X12_layRows {s : State} {args : Array Value} (hts : ∀ w ∈ wsX12_layTextRows, w.before args s = true) : CallW rm_X12_layTextRows s args RX12 RX12 178 yX12_layRows cX12_layRows 4 none wsX12_layRows rm_X12_layRows 0 0 0 := cwV 0 hts gX12_layTextRows_X12_layRows rfl rfl rfl (by decide +kernel) ⟨Nat.le_of_ble_eq_true rfl, Nat.le_of_ble_eq_true rfl⟩
set_option maxHeartbeats 4000000 in
set_option maxRecDepth 100000 in
theorem w_X12_layTextRows_L25 {p : Program} {l : Launch} {e : Env} {s : State} {m : MethodId} {args : Array Value} {below : List Frame} {meth : Method} {c : Code} {Q : State → Prop} {D : va_G} {cy : Nat → ClassId} {ad : Nat → Nat} {H0 : Heap} (hO : adOK 28 ad) (S : CallFix p m c cX12_layTextRows 3 s args wsX12_layTextRows RX12) (hK : KK D cy s) (n : Nat) (x1_ : Int) {res : Mem} (k0 : ∀ (τ : Mem) (H2 : Heap) (locs2 : List Loc) (ls2 : Array Slot), res = τ → va_P D vwCl (WW 28 (cellM cy ad) ad τ) H2 → va_S (AC 28 ad) H0 H2 locs2 → lv_has ls2 3 [(0, .ref (ad 0))] → W p l e rm_X12_layTextRows s m args below meth c H2 locs2 0 0 Q (F0 m 64 ls2 [])) :
    ∀ (k : Nat) (x2_ : Int) (σ : Mem) (H : Heap) (locs : List Loc) (ls : Array Slot), f_X12_layTextRows_L25 n x1_ k x2_ σ = some res → va_P D vwCl (WW 28 (cellM cy ad) ad σ) H → va_S (AC 28 ad) H0 H locs → lv_has ls 3 [(0, .ref (ad 0)), (1, .int (zI x1_)), (2, .int (zI x2_))] → W p l e rm_X12_layTextRows s m args below meth c H locs 0 0 Q (F0 m 25 ls []) := by
  intro k
  induction k with
  | zero =>
    intro x2_ σ H locs ls hf
    have hf : none = some res := hf
    cases hf
  | succ k ih =>
    intro x2_ σ H locs ls hf hP hS hl
    rw [f_X12_layTextRows_L25] at hf
    refine lv_iload_n S.1 S.2.1 dX12_layTextRows_25 rfl (lv_at hl 2 rfl) ?_
    refine lv_aload_n S.1 S.2.1 dX12_layTextRows_26 rfl (lv_at hl 0 rfl) ?_
    refine r_get S hK hP (by decide) rfl rfl h_X12_layTextRows_X12 25 (by decide) k_X12_layTextRows_4 rfl dX12_layTextRows_27 ?_
    refine lv_icmp_ge (tgt := 64) S.1 S.2.1 dX12_layTextRows_30 (by decide) (fun c1 => ?_) (fun c1 => ?_)
    · have hf := (if_pos c1).symm.trans hf
      exact k0 _ _ _ _ (Option.some.inj hf).symm hP hS (lv_sub hl [0] rfl)
    · have hf := (if_neg c1).symm.trans hf
      refine lv_aload_n S.1 S.2.1 dX12_layTextRows_33 rfl (lv_at hl 0 rfl) ?_
      refine r_get S hK hP (by decide) rfl rfl h_X12_layTextRows_X12 26 (by decide) k_X12_layTextRows_5 rfl dX12_layTextRows_34 ?_
      refine lv_iload_n S.1 S.2.1 dX12_layTextRows_37 rfl (lv_at hl 2 rfl) ?_
      refine lv_aload_n S.1 S.2.1 dX12_layTextRows_38 rfl (lv_at hl 0 rfl) ?_
      refine r_get S hK hP (by decide) rfl rfl h_X12_layTextRows_X12 16 (by decide) k_X12_layTextRows_6 rfl dX12_layTextRows_39 ?_
      refine lv_iload_n S.1 S.2.1 dX12_layTextRows_42 rfl (lv_at hl 1 rfl) ?_
      obtain ⟨g2, hf⟩ := gd_some hf
      refine r_iald S hK hP (by decide) (n := 294) (fun _ => rfl) (by decide) g2 dX12_layTextRows_43 ?_
      refine r_iconst S dX12_layTextRows_44 ?_
      refine lv_aload_n S.1 S.2.1 dX12_layTextRows_45 rfl (lv_at hl 0 rfl) ?_
      refine r_get S hK hP (by decide) rfl rfl h_X12_layTextRows_X12 25 (by decide) k_X12_layTextRows_4 rfl dX12_layTextRows_46 ?_
      refine r_iconst S dX12_layTextRows_49 ?_
      refine r_isub S dX12_layTextRows_50 ?_
      refine lv_iload_n S.1 S.2.1 dX12_layTextRows_51 rfl (lv_at hl 2 rfl) ?_
      refine r_isub S dX12_layTextRows_52 ?_
      refine r_imul S dX12_layTextRows_53 ?_
      refine r_ishr S dX12_layTextRows_54 ?_
      refine r_iconst S dX12_layTextRows_55 ?_
      refine r_iand S dX12_layTextRows_56 ?_
      obtain ⟨g3, hf⟩ := gd_some hf
      obtain ⟨σ4, hσ4, hf⟩ := nm_some hf
      refine r_iast S hK hP hO hS (by decide) (n := 12) (fun _ => rfl) (by decide) g3 hσ4 dX12_layTextRows_57 (fun H locs hP hS => ?_)
      obtain ⟨x5, hx5, hf⟩ := nm_some hf
      refine r_iinc S hx5 (k0 := 2) (lv2 := [(2, .int (zI x5)), (0, .ref (ad 0)), (1, .int (zI x1_))]) dX12_layTextRows_58 hl rfl (by decide) rfl (fun ls hl => ?_)
      refine lv_goto (tgt := 25) S.1 S.2.1 dX12_layTextRows_61 (by decide) ?_
      exact ih x5 σ4 _ _ _ hf hP hS (lv_sub hl [1, 2, 0] rfl)
set_option maxHeartbeats 4000000 in
set_option maxRecDepth 100000 in
theorem c_X12_layTextRows (l : Launch) (D : va_G) (cy : Nat → ClassId) (ad : Nat → Nat) (hO : adOK 28 ad) (n : Nat) (σ : Mem) {τ : Mem} (hf : f_X12_layTextRows n σ = some τ) : Met l yX12_layTextRows wsX12_layTextRows rm_X12_layTextRows (va_Pc [.ref (ad 0)] (PreW D cy 28 (cellM cy ad) ad σ)) (QV D 28 (cellM cy ad) ad τ) 0 0 (AC 28 ad) := by
  refine r_met (cc := cX12_layTextRows) (maxL := 3) (ret := none) (own := RX12) (by decide) rfl rfl [.ref (ad 0)] (Nat.le_of_ble_eq_true rfl) ?_
  intro p e s m below meth c ls S hK hP hlk hr hl
  have hS : va_S (AC 28 ad) s.heap s.heap [] := va_S.rf
  have hl : lv_has ls 3 [(0, .ref (ad 0))] := hl
  unfold f_X12_layTextRows at hf
  refine r_bipush S dX12_layTextRows_0 (by decide) ?_
  refine lv_aload_n S.1 S.2.1 dX12_layTextRows_2 rfl (lv_at hl 0 rfl) ?_
  refine r_get S hK hP (by decide) rfl rfl h_X12_layTextRows_X12 5 (by decide) k_X12_layTextRows_1 rfl dX12_layTextRows_3 ?_
  refine r_imul S dX12_layTextRows_6 ?_
  refine lv_aload_n S.1 S.2.1 dX12_layTextRows_7 rfl (lv_at hl 0 rfl) ?_
  refine r_get S hK hP (by decide) rfl rfl h_X12_layTextRows_X12 6 (by decide) k_X12_layTextRows_2 rfl dX12_layTextRows_8 ?_
  refine r_iadd S dX12_layTextRows_11 ?_
  obtain ⟨x1, hx1, hf⟩ := nm_some hf
  refine r_istore_n S hx1 (lv2 := [(1, .int (zI x1)), (0, .ref (ad 0))]) dX12_layTextRows_12 rfl hl (by decide) rfl (fun ls hl => ?_)
  refine lv_aload_n S.1 S.2.1 dX12_layTextRows_13 rfl (lv_at hl 1 rfl) ?_
  refine lv_aload_n S.1 S.2.1 dX12_layTextRows_14 rfl (lv_at hl 1 rfl) ?_
  refine r_get S hK hP (by decide) rfl rfl h_X12_layTextRows_X12 15 (by decide) k_X12_layTextRows_3 rfl dX12_layTextRows_15 ?_
  refine lv_iload_n S.1 S.2.1 dX12_layTextRows_18 rfl (lv_at hl 0 rfl) ?_
  obtain ⟨g2, hf⟩ := gd_some hf
  refine r_iald S hK hP (by decide) (n := 294) (fun _ => rfl) (by decide) g2 dX12_layTextRows_19 ?_
  obtain ⟨σ3, hσ3, hf⟩ := nm_some hf
  refine r_put S hK hP hO hS (by decide) rfl rfl h_X12_layTextRows_X12 tyX12 tyX12_ok nmX12 25 (by decide) k_X12_layTextRows_4 rfl (tyX12_ok 25 (by decide)) rfl rfl (Nat.le_of_ble_eq_true rfl) hσ3 rfl dX12_layTextRows_20 (fun H locs hP hS => ?_)
  refine r_iconst S dX12_layTextRows_23 ?_
  refine r_istore_n S rfl (lv2 := [(2, .int (zI 0)), (1, .int (zI x1)), (0, .ref (ad 0))]) dX12_layTextRows_24 rfl hl (by decide) rfl (fun ls hl => ?_)
  obtain ⟨σ4, hq, hf⟩ := bV_some hf
  refine w_X12_layTextRows_L25 hO S hK n x1 (fun σ4 H locs ls he hP hS hl => ?_) n 0 σ3 _ _ _ hq hP hS (lv_sub hl [2, 1, 0] rfl)
  cases he
  refine lv_aload_n S.1 S.2.1 dX12_layTextRows_64 rfl (lv_at hl 0 rfl) ?_
  obtain ⟨σ6, hq5, hf⟩ := bV_some hf
  refine r_callVV S hK hP hS (by decide) rfl rfl [] (c_X12_layRows l D cy ad hO n σ4 hq5) (cw_X12_layTextRows_X12_layRows S.2.2.2.2) rfl hl.1 (rest := []) rfl (Nat.le_of_ble_eq_true rfl) dX12_layTextRows_65 ⟨Nat.zero_le _, Nat.zero_le _⟩ (fun H locs hP hS => ?_)
  have e1 := Option.some.inj hf
  subst e1
  exact e_V S hlk hP hS hr dX12_layTextRows_68
def rm_X12_kept : Room := { frames := 4, cells := 0, slots := 0, locals := 104 }
theorem k_X12_kept_1 : (.fieldLink RX12 140 "MendTextsModel" "letters" "I" : Cond) ∈ wsX12_kept := List.mem_of_getElem? (i := 1) (by decide +kernel)
theorem k_X12_kept_2 : (.fieldLink RX12 165 "MendTextsModel" "otherMany" "I" : Cond) ∈ wsX12_kept := List.mem_of_getElem? (i := 2) (by decide +kernel)
theorem k_X12_kept_3 : (.fieldLink RX12 34 "MendTextsModel" "hand" "[I" : Cond) ∈ wsX12_kept := List.mem_of_getElem? (i := 3) (by decide +kernel)
theorem k_X12_kept_4 : (.fieldLink RX12 62 "MendTextsModel" "other" "[I" : Cond) ∈ wsX12_kept := List.mem_of_getElem? (i := 4) (by decide +kernel)
theorem k_X12_kept_5 : (.fieldLink RX12 65 "MendTextsModel" "ahead" "[I" : Cond) ∈ wsX12_kept := List.mem_of_getElem? (i := 5) (by decide +kernel)
theorem k_X12_kept_6 : (.fieldLink RX12 68 "MendTextsModel" "behind" "[I" : Cond) ∈ wsX12_kept := List.mem_of_getElem? (i := 6) (by decide +kernel)
theorem k_X12_kept_7 : (.fieldLink RX12 71 "MendTextsModel" "aheadWays" "[J" : Cond) ∈ wsX12_kept := List.mem_of_getElem? (i := 7) (by decide +kernel)
theorem k_X12_kept_8 : (.fieldLink RX12 75 "MendTextsModel" "behindWays" "[J" : Cond) ∈ wsX12_kept := List.mem_of_getElem? (i := 8) (by decide +kernel)
theorem h_X12_kept_X12 : ∀ w ∈ u_ws RX12 TX12 36, w ∈ wsX12_kept := mem_places _ [75, 76, 77, 78, 79, 80, 81, 82, 83, 84, 85, 86, 87, 88, 89, 90, 91, 92, 93, 94, 95, 96, 97, 98, 99, 100, 101, 102, 103, 104, 105, 106, 107, 108, 109, 110] (by decide +kernel)
theorem cw_X12_kept_X12_in {s : State} {args : Array Value} (hts : ∀ w ∈ wsX12_kept, w.before args s = true) : CallB rm_X12_kept s args RX12 93 yX12_in cX12_in 3 (some .boolean) wsX12_in rm_X12_in 0 0 3 ∧ (Cond.static yX12_in).before args s = true := va_cwS 3 hts gX12_kept_X12_in rfl rfl rfl (by decide +kernel) ⟨Nat.le_of_ble_eq_true rfl, Nat.le_of_ble_eq_true rfl⟩
theorem cw_X12_kept_X12_layText {s : State} {args : Array Value} (hts : ∀ w ∈ wsX12_kept, w.before args s = true) : CallW rm_X12_kept s args RX12 RX12 162 yX12_layText cX12_layText 2 (some .int) wsX12_layText rm_X12_layText 0 0 0 := cwV 0 hts gX12_kept_X12_layText rfl rfl rfl (by decide +kernel) ⟨Nat.le_of_ble_eq_true rfl, Nat.le_of_ble_eq_true rfl⟩
theorem cw_X12_kept_X12_layTextRows {s : State} {args : Array Value} (hts : ∀ w ∈ wsX12_kept, w.before args s = true) : CallW rm_X12_kept s args RX12 RX12 181 yX12_layTextRows cX12_layTextRows 3 none wsX12_layTextRows rm_X12_layTextRows 0 0 0 := cwV 0 hts gX12_kept_X12_layTextRows rfl rfl rfl (by decide +kernel) ⟨Nat.le_of_ble_eq_true rfl, Nat.le_of_ble_eq_true rfl⟩
set_option maxHeartbeats 4000000 in
set_option maxRecDepth 100000 in
theorem w_X12_kept_L37 {p : Program} {l : Launch} {e : Env} {s : State} {m : MethodId} {args : Array Value} {below : List Frame} {meth : Method} {c : Code} {Q : State → Prop} {D : va_G} {cy : Nat → ClassId} {ad : Nat → Nat} {H0 : Heap} (hO : adOK 28 ad) (S : CallFix p m c cX12_kept 8 s args wsX12_kept RX12) (hK : KK D cy s) (n : Nat) (x1_ : Int) (σ : Mem) {res : Int} (k0 : ∀ (y3_ : Int) (H2 : Heap) (locs2 : List Loc) (ls2 : Array Slot), res = y3_ → va_P D vwCl (WW 28 (cellM cy ad) ad σ) H2 → va_S (AC 28 ad) H0 H2 locs2 → lv_has ls2 8 [(0, .ref (ad 0)), (3, .long (zL y3_))] → W p l e rm_X12_kept s m args below meth c H2 locs2 0 0 Q (F0 m 141 ls2 [])) :
    ∀ (k : Nat) (x3_ : Int) (x5_ : Int) (H : Heap) (locs : List Loc) (ls : Array Slot), f_X12_kept_L37 n x1_ σ k x3_ x5_ = some res → va_P D vwCl (WW 28 (cellM cy ad) ad σ) H → va_S (AC 28 ad) H0 H locs → lv_has ls 8 [(0, .ref (ad 0)), (1, .int (zI x1_)), (3, .long (zL x3_)), (5, .int (zI x5_))] → W p l e rm_X12_kept s m args below meth c H locs 0 0 Q (F0 m 37 ls []) := by
  intro k
  induction k with
  | zero =>
    intro x3_ x5_ H locs ls hf
    have hf : none = some res := hf
    cases hf
  | succ k ih =>
    intro x3_ x5_ H locs ls hf hP hS hl
    rw [f_X12_kept_L37] at hf
    refine lv_iload S.1 S.2.1 dX12_kept_37 (lv_at hl 3 rfl) ?_
    refine lv_aload_n S.1 S.2.1 dX12_kept_39 rfl (lv_at hl 0 rfl) ?_
    refine r_get S hK hP (by decide) rfl rfl h_X12_kept_X12 25 (by decide) k_X12_kept_2 rfl dX12_kept_40 ?_
    refine lv_icmp_ge (tgt := 141) S.1 S.2.1 dX12_kept_43 (by decide) (fun c1 => ?_) (fun c1 => ?_)
    · have hf := (if_pos c1).symm.trans hf
      exact k0 _ _ _ _ (Option.some.inj hf).symm hP hS (lv_sub hl [0, 2] rfl)
    · have hf := (if_neg c1).symm.trans hf
      refine r_bipush S dX12_kept_46 (by decide) ?_
      refine lv_iload_n S.1 S.2.1 dX12_kept_48 rfl (lv_at hl 1 rfl) ?_
      refine r_imul S dX12_kept_49 ?_
      refine lv_iload S.1 S.2.1 dX12_kept_50 (lv_at hl 3 rfl) ?_
      refine r_iadd S dX12_kept_52 ?_
      obtain ⟨x2, hx2, hf⟩ := nm_some hf
      refine r_istore S hx2 (lv2 := [(6, .int (zI x2)), (0, .ref (ad 0)), (1, .int (zI x1_)), (3, .long (zL x3_)), (5, .int (zI x5_))]) dX12_kept_53 hl (by decide) rfl (fun ls hl => ?_)
      refine lv_aload_n S.1 S.2.1 dX12_kept_55 rfl (lv_at hl 1 rfl) ?_
      refine r_get S hK hP (by decide) rfl rfl h_X12_kept_X12 13 (by decide) k_X12_kept_3 rfl dX12_kept_56 ?_
      refine lv_iload_n S.1 S.2.1 dX12_kept_59 rfl (lv_at hl 2 rfl) ?_
      obtain ⟨g3, hf⟩ := gd_some hf
      refine r_iald S hK hP (by decide) (n := 6) (fun _ => rfl) (by decide) g3 dX12_kept_60 ?_
      refine lv_aload_n S.1 S.2.1 dX12_kept_61 rfl (lv_at hl 1 rfl) ?_
      refine r_get S hK hP (by decide) rfl rfl h_X12_kept_X12 26 (by decide) k_X12_kept_4 rfl dX12_kept_62 ?_
      refine lv_iload S.1 S.2.1 dX12_kept_65 (lv_at hl 4 rfl) ?_
      obtain ⟨g4, hf⟩ := gd_some hf
      refine r_iald S hK hP (by decide) (n := 12) (fun _ => rfl) (by decide) g4 dX12_kept_67 ?_
      obtain ⟨t5, hq, hf⟩ := bV_some hf
      have kJ0 : t5 = 0 → ∀ (H : Heap) (locs : List Loc) (ls : Array Slot), va_P D vwCl (WW 28 (cellM cy ad) ad σ) H → va_S (AC 28 ad) H0 H locs → lv_has ls 8 [(0, .ref (ad 0)), (1, .int (zI x1_)), (3, .long (zL x3_)), (5, .int (zI x5_)), (6, .int (zI x2))] → W p l e rm_X12_kept s m args below meth c H locs 0 0 Q (F0 m 102 ls []) := by
        intro ht
        intro H locs ls hP hS hl
        have hf := (if_pos ht).symm.trans hf
        refine r_iconst S dX12_kept_102 ?_
        refine r_istore S rfl (lv2 := [(7, .int (zI 0)), (0, .ref (ad 0)), (1, .int (zI x1_)), (3, .long (zL x3_)), (5, .int (zI x5_)), (6, .int (zI x2))]) dX12_kept_103 hl (by decide) rfl (fun ls hl => ?_)
        refine lv_lload_n S.1 S.2.1 dX12_kept_105 rfl (lv_at hl 3 rfl) ?_
        refine lv_iload S.1 S.2.1 dX12_kept_106 (lv_at hl 0 rfl) ?_
        obtain ⟨v11, hq, hf⟩ := bV_some hf
        have kJ0 : ∀ (H : Heap) (locs : List Loc) (ls : Array Slot), va_P D vwCl (WW 28 (cellM cy ad) ad σ) H → va_S (AC 28 ad) H0 H locs → lv_has ls 8 [(0, .ref (ad 0)), (1, .int (zI x1_)), (5, .int (zI x5_))] → W p l e rm_X12_kept s m args below meth c H locs 0 0 Q (F0 m 133 ls [.long (zL v11), .long (zL x3_)]) := by
          intro H locs ls hP hS hl
          refine r_ladd S dX12_kept_133 ?_
          obtain ⟨x15, hx15, hf⟩ := nm_some hf
          refine r_lstore_n S hx15 (lv2 := [(3, .long (zL x15)), (0, .ref (ad 0)), (1, .int (zI x1_)), (5, .int (zI x5_))]) dX12_kept_134 rfl hl (by decide) rfl (fun ls hl => ?_)
          obtain ⟨x16, hx16, hf⟩ := nm_some hf
          refine r_iinc S hx16 (k0 := 3) (lv2 := [(5, .int (zI x16)), (3, .long (zL x15)), (0, .ref (ad 0)), (1, .int (zI x1_))]) dX12_kept_135 hl rfl (by decide) rfl (fun ls hl => ?_)
          refine lv_goto (tgt := 37) S.1 S.2.1 dX12_kept_138 (by decide) ?_
          exact ih x15 x16 _ _ _ hf hP hS (lv_sub hl [2, 3, 1, 0] rfl)
        clear hf
        have hf := hq
        refine r_if_eq (tgt := 132) S dX12_kept_108 (by decide) (fun c12 => ?_) (fun c12 => ?_)
        · have hf := (if_pos c12).symm.trans hf
          refine r_lconst S 0 (by decide) dX12_kept_132 ?_
          have e1 := Option.some.inj hf
          subst e1
          exact kJ0 _ _ _ hP hS (lv_sub hl [1, 2, 4] rfl)
        · have hf := (if_neg c12).symm.trans hf
          refine lv_aload_n S.1 S.2.1 dX12_kept_111 rfl (lv_at hl 1 rfl) ?_
          refine r_get S hK hP (by decide) rfl rfl h_X12_kept_X12 29 (by decide) k_X12_kept_7 rfl dX12_kept_112 ?_
          refine lv_iload S.1 S.2.1 dX12_kept_115 (lv_at hl 5 rfl) ?_
          obtain ⟨g13, hf⟩ := gd_some hf
          refine r_lald S hK hP (by decide) (n := 91) (fun _ => rfl) (by decide) g13 dX12_kept_117 ?_
          refine lv_aload_n S.1 S.2.1 dX12_kept_118 rfl (lv_at hl 1 rfl) ?_
          refine r_get S hK hP (by decide) rfl rfl h_X12_kept_X12 30 (by decide) k_X12_kept_8 rfl dX12_kept_119 ?_
          refine lv_iload S.1 S.2.1 dX12_kept_122 (lv_at hl 5 rfl) ?_
          refine r_bipush S dX12_kept_124 (by decide) ?_
          refine r_iadd S dX12_kept_126 ?_
          obtain ⟨g14, hf⟩ := gd_some hf
          refine r_lald S hK hP (by decide) (n := 91) (fun _ => rfl) (by decide) g14 dX12_kept_127 ?_
          refine r_lmul S dX12_kept_128 ?_
          refine lv_goto (tgt := 133) S.1 S.2.1 dX12_kept_129 (by decide) ?_
          have e1 := Option.some.inj hf
          subst e1
          exact kJ0 _ _ _ hP hS (lv_sub hl [1, 2, 4] rfl)
      have kJ1 : t5 = 1 → ∀ (H : Heap) (locs : List Loc) (ls : Array Slot), va_P D vwCl (WW 28 (cellM cy ad) ad σ) H → va_S (AC 28 ad) H0 H locs → lv_has ls 8 [(0, .ref (ad 0)), (1, .int (zI x1_)), (3, .long (zL x3_)), (5, .int (zI x5_)), (6, .int (zI x2))] → W p l e rm_X12_kept s m args below meth c H locs 0 0 Q (F0 m 98 ls []) := by
        intro ht
        intro H locs ls hP hS hl
        have hf := (if_neg (by rw [ht]; decide)).symm.trans hf
        refine r_iconst S dX12_kept_98 ?_
        refine lv_goto (tgt := 103) S.1 S.2.1 dX12_kept_99 (by decide) ?_
        refine r_istore S rfl (lv2 := [(7, .int (zI 1)), (0, .ref (ad 0)), (1, .int (zI x1_)), (3, .long (zL x3_)), (5, .int (zI x5_)), (6, .int (zI x2))]) dX12_kept_103 hl (by decide) rfl (fun ls hl => ?_)
        refine lv_lload_n S.1 S.2.1 dX12_kept_105 rfl (lv_at hl 3 rfl) ?_
        refine lv_iload S.1 S.2.1 dX12_kept_106 (lv_at hl 0 rfl) ?_
        obtain ⟨v17, hq, hf⟩ := bV_some hf
        have kJ0 : ∀ (H : Heap) (locs : List Loc) (ls : Array Slot), va_P D vwCl (WW 28 (cellM cy ad) ad σ) H → va_S (AC 28 ad) H0 H locs → lv_has ls 8 [(0, .ref (ad 0)), (1, .int (zI x1_)), (5, .int (zI x5_))] → W p l e rm_X12_kept s m args below meth c H locs 0 0 Q (F0 m 133 ls [.long (zL v17), .long (zL x3_)]) := by
          intro H locs ls hP hS hl
          refine r_ladd S dX12_kept_133 ?_
          obtain ⟨x21, hx21, hf⟩ := nm_some hf
          refine r_lstore_n S hx21 (lv2 := [(3, .long (zL x21)), (0, .ref (ad 0)), (1, .int (zI x1_)), (5, .int (zI x5_))]) dX12_kept_134 rfl hl (by decide) rfl (fun ls hl => ?_)
          obtain ⟨x22, hx22, hf⟩ := nm_some hf
          refine r_iinc S hx22 (k0 := 3) (lv2 := [(5, .int (zI x22)), (3, .long (zL x21)), (0, .ref (ad 0)), (1, .int (zI x1_))]) dX12_kept_135 hl rfl (by decide) rfl (fun ls hl => ?_)
          refine lv_goto (tgt := 37) S.1 S.2.1 dX12_kept_138 (by decide) ?_
          exact ih x21 x22 _ _ _ hf hP hS (lv_sub hl [2, 3, 1, 0] rfl)
        clear hf
        have hf := hq
        refine r_if_eq (tgt := 132) S dX12_kept_108 (by decide) (fun c18 => ?_) (fun c18 => ?_)
        · have hf := (if_pos c18).symm.trans hf
          refine r_lconst S 0 (by decide) dX12_kept_132 ?_
          have e1 := Option.some.inj hf
          subst e1
          exact kJ0 _ _ _ hP hS (lv_sub hl [1, 2, 4] rfl)
        · have hf := (if_neg c18).symm.trans hf
          refine lv_aload_n S.1 S.2.1 dX12_kept_111 rfl (lv_at hl 1 rfl) ?_
          refine r_get S hK hP (by decide) rfl rfl h_X12_kept_X12 29 (by decide) k_X12_kept_7 rfl dX12_kept_112 ?_
          refine lv_iload S.1 S.2.1 dX12_kept_115 (lv_at hl 5 rfl) ?_
          obtain ⟨g19, hf⟩ := gd_some hf
          refine r_lald S hK hP (by decide) (n := 91) (fun _ => rfl) (by decide) g19 dX12_kept_117 ?_
          refine lv_aload_n S.1 S.2.1 dX12_kept_118 rfl (lv_at hl 1 rfl) ?_
          refine r_get S hK hP (by decide) rfl rfl h_X12_kept_X12 30 (by decide) k_X12_kept_8 rfl dX12_kept_119 ?_
          refine lv_iload S.1 S.2.1 dX12_kept_122 (lv_at hl 5 rfl) ?_
          refine r_bipush S dX12_kept_124 (by decide) ?_
          refine r_iadd S dX12_kept_126 ?_
          obtain ⟨g20, hf⟩ := gd_some hf
          refine r_lald S hK hP (by decide) (n := 91) (fun _ => rfl) (by decide) g20 dX12_kept_127 ?_
          refine r_lmul S dX12_kept_128 ?_
          refine lv_goto (tgt := 133) S.1 S.2.1 dX12_kept_129 (by decide) ?_
          have e1 := Option.some.inj hf
          subst e1
          exact kJ0 _ _ _ hP hS (lv_sub hl [1, 2, 4] rfl)
      clear hf
      have hf := hq
      refine lv_icmp_ne (tgt := 102) S.1 S.2.1 dX12_kept_68 (by decide) (fun c6 => ?_) (fun c6 => ?_)
      · have hf := (if_neg c6).symm.trans hf
        have e1 := Option.some.inj hf
        subst e1
        exact kJ0 rfl _ _ _ hP hS (lv_sub hl [1, 2, 3, 4, 0] rfl)
      · have hf := (if_pos c6).symm.trans hf
        refine lv_aload_n S.1 S.2.1 dX12_kept_71 rfl (lv_at hl 1 rfl) ?_
        refine r_get S hK hP (by decide) rfl rfl h_X12_kept_X12 27 (by decide) k_X12_kept_5 rfl dX12_kept_72 ?_
        refine lv_iload S.1 S.2.1 dX12_kept_75 (lv_at hl 0 rfl) ?_
        obtain ⟨g7, hf⟩ := gd_some hf
        refine r_iald S hK hP (by decide) (n := 91) (fun _ => rfl) (by decide) g7 dX12_kept_77 ?_
        refine lv_aload_n S.1 S.2.1 dX12_kept_78 rfl (lv_at hl 1 rfl) ?_
        refine r_get S hK hP (by decide) rfl rfl h_X12_kept_X12 28 (by decide) k_X12_kept_6 rfl dX12_kept_79 ?_
        refine lv_iload S.1 S.2.1 dX12_kept_82 (lv_at hl 0 rfl) ?_
        refine r_bipush S dX12_kept_84 (by decide) ?_
        refine r_iadd S dX12_kept_86 ?_
        obtain ⟨g8, hf⟩ := gd_some hf
        refine r_iald S hK hP (by decide) (n := 91) (fun _ => rfl) (by decide) g8 dX12_kept_87 ?_
        refine r_iadd S dX12_kept_88 ?_
        refine lv_aload_n S.1 S.2.1 dX12_kept_89 rfl (lv_at hl 1 rfl) ?_
        refine r_get S hK hP (by decide) rfl rfl h_X12_kept_X12 28 (by decide) k_X12_kept_6 rfl dX12_kept_90 ?_
        refine r_iconst S dX12_kept_93 ?_
        obtain ⟨g9, hf⟩ := gd_some hf
        refine r_iald S hK hP (by decide) (n := 91) (fun _ => rfl) (by decide) g9 dX12_kept_94 ?_
        refine lv_icmp_ne (tgt := 102) S.1 S.2.1 dX12_kept_95 (by decide) (fun c10 => ?_) (fun c10 => ?_)
        · have hf := (if_neg c10).symm.trans hf
          have e1 := Option.some.inj hf
          subst e1
          exact kJ0 rfl _ _ _ hP hS (lv_sub hl [1, 2, 3, 4, 0] rfl)
        · have hf := (if_pos c10).symm.trans hf
          have e1 := Option.some.inj hf
          subst e1
          exact kJ1 rfl _ _ _ hP hS (lv_sub hl [1, 2, 3, 4, 0] rfl)
set_option maxHeartbeats 4000000 in
set_option maxRecDepth 100000 in
theorem c_X12_kept (l : Launch) (D : va_G) (cy : Nat → ClassId) (ad : Nat → Nat) (hO : adOK 28 ad) (n : Nat) (a0 : Int) (σ : Mem) {v : Int} {τ : Mem} (hf : f_X12_kept n a0 σ = some (v, τ)) : Met l yX12_kept wsX12_kept rm_X12_kept (va_Pc [.ref (ad 0), .int (zI a0)] (PreW D cy 28 (cellM cy ad) ad σ)) (QI D 28 (cellM cy ad) ad v τ) 0 0 (AC 28 ad) := by
  refine r_met (cc := cX12_kept) (maxL := 8) (ret := (some .int)) (own := RX12) (by decide) rfl rfl [.ref (ad 0), .int (zI a0)] (Nat.le_of_ble_eq_true rfl) ?_
  intro p e s m below meth c ls S hK hP hlk hr hl
  have hS : va_S (AC 28 ad) s.heap s.heap [] := va_S.rf
  have hl : lv_has ls 8 [(0, .ref (ad 0)), (1, .int (zI a0))] := hl
  unfold f_X12_kept at hf
  refine lv_iload_n S.1 S.2.1 dX12_kept_0 rfl (lv_at hl 1 rfl) ?_
  refine r_iconst S dX12_kept_1 ?_
  refine lv_aload_n S.1 S.2.1 dX12_kept_2 rfl (lv_at hl 0 rfl) ?_
  refine r_get S hK hP (by decide) rfl rfl h_X12_kept_X12 6 (by decide) k_X12_kept_1 rfl dX12_kept_3 ?_
  refine r_iconst S dX12_kept_6 ?_
  refine r_isub S dX12_kept_7 ?_
  obtain ⟨y2, hq1, hf⟩ := bV_some hf
  refine r_callSI S hK hP hS [.int (zI a0), .int (zI 0), .int (zI ((σ 0 6) - 1))] (c_X12_in l D cy ad hO a0 0 ((σ 0 6) - 1) σ hq1) (cw_X12_kept_X12_in S.2.2.2.2) rfl hl.1 (rest := []) rfl (Nat.le_of_ble_eq_true rfl) dX12_kept_8 ⟨Nat.zero_le _, Nat.zero_le _⟩ (fun H locs hP hS => ?_)
  refine r_if_ne (tgt := 17) S dX12_kept_11 (by decide) (fun c3 => ?_) (fun c3 => ?_)
  · have hf := (if_neg c3).symm.trans hf
    refine lv_aload_n S.1 S.2.1 dX12_kept_17 rfl (lv_at hl 0 rfl) ?_
    obtain ⟨y6, σ5, hq4, hf⟩ := bL1_some hf
    refine r_callVI S hK hP hS (by decide) rfl rfl [] (c_X12_layText l D cy ad hO n σ hq4) (cw_X12_kept_X12_layText S.2.2.2.2) rfl hl.1 (rest := []) rfl (Nat.le_of_ble_eq_true rfl) dX12_kept_18 ⟨Nat.zero_le _, Nat.zero_le _⟩ (fun H locs hP hS => ?_)
    refine r_istore_n S rfl (lv2 := [(2, .int (zI y6)), (0, .ref (ad 0)), (1, .int (zI a0))]) dX12_kept_21 rfl hl (by decide) rfl (fun ls hl => ?_)
    refine lv_iload_n S.1 S.2.1 dX12_kept_22 rfl (lv_at hl 0 rfl) ?_
    refine r_if_ge (tgt := 28) S dX12_kept_23 (by decide) (fun c7 => ?_) (fun c7 => ?_)
    · have hf := (if_pos c7).symm.trans hf
      refine lv_aload_n S.1 S.2.1 dX12_kept_28 rfl (lv_at hl 1 rfl) ?_
      obtain ⟨σ9, hq8, hf⟩ := bV_some hf
      refine r_callVV S hK hP hS (by decide) rfl rfl [] (c_X12_layTextRows l D cy ad hO n σ5 hq8) (cw_X12_kept_X12_layTextRows S.2.2.2.2) rfl hl.1 (rest := []) rfl (Nat.le_of_ble_eq_true rfl) dX12_kept_29 ⟨Nat.zero_le _, Nat.zero_le _⟩ (fun H locs hP hS => ?_)
      refine r_lconst S 0 (by decide) dX12_kept_32 ?_
      refine r_lstore_n S rfl (lv2 := [(3, .long (zL 0)), (2, .int (zI y6)), (0, .ref (ad 0)), (1, .int (zI a0))]) dX12_kept_33 rfl hl (by decide) rfl (fun ls hl => ?_)
      refine r_iconst S dX12_kept_34 ?_
      refine r_istore S rfl (lv2 := [(5, .int (zI 0)), (3, .long (zL 0)), (2, .int (zI y6)), (0, .ref (ad 0)), (1, .int (zI a0))]) dX12_kept_35 hl (by decide) rfl (fun ls hl => ?_)
      obtain ⟨x10, hq, hf⟩ := bV_some hf
      refine w_X12_kept_L37 hO S hK n a0 σ9 (fun x10 H locs ls he hP hS hl => ?_) n 0 0 _ _ _ hq hP hS (lv_sub hl [3, 4, 1, 0] rfl)
      cases he
      refine lv_lload_n S.1 S.2.1 dX12_kept_141 rfl (lv_at hl 1 rfl) ?_
      refine r_lconst S 0 (by decide) dX12_kept_142 ?_
      refine r_lcmp S dX12_kept_143 ?_
      refine r_if_ne (tgt := 151) S dX12_kept_144 (by decide) (fun c11 => ?_) (fun c11 => ?_)
      · have hf := (if_neg c11).symm.trans hf
        refine lv_lload_n S.1 S.2.1 dX12_kept_151 rfl (lv_at hl 1 rfl) ?_
        refine lv_aload_n S.1 S.2.1 dX12_kept_152 rfl (lv_at hl 0 rfl) ?_
        refine r_get S hK hP (by decide) rfl rfl h_X12_kept_X12 30 (by decide) k_X12_kept_8 rfl dX12_kept_153 ?_
        refine r_iconst S dX12_kept_156 ?_
        obtain ⟨g12, hf⟩ := gd_some hf
        refine r_lald S hK hP (by decide) (n := 91) (fun _ => rfl) (by decide) g12 dX12_kept_157 ?_
        refine r_lcmp S dX12_kept_158 ?_
        refine r_if_ne (tgt := 166) S dX12_kept_159 (by decide) (fun c13 => ?_) (fun c13 => ?_)
        · have hf := (if_neg c13).symm.trans hf
          refine r_iconst S dX12_kept_166 ?_
          obtain ⟨e1, e2⟩ := inj2 hf
          subst e1
          subst e2
          exact e_I S hlk hP hS hr dX12_kept_167
        · have hf := (if_pos c13).symm.trans hf
          refine r_iconst S dX12_kept_162 ?_
          refine lv_goto (tgt := 167) S.1 S.2.1 dX12_kept_163 (by decide) ?_
          obtain ⟨e1, e2⟩ := inj2 hf
          subst e1
          subst e2
          exact e_I S hlk hP hS hr dX12_kept_167
      · have hf := (if_pos c11).symm.trans hf
        refine r_iconst S dX12_kept_147 ?_
        refine lv_goto (tgt := 167) S.1 S.2.1 dX12_kept_148 (by decide) ?_
        obtain ⟨e1, e2⟩ := inj2 hf
        subst e1
        subst e2
        exact e_I S hlk hP hS hr dX12_kept_167
    · have hf := (if_neg c7).symm.trans hf
      refine lv_iload_n S.1 S.2.1 dX12_kept_26 rfl (lv_at hl 0 rfl) ?_
      obtain ⟨e1, e2⟩ := inj2 hf
      subst e1
      subst e2
      exact e_I S hlk hP hS hr dX12_kept_27
  · have hf := (if_pos c3).symm.trans hf
    refine r_bipush S dX12_kept_14 (by decide) ?_
    obtain ⟨e1, e2⟩ := inj2 hf
    subst e1
    subst e2
    exact e_I S hlk hP hS hr dX12_kept_16
def rm_X12_totalOf : Room := { frames := 3, cells := 0, slots := 0, locals := 83 }
theorem k_X12_totalOf_1 : (.fieldLink RX12 187 "MendTextsModel" "examples" "I" : Cond) ∈ wsX12_totalOf := List.mem_of_getElem? (i := 1) (by decide +kernel)
theorem k_X12_totalOf_2 : (.fieldLink RX12 37 "MendTextsModel" "cost" "[I" : Cond) ∈ wsX12_totalOf := List.mem_of_getElem? (i := 2) (by decide +kernel)
theorem k_X12_totalOf_3 : (.fieldLink RX12 105 "MendTextsModel" "first" "I" : Cond) ∈ wsX12_totalOf := List.mem_of_getElem? (i := 3) (by decide +kernel)
theorem k_X12_totalOf_4 : (.fieldLink RX12 133 "MendTextsModel" "handMany" "I" : Cond) ∈ wsX12_totalOf := List.mem_of_getElem? (i := 4) (by decide +kernel)
theorem k_X12_totalOf_5 : (.constant RX12 124 (100000000) : Cond) ∈ wsX12_totalOf := List.mem_of_getElem? (i := 5) (by decide +kernel)
theorem h_X12_totalOf_X12 : ∀ w ∈ u_ws RX12 TX12 36, w ∈ wsX12_totalOf := mem_places _ [43, 44, 45, 46, 47, 48, 49, 50, 51, 52, 53, 54, 55, 56, 57, 58, 59, 60, 61, 62, 63, 64, 65, 66, 67, 68, 69, 70, 71, 72, 73, 74, 75, 76, 77, 78] (by decide +kernel)
theorem cw_X12_totalOf_X12_layMends {s : State} {args : Array Value} (hts : ∀ w ∈ wsX12_totalOf, w.before args s = true) : CallW rm_X12_totalOf s args RX12 RX12 143 yX12_layMends cX12_layMends 6 none wsX12_layMends rm_X12_layMends 0 0 0 := cwV 0 hts gX12_totalOf_X12_layMends rfl rfl rfl (by decide +kernel) ⟨Nat.le_of_ble_eq_true rfl, Nat.le_of_ble_eq_true rfl⟩
theorem cw_X12_totalOf_X12_take {s : State} {args : Array Value} (hts : ∀ w ∈ wsX12_totalOf, w.before args s = true) : CallW rm_X12_totalOf s args RX12 RX12 146 yX12_take cX12_take 3 none wsX12_take rm_X12_take 0 0 1 := cwV 1 hts gX12_totalOf_X12_take rfl rfl rfl (by decide +kernel) ⟨Nat.le_of_ble_eq_true rfl, Nat.le_of_ble_eq_true rfl⟩
set_option maxHeartbeats 4000000 in
set_option maxRecDepth 100000 in
theorem w_X12_totalOf_L4 {p : Program} {l : Launch} {e : Env} {s : State} {m : MethodId} {args : Array Value} {below : List Frame} {meth : Method} {c : Code} {Q : State → Prop} {D : va_G} {cy : Nat → ClassId} {ad : Nat → Nat} {H0 : Heap} (hO : adOK 28 ad) (S : CallFix p m c cX12_totalOf 4 s args wsX12_totalOf RX12) (hK : KK D cy s) (n : Nat) {res : Int × Mem} (k0 : ∀ (y1_ : Int) (τ : Mem) (H2 : Heap) (locs2 : List Loc) (ls2 : Array Slot), res = (y1_, τ) → va_P D vwCl (WW 28 (cellM cy ad) ad τ) H2 → va_S (AC 28 ad) H0 H2 locs2 → lv_has ls2 4 [(1, .int (zI y1_))] → W p l e rm_X12_totalOf s m args below meth c H2 locs2 0 0 Q (F0 m 66 ls2 [])) :
    ∀ (k : Nat) (x1_ : Int) (x2_ : Int) (σ : Mem) (H : Heap) (locs : List Loc) (ls : Array Slot), f_X12_totalOf_L4 n k x1_ x2_ σ = some res → va_P D vwCl (WW 28 (cellM cy ad) ad σ) H → va_S (AC 28 ad) H0 H locs → lv_has ls 4 [(0, .ref (ad 0)), (1, .int (zI x1_)), (2, .int (zI x2_))] → W p l e rm_X12_totalOf s m args below meth c H locs 0 0 Q (F0 m 4 ls []) := by
  intro k
  induction k with
  | zero =>
    intro x1_ x2_ σ H locs ls hf
    have hf : none = some res := hf
    cases hf
  | succ k ih =>
    intro x1_ x2_ σ H locs ls hf hP hS hl
    rw [f_X12_totalOf_L4] at hf
    refine lv_iload_n S.1 S.2.1 dX12_totalOf_4 rfl (lv_at hl 2 rfl) ?_
    refine lv_aload_n S.1 S.2.1 dX12_totalOf_5 rfl (lv_at hl 0 rfl) ?_
    refine r_get S hK hP (by decide) rfl rfl h_X12_totalOf_X12 8 (by decide) k_X12_totalOf_1 rfl dX12_totalOf_6 ?_
    refine lv_icmp_ge (tgt := 66) S.1 S.2.1 dX12_totalOf_9 (by decide) (fun c1 => ?_) (fun c1 => ?_)
    · have hf := (if_pos c1).symm.trans hf
      exact k0 _ _ _ _ _ (Option.some.inj hf).symm hP hS (lv_sub hl [1] rfl)
    · have hf := (if_neg c1).symm.trans hf
      refine lv_aload_n S.1 S.2.1 dX12_totalOf_12 rfl (lv_at hl 0 rfl) ?_
      refine lv_iload_n S.1 S.2.1 dX12_totalOf_13 rfl (lv_at hl 2 rfl) ?_
      obtain ⟨σ3, hq2, hf⟩ := bV_some hf
      refine r_callVV S hK hP hS (by decide) rfl rfl [.int (zI x2_)] (c_X12_take l D cy ad hO n x2_ σ hq2) (cw_X12_totalOf_X12_take S.2.2.2.2) rfl hl.1 (rest := []) rfl (Nat.le_of_ble_eq_true rfl) dX12_totalOf_14 ⟨Nat.zero_le _, Nat.zero_le _⟩ (fun H locs hP hS => ?_)
      refine lv_aload_n S.1 S.2.1 dX12_totalOf_17 rfl (lv_at hl 0 rfl) ?_
      obtain ⟨σ5, hq4, hf⟩ := bV_some hf
      refine r_callVV S hK hP hS (by decide) rfl rfl [] (c_X12_layMends l D cy ad hO n σ3 hq4) (cw_X12_totalOf_X12_layMends S.2.2.2.2) rfl hl.1 (rest := []) rfl (Nat.le_of_ble_eq_true rfl) dX12_totalOf_18 ⟨Nat.zero_le _, Nat.zero_le _⟩ (fun H locs hP hS => ?_)
      refine lv_aload_n S.1 S.2.1 dX12_totalOf_21 rfl (lv_at hl 0 rfl) ?_
      refine r_get S hK hP (by decide) rfl rfl h_X12_totalOf_X12 14 (by decide) k_X12_totalOf_2 rfl dX12_totalOf_22 ?_
      refine r_bipush S dX12_totalOf_25 (by decide) ?_
      refine lv_aload_n S.1 S.2.1 dX12_totalOf_27 rfl (lv_at hl 0 rfl) ?_
      refine r_get S hK hP (by decide) rfl rfl h_X12_totalOf_X12 5 (by decide) k_X12_totalOf_3 rfl dX12_totalOf_28 ?_
      refine r_imul S dX12_totalOf_31 ?_
      refine lv_aload_n S.1 S.2.1 dX12_totalOf_32 rfl (lv_at hl 0 rfl) ?_
      refine r_get S hK hP (by decide) rfl rfl h_X12_totalOf_X12 12 (by decide) k_X12_totalOf_4 rfl dX12_totalOf_33 ?_
      refine r_iadd S dX12_totalOf_36 ?_
      obtain ⟨g6, hf⟩ := gd_some hf
      refine r_iald S hK hP (by decide) (n := 294) (fun _ => rfl) (by decide) g6 dX12_totalOf_37 ?_
      obtain ⟨x7, hx7, hf⟩ := nm_some hf
      refine r_istore_n S hx7 (lv2 := [(3, .int (zI x7)), (0, .ref (ad 0)), (1, .int (zI x1_)), (2, .int (zI x2_))]) dX12_totalOf_38 rfl hl (by decide) rfl (fun ls hl => ?_)
      refine lv_iload_n S.1 S.2.1 dX12_totalOf_39 rfl (lv_at hl 0 rfl) ?_
      refine r_ldc S 100000000 (by decide +kernel) k_X12_totalOf_5 dX12_totalOf_40 ?_
      obtain ⟨t8, hq, hf⟩ := bV_some hf
      have kJ0 : t8 = 0 → ∀ (H : Heap) (locs : List Loc) (ls : Array Slot), va_P D vwCl (WW 28 (cellM cy ad) ad σ5) H → va_S (AC 28 ad) H0 H locs → lv_has ls 4 [(0, .ref (ad 0)), (2, .int (zI x2_))] → W p l e rm_X12_totalOf s m args below meth c H locs 0 0 Q (F0 m 51 ls []) := by
        intro ht
        intro H locs ls hP hS hl
        have hf := (if_pos ht).symm.trans hf
        refine r_ldc S 100000000 (by decide +kernel) k_X12_totalOf_5 dX12_totalOf_51 ?_
        refine lv_goto (tgt := 59) S.1 S.2.1 dX12_totalOf_53 (by decide) ?_
        refine r_istore_n S rfl (lv2 := [(1, .int (zI 100000000)), (0, .ref (ad 0)), (2, .int (zI x2_))]) dX12_totalOf_59 rfl hl (by decide) rfl (fun ls hl => ?_)
        obtain ⟨x11, hx11, hf⟩ := nm_some hf
        refine r_iinc S hx11 (k0 := 2) (lv2 := [(2, .int (zI x11)), (1, .int (zI 100000000)), (0, .ref (ad 0))]) dX12_totalOf_60 hl rfl (by decide) rfl (fun ls hl => ?_)
        refine lv_goto (tgt := 4) S.1 S.2.1 dX12_totalOf_63 (by decide) ?_
        exact ih 100000000 x11 σ5 _ _ _ hf hP hS (lv_sub hl [2, 1, 0] rfl)
      have kJ1 : t8 = 1 → ∀ (H : Heap) (locs : List Loc) (ls : Array Slot), va_P D vwCl (WW 28 (cellM cy ad) ad σ5) H → va_S (AC 28 ad) H0 H locs → lv_has ls 4 [(0, .ref (ad 0)), (1, .int (zI x1_)), (2, .int (zI x2_)), (3, .int (zI x7))] → W p l e rm_X12_totalOf s m args below meth c H locs 0 0 Q (F0 m 56 ls []) := by
        intro ht
        intro H locs ls hP hS hl
        have hf := (if_neg (by rw [ht]; decide)).symm.trans hf
        refine lv_iload_n S.1 S.2.1 dX12_totalOf_56 rfl (lv_at hl 1 rfl) ?_
        refine lv_iload_n S.1 S.2.1 dX12_totalOf_57 rfl (lv_at hl 3 rfl) ?_
        refine r_iadd S dX12_totalOf_58 ?_
        obtain ⟨x12, hx12, hf⟩ := nm_some hf
        refine r_istore_n S hx12 (lv2 := [(1, .int (zI x12)), (0, .ref (ad 0)), (2, .int (zI x2_)), (3, .int (zI x7))]) dX12_totalOf_59 rfl hl (by decide) rfl (fun ls hl => ?_)
        obtain ⟨x13, hx13, hf⟩ := nm_some hf
        refine r_iinc S hx13 (k0 := 2) (lv2 := [(2, .int (zI x13)), (1, .int (zI x12)), (0, .ref (ad 0)), (3, .int (zI x7))]) dX12_totalOf_60 hl rfl (by decide) rfl (fun ls hl => ?_)
        refine lv_goto (tgt := 4) S.1 S.2.1 dX12_totalOf_63 (by decide) ?_
        exact ih x12 x13 σ5 _ _ _ hf hP hS (lv_sub hl [2, 1, 0] rfl)
      clear hf
      have hf := hq
      refine lv_icmp_ge (tgt := 51) S.1 S.2.1 dX12_totalOf_42 (by decide) (fun c9 => ?_) (fun c9 => ?_)
      · have hf := (if_pos c9).symm.trans hf
        have e1 := Option.some.inj hf
        subst e1
        exact kJ0 rfl _ _ _ hP hS (lv_sub hl [1, 3] rfl)
      · have hf := (if_neg c9).symm.trans hf
        refine lv_iload_n S.1 S.2.1 dX12_totalOf_45 rfl (lv_at hl 2 rfl) ?_
        refine r_ldc S 100000000 (by decide +kernel) k_X12_totalOf_5 dX12_totalOf_46 ?_
        refine lv_icmp_lt (tgt := 56) S.1 S.2.1 dX12_totalOf_48 (by decide) (fun c10 => ?_) (fun c10 => ?_)
        · have hf := (if_pos c10).symm.trans hf
          have e1 := Option.some.inj hf
          subst e1
          exact kJ1 rfl _ _ _ hP hS (lv_sub hl [1, 2, 3, 0] rfl)
        · have hf := (if_neg c10).symm.trans hf
          have e1 := Option.some.inj hf
          subst e1
          exact kJ0 rfl _ _ _ hP hS (lv_sub hl [1, 3] rfl)
set_option maxHeartbeats 4000000 in
set_option maxRecDepth 100000 in
theorem c_X12_totalOf (l : Launch) (D : va_G) (cy : Nat → ClassId) (ad : Nat → Nat) (hO : adOK 28 ad) (n : Nat) (σ : Mem) {v : Int} {τ : Mem} (hf : f_X12_totalOf n σ = some (v, τ)) : Met l yX12_totalOf wsX12_totalOf rm_X12_totalOf (va_Pc [.ref (ad 0)] (PreW D cy 28 (cellM cy ad) ad σ)) (QI D 28 (cellM cy ad) ad v τ) 0 0 (AC 28 ad) := by
  refine r_met (cc := cX12_totalOf) (maxL := 4) (ret := (some .int)) (own := RX12) (by decide) rfl rfl [.ref (ad 0)] (Nat.le_of_ble_eq_true rfl) ?_
  intro p e s m below meth c ls S hK hP hlk hr hl
  have hS : va_S (AC 28 ad) s.heap s.heap [] := va_S.rf
  have hl : lv_has ls 4 [(0, .ref (ad 0))] := hl
  unfold f_X12_totalOf at hf
  refine r_iconst S dX12_totalOf_0 ?_
  refine r_istore_n S rfl (lv2 := [(1, .int (zI 0)), (0, .ref (ad 0))]) dX12_totalOf_1 rfl hl (by decide) rfl (fun ls hl => ?_)
  refine r_iconst S dX12_totalOf_2 ?_
  refine r_istore_n S rfl (lv2 := [(2, .int (zI 0)), (1, .int (zI 0)), (0, .ref (ad 0))]) dX12_totalOf_3 rfl hl (by decide) rfl (fun ls hl => ?_)
  obtain ⟨x1, σ2, hq, hf⟩ := bL1_some hf
  refine w_X12_totalOf_L4 hO S hK n (fun x1 σ2 H locs ls he hP hS hl => ?_) n 0 0 σ _ _ _ hq hP hS (lv_sub hl [2, 1, 0] rfl)
  cases he
  refine lv_iload_n S.1 S.2.1 dX12_totalOf_66 rfl (lv_at hl 0 rfl) ?_
  obtain ⟨e1, e2⟩ := inj2 hf
  subst e1
  subst e2
  exact e_I S hlk hP hS hr dX12_totalOf_67
def rm_X12_layMore : Room := { frames := 4, cells := 0, slots := 0, locals := 106 }
theorem k_X12_layMore_1 : (.fieldLink RX12 13 "MendTextsModel" "rules" "[I" : Cond) ∈ wsX12_layMore := List.mem_of_getElem? (i := 1) (by decide +kernel)
theorem k_X12_layMore_2 : (.constant RX12 124 (100000000) : Cond) ∈ wsX12_layMore := List.mem_of_getElem? (i := 2) (by decide +kernel)
theorem k_X12_layMore_3 : (.fieldLink RX12 16 "MendTextsModel" "sizes" "[I" : Cond) ∈ wsX12_layMore := List.mem_of_getElem? (i := 3) (by decide +kernel)
theorem k_X12_layMore_4 : (.fieldLink RX12 19 "MendTextsModel" "parts" "[I" : Cond) ∈ wsX12_layMore := List.mem_of_getElem? (i := 4) (by decide +kernel)
theorem k_X12_layMore_5 : (.fieldLink RX12 78 "MendTextsModel" "isKnown" "[Z" : Cond) ∈ wsX12_layMore := List.mem_of_getElem? (i := 5) (by decide +kernel)
theorem k_X12_layMore_6 : (.fieldLink RX12 81 "MendTextsModel" "knownTotal" "[I" : Cond) ∈ wsX12_layMore := List.mem_of_getElem? (i := 6) (by decide +kernel)
theorem k_X12_layMore_7 : (.fieldLink RX12 84 "MendTextsModel" "knownSize" "[I" : Cond) ∈ wsX12_layMore := List.mem_of_getElem? (i := 7) (by decide +kernel)
theorem k_X12_layMore_8 : (.fieldLink RX12 87 "MendTextsModel" "knownOne" "[I" : Cond) ∈ wsX12_layMore := List.mem_of_getElem? (i := 8) (by decide +kernel)
theorem k_X12_layMore_9 : (.fieldLink RX12 90 "MendTextsModel" "knownTwo" "[I" : Cond) ∈ wsX12_layMore := List.mem_of_getElem? (i := 9) (by decide +kernel)
theorem h_X12_layMore_X12 : ∀ w ∈ u_ws RX12 TX12 36, w ∈ wsX12_layMore := mem_places _ [52, 53, 54, 55, 56, 57, 58, 59, 60, 61, 62, 63, 64, 65, 66, 67, 68, 69, 70, 71, 72, 73, 74, 75, 76, 77, 78, 79, 80, 81, 82, 83, 84, 85, 86, 87] (by decide +kernel)
theorem cw_X12_layMore_X12_totalOf {s : State} {args : Array Value} (hts : ∀ w ∈ wsX12_layMore, w.before args s = true) : CallW rm_X12_layMore s args RX12 RX12 193 yX12_totalOf cX12_totalOf 4 (some .int) wsX12_totalOf rm_X12_totalOf 0 0 0 := cwV 0 hts gX12_layMore_X12_totalOf rfl rfl rfl (by decide +kernel) ⟨Nat.le_of_ble_eq_true rfl, Nat.le_of_ble_eq_true rfl⟩
set_option maxHeartbeats 4000000 in
set_option maxRecDepth 100000 in
theorem w_X12_layMore_L38 {p : Program} {l : Launch} {e : Env} {s : State} {m : MethodId} {args : Array Value} {below : List Frame} {meth : Method} {c : Code} {Q : State → Prop} {D : va_G} {cy : Nat → ClassId} {ad : Nat → Nat} {H0 : Heap} (hO : adOK 28 ad) (S : CallFix p m c cX12_layMore 9 s args wsX12_layMore RX12) (hK : KK D cy s) (n : Nat) (x1_ : Int) (x2_ : Int) {res : Int × Int × Int × Int × Mem} (k0 : ∀ (y3_ : Int) (y4_ : Int) (y5_ : Int) (y6_ : Int) (τ : Mem) (H2 : Heap) (locs2 : List Loc) (ls2 : Array Slot), res = (y3_, y4_, y5_, y6_, τ) → va_P D vwCl (WW 28 (cellM cy ad) ad τ) H2 → va_S (AC 28 ad) H0 H2 locs2 → lv_has ls2 9 [(0, .ref (ad 0)), (1, .int (zI x1_)), (3, .int (zI y3_)), (4, .int (zI y4_)), (5, .int (zI y5_)), (6, .int (zI y6_))] → W p l e rm_X12_layMore s m args below meth c H2 locs2 0 0 Q (F0 m 205 ls2 [])) :
    ∀ (k : Nat) (x3_ : Int) (x4_ : Int) (x5_ : Int) (x6_ : Int) (x7_ : Int) (σ : Mem) (H : Heap) (locs : List Loc) (ls : Array Slot), f_X12_layMore_L38 n x1_ x2_ k x3_ x4_ x5_ x6_ x7_ σ = some res → va_P D vwCl (WW 28 (cellM cy ad) ad σ) H → va_S (AC 28 ad) H0 H locs → lv_has ls 9 [(0, .ref (ad 0)), (1, .int (zI x1_)), (2, .int (zI x2_)), (3, .int (zI x3_)), (4, .int (zI x4_)), (5, .int (zI x5_)), (6, .int (zI x6_)), (7, .int (zI x7_))] → W p l e rm_X12_layMore s m args below meth c H locs 0 0 Q (F0 m 38 ls []) := by
  intro k
  induction k with
  | zero =>
    intro x3_ x4_ x5_ x6_ x7_ σ H locs ls hf
    have hf : none = some res := hf
    cases hf
  | succ k ih =>
    intro x3_ x4_ x5_ x6_ x7_ σ H locs ls hf hP hS hl
    rw [f_X12_layMore_L38] at hf
    refine lv_iload S.1 S.2.1 dX12_layMore_38 (lv_at hl 7 rfl) ?_
    refine r_bipush S dX12_layMore_40 (by decide) ?_
    refine lv_icmp_ge (tgt := 205) S.1 S.2.1 dX12_layMore_42 (by decide) (fun c1 => ?_) (fun c1 => ?_)
    · have hf := (if_pos c1).symm.trans hf
      exact k0 _ _ _ _ _ _ _ _ (Option.some.inj hf).symm hP hS (lv_sub hl [0, 1, 3, 4, 5, 6] rfl)
    · have hf := (if_neg c1).symm.trans hf
      refine lv_aload_n S.1 S.2.1 dX12_layMore_45 rfl (lv_at hl 0 rfl) ?_
      refine r_get S hK hP (by decide) rfl rfl h_X12_layMore_X12 3 (by decide) k_X12_layMore_3 rfl dX12_layMore_46 ?_
      refine lv_iload_n S.1 S.2.1 dX12_layMore_49 rfl (lv_at hl 2 rfl) ?_
      refine lv_iload S.1 S.2.1 dX12_layMore_50 (lv_at hl 7 rfl) ?_
      obtain ⟨v2, hq, hf⟩ := bV_some hf
      have kJ0 : ∀ (H : Heap) (locs : List Loc) (ls : Array Slot), va_P D vwCl (WW 28 (cellM cy ad) ad σ) H → va_S (AC 28 ad) H0 H locs → lv_has ls 9 [(0, .ref (ad 0)), (1, .int (zI x1_)), (2, .int (zI x2_)), (3, .int (zI x3_)), (4, .int (zI x4_)), (5, .int (zI x5_)), (6, .int (zI x6_)), (7, .int (zI x7_))] → W p l e rm_X12_layMore s m args below meth c H locs 0 0 Q (F0 m 71 ls [.int (zI v2), .int (zI x2_), .ref (ad 3)]) := by
        intro H locs ls hP hS hl
        obtain ⟨g5, hf⟩ := gd_some hf
        obtain ⟨σ6, hσ6, hf⟩ := nm_some hf
        refine r_iast S hK hP hO hS (by decide) (n := 30) (fun _ => rfl) (by decide) g5 hσ6 dX12_layMore_71 (fun H locs hP hS => ?_)
        refine lv_aload_n S.1 S.2.1 dX12_layMore_72 rfl (lv_at hl 0 rfl) ?_
        refine r_get S hK hP (by decide) rfl rfl h_X12_layMore_X12 4 (by decide) k_X12_layMore_4 rfl dX12_layMore_73 ?_
        refine r_iconst S dX12_layMore_76 ?_
        refine lv_iload_n S.1 S.2.1 dX12_layMore_77 rfl (lv_at hl 2 rfl) ?_
        refine r_imul S dX12_layMore_78 ?_
        refine lv_iload S.1 S.2.1 dX12_layMore_79 (lv_at hl 7 rfl) ?_
        refine r_iconst S dX12_layMore_81 ?_
        obtain ⟨v7, hq, hf⟩ := bV_some hf
        have kJ0 : ∀ (H : Heap) (locs : List Loc) (ls : Array Slot), va_P D vwCl (WW 28 (cellM cy ad) ad σ6) H → va_S (AC 28 ad) H0 H locs → lv_has ls 9 [(0, .ref (ad 0)), (1, .int (zI x1_)), (2, .int (zI x2_)), (3, .int (zI x3_)), (4, .int (zI x4_)), (5, .int (zI x5_)), (6, .int (zI x6_)), (7, .int (zI x7_))] → W p l e rm_X12_layMore s m args below meth c H locs 0 0 Q (F0 m 116 ls [.int (zI v7), .int (zI (4 * x2_)), .ref (ad 4)]) := by
          intro H locs ls hP hS hl
          obtain ⟨g10, hf⟩ := gd_some hf
          obtain ⟨σ11, hσ11, hf⟩ := nm_some hf
          refine r_iast S hK hP hO hS (by decide) (n := 120) (fun _ => rfl) (by decide) g10 hσ11 dX12_layMore_116 (fun H locs hP hS => ?_)
          refine lv_aload_n S.1 S.2.1 dX12_layMore_117 rfl (lv_at hl 0 rfl) ?_
          refine r_get S hK hP (by decide) rfl rfl h_X12_layMore_X12 4 (by decide) k_X12_layMore_4 rfl dX12_layMore_118 ?_
          refine r_iconst S dX12_layMore_121 ?_
          refine lv_iload_n S.1 S.2.1 dX12_layMore_122 rfl (lv_at hl 2 rfl) ?_
          refine r_imul S dX12_layMore_123 ?_
          refine r_iconst S dX12_layMore_124 ?_
          refine r_iadd S dX12_layMore_125 ?_
          refine lv_iload S.1 S.2.1 dX12_layMore_126 (lv_at hl 7 rfl) ?_
          refine r_iconst S dX12_layMore_128 ?_
          refine r_iadd S dX12_layMore_129 ?_
          refine r_iconst S dX12_layMore_130 ?_
          refine r_irem S dX12_layMore_131 (by decide) ?_
          obtain ⟨g12, hf⟩ := gd_some hf
          obtain ⟨σ13, hσ13, hf⟩ := nm_some hf
          refine r_iast S hK hP hO hS (by decide) (n := 120) (fun _ => rfl) (by decide) g12 hσ13 dX12_layMore_132 (fun H locs hP hS => ?_)
          refine lv_aload_n S.1 S.2.1 dX12_layMore_133 rfl (lv_at hl 0 rfl) ?_
          obtain ⟨y16, σ15, hq14, hf⟩ := bL1_some hf
          refine r_callVI S hK hP hS (by decide) rfl rfl [] (c_X12_totalOf l D cy ad hO n σ13 hq14) (cw_X12_layMore_X12_totalOf S.2.2.2.2) rfl hl.1 (rest := []) rfl (Nat.le_of_ble_eq_true rfl) dX12_layMore_134 ⟨Nat.zero_le _, Nat.zero_le _⟩ (fun H locs hP hS => ?_)
          refine r_istore S rfl (lv2 := [(8, .int (zI y16)), (0, .ref (ad 0)), (1, .int (zI x1_)), (2, .int (zI x2_)), (3, .int (zI x3_)), (4, .int (zI x4_)), (5, .int (zI x5_)), (6, .int (zI x6_)), (7, .int (zI x7_))]) dX12_layMore_137 hl (by decide) rfl (fun ls hl => ?_)
          refine lv_iload S.1 S.2.1 dX12_layMore_139 (lv_at hl 0 rfl) ?_
          refine lv_iload_n S.1 S.2.1 dX12_layMore_141 rfl (lv_at hl 4 rfl) ?_
          obtain ⟨x17, x18, x19, x20, hq, hf⟩ := bL3_some hf
          have kJ0 : ∀ (H : Heap) (locs : List Loc) (ls : Array Slot), va_P D vwCl (WW 28 (cellM cy ad) ad σ15) H → va_S (AC 28 ad) H0 H locs → lv_has ls 9 [(0, .ref (ad 0)), (1, .int (zI x1_)), (2, .int (zI x2_)), (3, .int (zI x17)), (4, .int (zI x18)), (5, .int (zI x19)), (6, .int (zI x20)), (7, .int (zI x7_))] → W p l e rm_X12_layMore s m args below meth c H locs 0 0 Q (F0 m 199 ls []) := by
            intro H locs ls hP hS hl
            obtain ⟨x27, hx27, hf⟩ := nm_some hf
            refine r_iinc S hx27 (k0 := 7) (lv2 := [(7, .int (zI x27)), (0, .ref (ad 0)), (1, .int (zI x1_)), (2, .int (zI x2_)), (3, .int (zI x17)), (4, .int (zI x18)), (5, .int (zI x19)), (6, .int (zI x20))]) dX12_layMore_199 hl rfl (by decide) rfl (fun ls hl => ?_)
            refine lv_goto (tgt := 38) S.1 S.2.1 dX12_layMore_202 (by decide) ?_
            exact ih x17 x18 x19 x20 x27 σ15 _ _ _ hf hP hS (lv_sub hl [1, 2, 3, 4, 5, 6, 7, 0] rfl)
          clear hf
          have hf := hq
          refine lv_icmp_ge (tgt := 199) S.1 S.2.1 dX12_layMore_142 (by decide) (fun c21 => ?_) (fun c21 => ?_)
          · have hf := (if_pos c21).symm.trans hf
            obtain ⟨e1, e2, e3, e4⟩ := inj4 hf
            subst e1
            subst e2
            subst e3
            subst e4
            exact kJ0 _ _ _ hP hS (lv_sub hl [1, 2, 3, 4, 5, 6, 7, 8] rfl)
          · have hf := (if_neg c21).symm.trans hf
            refine lv_iload S.1 S.2.1 dX12_layMore_145 (lv_at hl 0 rfl) ?_
            refine r_istore_n S rfl (lv2 := [(3, .int (zI y16)), (8, .int (zI y16)), (0, .ref (ad 0)), (1, .int (zI x1_)), (2, .int (zI x2_)), (4, .int (zI x4_)), (5, .int (zI x5_)), (6, .int (zI x6_)), (7, .int (zI x7_))]) dX12_layMore_147 rfl hl (by decide) rfl (fun ls hl => ?_)
            refine lv_aload_n S.1 S.2.1 dX12_layMore_148 rfl (lv_at hl 2 rfl) ?_
            refine r_get S hK hP (by decide) rfl rfl h_X12_layMore_X12 3 (by decide) k_X12_layMore_3 rfl dX12_layMore_149 ?_
            refine lv_iload_n S.1 S.2.1 dX12_layMore_152 rfl (lv_at hl 4 rfl) ?_
            refine r_iald S hK hP (by decide) (n := 30) (fun _ => rfl) (by decide) g5 dX12_layMore_153 ?_
            obtain ⟨x22, hx22, hf⟩ := nm_some hf
            refine r_istore S hx22 (lv2 := [(4, .int (zI x22)), (3, .int (zI y16)), (8, .int (zI y16)), (0, .ref (ad 0)), (1, .int (zI x1_)), (2, .int (zI x2_)), (5, .int (zI x5_)), (6, .int (zI x6_)), (7, .int (zI x7_))]) dX12_layMore_154 hl (by decide) rfl (fun ls hl => ?_)
            refine lv_iload S.1 S.2.1 dX12_layMore_156 (lv_at hl 0 rfl) ?_
            obtain ⟨v23, hq, hf⟩ := bV_some hf
            have kJ0 : ∀ (H : Heap) (locs : List Loc) (ls : Array Slot), va_P D vwCl (WW 28 (cellM cy ad) ad σ15) H → va_S (AC 28 ad) H0 H locs → lv_has ls 9 [(0, .ref (ad 0)), (1, .int (zI x1_)), (2, .int (zI x2_)), (3, .int (zI y16)), (4, .int (zI x22)), (7, .int (zI x7_))] → W p l e rm_X12_layMore s m args below meth c H locs 0 0 Q (F0 m 174 ls [.int (zI v23)]) := by
              intro H locs ls hP hS hl
              refine r_istore S rfl (lv2 := [(5, .int (zI v23)), (0, .ref (ad 0)), (1, .int (zI x1_)), (2, .int (zI x2_)), (3, .int (zI y16)), (4, .int (zI x22)), (7, .int (zI x7_))]) dX12_layMore_174 hl (by decide) rfl (fun ls hl => ?_)
              refine lv_iload S.1 S.2.1 dX12_layMore_176 (lv_at hl 5 rfl) ?_
              refine r_iconst S dX12_layMore_178 ?_
              obtain ⟨v25, hq, hf⟩ := bV_some hf
              have kJ0 : ∀ (H : Heap) (locs : List Loc) (ls : Array Slot), va_P D vwCl (WW 28 (cellM cy ad) ad σ15) H → va_S (AC 28 ad) H0 H locs → lv_has ls 9 [(0, .ref (ad 0)), (1, .int (zI x1_)), (2, .int (zI x2_)), (3, .int (zI y16)), (4, .int (zI x22)), (5, .int (zI v23)), (7, .int (zI x7_))] → W p l e rm_X12_layMore s m args below meth c H locs 0 0 Q (F0 m 197 ls [.int (zI v25)]) := by
                intro H locs ls hP hS hl
                refine r_istore S rfl (lv2 := [(6, .int (zI v25)), (0, .ref (ad 0)), (1, .int (zI x1_)), (2, .int (zI x2_)), (3, .int (zI y16)), (4, .int (zI x22)), (5, .int (zI v23)), (7, .int (zI x7_))]) dX12_layMore_197 hl (by decide) rfl (fun ls hl => ?_)
                obtain ⟨e1, e2, e3, e4⟩ := inj4 hf
                subst e1
                subst e2
                subst e3
                subst e4
                exact kJ0 _ _ _ hP hS (lv_sub hl [1, 2, 3, 4, 5, 6, 0, 7] rfl)
              clear hf
              have hf := hq
              refine lv_icmp_le (tgt := 195) S.1 S.2.1 dX12_layMore_179 (by decide) (fun c26 => ?_) (fun c26 => ?_)
              · have hf := (if_pos c26).symm.trans hf
                refine r_bipush S dX12_layMore_195 (by decide) ?_
                have e1 := Option.some.inj hf
                subst e1
                exact kJ0 _ _ _ hP hS (lv_sub hl [1, 2, 3, 4, 5, 0, 6] rfl)
              · have hf := (if_neg c26).symm.trans hf
                refine lv_aload_n S.1 S.2.1 dX12_layMore_182 rfl (lv_at hl 1 rfl) ?_
                refine r_get S hK hP (by decide) rfl rfl h_X12_layMore_X12 4 (by decide) k_X12_layMore_4 rfl dX12_layMore_183 ?_
                refine r_iconst S dX12_layMore_186 ?_
                refine lv_iload_n S.1 S.2.1 dX12_layMore_187 rfl (lv_at hl 3 rfl) ?_
                refine r_imul S dX12_layMore_188 ?_
                refine r_iconst S dX12_layMore_189 ?_
                refine r_iadd S dX12_layMore_190 ?_
                refine r_iald S hK hP (by decide) (n := 120) (fun _ => rfl) (by decide) g12 dX12_layMore_191 ?_
                refine lv_goto (tgt := 197) S.1 S.2.1 dX12_layMore_192 (by decide) ?_
                have e1 := Option.some.inj hf
                subst e1
                exact kJ0 _ _ _ hP hS (lv_sub hl [1, 2, 3, 4, 5, 0, 6] rfl)
            clear hf
            have hf := hq
            refine r_if_le (tgt := 172) S dX12_layMore_158 (by decide) (fun c24 => ?_) (fun c24 => ?_)
            · have hf := (if_pos c24).symm.trans hf
              refine r_bipush S dX12_layMore_172 (by decide) ?_
              have e1 := Option.some.inj hf
              subst e1
              exact kJ0 _ _ _ hP hS (lv_sub hl [3, 4, 5, 1, 0, 8] rfl)
            · have hf := (if_neg c24).symm.trans hf
              refine lv_aload_n S.1 S.2.1 dX12_layMore_161 rfl (lv_at hl 3 rfl) ?_
              refine r_get S hK hP (by decide) rfl rfl h_X12_layMore_X12 4 (by decide) k_X12_layMore_4 rfl dX12_layMore_162 ?_
              refine r_iconst S dX12_layMore_165 ?_
              refine lv_iload_n S.1 S.2.1 dX12_layMore_166 rfl (lv_at hl 5 rfl) ?_
              refine r_imul S dX12_layMore_167 ?_
              refine r_iald S hK hP (by decide) (n := 120) (fun _ => rfl) (by decide) g10 dX12_layMore_168 ?_
              refine lv_goto (tgt := 174) S.1 S.2.1 dX12_layMore_169 (by decide) ?_
              have e1 := Option.some.inj hf
              subst e1
              exact kJ0 _ _ _ hP hS (lv_sub hl [3, 4, 5, 1, 0, 8] rfl)
        clear hf
        have hf := hq
        refine lv_icmp_ge (tgt := 92) S.1 S.2.1 dX12_layMore_82 (by decide) (fun c8 => ?_) (fun c8 => ?_)
        · have hf := (if_pos c8).symm.trans hf
          refine lv_iload S.1 S.2.1 dX12_layMore_92 (lv_at hl 7 rfl) ?_
          refine r_bipush S dX12_layMore_94 (by decide) ?_
          refine lv_icmp_ge (tgt := 109) S.1 S.2.1 dX12_layMore_96 (by decide) (fun c9 => ?_) (fun c9 => ?_)
          · have hf := (if_pos c9).symm.trans hf
            refine lv_iload S.1 S.2.1 dX12_layMore_109 (lv_at hl 7 rfl) ?_
            refine r_bipush S dX12_layMore_111 (by decide) ?_
            refine r_isub S dX12_layMore_113 ?_
            refine r_iconst S dX12_layMore_114 ?_
            refine r_idiv S dX12_layMore_115 (by decide) ?_
            have e1 := Option.some.inj hf
            subst e1
            exact kJ0 _ _ _ hP hS (lv_sub hl [0, 1, 2, 3, 4, 5, 6, 7] rfl)
          · have hf := (if_neg c9).symm.trans hf
            refine r_bipush S dX12_layMore_99 (by decide) ?_
            refine lv_iload S.1 S.2.1 dX12_layMore_101 (lv_at hl 7 rfl) ?_
            refine r_iadd S dX12_layMore_103 ?_
            refine r_iconst S dX12_layMore_104 ?_
            refine r_isub S dX12_layMore_105 ?_
            refine lv_goto (tgt := 116) S.1 S.2.1 dX12_layMore_106 (by decide) ?_
            have e1 := Option.some.inj hf
            subst e1
            exact kJ0 _ _ _ hP hS (lv_sub hl [0, 1, 2, 3, 4, 5, 6, 7] rfl)
        · have hf := (if_neg c8).symm.trans hf
          refine lv_iload S.1 S.2.1 dX12_layMore_85 (lv_at hl 7 rfl) ?_
          refine r_iconst S dX12_layMore_87 ?_
          refine r_isub S dX12_layMore_88 ?_
          refine lv_goto (tgt := 116) S.1 S.2.1 dX12_layMore_89 (by decide) ?_
          have e1 := Option.some.inj hf
          subst e1
          exact kJ0 _ _ _ hP hS (lv_sub hl [0, 1, 2, 3, 4, 5, 6, 7] rfl)
      clear hf
      have hf := hq
      refine r_if_ne (tgt := 59) S dX12_layMore_52 (by decide) (fun c3 => ?_) (fun c3 => ?_)
      · have hf := (if_neg c3).symm.trans hf
        refine lv_iload S.1 S.2.1 dX12_layMore_59 (lv_at hl 7 rfl) ?_
        refine r_bipush S dX12_layMore_61 (by decide) ?_
        refine lv_icmp_ge (tgt := 70) S.1 S.2.1 dX12_layMore_63 (by decide) (fun c4 => ?_) (fun c4 => ?_)
        · have hf := (if_pos c4).symm.trans hf
          refine r_iconst S dX12_layMore_70 ?_
          have e1 := Option.some.inj hf
          subst e1
          exact kJ0 _ _ _ hP hS (lv_sub hl [0, 1, 2, 3, 4, 5, 6, 7] rfl)
        · have hf := (if_neg c4).symm.trans hf
          refine r_iconst S dX12_layMore_66 ?_
          refine lv_goto (tgt := 71) S.1 S.2.1 dX12_layMore_67 (by decide) ?_
          have e1 := Option.some.inj hf
          subst e1
          exact kJ0 _ _ _ hP hS (lv_sub hl [0, 1, 2, 3, 4, 5, 6, 7] rfl)
      · have hf := (if_pos c3).symm.trans hf
        refine r_iconst S dX12_layMore_55 ?_
        refine lv_goto (tgt := 71) S.1 S.2.1 dX12_layMore_56 (by decide) ?_
        have e1 := Option.some.inj hf
        subst e1
        exact kJ0 _ _ _ hP hS (lv_sub hl [0, 1, 2, 3, 4, 5, 6, 7] rfl)
set_option maxHeartbeats 4000000 in
set_option maxRecDepth 100000 in
theorem c_X12_layMore (l : Launch) (D : va_G) (cy : Nat → ClassId) (ad : Nat → Nat) (hO : adOK 28 ad) (n : Nat) (a0 : Int) (σ : Mem) {τ : Mem} (hf : f_X12_layMore n a0 σ = some τ) : Met l yX12_layMore wsX12_layMore rm_X12_layMore (va_Pc [.ref (ad 0), .int (zI a0)] (PreW D cy 28 (cellM cy ad) ad σ)) (QV D 28 (cellM cy ad) ad τ) 0 0 (AC 28 ad) := by
  refine r_met (cc := cX12_layMore) (maxL := 9) (ret := none) (own := RX12) (by decide) rfl rfl [.ref (ad 0), .int (zI a0)] (Nat.le_of_ble_eq_true rfl) ?_
  intro p e s m below meth c ls S hK hP hlk hr hl
  have hS : va_S (AC 28 ad) s.heap s.heap [] := va_S.rf
  have hl : lv_has ls 9 [(0, .ref (ad 0)), (1, .int (zI a0))] := hl
  unfold f_X12_layMore at hf
  refine r_iconst S dX12_layMore_0 ?_
  refine lv_iload_n S.1 S.2.1 dX12_layMore_1 rfl (lv_at hl 1 rfl) ?_
  refine r_imul S dX12_layMore_2 ?_
  refine lv_aload_n S.1 S.2.1 dX12_layMore_3 rfl (lv_at hl 0 rfl) ?_
  refine r_get S hK hP (by decide) rfl rfl h_X12_layMore_X12 2 (by decide) k_X12_layMore_1 rfl dX12_layMore_4 ?_
  refine lv_iload_n S.1 S.2.1 dX12_layMore_7 rfl (lv_at hl 1 rfl) ?_
  obtain ⟨g1, hf⟩ := gd_some hf
  refine r_iald S hK hP (by decide) (n := 6) (fun _ => rfl) (by decide) g1 dX12_layMore_8 ?_
  refine r_iadd S dX12_layMore_9 ?_
  obtain ⟨x2, hx2, hf⟩ := nm_some hf
  refine r_istore_n S hx2 (lv2 := [(2, .int (zI x2)), (0, .ref (ad 0)), (1, .int (zI a0))]) dX12_layMore_10 rfl hl (by decide) rfl (fun ls hl => ?_)
  refine r_ldc S 100000000 (by decide +kernel) k_X12_layMore_2 dX12_layMore_11 ?_
  refine r_istore_n S rfl (lv2 := [(3, .int (zI 100000000)), (2, .int (zI x2)), (0, .ref (ad 0)), (1, .int (zI a0))]) dX12_layMore_13 rfl hl (by decide) rfl (fun ls hl => ?_)
  refine r_iconst S dX12_layMore_14 ?_
  refine r_istore S rfl (lv2 := [(4, .int (zI 0)), (3, .int (zI 100000000)), (2, .int (zI x2)), (0, .ref (ad 0)), (1, .int (zI a0))]) dX12_layMore_15 hl (by decide) rfl (fun ls hl => ?_)
  refine r_bipush S dX12_layMore_17 (by decide) ?_
  obtain ⟨x3, hx3, hf⟩ := nm_some hf
  refine r_istore S hx3 (lv2 := [(5, .int (zI x3)), (4, .int (zI 0)), (3, .int (zI 100000000)), (2, .int (zI x2)), (0, .ref (ad 0)), (1, .int (zI a0))]) dX12_layMore_19 hl (by decide) rfl (fun ls hl => ?_)
  refine r_bipush S dX12_layMore_21 (by decide) ?_
  obtain ⟨x4, hx4, hf⟩ := nm_some hf
  refine r_istore S hx4 (lv2 := [(6, .int (zI x4)), (5, .int (zI x3)), (4, .int (zI 0)), (3, .int (zI 100000000)), (2, .int (zI x2)), (0, .ref (ad 0)), (1, .int (zI a0))]) dX12_layMore_23 hl (by decide) rfl (fun ls hl => ?_)
  refine lv_aload_n S.1 S.2.1 dX12_layMore_25 rfl (lv_at hl 5 rfl) ?_
  refine r_get S hK hP (by decide) rfl rfl h_X12_layMore_X12 2 (by decide) k_X12_layMore_1 rfl dX12_layMore_26 ?_
  refine lv_iload_n S.1 S.2.1 dX12_layMore_29 rfl (lv_at hl 6 rfl) ?_
  refine lv_dup2_11 S.1 S.2.1 dX12_layMore_30 rfl rfl ?_
  refine r_iald S hK hP (by decide) (n := 6) (fun _ => rfl) (by decide) g1 dX12_layMore_31 ?_
  refine r_iconst S dX12_layMore_32 ?_
  refine r_iadd S dX12_layMore_33 ?_
  obtain ⟨σ5, hσ5, hf⟩ := nm_some hf
  refine r_iast S hK hP hO hS (by decide) (n := 6) (fun _ => rfl) (by decide) g1 hσ5 dX12_layMore_34 (fun H locs hP hS => ?_)
  refine r_iconst S dX12_layMore_35 ?_
  refine r_istore S rfl (lv2 := [(7, .int (zI 0)), (6, .int (zI x4)), (5, .int (zI x3)), (4, .int (zI 0)), (3, .int (zI 100000000)), (2, .int (zI x2)), (0, .ref (ad 0)), (1, .int (zI a0))]) dX12_layMore_36 hl (by decide) rfl (fun ls hl => ?_)
  obtain ⟨x6, x7, x8, x9, σ10, hq, hf⟩ := bL4_some hf
  refine w_X12_layMore_L38 hO S hK n a0 x2 (fun x6 x7 x8 x9 σ10 H locs ls he hP hS hl => ?_) n 100000000 0 x3 x4 0 σ5 _ _ _ hq hP hS (lv_sub hl [6, 7, 5, 4, 3, 2, 1, 0] rfl)
  cases he
  refine lv_aload_n S.1 S.2.1 dX12_layMore_205 rfl (lv_at hl 0 rfl) ?_
  refine r_get S hK hP (by decide) rfl rfl h_X12_layMore_X12 2 (by decide) k_X12_layMore_1 rfl dX12_layMore_206 ?_
  refine lv_iload_n S.1 S.2.1 dX12_layMore_209 rfl (lv_at hl 1 rfl) ?_
  refine lv_dup2_11 S.1 S.2.1 dX12_layMore_210 rfl rfl ?_
  refine r_iald S hK hP (by decide) (n := 6) (fun _ => rfl) (by decide) g1 dX12_layMore_211 ?_
  refine r_iconst S dX12_layMore_212 ?_
  refine r_isub S dX12_layMore_213 ?_
  obtain ⟨σ11, hσ11, hf⟩ := nm_some hf
  refine r_iast S hK hP hO hS (by decide) (n := 6) (fun _ => rfl) (by decide) g1 hσ11 dX12_layMore_214 (fun H locs hP hS => ?_)
  refine lv_aload_n S.1 S.2.1 dX12_layMore_215 rfl (lv_at hl 0 rfl) ?_
  refine r_get S hK hP (by decide) rfl rfl h_X12_layMore_X12 31 (by decide) k_X12_layMore_5 rfl dX12_layMore_216 ?_
  refine lv_iload_n S.1 S.2.1 dX12_layMore_219 rfl (lv_at hl 1 rfl) ?_
  refine r_iconst S dX12_layMore_220 ?_
  obtain ⟨σ12, hσ12, hf⟩ := nm_some hf
  refine r_zast S hK hP hO hS (by decide) (n := 6) (fun _ => rfl) (by decide) g1 (Or.inr rfl) hσ12 dX12_layMore_221 (fun H locs hP hS => ?_)
  refine lv_aload_n S.1 S.2.1 dX12_layMore_222 rfl (lv_at hl 0 rfl) ?_
  refine r_get S hK hP (by decide) rfl rfl h_X12_layMore_X12 32 (by decide) k_X12_layMore_6 rfl dX12_layMore_223 ?_
  refine lv_iload_n S.1 S.2.1 dX12_layMore_226 rfl (lv_at hl 1 rfl) ?_
  refine lv_iload_n S.1 S.2.1 dX12_layMore_227 rfl (lv_at hl 2 rfl) ?_
  obtain ⟨σ13, hσ13, hf⟩ := nm_some hf
  refine r_iast S hK hP hO hS (by decide) (n := 6) (fun _ => rfl) (by decide) g1 hσ13 dX12_layMore_228 (fun H locs hP hS => ?_)
  refine lv_aload_n S.1 S.2.1 dX12_layMore_229 rfl (lv_at hl 0 rfl) ?_
  refine r_get S hK hP (by decide) rfl rfl h_X12_layMore_X12 33 (by decide) k_X12_layMore_7 rfl dX12_layMore_230 ?_
  refine lv_iload_n S.1 S.2.1 dX12_layMore_233 rfl (lv_at hl 1 rfl) ?_
  refine lv_iload S.1 S.2.1 dX12_layMore_234 (lv_at hl 3 rfl) ?_
  obtain ⟨σ14, hσ14, hf⟩ := nm_some hf
  refine r_iast S hK hP hO hS (by decide) (n := 6) (fun _ => rfl) (by decide) g1 hσ14 dX12_layMore_236 (fun H locs hP hS => ?_)
  refine lv_aload_n S.1 S.2.1 dX12_layMore_237 rfl (lv_at hl 0 rfl) ?_
  refine r_get S hK hP (by decide) rfl rfl h_X12_layMore_X12 34 (by decide) k_X12_layMore_8 rfl dX12_layMore_238 ?_
  refine lv_iload_n S.1 S.2.1 dX12_layMore_241 rfl (lv_at hl 1 rfl) ?_
  refine lv_iload S.1 S.2.1 dX12_layMore_242 (lv_at hl 4 rfl) ?_
  obtain ⟨σ15, hσ15, hf⟩ := nm_some hf
  refine r_iast S hK hP hO hS (by decide) (n := 6) (fun _ => rfl) (by decide) g1 hσ15 dX12_layMore_244 (fun H locs hP hS => ?_)
  refine lv_aload_n S.1 S.2.1 dX12_layMore_245 rfl (lv_at hl 0 rfl) ?_
  refine r_get S hK hP (by decide) rfl rfl h_X12_layMore_X12 35 (by decide) k_X12_layMore_9 rfl dX12_layMore_246 ?_
  refine lv_iload_n S.1 S.2.1 dX12_layMore_249 rfl (lv_at hl 1 rfl) ?_
  refine lv_iload S.1 S.2.1 dX12_layMore_250 (lv_at hl 5 rfl) ?_
  obtain ⟨σ16, hσ16, hf⟩ := nm_some hf
  refine r_iast S hK hP hO hS (by decide) (n := 6) (fun _ => rfl) (by decide) g1 hσ16 dX12_layMore_252 (fun H locs hP hS => ?_)
  have e1 := Option.some.inj hf
  subst e1
  exact e_V S hlk hP hS hr dX12_layMore_253
def rm_X12_least : Room := { frames := 3, cells := 0, slots := 0, locals := 83 }
theorem k_X12_least_1 : (.fieldLink RX12 133 "MendTextsModel" "handMany" "I" : Cond) ∈ wsX12_least := List.mem_of_getElem? (i := 1) (by decide +kernel)
theorem k_X12_least_2 : (.fieldLink RX12 40 "MendTextsModel" "length" "[I" : Cond) ∈ wsX12_least := List.mem_of_getElem? (i := 2) (by decide +kernel)
theorem k_X12_least_3 : (.fieldLink RX12 37 "MendTextsModel" "cost" "[I" : Cond) ∈ wsX12_least := List.mem_of_getElem? (i := 3) (by decide +kernel)
theorem k_X12_least_4 : (.constant RX12 124 (100000000) : Cond) ∈ wsX12_least := List.mem_of_getElem? (i := 4) (by decide +kernel)
theorem k_X12_least_5 : (.fieldLink RX12 43 "MendTextsModel" "text" "[I" : Cond) ∈ wsX12_least := List.mem_of_getElem? (i := 5) (by decide +kernel)
theorem h_X12_least_X12 : ∀ w ∈ u_ws RX12 TX12 36, w ∈ wsX12_least := mem_places _ [39, 40, 41, 42, 43, 44, 45, 46, 47, 48, 49, 50, 51, 52, 53, 54, 55, 56, 57, 58, 59, 60, 61, 62, 63, 64, 65, 66, 67, 68, 69, 70, 71, 72, 73, 74] (by decide +kernel)
theorem cw_X12_least_X12_in {s : State} {args : Array Value} (hts : ∀ w ∈ wsX12_least, w.before args s = true) : CallB rm_X12_least s args RX12 93 yX12_in cX12_in 3 (some .boolean) wsX12_in rm_X12_in 0 0 3 ∧ (Cond.static yX12_in).before args s = true := va_cwS 3 hts gX12_least_X12_in rfl rfl rfl (by decide +kernel) ⟨Nat.le_of_ble_eq_true rfl, Nat.le_of_ble_eq_true rfl⟩
theorem cw_X12_least_X12_isName {s : State} {args : Array Value} (hts : ∀ w ∈ wsX12_least, w.before args s = true) : CallB rm_X12_least s args RX12 111 yX12_isName cX12_isName 1 (some .boolean) wsX12_isName rm_X12_isName 0 0 1 ∧ (Cond.static yX12_isName).before args s = true := va_cwS 1 hts gX12_least_X12_isName rfl rfl rfl (by decide +kernel) ⟨Nat.le_of_ble_eq_true rfl, Nat.le_of_ble_eq_true rfl⟩
theorem cw_X12_least_X12_layMends {s : State} {args : Array Value} (hts : ∀ w ∈ wsX12_least, w.before args s = true) : CallW rm_X12_least s args RX12 RX12 143 yX12_layMends cX12_layMends 6 none wsX12_layMends rm_X12_layMends 0 0 0 := cwV 0 hts gX12_least_X12_layMends rfl rfl rfl (by decide +kernel) ⟨Nat.le_of_ble_eq_true rfl, Nat.le_of_ble_eq_true rfl⟩
set_option maxHeartbeats 4000000 in
set_option maxRecDepth 100000 in
theorem c_X12_least (l : Launch) (D : va_G) (cy : Nat → ClassId) (ad : Nat → Nat) (hO : adOK 28 ad) (n : Nat) (a0 : Int) (a1 : Int) (σ : Mem) {v : Int} {τ : Mem} (hf : f_X12_least n a0 a1 σ = some (v, τ)) : Met l yX12_least wsX12_least rm_X12_least (va_Pc [.ref (ad 0), .int (zI a0), .int (zI a1)] (PreW D cy 28 (cellM cy ad) ad σ)) (QI D 28 (cellM cy ad) ad v τ) 0 0 (AC 28 ad) := by
  refine r_met (cc := cX12_least) (maxL := 4) (ret := (some .int)) (own := RX12) (by decide) rfl rfl [.ref (ad 0), .int (zI a0), .int (zI a1)] (Nat.le_of_ble_eq_true rfl) ?_
  intro p e s m below meth c ls S hK hP hlk hr hl
  have hS : va_S (AC 28 ad) s.heap s.heap [] := va_S.rf
  have hl : lv_has ls 4 [(0, .ref (ad 0)), (1, .int (zI a0)), (2, .int (zI a1))] := hl
  unfold f_X12_least at hf
  refine lv_iload_n S.1 S.2.1 dX12_least_0 rfl (lv_at hl 1 rfl) ?_
  obtain ⟨y2, hq1, hf⟩ := bV_some hf
  refine r_callSI S hK hP hS [.int (zI a0)] (c_X12_isName l D cy ad hO a0 σ hq1) (cw_X12_least_X12_isName S.2.2.2.2) rfl hl.1 (rest := []) rfl (Nat.le_of_ble_eq_true rfl) dX12_least_1 ⟨Nat.zero_le _, Nat.zero_le _⟩ (fun H locs hP hS => ?_)
  refine r_if_ne (tgt := 9) S dX12_least_4 (by decide) (fun c3 => ?_) (fun c3 => ?_)
  · have hf := (if_neg c3).symm.trans hf
    refine lv_aload_n S.1 S.2.1 dX12_least_9 rfl (lv_at hl 0 rfl) ?_
    refine r_iconst S dX12_least_10 ?_
    obtain ⟨σ4, hσ4, hf⟩ := nm_some hf
    refine r_put S hK hP hO hS (by decide) rfl rfl h_X12_least_X12 tyX12 tyX12_ok nmX12 12 (by decide) k_X12_least_1 rfl (tyX12_ok 12 (by decide)) rfl rfl (Nat.le_of_ble_eq_true rfl) hσ4 rfl dX12_least_11 (fun H locs hP hS => ?_)
    refine lv_aload_n S.1 S.2.1 dX12_least_14 rfl (lv_at hl 0 rfl) ?_
    obtain ⟨σ6, hq5, hf⟩ := bV_some hf
    refine r_callVV S hK hP hS (by decide) rfl rfl [] (c_X12_layMends l D cy ad hO n σ4 hq5) (cw_X12_least_X12_layMends S.2.2.2.2) rfl hl.1 (rest := []) rfl (Nat.le_of_ble_eq_true rfl) dX12_least_15 ⟨Nat.zero_le _, Nat.zero_le _⟩ (fun H locs hP hS => ?_)
    refine lv_aload_n S.1 S.2.1 dX12_least_18 rfl (lv_at hl 0 rfl) ?_
    refine r_get S hK hP (by decide) rfl rfl h_X12_least_X12 15 (by decide) k_X12_least_2 rfl dX12_least_19 ?_
    refine r_bipush S dX12_least_22 (by decide) ?_
    refine lv_iload_n S.1 S.2.1 dX12_least_24 rfl (lv_at hl 1 rfl) ?_
    refine r_imul S dX12_least_25 ?_
    obtain ⟨g7, hf⟩ := gd_some hf
    refine r_iald S hK hP (by decide) (n := 294) (fun _ => rfl) (by decide) g7 dX12_least_26 ?_
    obtain ⟨x8, hx8, hf⟩ := nm_some hf
    refine r_istore_n S hx8 (lv2 := [(3, .int (zI x8)), (0, .ref (ad 0)), (1, .int (zI a0)), (2, .int (zI a1))]) dX12_least_27 rfl hl (by decide) rfl (fun ls hl => ?_)
    refine lv_aload_n S.1 S.2.1 dX12_least_28 rfl (lv_at hl 1 rfl) ?_
    refine r_get S hK hP (by decide) rfl rfl h_X12_least_X12 14 (by decide) k_X12_least_3 rfl dX12_least_29 ?_
    refine r_bipush S dX12_least_32 (by decide) ?_
    refine lv_iload_n S.1 S.2.1 dX12_least_34 rfl (lv_at hl 2 rfl) ?_
    refine r_imul S dX12_least_35 ?_
    refine r_iald S hK hP (by decide) (n := 294) (fun _ => rfl) (by decide) g7 dX12_least_36 ?_
    refine r_ldc S 100000000 (by decide +kernel) k_X12_least_4 dX12_least_37 ?_
    refine lv_icmp_ge (tgt := 48) S.1 S.2.1 dX12_least_39 (by decide) (fun c9 => ?_) (fun c9 => ?_)
    · have hf := (if_pos c9).symm.trans hf
      refine r_bipush S dX12_least_48 (by decide) ?_
      obtain ⟨e1, e2⟩ := inj2 hf
      subst e1
      subst e2
      exact e_I S hlk hP hS hr dX12_least_50
    · have hf := (if_neg c9).symm.trans hf
      refine lv_iload_n S.1 S.2.1 dX12_least_42 rfl (lv_at hl 0 rfl) ?_
      refine r_bipush S dX12_least_43 (by decide) ?_
      refine lv_icmp_le (tgt := 51) S.1 S.2.1 dX12_least_45 (by decide) (fun c10 => ?_) (fun c10 => ?_)
      · have hf := (if_pos c10).symm.trans hf
        refine lv_iload_n S.1 S.2.1 dX12_least_51 rfl (lv_at hl 3 rfl) ?_
        refine r_iconst S dX12_least_52 ?_
        refine lv_icmp_ne (tgt := 60) S.1 S.2.1 dX12_least_53 (by decide) (fun c11 => ?_) (fun c11 => ?_)
        · have hf := (if_neg c11).symm.trans hf
          refine lv_iload_n S.1 S.2.1 dX12_least_60 rfl (lv_at hl 3 rfl) ?_
          refine r_iconst S dX12_least_61 ?_
          refine lv_iload_n S.1 S.2.1 dX12_least_62 rfl (lv_at hl 0 rfl) ?_
          refine r_iconst S dX12_least_63 ?_
          refine r_isub S dX12_least_64 ?_
          obtain ⟨y13, hq12, hf⟩ := bV_some hf
          refine r_callSI S hK hP hS [.int (zI a1), .int (zI 0), .int (zI (x8 - 1))] (c_X12_in l D cy ad hO a1 0 (x8 - 1) σ6 hq12) (cw_X12_least_X12_in S.2.2.2.2) rfl hl.1 (rest := []) rfl (Nat.le_of_ble_eq_true rfl) dX12_least_65 ⟨Nat.zero_le _, Nat.zero_le _⟩ (fun H locs hP hS => ?_)
          refine r_if_eq (tgt := 93) S dX12_least_68 (by decide) (fun c14 => ?_) (fun c14 => ?_)
          · have hf := (if_pos c14).symm.trans hf
            refine r_bipush S dX12_least_93 (by decide) ?_
            obtain ⟨e1, e2⟩ := inj2 hf
            subst e1
            subst e2
            exact e_I S hlk hP hS hr dX12_least_95
          · have hf := (if_neg c14).symm.trans hf
            refine lv_aload_n S.1 S.2.1 dX12_least_71 rfl (lv_at hl 1 rfl) ?_
            refine r_get S hK hP (by decide) rfl rfl h_X12_least_X12 16 (by decide) k_X12_least_5 rfl dX12_least_72 ?_
            refine r_bipush S dX12_least_75 (by decide) ?_
            refine lv_iload_n S.1 S.2.1 dX12_least_77 rfl (lv_at hl 2 rfl) ?_
            refine r_imul S dX12_least_78 ?_
            refine r_iald S hK hP (by decide) (n := 294) (fun _ => rfl) (by decide) g7 dX12_least_79 ?_
            refine r_iconst S dX12_least_80 ?_
            refine lv_iload_n S.1 S.2.1 dX12_least_81 rfl (lv_at hl 0 rfl) ?_
            refine r_iconst S dX12_least_82 ?_
            refine r_isub S dX12_least_83 ?_
            refine lv_iload_n S.1 S.2.1 dX12_least_84 rfl (lv_at hl 3 rfl) ?_
            refine r_isub S dX12_least_85 ?_
            refine r_imul S dX12_least_86 ?_
            refine r_ishr S dX12_least_87 ?_
            refine r_iconst S dX12_least_88 ?_
            refine r_iand S dX12_least_89 ?_
            refine lv_goto (tgt := 95) S.1 S.2.1 dX12_least_90 (by decide) ?_
            obtain ⟨e1, e2⟩ := inj2 hf
            subst e1
            subst e2
            exact e_I S hlk hP hS hr dX12_least_95
        · have hf := (if_pos c11).symm.trans hf
          refine lv_iload_n S.1 S.2.1 dX12_least_56 rfl (lv_at hl 0 rfl) ?_
          refine lv_goto (tgt := 95) S.1 S.2.1 dX12_least_57 (by decide) ?_
          obtain ⟨e1, e2⟩ := inj2 hf
          subst e1
          subst e2
          exact e_I S hlk hP hS hr dX12_least_95
      · have hf := (if_neg c10).symm.trans hf
        refine r_bipush S dX12_least_48 (by decide) ?_
        obtain ⟨e1, e2⟩ := inj2 hf
        subst e1
        subst e2
        exact e_I S hlk hP hS hr dX12_least_50
  · have hf := (if_pos c3).symm.trans hf
    refine r_iconst S dX12_least_7 ?_
    obtain ⟨e1, e2⟩ := inj2 hf
    subst e1
    subst e2
    exact e_I S hlk hP hS hr dX12_least_8
def rm_X12_mend : Room := { frames := 3, cells := 0, slots := 0, locals := 83 }
theorem k_X12_mend_1 : (.fieldLink RX12 140 "MendTextsModel" "letters" "I" : Cond) ∈ wsX12_mend := List.mem_of_getElem? (i := 1) (by decide +kernel)
theorem k_X12_mend_2 : (.fieldLink RX12 37 "MendTextsModel" "cost" "[I" : Cond) ∈ wsX12_mend := List.mem_of_getElem? (i := 2) (by decide +kernel)
theorem k_X12_mend_3 : (.constant RX12 124 (100000000) : Cond) ∈ wsX12_mend := List.mem_of_getElem? (i := 3) (by decide +kernel)
theorem h_X12_mend_X12 : ∀ w ∈ u_ws RX12 TX12 36, w ∈ wsX12_mend := mem_places _ [47, 48, 49, 50, 51, 52, 53, 54, 55, 56, 57, 58, 59, 60, 61, 62, 63, 64, 65, 66, 67, 68, 69, 70, 71, 72, 73, 74, 75, 76, 77, 78, 79, 80, 81, 82] (by decide +kernel)
theorem cw_X12_mend_X12_isName {s : State} {args : Array Value} (hts : ∀ w ∈ wsX12_mend, w.before args s = true) : CallB rm_X12_mend s args RX12 111 yX12_isName cX12_isName 1 (some .boolean) wsX12_isName rm_X12_isName 0 0 1 ∧ (Cond.static yX12_isName).before args s = true := va_cwS 1 hts gX12_mend_X12_isName rfl rfl rfl (by decide +kernel) ⟨Nat.le_of_ble_eq_true rfl, Nat.le_of_ble_eq_true rfl⟩
theorem cw_X12_mend_X12_layMends {s : State} {args : Array Value} (hts : ∀ w ∈ wsX12_mend, w.before args s = true) : CallW rm_X12_mend s args RX12 RX12 143 yX12_layMends cX12_layMends 6 none wsX12_layMends rm_X12_layMends 0 0 0 := cwV 0 hts gX12_mend_X12_layMends rfl rfl rfl (by decide +kernel) ⟨Nat.le_of_ble_eq_true rfl, Nat.le_of_ble_eq_true rfl⟩
theorem cw_X12_mend_X12_take {s : State} {args : Array Value} (hts : ∀ w ∈ wsX12_mend, w.before args s = true) : CallW rm_X12_mend s args RX12 RX12 146 yX12_take cX12_take 3 none wsX12_take rm_X12_take 0 0 1 := cwV 1 hts gX12_mend_X12_take rfl rfl rfl (by decide +kernel) ⟨Nat.le_of_ble_eq_true rfl, Nat.le_of_ble_eq_true rfl⟩
set_option maxHeartbeats 4000000 in
set_option maxRecDepth 100000 in
theorem c_X12_mend (l : Launch) (D : va_G) (cy : Nat → ClassId) (ad : Nat → Nat) (hO : adOK 28 ad) (n : Nat) (a0 : Int) (a1 : Int) (a2 : Int) (σ : Mem) {v : Int} {τ : Mem} (hf : f_X12_mend n a0 a1 a2 σ = some (v, τ)) : Met l yX12_mend wsX12_mend rm_X12_mend (va_Pc [.ref (ad 0), .int (zI a0), .int (zI a1), .int (zI a2)] (PreW D cy 28 (cellM cy ad) ad σ)) (QI D 28 (cellM cy ad) ad v τ) 0 0 (AC 28 ad) := by
  refine r_met (cc := cX12_mend) (maxL := 5) (ret := (some .int)) (own := RX12) (by decide) rfl rfl [.ref (ad 0), .int (zI a0), .int (zI a1), .int (zI a2)] (Nat.le_of_ble_eq_true rfl) ?_
  intro p e s m below meth c ls S hK hP hlk hr hl
  have hS : va_S (AC 28 ad) s.heap s.heap [] := va_S.rf
  have hl : lv_has ls 5 [(0, .ref (ad 0)), (1, .int (zI a0)), (2, .int (zI a1)), (3, .int (zI a2))] := hl
  unfold f_X12_mend at hf
  refine lv_iload_n S.1 S.2.1 dX12_mend_0 rfl (lv_at hl 1 rfl) ?_
  obtain ⟨y2, hq1, hf⟩ := bV_some hf
  refine r_callSI S hK hP hS [.int (zI a0)] (c_X12_isName l D cy ad hO a0 σ hq1) (cw_X12_mend_X12_isName S.2.2.2.2) rfl hl.1 (rest := []) rfl (Nat.le_of_ble_eq_true rfl) dX12_mend_1 ⟨Nat.zero_le _, Nat.zero_le _⟩ (fun H locs hP hS => ?_)
  refine r_if_ne (tgt := 9) S dX12_mend_4 (by decide) (fun c3 => ?_) (fun c3 => ?_)
  · have hf := (if_neg c3).symm.trans hf
    refine lv_iload_n S.1 S.2.1 dX12_mend_9 rfl (lv_at hl 2 rfl) ?_
    refine r_if_lt (tgt := 26) S dX12_mend_10 (by decide) (fun c4 => ?_) (fun c4 => ?_)
    · have hf := (if_pos c4).symm.trans hf
      refine r_bipush S dX12_mend_26 (by decide) ?_
      obtain ⟨e1, e2⟩ := inj2 hf
      subst e1
      subst e2
      exact e_I S hlk hP hS hr dX12_mend_28
    · have hf := (if_neg c4).symm.trans hf
      refine lv_iload_n S.1 S.2.1 dX12_mend_13 rfl (lv_at hl 2 rfl) ?_
      refine lv_iload_n S.1 S.2.1 dX12_mend_14 rfl (lv_at hl 3 rfl) ?_
      refine lv_icmp_gt (tgt := 26) S.1 S.2.1 dX12_mend_15 (by decide) (fun c5 => ?_) (fun c5 => ?_)
      · have hf := (if_pos c5).symm.trans hf
        refine r_bipush S dX12_mend_26 (by decide) ?_
        obtain ⟨e1, e2⟩ := inj2 hf
        subst e1
        subst e2
        exact e_I S hlk hP hS hr dX12_mend_28
      · have hf := (if_neg c5).symm.trans hf
        refine lv_iload_n S.1 S.2.1 dX12_mend_18 rfl (lv_at hl 3 rfl) ?_
        refine lv_aload_n S.1 S.2.1 dX12_mend_19 rfl (lv_at hl 0 rfl) ?_
        refine r_get S hK hP (by decide) rfl rfl h_X12_mend_X12 6 (by decide) k_X12_mend_1 rfl dX12_mend_20 ?_
        refine lv_icmp_le (tgt := 29) S.1 S.2.1 dX12_mend_23 (by decide) (fun c6 => ?_) (fun c6 => ?_)
        · have hf := (if_pos c6).symm.trans hf
          refine lv_aload_n S.1 S.2.1 dX12_mend_29 rfl (lv_at hl 0 rfl) ?_
          refine r_bipush S dX12_mend_30 (by decide) ?_
          obtain ⟨σ8, hq7, hf⟩ := bV_some hf
          refine r_callVV S hK hP hS (by decide) rfl rfl [.int (zI ((-6)))] (c_X12_take l D cy ad hO n ((-6)) σ hq7) (cw_X12_mend_X12_take S.2.2.2.2) rfl hl.1 (rest := []) rfl (Nat.le_of_ble_eq_true rfl) dX12_mend_32 ⟨Nat.zero_le _, Nat.zero_le _⟩ (fun H locs hP hS => ?_)
          refine lv_aload_n S.1 S.2.1 dX12_mend_35 rfl (lv_at hl 0 rfl) ?_
          obtain ⟨σ10, hq9, hf⟩ := bV_some hf
          refine r_callVV S hK hP hS (by decide) rfl rfl [] (c_X12_layMends l D cy ad hO n σ8 hq9) (cw_X12_mend_X12_layMends S.2.2.2.2) rfl hl.1 (rest := []) rfl (Nat.le_of_ble_eq_true rfl) dX12_mend_36 ⟨Nat.zero_le _, Nat.zero_le _⟩ (fun H locs hP hS => ?_)
          refine lv_aload_n S.1 S.2.1 dX12_mend_39 rfl (lv_at hl 0 rfl) ?_
          refine r_get S hK hP (by decide) rfl rfl h_X12_mend_X12 14 (by decide) k_X12_mend_2 rfl dX12_mend_40 ?_
          refine r_bipush S dX12_mend_43 (by decide) ?_
          refine lv_iload_n S.1 S.2.1 dX12_mend_45 rfl (lv_at hl 1 rfl) ?_
          refine r_imul S dX12_mend_46 ?_
          refine r_bipush S dX12_mend_47 (by decide) ?_
          refine lv_iload_n S.1 S.2.1 dX12_mend_49 rfl (lv_at hl 2 rfl) ?_
          refine r_imul S dX12_mend_50 ?_
          refine r_iadd S dX12_mend_51 ?_
          refine lv_iload_n S.1 S.2.1 dX12_mend_52 rfl (lv_at hl 3 rfl) ?_
          refine r_iadd S dX12_mend_53 ?_
          obtain ⟨g11, hf⟩ := gd_some hf
          refine r_iald S hK hP (by decide) (n := 294) (fun _ => rfl) (by decide) g11 dX12_mend_54 ?_
          obtain ⟨x12, hx12, hf⟩ := nm_some hf
          refine r_istore S hx12 (lv2 := [(4, .int (zI x12)), (0, .ref (ad 0)), (1, .int (zI a0)), (2, .int (zI a1)), (3, .int (zI a2))]) dX12_mend_55 hl (by decide) rfl (fun ls hl => ?_)
          refine lv_iload S.1 S.2.1 dX12_mend_57 (lv_at hl 0 rfl) ?_
          refine r_ldc S 100000000 (by decide +kernel) k_X12_mend_3 dX12_mend_59 ?_
          refine lv_icmp_lt (tgt := 69) S.1 S.2.1 dX12_mend_61 (by decide) (fun c13 => ?_) (fun c13 => ?_)
          · have hf := (if_pos c13).symm.trans hf
            refine lv_iload S.1 S.2.1 dX12_mend_69 (lv_at hl 0 rfl) ?_
            obtain ⟨e1, e2⟩ := inj2 hf
            subst e1
            subst e2
            exact e_I S hlk hP hS hr dX12_mend_71
          · have hf := (if_neg c13).symm.trans hf
            refine r_bipush S dX12_mend_64 (by decide) ?_
            refine lv_goto (tgt := 71) S.1 S.2.1 dX12_mend_66 (by decide) ?_
            obtain ⟨e1, e2⟩ := inj2 hf
            subst e1
            subst e2
            exact e_I S hlk hP hS hr dX12_mend_71
        · have hf := (if_neg c6).symm.trans hf
          refine r_bipush S dX12_mend_26 (by decide) ?_
          obtain ⟨e1, e2⟩ := inj2 hf
          subst e1
          subst e2
          exact e_I S hlk hP hS hr dX12_mend_28
  · have hf := (if_pos c3).symm.trans hf
    refine r_iconst S dX12_mend_7 ?_
    obtain ⟨e1, e2⟩ := inj2 hf
    subst e1
    subst e2
    exact e_I S hlk hP hS hr dX12_mend_8
