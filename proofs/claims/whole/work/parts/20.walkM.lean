def rm_X12_grammar : Room := { frames := 2, cells := 0, slots := 0, locals := 50 }
theorem k_X12_grammar_1 : (.fieldLink RX12 13 "MendTextsModel" "rules" "[I" : Cond) ∈ wsX12_grammar := List.mem_of_getElem? (i := 1) (by decide +kernel)
theorem k_X12_grammar_2 : (.fieldLink RX12 7 "MendTextsModel" "pad" "[I" : Cond) ∈ wsX12_grammar := List.mem_of_getElem? (i := 2) (by decide +kernel)
theorem k_X12_grammar_3 : (.fieldLink RX12 105 "MendTextsModel" "first" "I" : Cond) ∈ wsX12_grammar := List.mem_of_getElem? (i := 3) (by decide +kernel)
theorem k_X12_grammar_4 : (.fieldLink RX12 97 "MendTextsModel" "signs" "I" : Cond) ∈ wsX12_grammar := List.mem_of_getElem? (i := 4) (by decide +kernel)
theorem k_X12_grammar_5 : (.fieldLink RX12 16 "MendTextsModel" "sizes" "[I" : Cond) ∈ wsX12_grammar := List.mem_of_getElem? (i := 5) (by decide +kernel)
theorem k_X12_grammar_6 : (.fieldLink RX12 19 "MendTextsModel" "parts" "[I" : Cond) ∈ wsX12_grammar := List.mem_of_getElem? (i := 6) (by decide +kernel)
theorem h_X12_grammar_X12 : ∀ w ∈ u_ws RX12 TX12 36, w ∈ wsX12_grammar := mem_places _ [20, 21, 22, 23, 24, 25, 26, 27, 28, 29, 30, 31, 32, 33, 34, 35, 36, 37, 38, 39, 40, 41, 42, 43, 44, 45, 46, 47, 48, 49, 50, 51, 52, 53, 54, 55] (by decide +kernel)
theorem cw_X12_grammar_X12_faultOf {s : State} {args : Array Value} (hts : ∀ w ∈ wsX12_grammar, w.before args s = true) : CallW rm_X12_grammar s args RX12 RX12 101 yX12_faultOf cX12_faultOf 9 (some .int) wsX12_faultOf rm_X12_faultOf 0 0 0 := cwV 0 hts gX12_grammar_X12_faultOf rfl rfl rfl (by decide +kernel) ⟨Nat.le_of_ble_eq_true rfl, Nat.le_of_ble_eq_true rfl⟩
theorem cw_X12_grammar_X12_in {s : State} {args : Array Value} (hts : ∀ w ∈ wsX12_grammar, w.before args s = true) : CallB rm_X12_grammar s args RX12 93 yX12_in cX12_in 3 (some .boolean) wsX12_in rm_X12_in 0 0 3 ∧ (Cond.static yX12_in).before args s = true := va_cwS 3 hts gX12_grammar_X12_in rfl rfl rfl (by decide +kernel) ⟨Nat.le_of_ble_eq_true rfl, Nat.le_of_ble_eq_true rfl⟩
theorem cw_X12_grammar_X12_turn {s : State} {args : Array Value} (hts : ∀ w ∈ wsX12_grammar, w.before args s = true) : CallW rm_X12_grammar s args RX12 RX12 108 yX12_turn cX12_turn 2 none wsX12_turn rm_X12_turn 0 0 0 := cwV 0 hts gX12_grammar_X12_turn rfl rfl rfl (by decide +kernel) ⟨Nat.le_of_ble_eq_true rfl, Nat.le_of_ble_eq_true rfl⟩
set_option maxHeartbeats 4000000 in
set_option maxRecDepth 100000 in
theorem w_X12_grammar_L12 {p : Program} {l : Launch} {e : Env} {s : State} {m : MethodId} {args : Array Value} {below : List Frame} {meth : Method} {c : Code} {Q : State → Prop} {D : va_G} {cy : Nat → ClassId} {ad : Nat → Nat} {H0 : Heap} (hO : adOK 28 ad) (S : CallFix p m c cX12_grammar 6 s args wsX12_grammar RX12) (hK : KK D cy s) (n : Nat) {res : Mem} (k0 : ∀ (τ : Mem) (H2 : Heap) (locs2 : List Loc) (ls2 : Array Slot), res = τ → va_P D vwCl (WW 28 (cellM cy ad) ad τ) H2 → va_S (AC 28 ad) H0 H2 locs2 → lv_has ls2 6 [(0, .ref (ad 0))] → W p l e rm_X12_grammar s m args below meth c H2 locs2 0 0 Q (F0 m 31 ls2 [])) :
    ∀ (k : Nat) (x1_ : Int) (σ : Mem) (H : Heap) (locs : List Loc) (ls : Array Slot), f_X12_grammar_L12 n k x1_ σ = some res → va_P D vwCl (WW 28 (cellM cy ad) ad σ) H → va_S (AC 28 ad) H0 H locs → lv_has ls 6 [(0, .ref (ad 0)), (1, .int (zI x1_))] → W p l e rm_X12_grammar s m args below meth c H locs 0 0 Q (F0 m 12 ls []) := by
  intro k
  induction k with
  | zero =>
    intro x1_ σ H locs ls hf
    have hf : none = some res := hf
    cases hf
  | succ k ih =>
    intro x1_ σ H locs ls hf hP hS hl
    rw [f_X12_grammar_L12] at hf
    refine lv_iload_n S.1 S.2.1 dX12_grammar_12 rfl (lv_at hl 1 rfl) ?_
    refine r_bipush S dX12_grammar_13 (by decide) ?_
    refine lv_icmp_ge (tgt := 31) S.1 S.2.1 dX12_grammar_15 (by decide) (fun c1 => ?_) (fun c1 => ?_)
    · have hf := (if_pos c1).symm.trans hf
      exact k0 _ _ _ _ (Option.some.inj hf).symm hP hS (lv_sub hl [0] rfl)
    · have hf := (if_neg c1).symm.trans hf
      refine lv_aload_n S.1 S.2.1 dX12_grammar_18 rfl (lv_at hl 0 rfl) ?_
      refine r_get S hK hP (by decide) rfl rfl h_X12_grammar_X12 2 (by decide) k_X12_grammar_1 rfl dX12_grammar_19 ?_
      refine lv_iload_n S.1 S.2.1 dX12_grammar_22 rfl (lv_at hl 1 rfl) ?_
      refine r_iconst S dX12_grammar_23 ?_
      obtain ⟨g2, hf⟩ := gd_some hf
      obtain ⟨σ3, hσ3, hf⟩ := nm_some hf
      refine r_iast S hK hP hO hS (by decide) (n := 6) (fun _ => rfl) (by decide) g2 hσ3 dX12_grammar_24 (fun H locs hP hS => ?_)
      obtain ⟨x4, hx4, hf⟩ := nm_some hf
      refine r_iinc S hx4 (k0 := 1) (lv2 := [(1, .int (zI x4)), (0, .ref (ad 0))]) dX12_grammar_25 hl rfl (by decide) rfl (fun ls hl => ?_)
      refine lv_goto (tgt := 12) S.1 S.2.1 dX12_grammar_28 (by decide) ?_
      exact ih x4 σ3 _ _ _ hf hP hS (lv_sub hl [1, 0] rfl)
set_option maxHeartbeats 4000000 in
set_option maxRecDepth 100000 in
theorem w_X12_grammar_L100 {p : Program} {l : Launch} {e : Env} {s : State} {m : MethodId} {args : Array Value} {below : List Frame} {meth : Method} {c : Code} {Q : State → Prop} {D : va_G} {cy : Nat → ClassId} {ad : Nat → Nat} {H0 : Heap} (hO : adOK 28 ad) (S : CallFix p m c cX12_grammar 6 s args wsX12_grammar RX12) (hK : KK D cy s) (n : Nat) (x1_ : Int) (x3_ : Int) (x5_ : Int) {res : Int × Mem} (k0 : ∀ (y2_ : Int) (τ : Mem) (H2 : Heap) (locs2 : List Loc) (ls2 : Array Slot), res = (y2_, τ) → va_P D vwCl (WW 28 (cellM cy ad) ad τ) H2 → va_S (AC 28 ad) H0 H2 locs2 → lv_has ls2 6 [(0, .ref (ad 0)), (1, .int (zI x1_)), (2, .int (zI y2_)), (3, .int (zI x3_))] → W p l e rm_X12_grammar s m args below meth c H2 locs2 0 0 Q (F0 m 215 ls2 [])) :
    ∀ (k : Nat) (x2_ : Int) (σ : Mem) (H : Heap) (locs : List Loc) (ls : Array Slot), f_X12_grammar_L100 n x1_ x3_ x5_ k x2_ σ = some res → va_P D vwCl (WW 28 (cellM cy ad) ad σ) H → va_S (AC 28 ad) H0 H locs → lv_has ls 6 [(0, .ref (ad 0)), (1, .int (zI x1_)), (2, .int (zI x2_)), (3, .int (zI x3_)), (5, .int (zI x5_))] → W p l e rm_X12_grammar s m args below meth c H locs 0 0 Q (F0 m 100 ls []) := by
  intro k
  induction k with
  | zero =>
    intro x2_ σ H locs ls hf
    have hf : none = some res := hf
    cases hf
  | succ k ih =>
    intro x2_ σ H locs ls hf hP hS hl
    rw [f_X12_grammar_L100] at hf
    refine lv_iload_n S.1 S.2.1 dX12_grammar_100 rfl (lv_at hl 2 rfl) ?_
    refine lv_aload_n S.1 S.2.1 dX12_grammar_101 rfl (lv_at hl 0 rfl) ?_
    refine r_get S hK hP (by decide) rfl rfl h_X12_grammar_X12 0 (by decide) k_X12_grammar_4 rfl dX12_grammar_102 ?_
    refine lv_icmp_ge (tgt := 215) S.1 S.2.1 dX12_grammar_105 (by decide) (fun c1 => ?_) (fun c1 => ?_)
    · have hf := (if_pos c1).symm.trans hf
      exact k0 _ _ _ _ _ (Option.some.inj hf).symm hP hS (lv_sub hl [0, 1, 2, 3] rfl)
    · have hf := (if_neg c1).symm.trans hf
      refine lv_aload_n S.1 S.2.1 dX12_grammar_108 rfl (lv_at hl 0 rfl) ?_
      refine r_get S hK hP (by decide) rfl rfl h_X12_grammar_X12 1 (by decide) k_X12_grammar_2 rfl dX12_grammar_109 ?_
      refine lv_iload_n S.1 S.2.1 dX12_grammar_112 rfl (lv_at hl 2 rfl) ?_
      obtain ⟨g2, hf⟩ := gd_some hf
      refine r_iald S hK hP (by decide) (n := 60) (fun _ => rfl) (by decide) g2 dX12_grammar_113 ?_
      refine r_bipush S dX12_grammar_114 (by decide) ?_
      refine lv_icmp_eq (tgt := 215) S.1 S.2.1 dX12_grammar_116 (by decide) (fun c3 => ?_) (fun c3 => ?_)
      · have hf := (if_pos c3).symm.trans hf
        exact k0 _ _ _ _ _ (Option.some.inj hf).symm hP hS (lv_sub hl [0, 1, 2, 3] rfl)
      · have hf := (if_neg c3).symm.trans hf
        refine lv_aload_n S.1 S.2.1 dX12_grammar_119 rfl (lv_at hl 0 rfl) ?_
        refine r_get S hK hP (by decide) rfl rfl h_X12_grammar_X12 1 (by decide) k_X12_grammar_2 rfl dX12_grammar_120 ?_
        refine lv_iload_n S.1 S.2.1 dX12_grammar_123 rfl (lv_at hl 2 rfl) ?_
        refine r_iald S hK hP (by decide) (n := 60) (fun _ => rfl) (by decide) g2 dX12_grammar_124 ?_
        refine r_bipush S dX12_grammar_125 (by decide) ?_
        refine lv_icmp_eq (tgt := 215) S.1 S.2.1 dX12_grammar_127 (by decide) (fun c4 => ?_) (fun c4 => ?_)
        · have hf := (if_pos c4).symm.trans hf
          exact k0 _ _ _ _ _ (Option.some.inj hf).symm hP hS (lv_sub hl [0, 1, 2, 3] rfl)
        · have hf := (if_neg c4).symm.trans hf
          refine lv_aload_n S.1 S.2.1 dX12_grammar_130 rfl (lv_at hl 0 rfl) ?_
          refine r_get S hK hP (by decide) rfl rfl h_X12_grammar_X12 1 (by decide) k_X12_grammar_2 rfl dX12_grammar_131 ?_
          refine lv_iload_n S.1 S.2.1 dX12_grammar_134 rfl (lv_at hl 2 rfl) ?_
          refine r_iald S hK hP (by decide) (n := 60) (fun _ => rfl) (by decide) g2 dX12_grammar_135 ?_
          refine r_bipush S dX12_grammar_136 (by decide) ?_
          obtain ⟨σ5, hq, hf⟩ := bV_some hf
          have kJ0 : ∀ (H : Heap) (locs : List Loc) (ls : Array Slot), va_P D vwCl (WW 28 (cellM cy ad) ad σ5) H → va_S (AC 28 ad) H0 H locs → lv_has ls 6 [(0, .ref (ad 0)), (1, .int (zI x1_)), (2, .int (zI x2_)), (3, .int (zI x3_)), (5, .int (zI x5_))] → W p l e rm_X12_grammar s m args below meth c H locs 0 0 Q (F0 m 209 ls []) := by
            intro H locs ls hP hS hl
            obtain ⟨x15, hx15, hf⟩ := nm_some hf
            refine r_iinc S hx15 (k0 := 2) (lv2 := [(2, .int (zI x15)), (0, .ref (ad 0)), (1, .int (zI x1_)), (3, .int (zI x3_)), (5, .int (zI x5_))]) dX12_grammar_209 hl rfl (by decide) rfl (fun ls hl => ?_)
            refine lv_goto (tgt := 100) S.1 S.2.1 dX12_grammar_212 (by decide) ?_
            exact ih x15 σ5 _ _ _ hf hP hS (lv_sub hl [1, 2, 0, 3, 4] rfl)
          clear hf
          have hf := hq
          refine lv_icmp_eq (tgt := 209) S.1 S.2.1 dX12_grammar_138 (by decide) (fun c6 => ?_) (fun c6 => ?_)
          · have hf := (if_pos c6).symm.trans hf
            have e1 := Option.some.inj hf
            subst e1
            exact kJ0 _ _ _ hP hS (lv_sub hl [0, 1, 2, 3, 4] rfl)
          · have hf := (if_neg c6).symm.trans hf
            refine lv_aload_n S.1 S.2.1 dX12_grammar_141 rfl (lv_at hl 0 rfl) ?_
            refine r_get S hK hP (by decide) rfl rfl h_X12_grammar_X12 4 (by decide) k_X12_grammar_6 rfl dX12_grammar_142 ?_
            refine r_iconst S dX12_grammar_145 ?_
            refine lv_iload S.1 S.2.1 dX12_grammar_146 (lv_at hl 4 rfl) ?_
            refine r_imul S dX12_grammar_148 ?_
            refine lv_aload_n S.1 S.2.1 dX12_grammar_149 rfl (lv_at hl 0 rfl) ?_
            refine r_get S hK hP (by decide) rfl rfl h_X12_grammar_X12 3 (by decide) k_X12_grammar_5 rfl dX12_grammar_150 ?_
            refine lv_iload S.1 S.2.1 dX12_grammar_153 (lv_at hl 4 rfl) ?_
            obtain ⟨g7, hf⟩ := gd_some hf
            refine r_iald S hK hP (by decide) (n := 30) (fun _ => rfl) (by decide) g7 dX12_grammar_155 ?_
            refine r_iadd S dX12_grammar_156 ?_
            refine lv_aload_n S.1 S.2.1 dX12_grammar_157 rfl (lv_at hl 0 rfl) ?_
            refine r_get S hK hP (by decide) rfl rfl h_X12_grammar_X12 1 (by decide) k_X12_grammar_2 rfl dX12_grammar_158 ?_
            refine lv_iload_n S.1 S.2.1 dX12_grammar_161 rfl (lv_at hl 2 rfl) ?_
            refine r_iald S hK hP (by decide) (n := 60) (fun _ => rfl) (by decide) g2 dX12_grammar_162 ?_
            refine r_bipush S dX12_grammar_163 (by decide) ?_
            refine r_bipush S dX12_grammar_165 (by decide) ?_
            obtain ⟨y9, hq8, hf⟩ := bV_some hf
            refine r_callSI S hK hP hS [.int (zI (σ 1 x2_.toNat)), .int (zI 97), .int (zI 100)] (c_X12_in l D cy ad hO (σ 1 x2_.toNat) 97 100 σ hq8) (cw_X12_grammar_X12_in S.2.2.2.2) rfl hl.1 (rest := [.int (zI ((4 * x5_) + (σ 3 x5_.toNat))), .ref (ad 4)]) rfl (Nat.le_of_ble_eq_true rfl) dX12_grammar_167 ⟨Nat.zero_le _, Nat.zero_le _⟩ (fun H locs hP hS => ?_)
            obtain ⟨v10, hq, hf⟩ := bV_some hf
            have kJ0 : ∀ (H : Heap) (locs : List Loc) (ls : Array Slot), va_P D vwCl (WW 28 (cellM cy ad) ad σ) H → va_S (AC 28 ad) H0 H locs → lv_has ls 6 [(0, .ref (ad 0)), (1, .int (zI x1_)), (2, .int (zI x2_)), (3, .int (zI x3_)), (5, .int (zI x5_))] → W p l e rm_X12_grammar s m args below meth c H locs 0 0 Q (F0 m 197 ls [.int (zI v10), .int (zI ((4 * x5_) + (σ 3 x5_.toNat))), .ref (ad 4)]) := by
              intro H locs ls hP hS hl
              obtain ⟨g12, hf⟩ := gd_some hf
              obtain ⟨σ13, hσ13, hf⟩ := nm_some hf
              refine r_iast S hK hP hO hS (by decide) (n := 120) (fun _ => rfl) (by decide) g12 hσ13 dX12_grammar_197 (fun H locs hP hS => ?_)
              refine lv_aload_n S.1 S.2.1 dX12_grammar_198 rfl (lv_at hl 0 rfl) ?_
              refine r_get S hK hP (by decide) rfl rfl h_X12_grammar_X12 3 (by decide) k_X12_grammar_5 rfl dX12_grammar_199 ?_
              refine lv_iload S.1 S.2.1 dX12_grammar_202 (lv_at hl 4 rfl) ?_
              refine lv_dup2_11 S.1 S.2.1 dX12_grammar_204 rfl rfl ?_
              refine r_iald S hK hP (by decide) (n := 30) (fun _ => rfl) (by decide) g7 dX12_grammar_205 ?_
              refine r_iconst S dX12_grammar_206 ?_
              refine r_iadd S dX12_grammar_207 ?_
              obtain ⟨σ14, hσ14, hf⟩ := nm_some hf
              refine r_iast S hK hP hO hS (by decide) (n := 30) (fun _ => rfl) (by decide) g7 hσ14 dX12_grammar_208 (fun H locs hP hS => ?_)
              have e1 := Option.some.inj hf
              subst e1
              exact kJ0 _ _ _ hP hS (lv_sub hl [0, 1, 2, 3, 4] rfl)
            clear hf
            have hf := hq
            refine r_if_eq (tgt := 185) S dX12_grammar_170 (by decide) (fun c11 => ?_) (fun c11 => ?_)
            · have hf := (if_pos c11).symm.trans hf
              refine r_bipush S dX12_grammar_185 (by decide) ?_
              refine lv_aload_n S.1 S.2.1 dX12_grammar_187 rfl (lv_at hl 0 rfl) ?_
              refine r_get S hK hP (by decide) rfl rfl h_X12_grammar_X12 1 (by decide) k_X12_grammar_2 rfl dX12_grammar_188 ?_
              refine lv_iload_n S.1 S.2.1 dX12_grammar_191 rfl (lv_at hl 2 rfl) ?_
              refine r_iald S hK hP (by decide) (n := 60) (fun _ => rfl) (by decide) g2 dX12_grammar_192 ?_
              refine r_iadd S dX12_grammar_193 ?_
              refine r_bipush S dX12_grammar_194 (by decide) ?_
              refine r_isub S dX12_grammar_196 ?_
              have e1 := Option.some.inj hf
              subst e1
              exact kJ0 _ _ _ hP hS (lv_sub hl [0, 1, 2, 3, 4] rfl)
            · have hf := (if_neg c11).symm.trans hf
              refine lv_aload_n S.1 S.2.1 dX12_grammar_173 rfl (lv_at hl 0 rfl) ?_
              refine r_get S hK hP (by decide) rfl rfl h_X12_grammar_X12 1 (by decide) k_X12_grammar_2 rfl dX12_grammar_174 ?_
              refine lv_iload_n S.1 S.2.1 dX12_grammar_177 rfl (lv_at hl 2 rfl) ?_
              refine r_iald S hK hP (by decide) (n := 60) (fun _ => rfl) (by decide) g2 dX12_grammar_178 ?_
              refine r_bipush S dX12_grammar_179 (by decide) ?_
              refine r_isub S dX12_grammar_181 ?_
              refine lv_goto (tgt := 197) S.1 S.2.1 dX12_grammar_182 (by decide) ?_
              have e1 := Option.some.inj hf
              subst e1
              exact kJ0 _ _ _ hP hS (lv_sub hl [0, 1, 2, 3, 4] rfl)
set_option maxHeartbeats 4000000 in
set_option maxRecDepth 100000 in
theorem w_X12_grammar_L75 {p : Program} {l : Launch} {e : Env} {s : State} {m : MethodId} {args : Array Value} {below : List Frame} {meth : Method} {c : Code} {Q : State → Prop} {D : va_G} {cy : Nat → ClassId} {ad : Nat → Nat} {H0 : Heap} (hO : adOK 28 ad) (S : CallFix p m c cX12_grammar 6 s args wsX12_grammar RX12) (hK : KK D cy s) (n : Nat) (x1_ : Int) (x3_ : Int) {res : Int × Mem} (k0 : ∀ (y2_ : Int) (τ : Mem) (H2 : Heap) (locs2 : List Loc) (ls2 : Array Slot), res = (y2_, τ) → va_P D vwCl (WW 28 (cellM cy ad) ad τ) H2 → va_S (AC 28 ad) H0 H2 locs2 → lv_has ls2 6 [(0, .ref (ad 0)), (1, .int (zI x1_)), (2, .int (zI y2_))] → W p l e rm_X12_grammar s m args below meth c H2 locs2 0 0 Q (F0 m 257 ls2 [])) :
    ∀ (k : Nat) (x2_ : Int) (x4_ : Int) (σ : Mem) (H : Heap) (locs : List Loc) (ls : Array Slot), f_X12_grammar_L75 n x1_ x3_ k x2_ x4_ σ = some res → va_P D vwCl (WW 28 (cellM cy ad) ad σ) H → va_S (AC 28 ad) H0 H locs → lv_has ls 6 [(0, .ref (ad 0)), (1, .int (zI x1_)), (2, .int (zI x2_)), (3, .int (zI x3_)), (4, .int (zI x4_))] → W p l e rm_X12_grammar s m args below meth c H locs 0 0 Q (F0 m 75 ls []) := by
  intro k
  induction k with
  | zero =>
    intro x2_ x4_ σ H locs ls hf
    have hf : none = some res := hf
    cases hf
  | succ k ih =>
    intro x2_ x4_ σ H locs ls hf hP hS hl
    rw [f_X12_grammar_L75] at hf
    refine lv_iload S.1 S.2.1 dX12_grammar_75 (lv_at hl 4 rfl) ?_
    refine r_if_eq (tgt := 257) S dX12_grammar_77 (by decide) (fun c1 => ?_) (fun c1 => ?_)
    · have hf := (if_pos c1).symm.trans hf
      exact k0 _ _ _ _ _ (Option.some.inj hf).symm hP hS (lv_sub hl [0, 1, 2] rfl)
    · have hf := (if_neg c1).symm.trans hf
      refine r_iconst S dX12_grammar_80 ?_
      refine lv_iload_n S.1 S.2.1 dX12_grammar_81 rfl (lv_at hl 3 rfl) ?_
      refine r_imul S dX12_grammar_82 ?_
      refine lv_aload_n S.1 S.2.1 dX12_grammar_83 rfl (lv_at hl 0 rfl) ?_
      refine r_get S hK hP (by decide) rfl rfl h_X12_grammar_X12 2 (by decide) k_X12_grammar_1 rfl dX12_grammar_84 ?_
      refine lv_iload_n S.1 S.2.1 dX12_grammar_87 rfl (lv_at hl 3 rfl) ?_
      obtain ⟨g2, hf⟩ := gd_some hf
      refine r_iald S hK hP (by decide) (n := 6) (fun _ => rfl) (by decide) g2 dX12_grammar_88 ?_
      refine r_iadd S dX12_grammar_89 ?_
      obtain ⟨x3, hx3, hf⟩ := nm_some hf
      refine r_istore S hx3 (lv2 := [(5, .int (zI x3)), (0, .ref (ad 0)), (1, .int (zI x1_)), (2, .int (zI x2_)), (3, .int (zI x3_)), (4, .int (zI x4_))]) dX12_grammar_90 hl (by decide) rfl (fun ls hl => ?_)
      refine lv_aload_n S.1 S.2.1 dX12_grammar_92 rfl (lv_at hl 1 rfl) ?_
      refine r_get S hK hP (by decide) rfl rfl h_X12_grammar_X12 3 (by decide) k_X12_grammar_5 rfl dX12_grammar_93 ?_
      refine lv_iload S.1 S.2.1 dX12_grammar_96 (lv_at hl 0 rfl) ?_
      refine r_iconst S dX12_grammar_98 ?_
      obtain ⟨g4, hf⟩ := gd_some hf
      obtain ⟨σ5, hσ5, hf⟩ := nm_some hf
      refine r_iast S hK hP hO hS (by decide) (n := 30) (fun _ => rfl) (by decide) g4 hσ5 dX12_grammar_99 (fun H locs hP hS => ?_)
      obtain ⟨x6, σ7, hq, hf⟩ := bL1_some hf
      refine w_X12_grammar_L100 hO S hK n x1_ x3_ x3 (fun x6 σ7 H locs ls he hP hS hl => ?_) n x2_ σ5 _ _ _ hq hP hS (lv_sub hl [1, 2, 3, 4, 0] rfl)
      cases he
      refine lv_aload_n S.1 S.2.1 dX12_grammar_215 rfl (lv_at hl 0 rfl) ?_
      refine r_get S hK hP (by decide) rfl rfl h_X12_grammar_X12 2 (by decide) k_X12_grammar_1 rfl dX12_grammar_216 ?_
      refine lv_iload_n S.1 S.2.1 dX12_grammar_219 rfl (lv_at hl 3 rfl) ?_
      refine lv_dup2_11 S.1 S.2.1 dX12_grammar_220 rfl rfl ?_
      refine r_iald S hK hP (by decide) (n := 6) (fun _ => rfl) (by decide) g2 dX12_grammar_221 ?_
      refine r_iconst S dX12_grammar_222 ?_
      refine r_iadd S dX12_grammar_223 ?_
      obtain ⟨σ8, hσ8, hf⟩ := nm_some hf
      refine r_iast S hK hP hO hS (by decide) (n := 6) (fun _ => rfl) (by decide) g2 hσ8 dX12_grammar_224 (fun H locs hP hS => ?_)
      refine lv_iload_n S.1 S.2.1 dX12_grammar_225 rfl (lv_at hl 2 rfl) ?_
      refine lv_aload_n S.1 S.2.1 dX12_grammar_226 rfl (lv_at hl 0 rfl) ?_
      refine r_get S hK hP (by decide) rfl rfl h_X12_grammar_X12 0 (by decide) k_X12_grammar_4 rfl dX12_grammar_227 ?_
      obtain ⟨t9, hq, hf⟩ := bV_some hf
      have kJ0 : t9 = 0 → ∀ (H : Heap) (locs : List Loc) (ls : Array Slot), va_P D vwCl (WW 28 (cellM cy ad) ad σ8) H → va_S (AC 28 ad) H0 H locs → lv_has ls 6 [(0, .ref (ad 0)), (1, .int (zI x1_)), (2, .int (zI x6)), (3, .int (zI x3_))] → W p l e rm_X12_grammar s m args below meth c H locs 0 0 Q (F0 m 248 ls []) := by
        intro ht
        intro H locs ls hP hS hl
        have hf := (if_pos ht).symm.trans hf
        refine r_iconst S dX12_grammar_248 ?_
        refine r_istore S rfl (lv2 := [(4, .int (zI 0)), (0, .ref (ad 0)), (1, .int (zI x1_)), (2, .int (zI x6)), (3, .int (zI x3_))]) dX12_grammar_249 hl (by decide) rfl (fun ls hl => ?_)
        obtain ⟨x13, hx13, hf⟩ := nm_some hf
        refine r_iinc S hx13 (k0 := 3) (lv2 := [(2, .int (zI x13)), (4, .int (zI 0)), (0, .ref (ad 0)), (1, .int (zI x1_)), (3, .int (zI x3_))]) dX12_grammar_251 hl rfl (by decide) rfl (fun ls hl => ?_)
        refine lv_goto (tgt := 75) S.1 S.2.1 dX12_grammar_254 (by decide) ?_
        exact ih x13 0 σ8 _ _ _ hf hP hS (lv_sub hl [2, 3, 0, 4, 1] rfl)
      have kJ1 : t9 = 1 → ∀ (H : Heap) (locs : List Loc) (ls : Array Slot), va_P D vwCl (WW 28 (cellM cy ad) ad σ8) H → va_S (AC 28 ad) H0 H locs → lv_has ls 6 [(0, .ref (ad 0)), (1, .int (zI x1_)), (2, .int (zI x6)), (3, .int (zI x3_))] → W p l e rm_X12_grammar s m args below meth c H locs 0 0 Q (F0 m 244 ls []) := by
        intro ht
        intro H locs ls hP hS hl
        have hf := (if_neg (by rw [ht]; decide)).symm.trans hf
        refine r_iconst S dX12_grammar_244 ?_
        refine lv_goto (tgt := 249) S.1 S.2.1 dX12_grammar_245 (by decide) ?_
        refine r_istore S rfl (lv2 := [(4, .int (zI 1)), (0, .ref (ad 0)), (1, .int (zI x1_)), (2, .int (zI x6)), (3, .int (zI x3_))]) dX12_grammar_249 hl (by decide) rfl (fun ls hl => ?_)
        obtain ⟨x14, hx14, hf⟩ := nm_some hf
        refine r_iinc S hx14 (k0 := 3) (lv2 := [(2, .int (zI x14)), (4, .int (zI 1)), (0, .ref (ad 0)), (1, .int (zI x1_)), (3, .int (zI x3_))]) dX12_grammar_251 hl rfl (by decide) rfl (fun ls hl => ?_)
        refine lv_goto (tgt := 75) S.1 S.2.1 dX12_grammar_254 (by decide) ?_
        exact ih x14 1 σ8 _ _ _ hf hP hS (lv_sub hl [2, 3, 0, 4, 1] rfl)
      clear hf
      have hf := hq
      refine lv_icmp_ge (tgt := 248) S.1 S.2.1 dX12_grammar_230 (by decide) (fun c10 => ?_) (fun c10 => ?_)
      · have hf := (if_pos c10).symm.trans hf
        have e1 := Option.some.inj hf
        subst e1
        exact kJ0 rfl _ _ _ hP hS (lv_sub hl [0, 1, 2, 3] rfl)
      · have hf := (if_neg c10).symm.trans hf
        refine lv_aload_n S.1 S.2.1 dX12_grammar_233 rfl (lv_at hl 0 rfl) ?_
        refine r_get S hK hP (by decide) rfl rfl h_X12_grammar_X12 1 (by decide) k_X12_grammar_2 rfl dX12_grammar_234 ?_
        refine lv_iload_n S.1 S.2.1 dX12_grammar_237 rfl (lv_at hl 2 rfl) ?_
        obtain ⟨g11, hf⟩ := gd_some hf
        refine r_iald S hK hP (by decide) (n := 60) (fun _ => rfl) (by decide) g11 dX12_grammar_238 ?_
        refine r_bipush S dX12_grammar_239 (by decide) ?_
        refine lv_icmp_ne (tgt := 248) S.1 S.2.1 dX12_grammar_241 (by decide) (fun c12 => ?_) (fun c12 => ?_)
        · have hf := (if_neg c12).symm.trans hf
          have e1 := Option.some.inj hf
          subst e1
          exact kJ0 rfl _ _ _ hP hS (lv_sub hl [0, 1, 2, 3] rfl)
        · have hf := (if_pos c12).symm.trans hf
          have e1 := Option.some.inj hf
          subst e1
          exact kJ1 rfl _ _ _ hP hS (lv_sub hl [0, 1, 2, 3] rfl)
set_option maxHeartbeats 4000000 in
set_option maxRecDepth 100000 in
theorem w_X12_grammar_L48 {p : Program} {l : Launch} {e : Env} {s : State} {m : MethodId} {args : Array Value} {below : List Frame} {meth : Method} {c : Code} {Q : State → Prop} {D : va_G} {cy : Nat → ClassId} {ad : Nat → Nat} {H0 : Heap} (hO : adOK 28 ad) (S : CallFix p m c cX12_grammar 6 s args wsX12_grammar RX12) (hK : KK D cy s) (n : Nat) {res : Int × Mem} (k0 : ∀ (y1_ : Int) (τ : Mem) (H2 : Heap) (locs2 : List Loc) (ls2 : Array Slot), res = (y1_, τ) → va_P D vwCl (WW 28 (cellM cy ad) ad τ) H2 → va_S (AC 28 ad) H0 H2 locs2 → lv_has ls2 6 [(0, .ref (ad 0)), (1, .int (zI y1_))] → W p l e rm_X12_grammar s m args below meth c H2 locs2 0 0 Q (F0 m 260 ls2 [])) :
    ∀ (k : Nat) (x1_ : Int) (x2_ : Int) (σ : Mem) (H : Heap) (locs : List Loc) (ls : Array Slot), f_X12_grammar_L48 n k x1_ x2_ σ = some res → va_P D vwCl (WW 28 (cellM cy ad) ad σ) H → va_S (AC 28 ad) H0 H locs → lv_has ls 6 [(0, .ref (ad 0)), (1, .int (zI x1_)), (2, .int (zI x2_))] → W p l e rm_X12_grammar s m args below meth c H locs 0 0 Q (F0 m 48 ls []) := by
  intro k
  induction k with
  | zero =>
    intro x1_ x2_ σ H locs ls hf
    have hf : none = some res := hf
    cases hf
  | succ k ih =>
    intro x1_ x2_ σ H locs ls hf hP hS hl
    rw [f_X12_grammar_L48] at hf
    refine lv_iload_n S.1 S.2.1 dX12_grammar_48 rfl (lv_at hl 2 rfl) ?_
    refine lv_aload_n S.1 S.2.1 dX12_grammar_49 rfl (lv_at hl 0 rfl) ?_
    refine r_get S hK hP (by decide) rfl rfl h_X12_grammar_X12 0 (by decide) k_X12_grammar_4 rfl dX12_grammar_50 ?_
    refine lv_icmp_ge (tgt := 260) S.1 S.2.1 dX12_grammar_53 (by decide) (fun c1 => ?_) (fun c1 => ?_)
    · have hf := (if_pos c1).symm.trans hf
      exact k0 _ _ _ _ _ (Option.some.inj hf).symm hP hS (lv_sub hl [0, 1] rfl)
    · have hf := (if_neg c1).symm.trans hf
      refine lv_aload_n S.1 S.2.1 dX12_grammar_56 rfl (lv_at hl 0 rfl) ?_
      refine r_get S hK hP (by decide) rfl rfl h_X12_grammar_X12 1 (by decide) k_X12_grammar_2 rfl dX12_grammar_57 ?_
      refine lv_iload_n S.1 S.2.1 dX12_grammar_60 rfl (lv_at hl 2 rfl) ?_
      obtain ⟨g2, hf⟩ := gd_some hf
      refine r_iald S hK hP (by decide) (n := 60) (fun _ => rfl) (by decide) g2 dX12_grammar_61 ?_
      refine r_bipush S dX12_grammar_62 (by decide) ?_
      refine r_isub S dX12_grammar_64 ?_
      obtain ⟨x3, hx3, hf⟩ := nm_some hf
      refine r_istore_n S hx3 (lv2 := [(3, .int (zI x3)), (0, .ref (ad 0)), (1, .int (zI x1_)), (2, .int (zI x2_))]) dX12_grammar_65 rfl hl (by decide) rfl (fun ls hl => ?_)
      obtain ⟨x4, hx4, hf⟩ := nm_some hf
      refine r_iinc S hx4 (k0 := 2) (lv2 := [(1, .int (zI x4)), (3, .int (zI x3)), (0, .ref (ad 0)), (2, .int (zI x2_))]) dX12_grammar_66 hl rfl (by decide) rfl (fun ls hl => ?_)
      obtain ⟨x5, hx5, hf⟩ := nm_some hf
      refine r_iinc S hx5 (k0 := 3) (lv2 := [(2, .int (zI x5)), (1, .int (zI x4)), (3, .int (zI x3)), (0, .ref (ad 0))]) dX12_grammar_69 hl rfl (by decide) rfl (fun ls hl => ?_)
      refine r_iconst S dX12_grammar_72 ?_
      refine r_istore S rfl (lv2 := [(4, .int (zI 1)), (2, .int (zI x5)), (1, .int (zI x4)), (3, .int (zI x3)), (0, .ref (ad 0))]) dX12_grammar_73 hl (by decide) rfl (fun ls hl => ?_)
      obtain ⟨x6, σ7, hq, hf⟩ := bL1_some hf
      refine w_X12_grammar_L75 hO S hK n x4 x3 (fun x6 σ7 H locs ls he hP hS hl => ?_) n x5 1 σ _ _ _ hq hP hS (lv_sub hl [4, 2, 1, 3, 0] rfl)
      cases he
      refine lv_goto (tgt := 48) S.1 S.2.1 dX12_grammar_257 (by decide) ?_
      exact ih x4 x6 σ7 _ _ _ hf hP hS (lv_sub hl [0, 1, 2] rfl)
set_option maxHeartbeats 4000000 in
set_option maxRecDepth 100000 in
theorem c_X12_grammar (l : Launch) (D : va_G) (cy : Nat → ClassId) (ad : Nat → Nat) (hO : adOK 28 ad) (n : Nat) (σ : Mem) {v : Int} {τ : Mem} (hf : f_X12_grammar n σ = some (v, τ)) : Met l yX12_grammar wsX12_grammar rm_X12_grammar (va_Pc [.ref (ad 0)] (PreW D cy 28 (cellM cy ad) ad σ)) (QI D 28 (cellM cy ad) ad v τ) 0 0 (AC 28 ad) := by
  refine r_met (cc := cX12_grammar) (maxL := 6) (ret := (some .int)) (own := RX12) (by decide) rfl rfl [.ref (ad 0)] (Nat.le_of_ble_eq_true rfl) ?_
  intro p e s m below meth c ls S hK hP hlk hr hl
  have hS : va_S (AC 28 ad) s.heap s.heap [] := va_S.rf
  have hl : lv_has ls 6 [(0, .ref (ad 0))] := hl
  unfold f_X12_grammar at hf
  refine lv_aload_n S.1 S.2.1 dX12_grammar_0 rfl (lv_at hl 0 rfl) ?_
  obtain ⟨y2, hq1, hf⟩ := bV_some hf
  refine r_callVI S hK hP hS (by decide) rfl rfl [] (c_X12_faultOf l D cy ad hO n σ hq1) (cw_X12_grammar_X12_faultOf S.2.2.2.2) rfl hl.1 (rest := []) rfl (Nat.le_of_ble_eq_true rfl) dX12_grammar_1 ⟨Nat.zero_le _, Nat.zero_le _⟩ (fun H locs hP hS => ?_)
  refine r_if_lt (tgt := 10) S dX12_grammar_4 (by decide) (fun c3 => ?_) (fun c3 => ?_)
  · have hf := (if_pos c3).symm.trans hf
    refine r_iconst S dX12_grammar_10 ?_
    refine r_istore_n S rfl (lv2 := [(1, .int (zI 0)), (0, .ref (ad 0))]) dX12_grammar_11 rfl hl (by decide) rfl (fun ls hl => ?_)
    obtain ⟨σ4, hq, hf⟩ := bV_some hf
    refine w_X12_grammar_L12 hO S hK n (fun σ4 H locs ls he hP hS hl => ?_) n 0 σ _ _ _ hq hP hS (lv_sub hl [1, 0] rfl)
    cases he
    refine lv_aload_n S.1 S.2.1 dX12_grammar_31 rfl (lv_at hl 0 rfl) ?_
    refine lv_aload_n S.1 S.2.1 dX12_grammar_32 rfl (lv_at hl 0 rfl) ?_
    refine r_get S hK hP (by decide) rfl rfl h_X12_grammar_X12 1 (by decide) k_X12_grammar_2 rfl dX12_grammar_33 ?_
    refine r_iconst S dX12_grammar_36 ?_
    obtain ⟨g5, hf⟩ := gd_some hf
    refine r_iald S hK hP (by decide) (n := 60) (fun _ => rfl) (by decide) g5 dX12_grammar_37 ?_
    refine r_bipush S dX12_grammar_38 (by decide) ?_
    refine r_isub S dX12_grammar_40 ?_
    obtain ⟨σ6, hσ6, hf⟩ := nm_some hf
    refine r_put S hK hP hO hS (by decide) rfl rfl h_X12_grammar_X12 tyX12 tyX12_ok nmX12 5 (by decide) k_X12_grammar_3 rfl (tyX12_ok 5 (by decide)) rfl rfl (Nat.le_of_ble_eq_true rfl) hσ6 rfl dX12_grammar_41 (fun H locs hP hS => ?_)
    refine r_iconst S dX12_grammar_44 ?_
    refine r_istore_n S rfl (lv2 := [(1, .int (zI 0)), (0, .ref (ad 0))]) dX12_grammar_45 rfl hl (by decide) rfl (fun ls hl => ?_)
    refine r_iconst S dX12_grammar_46 ?_
    refine r_istore_n S rfl (lv2 := [(2, .int (zI 0)), (1, .int (zI 0)), (0, .ref (ad 0))]) dX12_grammar_47 rfl hl (by decide) rfl (fun ls hl => ?_)
    obtain ⟨x7, σ8, hq, hf⟩ := bL1_some hf
    refine w_X12_grammar_L48 hO S hK n (fun x7 σ8 H locs ls he hP hS hl => ?_) n 0 0 σ6 _ _ _ hq hP hS (lv_sub hl [2, 1, 0] rfl)
    cases he
    refine lv_aload_n S.1 S.2.1 dX12_grammar_260 rfl (lv_at hl 0 rfl) ?_
    refine r_iconst S dX12_grammar_261 ?_
    obtain ⟨σ9, hσ9, hf⟩ := nm_some hf
    refine r_put S hK hP hO hS (by decide) rfl rfl h_X12_grammar_X12 tyX12 tyX12_ok nmX12 0 (by decide) k_X12_grammar_4 rfl (tyX12_ok 0 (by decide)) rfl rfl (Nat.le_of_ble_eq_true rfl) hσ9 rfl dX12_grammar_262 (fun H locs hP hS => ?_)
    refine lv_aload_n S.1 S.2.1 dX12_grammar_265 rfl (lv_at hl 0 rfl) ?_
    obtain ⟨σ11, hq10, hf⟩ := bV_some hf
    refine r_callVV S hK hP hS (by decide) rfl rfl [] (c_X12_turn l D cy ad hO n σ9 hq10) (cw_X12_grammar_X12_turn S.2.2.2.2) rfl hl.1 (rest := []) rfl (Nat.le_of_ble_eq_true rfl) dX12_grammar_266 ⟨Nat.zero_le _, Nat.zero_le _⟩ (fun H locs hP hS => ?_)
    refine lv_iload_n S.1 S.2.1 dX12_grammar_269 rfl (lv_at hl 1 rfl) ?_
    obtain ⟨e1, e2⟩ := inj2 hf
    subst e1
    subst e2
    exact e_I S hlk hP hS hr dX12_grammar_270
  · have hf := (if_neg c3).symm.trans hf
    refine r_bipush S dX12_grammar_7 (by decide) ?_
    obtain ⟨e1, e2⟩ := inj2 hf
    subst e1
    subst e2
    exact e_I S hlk hP hS hr dX12_grammar_9
def rm_X12_is : Room := { frames := 3, cells := 0, slots := 0, locals := 83 }
theorem k_X12_is_1 : (.fieldLink RX12 37 "MendTextsModel" "cost" "[I" : Cond) ∈ wsX12_is := List.mem_of_getElem? (i := 1) (by decide +kernel)
theorem k_X12_is_2 : (.fieldLink RX12 140 "MendTextsModel" "letters" "I" : Cond) ∈ wsX12_is := List.mem_of_getElem? (i := 2) (by decide +kernel)
theorem h_X12_is_X12 : ∀ w ∈ u_ws RX12 TX12 36, w ∈ wsX12_is := mem_places _ [47, 48, 49, 50, 51, 52, 53, 54, 55, 56, 57, 58, 59, 60, 61, 62, 63, 64, 65, 66, 67, 68, 69, 70, 71, 72, 73, 74, 75, 76, 77, 78, 79, 80, 81, 82] (by decide +kernel)
theorem cw_X12_is_X12_isName {s : State} {args : Array Value} (hts : ∀ w ∈ wsX12_is, w.before args s = true) : CallB rm_X12_is s args RX12 111 yX12_isName cX12_isName 1 (some .boolean) wsX12_isName rm_X12_isName 0 0 1 ∧ (Cond.static yX12_isName).before args s = true := va_cwS 1 hts gX12_is_X12_isName rfl rfl rfl (by decide +kernel) ⟨Nat.le_of_ble_eq_true rfl, Nat.le_of_ble_eq_true rfl⟩
theorem cw_X12_is_X12_layMends {s : State} {args : Array Value} (hts : ∀ w ∈ wsX12_is, w.before args s = true) : CallW rm_X12_is s args RX12 RX12 143 yX12_layMends cX12_layMends 6 none wsX12_layMends rm_X12_layMends 0 0 0 := cwV 0 hts gX12_is_X12_layMends rfl rfl rfl (by decide +kernel) ⟨Nat.le_of_ble_eq_true rfl, Nat.le_of_ble_eq_true rfl⟩
theorem cw_X12_is_X12_take {s : State} {args : Array Value} (hts : ∀ w ∈ wsX12_is, w.before args s = true) : CallW rm_X12_is s args RX12 RX12 146 yX12_take cX12_take 3 none wsX12_take rm_X12_take 0 0 1 := cwV 1 hts gX12_is_X12_take rfl rfl rfl (by decide +kernel) ⟨Nat.le_of_ble_eq_true rfl, Nat.le_of_ble_eq_true rfl⟩
set_option maxHeartbeats 4000000 in
set_option maxRecDepth 100000 in
theorem c_X12_is (l : Launch) (D : va_G) (cy : Nat → ClassId) (ad : Nat → Nat) (hO : adOK 28 ad) (n : Nat) (a0 : Int) (σ : Mem) {v : Int} {τ : Mem} (hf : f_X12_is n a0 σ = some (v, τ)) : Met l yX12_is wsX12_is rm_X12_is (va_Pc [.ref (ad 0), .int (zI a0)] (PreW D cy 28 (cellM cy ad) ad σ)) (QI D 28 (cellM cy ad) ad v τ) 0 0 (AC 28 ad) := by
  refine r_met (cc := cX12_is) (maxL := 2) (ret := (some .int)) (own := RX12) (by decide) rfl rfl [.ref (ad 0), .int (zI a0)] (Nat.le_of_ble_eq_true rfl) ?_
  intro p e s m below meth c ls S hK hP hlk hr hl
  have hS : va_S (AC 28 ad) s.heap s.heap [] := va_S.rf
  have hl : lv_has ls 2 [(0, .ref (ad 0)), (1, .int (zI a0))] := hl
  unfold f_X12_is at hf
  refine lv_iload_n S.1 S.2.1 dX12_is_0 rfl (lv_at hl 1 rfl) ?_
  obtain ⟨y2, hq1, hf⟩ := bV_some hf
  refine r_callSI S hK hP hS [.int (zI a0)] (c_X12_isName l D cy ad hO a0 σ hq1) (cw_X12_is_X12_isName S.2.2.2.2) rfl hl.1 (rest := []) rfl (Nat.le_of_ble_eq_true rfl) dX12_is_1 ⟨Nat.zero_le _, Nat.zero_le _⟩ (fun H locs hP hS => ?_)
  refine r_if_ne (tgt := 9) S dX12_is_4 (by decide) (fun c3 => ?_) (fun c3 => ?_)
  · have hf := (if_neg c3).symm.trans hf
    refine lv_aload_n S.1 S.2.1 dX12_is_9 rfl (lv_at hl 0 rfl) ?_
    refine r_bipush S dX12_is_10 (by decide) ?_
    obtain ⟨σ5, hq4, hf⟩ := bV_some hf
    refine r_callVV S hK hP hS (by decide) rfl rfl [.int (zI ((-6)))] (c_X12_take l D cy ad hO n ((-6)) σ hq4) (cw_X12_is_X12_take S.2.2.2.2) rfl hl.1 (rest := []) rfl (Nat.le_of_ble_eq_true rfl) dX12_is_12 ⟨Nat.zero_le _, Nat.zero_le _⟩ (fun H locs hP hS => ?_)
    refine lv_aload_n S.1 S.2.1 dX12_is_15 rfl (lv_at hl 0 rfl) ?_
    obtain ⟨σ7, hq6, hf⟩ := bV_some hf
    refine r_callVV S hK hP hS (by decide) rfl rfl [] (c_X12_layMends l D cy ad hO n σ5 hq6) (cw_X12_is_X12_layMends S.2.2.2.2) rfl hl.1 (rest := []) rfl (Nat.le_of_ble_eq_true rfl) dX12_is_16 ⟨Nat.zero_le _, Nat.zero_le _⟩ (fun H locs hP hS => ?_)
    refine lv_aload_n S.1 S.2.1 dX12_is_19 rfl (lv_at hl 0 rfl) ?_
    refine r_get S hK hP (by decide) rfl rfl h_X12_is_X12 14 (by decide) k_X12_is_1 rfl dX12_is_20 ?_
    refine r_bipush S dX12_is_23 (by decide) ?_
    refine lv_iload_n S.1 S.2.1 dX12_is_25 rfl (lv_at hl 1 rfl) ?_
    refine r_imul S dX12_is_26 ?_
    refine lv_aload_n S.1 S.2.1 dX12_is_27 rfl (lv_at hl 0 rfl) ?_
    refine r_get S hK hP (by decide) rfl rfl h_X12_is_X12 6 (by decide) k_X12_is_2 rfl dX12_is_28 ?_
    refine r_iadd S dX12_is_31 ?_
    obtain ⟨g8, hf⟩ := gd_some hf
    refine r_iald S hK hP (by decide) (n := 294) (fun _ => rfl) (by decide) g8 dX12_is_32 ?_
    refine r_if_ne (tgt := 40) S dX12_is_33 (by decide) (fun c9 => ?_) (fun c9 => ?_)
    · have hf := (if_neg c9).symm.trans hf
      refine r_iconst S dX12_is_40 ?_
      obtain ⟨e1, e2⟩ := inj2 hf
      subst e1
      subst e2
      exact e_I S hlk hP hS hr dX12_is_41
    · have hf := (if_pos c9).symm.trans hf
      refine r_iconst S dX12_is_36 ?_
      refine lv_goto (tgt := 41) S.1 S.2.1 dX12_is_37 (by decide) ?_
      obtain ⟨e1, e2⟩ := inj2 hf
      subst e1
      subst e2
      exact e_I S hlk hP hS hr dX12_is_41
  · have hf := (if_pos c3).symm.trans hf
    refine r_iconst S dX12_is_7 ?_
    obtain ⟨e1, e2⟩ := inj2 hf
    subst e1
    subst e2
    exact e_I S hlk hP hS hr dX12_is_8
def rm_X12_isExample : Room := { frames := 1, cells := 0, slots := 0, locals := 22 }
theorem k_X12_isExample_1 : (.fieldLink RX12 187 "MendTextsModel" "examples" "I" : Cond) ∈ wsX12_isExample := List.mem_of_getElem? (i := 1) (by decide +kernel)
theorem h_X12_isExample_X12 : ∀ w ∈ u_ws RX12 TX12 36, w ∈ wsX12_isExample := mem_places _ [6, 7, 8, 9, 10, 11, 12, 13, 14, 15, 16, 17, 18, 19, 20, 21, 22, 23, 24, 25, 26, 27, 28, 29, 30, 31, 32, 33, 34, 35, 36, 37, 38, 39, 40, 41] (by decide +kernel)
theorem cw_X12_isExample_X12_in {s : State} {args : Array Value} (hts : ∀ w ∈ wsX12_isExample, w.before args s = true) : CallB rm_X12_isExample s args RX12 93 yX12_in cX12_in 3 (some .boolean) wsX12_in rm_X12_in 0 0 3 ∧ (Cond.static yX12_in).before args s = true := va_cwS 3 hts gX12_isExample_X12_in rfl rfl rfl (by decide +kernel) ⟨Nat.le_of_ble_eq_true rfl, Nat.le_of_ble_eq_true rfl⟩
set_option maxHeartbeats 4000000 in
set_option maxRecDepth 100000 in
theorem c_X12_isExample (l : Launch) (D : va_G) (cy : Nat → ClassId) (ad : Nat → Nat) (hO : adOK 28 ad) (a0 : Int) (σ : Mem) {v : Int} (hf : f_X12_isExample a0 σ = some v) : Met l yX12_isExample wsX12_isExample rm_X12_isExample (va_Pc [.ref (ad 0), .int (zI a0)] (PreW D cy 28 (cellM cy ad) ad σ)) (QI D 28 (cellM cy ad) ad v σ) 0 0 (AC 28 ad) := by
  refine r_met (cc := cX12_isExample) (maxL := 2) (ret := (some .boolean)) (own := RX12) (by decide) rfl rfl [.ref (ad 0), .int (zI a0)] (Nat.le_of_ble_eq_true rfl) ?_
  intro p e s m below meth c ls S hK hP hlk hr hl
  have hS : va_S (AC 28 ad) s.heap s.heap [] := va_S.rf
  have hl : lv_has ls 2 [(0, .ref (ad 0)), (1, .int (zI a0))] := hl
  unfold f_X12_isExample at hf
  refine lv_iload_n S.1 S.2.1 dX12_isExample_0 rfl (lv_at hl 1 rfl) ?_
  refine r_iconst S dX12_isExample_1 ?_
  refine lv_aload_n S.1 S.2.1 dX12_isExample_2 rfl (lv_at hl 0 rfl) ?_
  refine r_get S hK hP (by decide) rfl rfl h_X12_isExample_X12 8 (by decide) k_X12_isExample_1 rfl dX12_isExample_3 ?_
  refine r_iconst S dX12_isExample_6 ?_
  refine r_isub S dX12_isExample_7 ?_
  obtain ⟨y2, hq1, hf⟩ := bV_some hf
  refine r_callSI S hK hP hS [.int (zI a0), .int (zI 0), .int (zI ((σ 0 8) - 1))] (c_X12_in l D cy ad hO a0 0 ((σ 0 8) - 1) σ hq1) (cw_X12_isExample_X12_in S.2.2.2.2) rfl hl.1 (rest := []) rfl (Nat.le_of_ble_eq_true rfl) dX12_isExample_8 ⟨Nat.zero_le _, Nat.zero_le _⟩ (fun H locs hP hS => ?_)
  obtain ⟨hb3, hf⟩ := gd_some hf
  have e1 := Option.some.inj hf
  subst e1
  exact e_Z S hlk hP hS hb3 hr dX12_isExample_11
def rm_X12_layText : Room := { frames := 3, cells := 0, slots := 0, locals := 83 }
theorem k_X12_layText_1 : (.fieldLink RX12 105 "MendTextsModel" "first" "I" : Cond) ∈ wsX12_layText := List.mem_of_getElem? (i := 1) (by decide +kernel)
theorem k_X12_layText_2 : (.fieldLink RX12 140 "MendTextsModel" "letters" "I" : Cond) ∈ wsX12_layText := List.mem_of_getElem? (i := 2) (by decide +kernel)
theorem k_X12_layText_3 : (.fieldLink RX12 37 "MendTextsModel" "cost" "[I" : Cond) ∈ wsX12_layText := List.mem_of_getElem? (i := 3) (by decide +kernel)
theorem k_X12_layText_4 : (.constant RX12 124 (100000000) : Cond) ∈ wsX12_layText := List.mem_of_getElem? (i := 4) (by decide +kernel)
theorem k_X12_layText_5 : (.fieldLink RX12 40 "MendTextsModel" "length" "[I" : Cond) ∈ wsX12_layText := List.mem_of_getElem? (i := 5) (by decide +kernel)
theorem h_X12_layText_X12 : ∀ w ∈ u_ws RX12 TX12 36, w ∈ wsX12_layText := mem_places _ [42, 43, 44, 45, 46, 47, 48, 49, 50, 51, 52, 53, 54, 55, 56, 57, 58, 59, 60, 61, 62, 63, 64, 65, 66, 67, 68, 69, 70, 71, 72, 73, 74, 75, 76, 77] (by decide +kernel)
theorem cw_X12_layText_X12_layMends {s : State} {args : Array Value} (hts : ∀ w ∈ wsX12_layText, w.before args s = true) : CallW rm_X12_layText s args RX12 RX12 143 yX12_layMends cX12_layMends 6 none wsX12_layMends rm_X12_layMends 0 0 0 := cwV 0 hts gX12_layText_X12_layMends rfl rfl rfl (by decide +kernel) ⟨Nat.le_of_ble_eq_true rfl, Nat.le_of_ble_eq_true rfl⟩
theorem cw_X12_layText_X12_take {s : State} {args : Array Value} (hts : ∀ w ∈ wsX12_layText, w.before args s = true) : CallW rm_X12_layText s args RX12 RX12 146 yX12_take cX12_take 3 none wsX12_take rm_X12_take 0 0 1 := cwV 1 hts gX12_layText_X12_take rfl rfl rfl (by decide +kernel) ⟨Nat.le_of_ble_eq_true rfl, Nat.le_of_ble_eq_true rfl⟩
set_option maxHeartbeats 4000000 in
set_option maxRecDepth 100000 in
theorem c_X12_layText (l : Launch) (D : va_G) (cy : Nat → ClassId) (ad : Nat → Nat) (hO : adOK 28 ad) (n : Nat) (σ : Mem) {v : Int} {τ : Mem} (hf : f_X12_layText n σ = some (v, τ)) : Met l yX12_layText wsX12_layText rm_X12_layText (va_Pc [.ref (ad 0)] (PreW D cy 28 (cellM cy ad) ad σ)) (QI D 28 (cellM cy ad) ad v τ) 0 0 (AC 28 ad) := by
  refine r_met (cc := cX12_layText) (maxL := 2) (ret := (some .int)) (own := RX12) (by decide) rfl rfl [.ref (ad 0)] (Nat.le_of_ble_eq_true rfl) ?_
  intro p e s m below meth c ls S hK hP hlk hr hl
  have hS : va_S (AC 28 ad) s.heap s.heap [] := va_S.rf
  have hl : lv_has ls 2 [(0, .ref (ad 0))] := hl
  unfold f_X12_layText at hf
  refine lv_aload_n S.1 S.2.1 dX12_layText_0 rfl (lv_at hl 0 rfl) ?_
  refine r_bipush S dX12_layText_1 (by decide) ?_
  obtain ⟨σ2, hq1, hf⟩ := bV_some hf
  refine r_callVV S hK hP hS (by decide) rfl rfl [.int (zI ((-6)))] (c_X12_take l D cy ad hO n ((-6)) σ hq1) (cw_X12_layText_X12_take S.2.2.2.2) rfl hl.1 (rest := []) rfl (Nat.le_of_ble_eq_true rfl) dX12_layText_3 ⟨Nat.zero_le _, Nat.zero_le _⟩ (fun H locs hP hS => ?_)
  refine lv_aload_n S.1 S.2.1 dX12_layText_6 rfl (lv_at hl 0 rfl) ?_
  obtain ⟨σ4, hq3, hf⟩ := bV_some hf
  refine r_callVV S hK hP hS (by decide) rfl rfl [] (c_X12_layMends l D cy ad hO n σ2 hq3) (cw_X12_layText_X12_layMends S.2.2.2.2) rfl hl.1 (rest := []) rfl (Nat.le_of_ble_eq_true rfl) dX12_layText_7 ⟨Nat.zero_le _, Nat.zero_le _⟩ (fun H locs hP hS => ?_)
  refine r_bipush S dX12_layText_10 (by decide) ?_
  refine lv_aload_n S.1 S.2.1 dX12_layText_12 rfl (lv_at hl 0 rfl) ?_
  refine r_get S hK hP (by decide) rfl rfl h_X12_layText_X12 5 (by decide) k_X12_layText_1 rfl dX12_layText_13 ?_
  refine r_imul S dX12_layText_16 ?_
  refine lv_aload_n S.1 S.2.1 dX12_layText_17 rfl (lv_at hl 0 rfl) ?_
  refine r_get S hK hP (by decide) rfl rfl h_X12_layText_X12 6 (by decide) k_X12_layText_2 rfl dX12_layText_18 ?_
  refine r_iadd S dX12_layText_21 ?_
  obtain ⟨x5, hx5, hf⟩ := nm_some hf
  refine r_istore_n S hx5 (lv2 := [(1, .int (zI x5)), (0, .ref (ad 0))]) dX12_layText_22 rfl hl (by decide) rfl (fun ls hl => ?_)
  refine lv_aload_n S.1 S.2.1 dX12_layText_23 rfl (lv_at hl 1 rfl) ?_
  refine r_get S hK hP (by decide) rfl rfl h_X12_layText_X12 14 (by decide) k_X12_layText_3 rfl dX12_layText_24 ?_
  refine lv_iload_n S.1 S.2.1 dX12_layText_27 rfl (lv_at hl 0 rfl) ?_
  obtain ⟨g6, hf⟩ := gd_some hf
  refine r_iald S hK hP (by decide) (n := 294) (fun _ => rfl) (by decide) g6 dX12_layText_28 ?_
  refine r_ldc S 100000000 (by decide +kernel) k_X12_layText_4 dX12_layText_29 ?_
  refine lv_icmp_lt (tgt := 39) S.1 S.2.1 dX12_layText_31 (by decide) (fun c7 => ?_) (fun c7 => ?_)
  · have hf := (if_pos c7).symm.trans hf
    refine lv_aload_n S.1 S.2.1 dX12_layText_39 rfl (lv_at hl 1 rfl) ?_
    refine r_get S hK hP (by decide) rfl rfl h_X12_layText_X12 15 (by decide) k_X12_layText_5 rfl dX12_layText_40 ?_
    refine lv_iload_n S.1 S.2.1 dX12_layText_43 rfl (lv_at hl 0 rfl) ?_
    refine r_iald S hK hP (by decide) (n := 294) (fun _ => rfl) (by decide) g6 dX12_layText_44 ?_
    refine r_bipush S dX12_layText_45 (by decide) ?_
    refine lv_icmp_le (tgt := 55) S.1 S.2.1 dX12_layText_47 (by decide) (fun c8 => ?_) (fun c8 => ?_)
    · have hf := (if_pos c8).symm.trans hf
      refine r_iconst S dX12_layText_55 ?_
      obtain ⟨e1, e2⟩ := inj2 hf
      subst e1
      subst e2
      exact e_I S hlk hP hS hr dX12_layText_56
    · have hf := (if_neg c8).symm.trans hf
      refine r_bipush S dX12_layText_50 (by decide) ?_
      refine lv_goto (tgt := 56) S.1 S.2.1 dX12_layText_52 (by decide) ?_
      obtain ⟨e1, e2⟩ := inj2 hf
      subst e1
      subst e2
      exact e_I S hlk hP hS hr dX12_layText_56
  · have hf := (if_neg c7).symm.trans hf
    refine r_bipush S dX12_layText_34 (by decide) ?_
    refine lv_goto (tgt := 56) S.1 S.2.1 dX12_layText_36 (by decide) ?_
    obtain ⟨e1, e2⟩ := inj2 hf
    subst e1
    subst e2
    exact e_I S hlk hP hS hr dX12_layText_56
def rm_X12_pairCost : Room := { frames := 0, cells := 0, slots := 0, locals := 0 }
theorem k_X12_pairCost_1 : (.fieldLink RX12 34 "MendTextsModel" "hand" "[I" : Cond) ∈ wsX12_pairCost := List.mem_of_getElem? (i := 1) (by decide +kernel)
theorem k_X12_pairCost_2 : (.fieldLink RX12 62 "MendTextsModel" "other" "[I" : Cond) ∈ wsX12_pairCost := List.mem_of_getElem? (i := 2) (by decide +kernel)
theorem k_X12_pairCost_3 : (.fieldLink RX12 31 "MendTextsModel" "costs" "[I" : Cond) ∈ wsX12_pairCost := List.mem_of_getElem? (i := 3) (by decide +kernel)
theorem h_X12_pairCost_X12 : ∀ w ∈ u_ws RX12 TX12 36, w ∈ wsX12_pairCost := mem_places _ [4, 5, 6, 7, 8, 9, 10, 11, 12, 13, 14, 15, 16, 17, 18, 19, 20, 21, 22, 23, 24, 25, 26, 27, 28, 29, 30, 31, 32, 33, 34, 35, 36, 37, 38, 39] (by decide +kernel)
set_option maxHeartbeats 4000000 in
set_option maxRecDepth 100000 in
theorem c_X12_pairCost (l : Launch) (D : va_G) (cy : Nat → ClassId) (ad : Nat → Nat) (hO : adOK 28 ad) (a0 : Int) (a1 : Int) (σ : Mem) {v : Int} (hf : f_X12_pairCost a0 a1 σ = some v) : Met l yX12_pairCost wsX12_pairCost rm_X12_pairCost (va_Pc [.ref (ad 0), .int (zI a0), .int (zI a1)] (PreW D cy 28 (cellM cy ad) ad σ)) (QI D 28 (cellM cy ad) ad v σ) 0 0 (AC 28 ad) := by
  refine r_met (cc := cX12_pairCost) (maxL := 3) (ret := (some .int)) (own := RX12) (by decide) rfl rfl [.ref (ad 0), .int (zI a0), .int (zI a1)] (Nat.le_of_ble_eq_true rfl) ?_
  intro p e s m below meth c ls S hK hP hlk hr hl
  have hS : va_S (AC 28 ad) s.heap s.heap [] := va_S.rf
  have hl : lv_has ls 3 [(0, .ref (ad 0)), (1, .int (zI a0)), (2, .int (zI a1))] := hl
  unfold f_X12_pairCost at hf
  refine lv_aload_n S.1 S.2.1 dX12_pairCost_0 rfl (lv_at hl 0 rfl) ?_
  refine r_get S hK hP (by decide) rfl rfl h_X12_pairCost_X12 13 (by decide) k_X12_pairCost_1 rfl dX12_pairCost_1 ?_
  refine lv_iload_n S.1 S.2.1 dX12_pairCost_4 rfl (lv_at hl 1 rfl) ?_
  obtain ⟨g1, hf⟩ := gd_some hf
  refine r_iald S hK hP (by decide) (n := 6) (fun _ => rfl) (by decide) g1 dX12_pairCost_5 ?_
  refine lv_aload_n S.1 S.2.1 dX12_pairCost_6 rfl (lv_at hl 0 rfl) ?_
  refine r_get S hK hP (by decide) rfl rfl h_X12_pairCost_X12 26 (by decide) k_X12_pairCost_2 rfl dX12_pairCost_7 ?_
  refine lv_iload_n S.1 S.2.1 dX12_pairCost_10 rfl (lv_at hl 2 rfl) ?_
  obtain ⟨g2, hf⟩ := gd_some hf
  refine r_iald S hK hP (by decide) (n := 12) (fun _ => rfl) (by decide) g2 dX12_pairCost_11 ?_
  refine lv_icmp_ne (tgt := 19) S.1 S.2.1 dX12_pairCost_12 (by decide) (fun c3 => ?_) (fun c3 => ?_)
  · have hf := (if_neg c3).symm.trans hf
    refine lv_aload_n S.1 S.2.1 dX12_pairCost_19 rfl (lv_at hl 0 rfl) ?_
    refine r_get S hK hP (by decide) rfl rfl h_X12_pairCost_X12 11 (by decide) k_X12_pairCost_3 rfl dX12_pairCost_20 ?_
    refine r_iconst S dX12_pairCost_23 ?_
    obtain ⟨g4, hf⟩ := gd_some hf
    refine r_iald S hK hP (by decide) (n := 3) (fun _ => rfl) (by decide) g4 dX12_pairCost_24 ?_
    have e1 := Option.some.inj hf
    subst e1
    exact e_I S hlk hP hS hr dX12_pairCost_25
  · have hf := (if_pos c3).symm.trans hf
    refine r_iconst S dX12_pairCost_15 ?_
    refine lv_goto (tgt := 25) S.1 S.2.1 dX12_pairCost_16 (by decide) ?_
    have e1 := Option.some.inj hf
    subst e1
    exact e_I S hlk hP hS hr dX12_pairCost_25
def rm_X12_layRows : Room := { frames := 1, cells := 0, slots := 0, locals := 24 }
theorem k_X12_layRows_1 : (.fieldLink RX12 65 "MendTextsModel" "ahead" "[I" : Cond) ∈ wsX12_layRows := List.mem_of_getElem? (i := 1) (by decide +kernel)
theorem k_X12_layRows_2 : (.constant RX12 124 (100000000) : Cond) ∈ wsX12_layRows := List.mem_of_getElem? (i := 2) (by decide +kernel)
theorem k_X12_layRows_3 : (.fieldLink RX12 68 "MendTextsModel" "behind" "[I" : Cond) ∈ wsX12_layRows := List.mem_of_getElem? (i := 3) (by decide +kernel)
theorem k_X12_layRows_4 : (.fieldLink RX12 71 "MendTextsModel" "aheadWays" "[J" : Cond) ∈ wsX12_layRows := List.mem_of_getElem? (i := 4) (by decide +kernel)
theorem k_X12_layRows_5 : (.fieldLink RX12 75 "MendTextsModel" "behindWays" "[J" : Cond) ∈ wsX12_layRows := List.mem_of_getElem? (i := 5) (by decide +kernel)
theorem k_X12_layRows_6 : (.fieldLink RX12 133 "MendTextsModel" "handMany" "I" : Cond) ∈ wsX12_layRows := List.mem_of_getElem? (i := 6) (by decide +kernel)
theorem k_X12_layRows_7 : (.fieldLink RX12 165 "MendTextsModel" "otherMany" "I" : Cond) ∈ wsX12_layRows := List.mem_of_getElem? (i := 7) (by decide +kernel)
theorem k_X12_layRows_8 : (.fieldLink RX12 31 "MendTextsModel" "costs" "[I" : Cond) ∈ wsX12_layRows := List.mem_of_getElem? (i := 8) (by decide +kernel)
theorem h_X12_layRows_X12 : ∀ w ∈ u_ws RX12 TX12 36, w ∈ wsX12_layRows := mem_places _ [24, 25, 26, 27, 28, 29, 30, 31, 32, 33, 34, 35, 36, 37, 38, 39, 40, 41, 42, 43, 44, 45, 46, 47, 48, 49, 50, 51, 52, 53, 54, 55, 56, 57, 58, 59] (by decide +kernel)
theorem cw_X12_layRows_X12_addAhead {s : State} {args : Array Value} (hts : ∀ w ∈ wsX12_layRows, w.before args s = true) : CallW rm_X12_layRows s args RX12 RX12 168 yX12_addAhead cX12_addAhead 5 none wsX12_addAhead rm_X12_addAhead 0 0 3 := cwV 3 hts gX12_layRows_X12_addAhead rfl rfl rfl (by decide +kernel) ⟨Nat.le_of_ble_eq_true rfl, Nat.le_of_ble_eq_true rfl⟩
theorem cw_X12_layRows_X12_addBehind {s : State} {args : Array Value} (hts : ∀ w ∈ wsX12_layRows, w.before args s = true) : CallW rm_X12_layRows s args RX12 RX12 175 yX12_addBehind cX12_addBehind 5 none wsX12_addBehind rm_X12_addBehind 0 0 3 := cwV 3 hts gX12_layRows_X12_addBehind rfl rfl rfl (by decide +kernel) ⟨Nat.le_of_ble_eq_true rfl, Nat.le_of_ble_eq_true rfl⟩
theorem cw_X12_layRows_X12_pairCost {s : State} {args : Array Value} (hts : ∀ w ∈ wsX12_layRows, w.before args s = true) : CallW rm_X12_layRows s args RX12 RX12 171 yX12_pairCost cX12_pairCost 3 (some .int) wsX12_pairCost rm_X12_pairCost 0 0 2 := cwV 2 hts gX12_layRows_X12_pairCost rfl rfl rfl (by decide +kernel) ⟨Nat.le_of_ble_eq_true rfl, Nat.le_of_ble_eq_true rfl⟩
set_option maxHeartbeats 4000000 in
set_option maxRecDepth 100000 in
theorem w_X12_layRows_L2 {p : Program} {l : Launch} {e : Env} {s : State} {m : MethodId} {args : Array Value} {below : List Frame} {meth : Method} {c : Code} {Q : State → Prop} {D : va_G} {cy : Nat → ClassId} {ad : Nat → Nat} {H0 : Heap} (hO : adOK 28 ad) (S : CallFix p m c cX12_layRows 4 s args wsX12_layRows RX12) (hK : KK D cy s) (n : Nat) {res : Mem} (k0 : ∀ (τ : Mem) (H2 : Heap) (locs2 : List Loc) (ls2 : Array Slot), res = τ → va_P D vwCl (WW 28 (cellM cy ad) ad τ) H2 → va_S (AC 28 ad) H0 H2 locs2 → lv_has ls2 4 [(0, .ref (ad 0))] → W p l e rm_X12_layRows s m args below meth c H2 locs2 0 0 Q (F0 m 44 ls2 [])) :
    ∀ (k : Nat) (x1_ : Int) (σ : Mem) (H : Heap) (locs : List Loc) (ls : Array Slot), f_X12_layRows_L2 n k x1_ σ = some res → va_P D vwCl (WW 28 (cellM cy ad) ad σ) H → va_S (AC 28 ad) H0 H locs → lv_has ls 4 [(0, .ref (ad 0)), (1, .int (zI x1_))] → W p l e rm_X12_layRows s m args below meth c H locs 0 0 Q (F0 m 2 ls []) := by
  intro k
  induction k with
  | zero =>
    intro x1_ σ H locs ls hf
    have hf : none = some res := hf
    cases hf
  | succ k ih =>
    intro x1_ σ H locs ls hf hP hS hl
    rw [f_X12_layRows_L2] at hf
    refine lv_iload_n S.1 S.2.1 dX12_layRows_2 rfl (lv_at hl 1 rfl) ?_
    refine r_bipush S dX12_layRows_3 (by decide) ?_
    refine lv_icmp_ge (tgt := 44) S.1 S.2.1 dX12_layRows_5 (by decide) (fun c1 => ?_) (fun c1 => ?_)
    · have hf := (if_pos c1).symm.trans hf
      exact k0 _ _ _ _ (Option.some.inj hf).symm hP hS (lv_sub hl [0] rfl)
    · have hf := (if_neg c1).symm.trans hf
      refine lv_aload_n S.1 S.2.1 dX12_layRows_8 rfl (lv_at hl 0 rfl) ?_
      refine r_get S hK hP (by decide) rfl rfl h_X12_layRows_X12 27 (by decide) k_X12_layRows_1 rfl dX12_layRows_9 ?_
      refine lv_iload_n S.1 S.2.1 dX12_layRows_12 rfl (lv_at hl 1 rfl) ?_
      refine r_ldc S 100000000 (by decide +kernel) k_X12_layRows_2 dX12_layRows_13 ?_
      obtain ⟨g2, hf⟩ := gd_some hf
      obtain ⟨σ3, hσ3, hf⟩ := nm_some hf
      refine r_iast S hK hP hO hS (by decide) (n := 91) (fun _ => rfl) (by decide) g2 hσ3 dX12_layRows_15 (fun H locs hP hS => ?_)
      refine lv_aload_n S.1 S.2.1 dX12_layRows_16 rfl (lv_at hl 0 rfl) ?_
      refine r_get S hK hP (by decide) rfl rfl h_X12_layRows_X12 28 (by decide) k_X12_layRows_3 rfl dX12_layRows_17 ?_
      refine lv_iload_n S.1 S.2.1 dX12_layRows_20 rfl (lv_at hl 1 rfl) ?_
      refine r_ldc S 100000000 (by decide +kernel) k_X12_layRows_2 dX12_layRows_21 ?_
      obtain ⟨σ4, hσ4, hf⟩ := nm_some hf
      refine r_iast S hK hP hO hS (by decide) (n := 91) (fun _ => rfl) (by decide) g2 hσ4 dX12_layRows_23 (fun H locs hP hS => ?_)
      refine lv_aload_n S.1 S.2.1 dX12_layRows_24 rfl (lv_at hl 0 rfl) ?_
      refine r_get S hK hP (by decide) rfl rfl h_X12_layRows_X12 29 (by decide) k_X12_layRows_4 rfl dX12_layRows_25 ?_
      refine lv_iload_n S.1 S.2.1 dX12_layRows_28 rfl (lv_at hl 1 rfl) ?_
      refine r_lconst S 0 (by decide) dX12_layRows_29 ?_
      obtain ⟨σ5, hσ5, hf⟩ := nm_some hf
      refine r_last S hK hP hO hS (by decide) (n := 91) (fun _ => rfl) (by decide) g2 hσ5 dX12_layRows_30 (fun H locs hP hS => ?_)
      refine lv_aload_n S.1 S.2.1 dX12_layRows_31 rfl (lv_at hl 0 rfl) ?_
      refine r_get S hK hP (by decide) rfl rfl h_X12_layRows_X12 30 (by decide) k_X12_layRows_5 rfl dX12_layRows_32 ?_
      refine lv_iload_n S.1 S.2.1 dX12_layRows_35 rfl (lv_at hl 1 rfl) ?_
      refine r_lconst S 0 (by decide) dX12_layRows_36 ?_
      obtain ⟨σ6, hσ6, hf⟩ := nm_some hf
      refine r_last S hK hP hO hS (by decide) (n := 91) (fun _ => rfl) (by decide) g2 hσ6 dX12_layRows_37 (fun H locs hP hS => ?_)
      obtain ⟨x7, hx7, hf⟩ := nm_some hf
      refine r_iinc S hx7 (k0 := 1) (lv2 := [(1, .int (zI x7)), (0, .ref (ad 0))]) dX12_layRows_38 hl rfl (by decide) rfl (fun ls hl => ?_)
      refine lv_goto (tgt := 2) S.1 S.2.1 dX12_layRows_41 (by decide) ?_
      exact ih x7 σ6 _ _ _ hf hP hS (lv_sub hl [1, 0] rfl)
set_option maxHeartbeats 4000000 in
set_option maxRecDepth 100000 in
theorem w_X12_layRows_L56 {p : Program} {l : Launch} {e : Env} {s : State} {m : MethodId} {args : Array Value} {below : List Frame} {meth : Method} {c : Code} {Q : State → Prop} {D : va_G} {cy : Nat → ClassId} {ad : Nat → Nat} {H0 : Heap} (hO : adOK 28 ad) (S : CallFix p m c cX12_layRows 4 s args wsX12_layRows RX12) (hK : KK D cy s) (n : Nat) (x1_ : Int) {res : Mem} (k0 : ∀ (τ : Mem) (H2 : Heap) (locs2 : List Loc) (ls2 : Array Slot), res = τ → va_P D vwCl (WW 28 (cellM cy ad) ad τ) H2 → va_S (AC 28 ad) H0 H2 locs2 → lv_has ls2 4 [(0, .ref (ad 0)), (1, .int (zI x1_))] → W p l e rm_X12_layRows s m args below meth c H2 locs2 0 0 Q (F0 m 159 ls2 [])) :
    ∀ (k : Nat) (x2_ : Int) (σ : Mem) (H : Heap) (locs : List Loc) (ls : Array Slot), f_X12_layRows_L56 n x1_ k x2_ σ = some res → va_P D vwCl (WW 28 (cellM cy ad) ad σ) H → va_S (AC 28 ad) H0 H locs → lv_has ls 4 [(0, .ref (ad 0)), (1, .int (zI x1_)), (2, .int (zI x2_))] → W p l e rm_X12_layRows s m args below meth c H locs 0 0 Q (F0 m 56 ls []) := by
  intro k
  induction k with
  | zero =>
    intro x2_ σ H locs ls hf
    have hf : none = some res := hf
    cases hf
  | succ k ih =>
    intro x2_ σ H locs ls hf hP hS hl
    rw [f_X12_layRows_L56] at hf
    refine lv_iload_n S.1 S.2.1 dX12_layRows_56 rfl (lv_at hl 2 rfl) ?_
    refine lv_aload_n S.1 S.2.1 dX12_layRows_57 rfl (lv_at hl 0 rfl) ?_
    refine r_get S hK hP (by decide) rfl rfl h_X12_layRows_X12 25 (by decide) k_X12_layRows_7 rfl dX12_layRows_58 ?_
    refine lv_icmp_gt (tgt := 159) S.1 S.2.1 dX12_layRows_61 (by decide) (fun c1 => ?_) (fun c1 => ?_)
    · have hf := (if_pos c1).symm.trans hf
      exact k0 _ _ _ _ (Option.some.inj hf).symm hP hS (lv_sub hl [0, 1] rfl)
    · have hf := (if_neg c1).symm.trans hf
      refine r_bipush S dX12_layRows_64 (by decide) ?_
      refine lv_iload_n S.1 S.2.1 dX12_layRows_66 rfl (lv_at hl 1 rfl) ?_
      refine r_imul S dX12_layRows_67 ?_
      refine lv_iload_n S.1 S.2.1 dX12_layRows_68 rfl (lv_at hl 2 rfl) ?_
      refine r_iadd S dX12_layRows_69 ?_
      obtain ⟨x2, hx2, hf⟩ := nm_some hf
      refine r_istore_n S hx2 (lv2 := [(3, .int (zI x2)), (0, .ref (ad 0)), (1, .int (zI x1_)), (2, .int (zI x2_))]) dX12_layRows_70 rfl hl (by decide) rfl (fun ls hl => ?_)
      refine lv_iload_n S.1 S.2.1 dX12_layRows_71 rfl (lv_at hl 0 rfl) ?_
      obtain ⟨σ3, hq, hf⟩ := bV_some hf
      have kJ0 : ∀ (H : Heap) (locs : List Loc) (ls : Array Slot), va_P D vwCl (WW 28 (cellM cy ad) ad σ3) H → va_S (AC 28 ad) H0 H locs → lv_has ls 4 [(0, .ref (ad 0)), (1, .int (zI x1_)), (2, .int (zI x2_)), (3, .int (zI x2))] → W p l e rm_X12_layRows s m args below meth c H locs 0 0 Q (F0 m 89 ls []) := by
        intro H locs ls hP hS hl
        refine lv_iload_n S.1 S.2.1 dX12_layRows_89 rfl (lv_at hl 1 rfl) ?_
        obtain ⟨σ8, hq, hf⟩ := bV_some hf
        have kJ0 : ∀ (H : Heap) (locs : List Loc) (ls : Array Slot), va_P D vwCl (WW 28 (cellM cy ad) ad σ8) H → va_S (AC 28 ad) H0 H locs → lv_has ls 4 [(0, .ref (ad 0)), (1, .int (zI x1_)), (2, .int (zI x2_)), (3, .int (zI x2))] → W p l e rm_X12_layRows s m args below meth c H locs 0 0 Q (F0 m 108 ls []) := by
          intro H locs ls hP hS hl
          refine lv_iload_n S.1 S.2.1 dX12_layRows_108 rfl (lv_at hl 2 rfl) ?_
          obtain ⟨σ13, hq, hf⟩ := bV_some hf
          have kJ0 : ∀ (H : Heap) (locs : List Loc) (ls : Array Slot), va_P D vwCl (WW 28 (cellM cy ad) ad σ13) H → va_S (AC 28 ad) H0 H locs → lv_has ls 4 [(0, .ref (ad 0)), (1, .int (zI x1_)), (2, .int (zI x2_)), (3, .int (zI x2))] → W p l e rm_X12_layRows s m args below meth c H locs 0 0 Q (F0 m 126 ls []) := by
            intro H locs ls hP hS hl
            refine lv_iload_n S.1 S.2.1 dX12_layRows_126 rfl (lv_at hl 1 rfl) ?_
            obtain ⟨σ18, hq, hf⟩ := bV_some hf
            have kJ0 : ∀ (H : Heap) (locs : List Loc) (ls : Array Slot), va_P D vwCl (WW 28 (cellM cy ad) ad σ18) H → va_S (AC 28 ad) H0 H locs → lv_has ls 4 [(0, .ref (ad 0)), (1, .int (zI x1_)), (2, .int (zI x2_))] → W p l e rm_X12_layRows s m args below meth c H locs 0 0 Q (F0 m 153 ls []) := by
              intro H locs ls hP hS hl
              obtain ⟨x25, hx25, hf⟩ := nm_some hf
              refine r_iinc S hx25 (k0 := 2) (lv2 := [(2, .int (zI x25)), (0, .ref (ad 0)), (1, .int (zI x1_))]) dX12_layRows_153 hl rfl (by decide) rfl (fun ls hl => ?_)
              refine lv_goto (tgt := 56) S.1 S.2.1 dX12_layRows_156 (by decide) ?_
              exact ih x25 σ18 _ _ _ hf hP hS (lv_sub hl [1, 2, 0] rfl)
            clear hf
            have hf := hq
            refine r_if_le (tgt := 153) S dX12_layRows_127 (by decide) (fun c19 => ?_) (fun c19 => ?_)
            · have hf := (if_pos c19).symm.trans hf
              have e1 := Option.some.inj hf
              subst e1
              exact kJ0 _ _ _ hP hS (lv_sub hl [0, 1, 2] rfl)
            · have hf := (if_neg c19).symm.trans hf
              refine lv_iload_n S.1 S.2.1 dX12_layRows_130 rfl (lv_at hl 2 rfl) ?_
              refine r_if_le (tgt := 153) S dX12_layRows_131 (by decide) (fun c20 => ?_) (fun c20 => ?_)
              · have hf := (if_pos c20).symm.trans hf
                have e1 := Option.some.inj hf
                subst e1
                exact kJ0 _ _ _ hP hS (lv_sub hl [0, 1, 2] rfl)
              · have hf := (if_neg c20).symm.trans hf
                refine lv_aload_n S.1 S.2.1 dX12_layRows_134 rfl (lv_at hl 0 rfl) ?_
                refine lv_iload_n S.1 S.2.1 dX12_layRows_135 rfl (lv_at hl 3 rfl) ?_
                refine lv_iload_n S.1 S.2.1 dX12_layRows_136 rfl (lv_at hl 3 rfl) ?_
                refine r_bipush S dX12_layRows_137 (by decide) ?_
                refine r_isub S dX12_layRows_139 ?_
                refine lv_aload_n S.1 S.2.1 dX12_layRows_140 rfl (lv_at hl 0 rfl) ?_
                refine lv_iload_n S.1 S.2.1 dX12_layRows_141 rfl (lv_at hl 1 rfl) ?_
                refine r_iconst S dX12_layRows_142 ?_
                refine r_isub S dX12_layRows_143 ?_
                refine lv_iload_n S.1 S.2.1 dX12_layRows_144 rfl (lv_at hl 2 rfl) ?_
                refine r_iconst S dX12_layRows_145 ?_
                refine r_isub S dX12_layRows_146 ?_
                obtain ⟨y22, hq21, hf⟩ := bV_some hf
                refine r_callVI S hK hP hS (by decide) rfl rfl [.int (zI (x1_ - 1)), .int (zI (x2_ - 1))] (c_X12_pairCost l D cy ad hO (x1_ - 1) (x2_ - 1) σ13 hq21) (cw_X12_layRows_X12_pairCost S.2.2.2.2) rfl hl.1 (rest := [.int (zI (x2 - 14)), .int (zI x2), .ref (ad 0)]) rfl (Nat.le_of_ble_eq_true rfl) dX12_layRows_147 ⟨Nat.zero_le _, Nat.zero_le _⟩ (fun H locs hP hS => ?_)
                obtain ⟨σ24, hq23, hf⟩ := bV_some hf
                refine r_callVV S hK hP hS (by decide) rfl rfl [.int (zI x2), .int (zI (x2 - 14)), .int (zI y22)] (c_X12_addAhead l D cy ad hO x2 (x2 - 14) y22 σ13 hq23) (cw_X12_layRows_X12_addAhead S.2.2.2.2) rfl hl.1 (rest := []) rfl (Nat.le_of_ble_eq_true rfl) dX12_layRows_150 ⟨Nat.zero_le _, Nat.zero_le _⟩ (fun H locs hP hS => ?_)
                have e1 := Option.some.inj hf
                subst e1
                exact kJ0 _ _ _ hP hS (lv_sub hl [0, 1, 2] rfl)
          clear hf
          have hf := hq
          refine r_if_le (tgt := 126) S dX12_layRows_109 (by decide) (fun c14 => ?_) (fun c14 => ?_)
          · have hf := (if_pos c14).symm.trans hf
            have e1 := Option.some.inj hf
            subst e1
            exact kJ0 _ _ _ hP hS (lv_sub hl [0, 1, 2, 3] rfl)
          · have hf := (if_neg c14).symm.trans hf
            refine lv_aload_n S.1 S.2.1 dX12_layRows_112 rfl (lv_at hl 0 rfl) ?_
            refine lv_iload_n S.1 S.2.1 dX12_layRows_113 rfl (lv_at hl 3 rfl) ?_
            refine lv_iload_n S.1 S.2.1 dX12_layRows_114 rfl (lv_at hl 3 rfl) ?_
            refine r_iconst S dX12_layRows_115 ?_
            refine r_isub S dX12_layRows_116 ?_
            refine lv_aload_n S.1 S.2.1 dX12_layRows_117 rfl (lv_at hl 0 rfl) ?_
            refine r_get S hK hP (by decide) rfl rfl h_X12_layRows_X12 11 (by decide) k_X12_layRows_8 rfl dX12_layRows_118 ?_
            refine r_iconst S dX12_layRows_121 ?_
            obtain ⟨g15, hf⟩ := gd_some hf
            refine r_iald S hK hP (by decide) (n := 3) (fun _ => rfl) (by decide) g15 dX12_layRows_122 ?_
            obtain ⟨σ17, hq16, hf⟩ := bV_some hf
            refine r_callVV S hK hP hS (by decide) rfl rfl [.int (zI x2), .int (zI (x2 - 1)), .int (zI (σ8 8 (1 : Int).toNat))] (c_X12_addAhead l D cy ad hO x2 (x2 - 1) (σ8 8 (1 : Int).toNat) σ8 hq16) (cw_X12_layRows_X12_addAhead S.2.2.2.2) rfl hl.1 (rest := []) rfl (Nat.le_of_ble_eq_true rfl) dX12_layRows_123 ⟨Nat.zero_le _, Nat.zero_le _⟩ (fun H locs hP hS => ?_)
            have e1 := Option.some.inj hf
            subst e1
            exact kJ0 _ _ _ hP hS (lv_sub hl [0, 1, 2, 3] rfl)
        clear hf
        have hf := hq
        refine r_if_le (tgt := 108) S dX12_layRows_90 (by decide) (fun c9 => ?_) (fun c9 => ?_)
        · have hf := (if_pos c9).symm.trans hf
          have e1 := Option.some.inj hf
          subst e1
          exact kJ0 _ _ _ hP hS (lv_sub hl [0, 1, 2, 3] rfl)
        · have hf := (if_neg c9).symm.trans hf
          refine lv_aload_n S.1 S.2.1 dX12_layRows_93 rfl (lv_at hl 0 rfl) ?_
          refine lv_iload_n S.1 S.2.1 dX12_layRows_94 rfl (lv_at hl 3 rfl) ?_
          refine lv_iload_n S.1 S.2.1 dX12_layRows_95 rfl (lv_at hl 3 rfl) ?_
          refine r_bipush S dX12_layRows_96 (by decide) ?_
          refine r_isub S dX12_layRows_98 ?_
          refine lv_aload_n S.1 S.2.1 dX12_layRows_99 rfl (lv_at hl 0 rfl) ?_
          refine r_get S hK hP (by decide) rfl rfl h_X12_layRows_X12 11 (by decide) k_X12_layRows_8 rfl dX12_layRows_100 ?_
          refine r_iconst S dX12_layRows_103 ?_
          obtain ⟨g10, hf⟩ := gd_some hf
          refine r_iald S hK hP (by decide) (n := 3) (fun _ => rfl) (by decide) g10 dX12_layRows_104 ?_
          obtain ⟨σ12, hq11, hf⟩ := bV_some hf
          refine r_callVV S hK hP hS (by decide) rfl rfl [.int (zI x2), .int (zI (x2 - 13)), .int (zI (σ3 8 (0 : Int).toNat))] (c_X12_addAhead l D cy ad hO x2 (x2 - 13) (σ3 8 (0 : Int).toNat) σ3 hq11) (cw_X12_layRows_X12_addAhead S.2.2.2.2) rfl hl.1 (rest := []) rfl (Nat.le_of_ble_eq_true rfl) dX12_layRows_105 ⟨Nat.zero_le _, Nat.zero_le _⟩ (fun H locs hP hS => ?_)
          have e1 := Option.some.inj hf
          subst e1
          exact kJ0 _ _ _ hP hS (lv_sub hl [0, 1, 2, 3] rfl)
      clear hf
      have hf := hq
      refine r_if_ne (tgt := 89) S dX12_layRows_72 (by decide) (fun c4 => ?_) (fun c4 => ?_)
      · have hf := (if_neg c4).symm.trans hf
        have e1 := Option.some.inj hf
        subst e1
        exact kJ0 _ _ _ hP hS (lv_sub hl [1, 2, 3, 0] rfl)
      · have hf := (if_pos c4).symm.trans hf
        refine lv_aload_n S.1 S.2.1 dX12_layRows_75 rfl (lv_at hl 1 rfl) ?_
        refine r_get S hK hP (by decide) rfl rfl h_X12_layRows_X12 27 (by decide) k_X12_layRows_1 rfl dX12_layRows_76 ?_
        refine lv_iload_n S.1 S.2.1 dX12_layRows_79 rfl (lv_at hl 0 rfl) ?_
        refine r_iconst S dX12_layRows_80 ?_
        obtain ⟨g5, hf⟩ := gd_some hf
        obtain ⟨σ6, hσ6, hf⟩ := nm_some hf
        refine r_iast S hK hP hO hS (by decide) (n := 91) (fun _ => rfl) (by decide) g5 hσ6 dX12_layRows_81 (fun H locs hP hS => ?_)
        refine lv_aload_n S.1 S.2.1 dX12_layRows_82 rfl (lv_at hl 1 rfl) ?_
        refine r_get S hK hP (by decide) rfl rfl h_X12_layRows_X12 29 (by decide) k_X12_layRows_4 rfl dX12_layRows_83 ?_
        refine lv_iload_n S.1 S.2.1 dX12_layRows_86 rfl (lv_at hl 0 rfl) ?_
        refine r_lconst S 1 (by decide) dX12_layRows_87 ?_
        obtain ⟨σ7, hσ7, hf⟩ := nm_some hf
        refine r_last S hK hP hO hS (by decide) (n := 91) (fun _ => rfl) (by decide) g5 hσ7 dX12_layRows_88 (fun H locs hP hS => ?_)
        have e1 := Option.some.inj hf
        subst e1
        exact kJ0 _ _ _ hP hS (lv_sub hl [1, 2, 3, 0] rfl)
set_option maxHeartbeats 4000000 in
set_option maxRecDepth 100000 in
theorem w_X12_layRows_L46 {p : Program} {l : Launch} {e : Env} {s : State} {m : MethodId} {args : Array Value} {below : List Frame} {meth : Method} {c : Code} {Q : State → Prop} {D : va_G} {cy : Nat → ClassId} {ad : Nat → Nat} {H0 : Heap} (hO : adOK 28 ad) (S : CallFix p m c cX12_layRows 4 s args wsX12_layRows RX12) (hK : KK D cy s) (n : Nat) {res : Mem} (k0 : ∀ (τ : Mem) (H2 : Heap) (locs2 : List Loc) (ls2 : Array Slot), res = τ → va_P D vwCl (WW 28 (cellM cy ad) ad τ) H2 → va_S (AC 28 ad) H0 H2 locs2 → lv_has ls2 4 [(0, .ref (ad 0))] → W p l e rm_X12_layRows s m args below meth c H2 locs2 0 0 Q (F0 m 165 ls2 [])) :
    ∀ (k : Nat) (x1_ : Int) (σ : Mem) (H : Heap) (locs : List Loc) (ls : Array Slot), f_X12_layRows_L46 n k x1_ σ = some res → va_P D vwCl (WW 28 (cellM cy ad) ad σ) H → va_S (AC 28 ad) H0 H locs → lv_has ls 4 [(0, .ref (ad 0)), (1, .int (zI x1_))] → W p l e rm_X12_layRows s m args below meth c H locs 0 0 Q (F0 m 46 ls []) := by
  intro k
  induction k with
  | zero =>
    intro x1_ σ H locs ls hf
    have hf : none = some res := hf
    cases hf
  | succ k ih =>
    intro x1_ σ H locs ls hf hP hS hl
    rw [f_X12_layRows_L46] at hf
    refine lv_iload_n S.1 S.2.1 dX12_layRows_46 rfl (lv_at hl 1 rfl) ?_
    refine lv_aload_n S.1 S.2.1 dX12_layRows_47 rfl (lv_at hl 0 rfl) ?_
    refine r_get S hK hP (by decide) rfl rfl h_X12_layRows_X12 12 (by decide) k_X12_layRows_6 rfl dX12_layRows_48 ?_
    refine lv_icmp_gt (tgt := 165) S.1 S.2.1 dX12_layRows_51 (by decide) (fun c1 => ?_) (fun c1 => ?_)
    · have hf := (if_pos c1).symm.trans hf
      exact k0 _ _ _ _ (Option.some.inj hf).symm hP hS (lv_sub hl [0] rfl)
    · have hf := (if_neg c1).symm.trans hf
      refine r_iconst S dX12_layRows_54 ?_
      refine r_istore_n S rfl (lv2 := [(2, .int (zI 0)), (0, .ref (ad 0)), (1, .int (zI x1_))]) dX12_layRows_55 rfl hl (by decide) rfl (fun ls hl => ?_)
      obtain ⟨σ2, hq, hf⟩ := bV_some hf
      refine w_X12_layRows_L56 hO S hK n x1_ (fun σ2 H locs ls he hP hS hl => ?_) n 0 σ _ _ _ hq hP hS (lv_sub hl [1, 2, 0] rfl)
      cases he
      obtain ⟨x3, hx3, hf⟩ := nm_some hf
      refine r_iinc S hx3 (k0 := 1) (lv2 := [(1, .int (zI x3)), (0, .ref (ad 0))]) dX12_layRows_159 hl rfl (by decide) rfl (fun ls hl => ?_)
      refine lv_goto (tgt := 46) S.1 S.2.1 dX12_layRows_162 (by decide) ?_
      exact ih x3 σ2 _ _ _ hf hP hS (lv_sub hl [1, 0] rfl)
set_option maxHeartbeats 4000000 in
set_option maxRecDepth 100000 in
theorem w_X12_layRows_L179 {p : Program} {l : Launch} {e : Env} {s : State} {m : MethodId} {args : Array Value} {below : List Frame} {meth : Method} {c : Code} {Q : State → Prop} {D : va_G} {cy : Nat → ClassId} {ad : Nat → Nat} {H0 : Heap} (hO : adOK 28 ad) (S : CallFix p m c cX12_layRows 4 s args wsX12_layRows RX12) (hK : KK D cy s) (n : Nat) (x1_ : Int) {res : Mem} (k0 : ∀ (τ : Mem) (H2 : Heap) (locs2 : List Loc) (ls2 : Array Slot), res = τ → va_P D vwCl (WW 28 (cellM cy ad) ad τ) H2 → va_S (AC 28 ad) H0 H2 locs2 → lv_has ls2 4 [(0, .ref (ad 0)), (1, .int (zI x1_))] → W p l e rm_X12_layRows s m args below meth c H2 locs2 0 0 Q (F0 m 302 ls2 [])) :
    ∀ (k : Nat) (x2_ : Int) (σ : Mem) (H : Heap) (locs : List Loc) (ls : Array Slot), f_X12_layRows_L179 n x1_ k x2_ σ = some res → va_P D vwCl (WW 28 (cellM cy ad) ad σ) H → va_S (AC 28 ad) H0 H locs → lv_has ls 4 [(0, .ref (ad 0)), (1, .int (zI x1_)), (2, .int (zI x2_))] → W p l e rm_X12_layRows s m args below meth c H locs 0 0 Q (F0 m 179 ls []) := by
  intro k
  induction k with
  | zero =>
    intro x2_ σ H locs ls hf
    have hf : none = some res := hf
    cases hf
  | succ k ih =>
    intro x2_ σ H locs ls hf hP hS hl
    rw [f_X12_layRows_L179] at hf
    refine lv_iload_n S.1 S.2.1 dX12_layRows_179 rfl (lv_at hl 2 rfl) ?_
    refine r_if_lt (tgt := 302) S dX12_layRows_180 (by decide) (fun c1 => ?_) (fun c1 => ?_)
    · have hf := (if_pos c1).symm.trans hf
      exact k0 _ _ _ _ (Option.some.inj hf).symm hP hS (lv_sub hl [0, 1] rfl)
    · have hf := (if_neg c1).symm.trans hf
      refine r_bipush S dX12_layRows_183 (by decide) ?_
      refine lv_iload_n S.1 S.2.1 dX12_layRows_185 rfl (lv_at hl 1 rfl) ?_
      refine r_imul S dX12_layRows_186 ?_
      refine lv_iload_n S.1 S.2.1 dX12_layRows_187 rfl (lv_at hl 2 rfl) ?_
      refine r_iadd S dX12_layRows_188 ?_
      obtain ⟨x2, hx2, hf⟩ := nm_some hf
      refine r_istore_n S hx2 (lv2 := [(3, .int (zI x2)), (0, .ref (ad 0)), (1, .int (zI x1_)), (2, .int (zI x2_))]) dX12_layRows_189 rfl hl (by decide) rfl (fun ls hl => ?_)
      refine lv_iload_n S.1 S.2.1 dX12_layRows_190 rfl (lv_at hl 2 rfl) ?_
      refine lv_aload_n S.1 S.2.1 dX12_layRows_191 rfl (lv_at hl 1 rfl) ?_
      refine r_get S hK hP (by decide) rfl rfl h_X12_layRows_X12 12 (by decide) k_X12_layRows_6 rfl dX12_layRows_192 ?_
      obtain ⟨σ3, hq, hf⟩ := bV_some hf
      have kJ0 : ∀ (H : Heap) (locs : List Loc) (ls : Array Slot), va_P D vwCl (WW 28 (cellM cy ad) ad σ3) H → va_S (AC 28 ad) H0 H locs → lv_has ls 4 [(0, .ref (ad 0)), (1, .int (zI x1_)), (2, .int (zI x2_)), (3, .int (zI x2))] → W p l e rm_X12_layRows s m args below meth c H locs 0 0 Q (F0 m 220 ls []) := by
        intro H locs ls hP hS hl
        refine lv_iload_n S.1 S.2.1 dX12_layRows_220 rfl (lv_at hl 1 rfl) ?_
        refine lv_aload_n S.1 S.2.1 dX12_layRows_221 rfl (lv_at hl 0 rfl) ?_
        refine r_get S hK hP (by decide) rfl rfl h_X12_layRows_X12 12 (by decide) k_X12_layRows_6 rfl dX12_layRows_222 ?_
        obtain ⟨σ9, hq, hf⟩ := bV_some hf
        have kJ0 : ∀ (H : Heap) (locs : List Loc) (ls : Array Slot), va_P D vwCl (WW 28 (cellM cy ad) ad σ9) H → va_S (AC 28 ad) H0 H locs → lv_has ls 4 [(0, .ref (ad 0)), (1, .int (zI x1_)), (2, .int (zI x2_)), (3, .int (zI x2))] → W p l e rm_X12_layRows s m args below meth c H locs 0 0 Q (F0 m 243 ls []) := by
          intro H locs ls hP hS hl
          refine lv_iload_n S.1 S.2.1 dX12_layRows_243 rfl (lv_at hl 2 rfl) ?_
          refine lv_aload_n S.1 S.2.1 dX12_layRows_244 rfl (lv_at hl 0 rfl) ?_
          refine r_get S hK hP (by decide) rfl rfl h_X12_layRows_X12 25 (by decide) k_X12_layRows_7 rfl dX12_layRows_245 ?_
          obtain ⟨σ14, hq, hf⟩ := bV_some hf
          have kJ0 : ∀ (H : Heap) (locs : List Loc) (ls : Array Slot), va_P D vwCl (WW 28 (cellM cy ad) ad σ14) H → va_S (AC 28 ad) H0 H locs → lv_has ls 4 [(0, .ref (ad 0)), (1, .int (zI x1_)), (2, .int (zI x2_)), (3, .int (zI x2))] → W p l e rm_X12_layRows s m args below meth c H locs 0 0 Q (F0 m 265 ls []) := by
            intro H locs ls hP hS hl
            refine lv_iload_n S.1 S.2.1 dX12_layRows_265 rfl (lv_at hl 1 rfl) ?_
            refine lv_aload_n S.1 S.2.1 dX12_layRows_266 rfl (lv_at hl 0 rfl) ?_
            refine r_get S hK hP (by decide) rfl rfl h_X12_layRows_X12 12 (by decide) k_X12_layRows_6 rfl dX12_layRows_267 ?_
            obtain ⟨σ19, hq, hf⟩ := bV_some hf
            have kJ0 : ∀ (H : Heap) (locs : List Loc) (ls : Array Slot), va_P D vwCl (WW 28 (cellM cy ad) ad σ19) H → va_S (AC 28 ad) H0 H locs → lv_has ls 4 [(0, .ref (ad 0)), (1, .int (zI x1_)), (2, .int (zI x2_))] → W p l e rm_X12_layRows s m args below meth c H locs 0 0 Q (F0 m 296 ls []) := by
              intro H locs ls hP hS hl
              obtain ⟨x26, hx26, hf⟩ := nm_some hf
              refine r_iinc S hx26 (k0 := 2) (lv2 := [(2, .int (zI x26)), (0, .ref (ad 0)), (1, .int (zI x1_))]) dX12_layRows_296 hl rfl (by decide) rfl (fun ls hl => ?_)
              refine lv_goto (tgt := 179) S.1 S.2.1 dX12_layRows_299 (by decide) ?_
              exact ih x26 σ19 _ _ _ hf hP hS (lv_sub hl [1, 2, 0] rfl)
            clear hf
            have hf := hq
            refine lv_icmp_ge (tgt := 296) S.1 S.2.1 dX12_layRows_270 (by decide) (fun c20 => ?_) (fun c20 => ?_)
            · have hf := (if_pos c20).symm.trans hf
              have e1 := Option.some.inj hf
              subst e1
              exact kJ0 _ _ _ hP hS (lv_sub hl [0, 1, 2] rfl)
            · have hf := (if_neg c20).symm.trans hf
              refine lv_iload_n S.1 S.2.1 dX12_layRows_273 rfl (lv_at hl 2 rfl) ?_
              refine lv_aload_n S.1 S.2.1 dX12_layRows_274 rfl (lv_at hl 0 rfl) ?_
              refine r_get S hK hP (by decide) rfl rfl h_X12_layRows_X12 25 (by decide) k_X12_layRows_7 rfl dX12_layRows_275 ?_
              refine lv_icmp_ge (tgt := 296) S.1 S.2.1 dX12_layRows_278 (by decide) (fun c21 => ?_) (fun c21 => ?_)
              · have hf := (if_pos c21).symm.trans hf
                have e1 := Option.some.inj hf
                subst e1
                exact kJ0 _ _ _ hP hS (lv_sub hl [0, 1, 2] rfl)
              · have hf := (if_neg c21).symm.trans hf
                refine lv_aload_n S.1 S.2.1 dX12_layRows_281 rfl (lv_at hl 0 rfl) ?_
                refine lv_iload_n S.1 S.2.1 dX12_layRows_282 rfl (lv_at hl 3 rfl) ?_
                refine lv_iload_n S.1 S.2.1 dX12_layRows_283 rfl (lv_at hl 3 rfl) ?_
                refine r_bipush S dX12_layRows_284 (by decide) ?_
                refine r_iadd S dX12_layRows_286 ?_
                refine lv_aload_n S.1 S.2.1 dX12_layRows_287 rfl (lv_at hl 0 rfl) ?_
                refine lv_iload_n S.1 S.2.1 dX12_layRows_288 rfl (lv_at hl 1 rfl) ?_
                refine lv_iload_n S.1 S.2.1 dX12_layRows_289 rfl (lv_at hl 2 rfl) ?_
                obtain ⟨y23, hq22, hf⟩ := bV_some hf
                refine r_callVI S hK hP hS (by decide) rfl rfl [.int (zI x1_), .int (zI x2_)] (c_X12_pairCost l D cy ad hO x1_ x2_ σ14 hq22) (cw_X12_layRows_X12_pairCost S.2.2.2.2) rfl hl.1 (rest := [.int (zI (x2 + 14)), .int (zI x2), .ref (ad 0)]) rfl (Nat.le_of_ble_eq_true rfl) dX12_layRows_290 ⟨Nat.zero_le _, Nat.zero_le _⟩ (fun H locs hP hS => ?_)
                obtain ⟨σ25, hq24, hf⟩ := bV_some hf
                refine r_callVV S hK hP hS (by decide) rfl rfl [.int (zI x2), .int (zI (x2 + 14)), .int (zI y23)] (c_X12_addBehind l D cy ad hO x2 (x2 + 14) y23 σ14 hq24) (cw_X12_layRows_X12_addBehind S.2.2.2.2) rfl hl.1 (rest := []) rfl (Nat.le_of_ble_eq_true rfl) dX12_layRows_293 ⟨Nat.zero_le _, Nat.zero_le _⟩ (fun H locs hP hS => ?_)
                have e1 := Option.some.inj hf
                subst e1
                exact kJ0 _ _ _ hP hS (lv_sub hl [0, 1, 2] rfl)
          clear hf
          have hf := hq
          refine lv_icmp_ge (tgt := 265) S.1 S.2.1 dX12_layRows_248 (by decide) (fun c15 => ?_) (fun c15 => ?_)
          · have hf := (if_pos c15).symm.trans hf
            have e1 := Option.some.inj hf
            subst e1
            exact kJ0 _ _ _ hP hS (lv_sub hl [0, 1, 2, 3] rfl)
          · have hf := (if_neg c15).symm.trans hf
            refine lv_aload_n S.1 S.2.1 dX12_layRows_251 rfl (lv_at hl 0 rfl) ?_
            refine lv_iload_n S.1 S.2.1 dX12_layRows_252 rfl (lv_at hl 3 rfl) ?_
            refine lv_iload_n S.1 S.2.1 dX12_layRows_253 rfl (lv_at hl 3 rfl) ?_
            refine r_iconst S dX12_layRows_254 ?_
            refine r_iadd S dX12_layRows_255 ?_
            refine lv_aload_n S.1 S.2.1 dX12_layRows_256 rfl (lv_at hl 0 rfl) ?_
            refine r_get S hK hP (by decide) rfl rfl h_X12_layRows_X12 11 (by decide) k_X12_layRows_8 rfl dX12_layRows_257 ?_
            refine r_iconst S dX12_layRows_260 ?_
            obtain ⟨g16, hf⟩ := gd_some hf
            refine r_iald S hK hP (by decide) (n := 3) (fun _ => rfl) (by decide) g16 dX12_layRows_261 ?_
            obtain ⟨σ18, hq17, hf⟩ := bV_some hf
            refine r_callVV S hK hP hS (by decide) rfl rfl [.int (zI x2), .int (zI (x2 + 1)), .int (zI (σ9 8 (1 : Int).toNat))] (c_X12_addBehind l D cy ad hO x2 (x2 + 1) (σ9 8 (1 : Int).toNat) σ9 hq17) (cw_X12_layRows_X12_addBehind S.2.2.2.2) rfl hl.1 (rest := []) rfl (Nat.le_of_ble_eq_true rfl) dX12_layRows_262 ⟨Nat.zero_le _, Nat.zero_le _⟩ (fun H locs hP hS => ?_)
            have e1 := Option.some.inj hf
            subst e1
            exact kJ0 _ _ _ hP hS (lv_sub hl [0, 1, 2, 3] rfl)
        clear hf
        have hf := hq
        refine lv_icmp_ge (tgt := 243) S.1 S.2.1 dX12_layRows_225 (by decide) (fun c10 => ?_) (fun c10 => ?_)
        · have hf := (if_pos c10).symm.trans hf
          have e1 := Option.some.inj hf
          subst e1
          exact kJ0 _ _ _ hP hS (lv_sub hl [0, 1, 2, 3] rfl)
        · have hf := (if_neg c10).symm.trans hf
          refine lv_aload_n S.1 S.2.1 dX12_layRows_228 rfl (lv_at hl 0 rfl) ?_
          refine lv_iload_n S.1 S.2.1 dX12_layRows_229 rfl (lv_at hl 3 rfl) ?_
          refine lv_iload_n S.1 S.2.1 dX12_layRows_230 rfl (lv_at hl 3 rfl) ?_
          refine r_bipush S dX12_layRows_231 (by decide) ?_
          refine r_iadd S dX12_layRows_233 ?_
          refine lv_aload_n S.1 S.2.1 dX12_layRows_234 rfl (lv_at hl 0 rfl) ?_
          refine r_get S hK hP (by decide) rfl rfl h_X12_layRows_X12 11 (by decide) k_X12_layRows_8 rfl dX12_layRows_235 ?_
          refine r_iconst S dX12_layRows_238 ?_
          obtain ⟨g11, hf⟩ := gd_some hf
          refine r_iald S hK hP (by decide) (n := 3) (fun _ => rfl) (by decide) g11 dX12_layRows_239 ?_
          obtain ⟨σ13, hq12, hf⟩ := bV_some hf
          refine r_callVV S hK hP hS (by decide) rfl rfl [.int (zI x2), .int (zI (x2 + 13)), .int (zI (σ3 8 (0 : Int).toNat))] (c_X12_addBehind l D cy ad hO x2 (x2 + 13) (σ3 8 (0 : Int).toNat) σ3 hq12) (cw_X12_layRows_X12_addBehind S.2.2.2.2) rfl hl.1 (rest := []) rfl (Nat.le_of_ble_eq_true rfl) dX12_layRows_240 ⟨Nat.zero_le _, Nat.zero_le _⟩ (fun H locs hP hS => ?_)
          have e1 := Option.some.inj hf
          subst e1
          exact kJ0 _ _ _ hP hS (lv_sub hl [0, 1, 2, 3] rfl)
      clear hf
      have hf := hq
      refine lv_icmp_ne (tgt := 220) S.1 S.2.1 dX12_layRows_195 (by decide) (fun c4 => ?_) (fun c4 => ?_)
      · have hf := (if_neg c4).symm.trans hf
        have e1 := Option.some.inj hf
        subst e1
        exact kJ0 _ _ _ hP hS (lv_sub hl [1, 2, 3, 0] rfl)
      · have hf := (if_pos c4).symm.trans hf
        refine lv_iload_n S.1 S.2.1 dX12_layRows_198 rfl (lv_at hl 3 rfl) ?_
        refine lv_aload_n S.1 S.2.1 dX12_layRows_199 rfl (lv_at hl 1 rfl) ?_
        refine r_get S hK hP (by decide) rfl rfl h_X12_layRows_X12 25 (by decide) k_X12_layRows_7 rfl dX12_layRows_200 ?_
        refine lv_icmp_ne (tgt := 220) S.1 S.2.1 dX12_layRows_203 (by decide) (fun c5 => ?_) (fun c5 => ?_)
        · have hf := (if_neg c5).symm.trans hf
          have e1 := Option.some.inj hf
          subst e1
          exact kJ0 _ _ _ hP hS (lv_sub hl [1, 2, 3, 0] rfl)
        · have hf := (if_pos c5).symm.trans hf
          refine lv_aload_n S.1 S.2.1 dX12_layRows_206 rfl (lv_at hl 1 rfl) ?_
          refine r_get S hK hP (by decide) rfl rfl h_X12_layRows_X12 28 (by decide) k_X12_layRows_3 rfl dX12_layRows_207 ?_
          refine lv_iload_n S.1 S.2.1 dX12_layRows_210 rfl (lv_at hl 0 rfl) ?_
          refine r_iconst S dX12_layRows_211 ?_
          obtain ⟨g6, hf⟩ := gd_some hf
          obtain ⟨σ7, hσ7, hf⟩ := nm_some hf
          refine r_iast S hK hP hO hS (by decide) (n := 91) (fun _ => rfl) (by decide) g6 hσ7 dX12_layRows_212 (fun H locs hP hS => ?_)
          refine lv_aload_n S.1 S.2.1 dX12_layRows_213 rfl (lv_at hl 1 rfl) ?_
          refine r_get S hK hP (by decide) rfl rfl h_X12_layRows_X12 30 (by decide) k_X12_layRows_5 rfl dX12_layRows_214 ?_
          refine lv_iload_n S.1 S.2.1 dX12_layRows_217 rfl (lv_at hl 0 rfl) ?_
          refine r_lconst S 1 (by decide) dX12_layRows_218 ?_
          obtain ⟨σ8, hσ8, hf⟩ := nm_some hf
          refine r_last S hK hP hO hS (by decide) (n := 91) (fun _ => rfl) (by decide) g6 hσ8 dX12_layRows_219 (fun H locs hP hS => ?_)
          have e1 := Option.some.inj hf
          subst e1
          exact kJ0 _ _ _ hP hS (lv_sub hl [1, 2, 3, 0] rfl)
set_option maxHeartbeats 4000000 in
set_option maxRecDepth 100000 in
theorem w_X12_layRows_L170 {p : Program} {l : Launch} {e : Env} {s : State} {m : MethodId} {args : Array Value} {below : List Frame} {meth : Method} {c : Code} {Q : State → Prop} {D : va_G} {cy : Nat → ClassId} {ad : Nat → Nat} {H0 : Heap} (hO : adOK 28 ad) (S : CallFix p m c cX12_layRows 4 s args wsX12_layRows RX12) (hK : KK D cy s) (n : Nat) {res : Mem} (k0 : ∀ (τ : Mem) (H2 : Heap) (locs2 : List Loc) (ls2 : Array Slot), res = τ → va_P D vwCl (WW 28 (cellM cy ad) ad τ) H2 → va_S (AC 28 ad) H0 H2 locs2 → lv_has ls2 4 [] → W p l e rm_X12_layRows s m args below meth c H2 locs2 0 0 Q (F0 m 308 ls2 [])) :
    ∀ (k : Nat) (x1_ : Int) (σ : Mem) (H : Heap) (locs : List Loc) (ls : Array Slot), f_X12_layRows_L170 n k x1_ σ = some res → va_P D vwCl (WW 28 (cellM cy ad) ad σ) H → va_S (AC 28 ad) H0 H locs → lv_has ls 4 [(0, .ref (ad 0)), (1, .int (zI x1_))] → W p l e rm_X12_layRows s m args below meth c H locs 0 0 Q (F0 m 170 ls []) := by
  intro k
  induction k with
  | zero =>
    intro x1_ σ H locs ls hf
    have hf : none = some res := hf
    cases hf
  | succ k ih =>
    intro x1_ σ H locs ls hf hP hS hl
    rw [f_X12_layRows_L170] at hf
    refine lv_iload_n S.1 S.2.1 dX12_layRows_170 rfl (lv_at hl 1 rfl) ?_
    refine r_if_lt (tgt := 308) S dX12_layRows_171 (by decide) (fun c1 => ?_) (fun c1 => ?_)
    · have hf := (if_pos c1).symm.trans hf
      exact k0 _ _ _ _ (Option.some.inj hf).symm hP hS (lv_sub hl [] rfl)
    · have hf := (if_neg c1).symm.trans hf
      refine lv_aload_n S.1 S.2.1 dX12_layRows_174 rfl (lv_at hl 0 rfl) ?_
      refine r_get S hK hP (by decide) rfl rfl h_X12_layRows_X12 25 (by decide) k_X12_layRows_7 rfl dX12_layRows_175 ?_
      obtain ⟨x2, hx2, hf⟩ := nm_some hf
      refine r_istore_n S hx2 (lv2 := [(2, .int (zI x2)), (0, .ref (ad 0)), (1, .int (zI x1_))]) dX12_layRows_178 rfl hl (by decide) rfl (fun ls hl => ?_)
      obtain ⟨σ3, hq, hf⟩ := bV_some hf
      refine w_X12_layRows_L179 hO S hK n x1_ (fun σ3 H locs ls he hP hS hl => ?_) n x2 σ _ _ _ hq hP hS (lv_sub hl [1, 2, 0] rfl)
      cases he
      obtain ⟨x4, hx4, hf⟩ := nm_some hf
      refine r_iinc S hx4 (k0 := 1) (lv2 := [(1, .int (zI x4)), (0, .ref (ad 0))]) dX12_layRows_302 hl rfl (by decide) rfl (fun ls hl => ?_)
      refine lv_goto (tgt := 170) S.1 S.2.1 dX12_layRows_305 (by decide) ?_
      exact ih x4 σ3 _ _ _ hf hP hS (lv_sub hl [1, 0] rfl)
set_option maxHeartbeats 4000000 in
set_option maxRecDepth 100000 in
theorem c_X12_layRows (l : Launch) (D : va_G) (cy : Nat → ClassId) (ad : Nat → Nat) (hO : adOK 28 ad) (n : Nat) (σ : Mem) {τ : Mem} (hf : f_X12_layRows n σ = some τ) : Met l yX12_layRows wsX12_layRows rm_X12_layRows (va_Pc [.ref (ad 0)] (PreW D cy 28 (cellM cy ad) ad σ)) (QV D 28 (cellM cy ad) ad τ) 0 0 (AC 28 ad) := by
  refine r_met (cc := cX12_layRows) (maxL := 4) (ret := none) (own := RX12) (by decide) rfl rfl [.ref (ad 0)] (Nat.le_of_ble_eq_true rfl) ?_
  intro p e s m below meth c ls S hK hP hlk hr hl
  have hS : va_S (AC 28 ad) s.heap s.heap [] := va_S.rf
  have hl : lv_has ls 4 [(0, .ref (ad 0))] := hl
  unfold f_X12_layRows at hf
  refine r_iconst S dX12_layRows_0 ?_
  refine r_istore_n S rfl (lv2 := [(1, .int (zI 0)), (0, .ref (ad 0))]) dX12_layRows_1 rfl hl (by decide) rfl (fun ls hl => ?_)
  obtain ⟨σ1, hq, hf⟩ := bV_some hf
  refine w_X12_layRows_L2 hO S hK n (fun σ1 H locs ls he hP hS hl => ?_) n 0 σ _ _ _ hq hP hS (lv_sub hl [1, 0] rfl)
  cases he
  refine r_iconst S dX12_layRows_44 ?_
  refine r_istore_n S rfl (lv2 := [(1, .int (zI 0)), (0, .ref (ad 0))]) dX12_layRows_45 rfl hl (by decide) rfl (fun ls hl => ?_)
  obtain ⟨σ2, hq, hf⟩ := bV_some hf
  refine w_X12_layRows_L46 hO S hK n (fun σ2 H locs ls he hP hS hl => ?_) n 0 σ1 _ _ _ hq hP hS (lv_sub hl [1, 0] rfl)
  cases he
  refine lv_aload_n S.1 S.2.1 dX12_layRows_165 rfl (lv_at hl 0 rfl) ?_
  refine r_get S hK hP (by decide) rfl rfl h_X12_layRows_X12 12 (by decide) k_X12_layRows_6 rfl dX12_layRows_166 ?_
  obtain ⟨x3, hx3, hf⟩ := nm_some hf
  refine r_istore_n S hx3 (lv2 := [(1, .int (zI x3)), (0, .ref (ad 0))]) dX12_layRows_169 rfl hl (by decide) rfl (fun ls hl => ?_)
  obtain ⟨σ4, hq, hf⟩ := bV_some hf
  refine w_X12_layRows_L170 hO S hK n (fun σ4 H locs ls he hP hS hl => ?_) n x3 σ2 _ _ _ hq hP hS (lv_sub hl [1, 0] rfl)
  cases he
  have e1 := Option.some.inj hf
  subst e1
  exact e_V S hlk hP hS hr dX12_layRows_308
