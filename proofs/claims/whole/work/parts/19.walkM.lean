def rm_X12_faultOf : Room := { frames := 1, cells := 0, slots := 0, locals := 22 }
theorem k_X12_faultOf_1 : (.fieldLink RX12 97 "MendTextsModel" "signs" "I" : Cond) ∈ wsX12_faultOf := List.mem_of_getElem? (i := 1) (by decide +kernel)
theorem k_X12_faultOf_2 : (.fieldLink RX12 7 "MendTextsModel" "pad" "[I" : Cond) ∈ wsX12_faultOf := List.mem_of_getElem? (i := 2) (by decide +kernel)
theorem h_X12_faultOf_X12 : ∀ w ∈ u_ws RX12 TX12 36, w ∈ wsX12_faultOf := mem_places _ [7, 8, 9, 10, 11, 12, 13, 14, 15, 16, 17, 18, 19, 20, 21, 22, 23, 24, 25, 26, 27, 28, 29, 30, 31, 32, 33, 34, 35, 36, 37, 38, 39, 40, 41, 42] (by decide +kernel)
theorem cw_X12_faultOf_X12_in {s : State} {args : Array Value} (hts : ∀ w ∈ wsX12_faultOf, w.before args s = true) : CallB rm_X12_faultOf s args RX12 93 yX12_in cX12_in 3 (some .boolean) wsX12_in rm_X12_in 0 0 3 ∧ (Cond.static yX12_in).before args s = true := va_cwS 3 hts gX12_faultOf_X12_in rfl rfl rfl (by decide +kernel) ⟨Nat.le_of_ble_eq_true rfl, Nat.le_of_ble_eq_true rfl⟩
set_option maxHeartbeats 4000000 in
set_option maxRecDepth 100000 in
theorem w_X12_faultOf_L12 {p : Program} {l : Launch} {e : Env} {s : State} {m : MethodId} {args : Array Value} {below : List Frame} {meth : Method} {c : Code} {Q : State → Prop} {D : va_G} {cy : Nat → ClassId} {ad : Nat → Nat} {H0 : Heap} (hO : adOK 28 ad) (S : CallFix p m c cX12_faultOf 9 s args wsX12_faultOf RX12) (hK : KK D cy s) (n : Nat) (σ : Mem) {res : Nat × Int × Int} (k0 : ∀ (y1_ : Int) (y5_ : Int) (H2 : Heap) (locs2 : List Loc) (ls2 : Array Slot), res = (0, y1_, y5_) → va_P D vwCl (WW 28 (cellM cy ad) ad σ) H2 → va_S (AC 28 ad) H0 H2 locs2 → lv_has ls2 9 [(5, .int (zI y5_))] → W p l e rm_X12_faultOf s m args below meth c H2 locs2 0 0 Q (F0 m 236 ls2 [])) (k1 : ∀ (y1_ : Int) (y5_ : Int) (H2 : Heap) (locs2 : List Loc) (ls2 : Array Slot), res = (1, y1_, y5_) → va_P D vwCl (WW 28 (cellM cy ad) ad σ) H2 → va_S (AC 28 ad) H0 H2 locs2 → lv_has ls2 9 [(0, .ref (ad 0)), (1, .int (zI y1_))] → W p l e rm_X12_faultOf s m args below meth c H2 locs2 0 0 Q (F0 m 248 ls2 [])) :
    ∀ (k : Nat) (x1_ : Int) (x2_ : Int) (x3_ : Int) (x4_ : Int) (x5_ : Int) (H : Heap) (locs : List Loc) (ls : Array Slot), f_X12_faultOf_L12 n σ k x1_ x2_ x3_ x4_ x5_ = some res → va_P D vwCl (WW 28 (cellM cy ad) ad σ) H → va_S (AC 28 ad) H0 H locs → lv_has ls 9 [(0, .ref (ad 0)), (1, .int (zI x1_)), (2, .int (zI x2_)), (3, .int (zI x3_)), (4, .int (zI x4_)), (5, .int (zI x5_))] → W p l e rm_X12_faultOf s m args below meth c H locs 0 0 Q (F0 m 12 ls []) := by
  intro k
  induction k with
  | zero =>
    intro x1_ x2_ x3_ x4_ x5_ H locs ls hf
    have hf : none = some res := hf
    cases hf
  | succ k ih =>
    intro x1_ x2_ x3_ x4_ x5_ H locs ls hf hP hS hl
    rw [f_X12_faultOf_L12] at hf
    refine lv_iload S.1 S.2.1 dX12_faultOf_12 (lv_at hl 5 rfl) ?_
    refine lv_aload_n S.1 S.2.1 dX12_faultOf_14 rfl (lv_at hl 0 rfl) ?_
    refine r_get S hK hP (by decide) rfl rfl h_X12_faultOf_X12 0 (by decide) k_X12_faultOf_1 rfl dX12_faultOf_15 ?_
    refine lv_icmp_ge (tgt := 248) S.1 S.2.1 dX12_faultOf_18 (by decide) (fun c1 => ?_) (fun c1 => ?_)
    · have hf := (if_pos c1).symm.trans hf
      exact k1 _ _ _ _ _ (Option.some.inj hf).symm hP hS (lv_sub hl [0, 1] rfl)
    · have hf := (if_neg c1).symm.trans hf
      refine lv_aload_n S.1 S.2.1 dX12_faultOf_21 rfl (lv_at hl 0 rfl) ?_
      refine r_get S hK hP (by decide) rfl rfl h_X12_faultOf_X12 1 (by decide) k_X12_faultOf_2 rfl dX12_faultOf_22 ?_
      refine lv_iload S.1 S.2.1 dX12_faultOf_25 (lv_at hl 5 rfl) ?_
      obtain ⟨g2, hf⟩ := gd_some hf
      refine r_iald S hK hP (by decide) (n := 60) (fun _ => rfl) (by decide) g2 dX12_faultOf_27 ?_
      obtain ⟨x3, hx3, hf⟩ := nm_some hf
      refine r_istore S hx3 (lv2 := [(6, .int (zI x3)), (0, .ref (ad 0)), (1, .int (zI x1_)), (2, .int (zI x2_)), (3, .int (zI x3_)), (4, .int (zI x4_)), (5, .int (zI x5_))]) dX12_faultOf_28 hl (by decide) rfl (fun ls hl => ?_)
      refine lv_iload S.1 S.2.1 dX12_faultOf_30 (lv_at hl 0 rfl) ?_
      refine r_bipush S dX12_faultOf_32 (by decide) ?_
      refine r_bipush S dX12_faultOf_34 (by decide) ?_
      obtain ⟨y5, hq4, hf⟩ := bV_some hf
      refine r_callSI S hK hP hS [.int (zI x3), .int (zI 97), .int (zI 100)] (c_X12_in l D cy ad hO x3 97 100 σ hq4) (cw_X12_faultOf_X12_in S.2.2.2.2) rfl hl.1 (rest := []) rfl (Nat.le_of_ble_eq_true rfl) dX12_faultOf_36 ⟨Nat.zero_le _, Nat.zero_le _⟩ (fun H locs hP hS => ?_)
      obtain ⟨t6, hq, hf⟩ := bV_some hf
      have kJ0 : t6 = 0 → ∀ (H : Heap) (locs : List Loc) (ls : Array Slot), va_P D vwCl (WW 28 (cellM cy ad) ad σ) H → va_S (AC 28 ad) H0 H locs → lv_has ls 9 [(0, .ref (ad 0)), (1, .int (zI x1_)), (2, .int (zI x2_)), (3, .int (zI x3_)), (4, .int (zI x4_)), (5, .int (zI x5_)), (6, .int (zI x3))] → W p l e rm_X12_faultOf s m args below meth c H locs 0 0 Q (F0 m 54 ls []) := by
        intro ht
        intro H locs ls hP hS hl
        have hf := (if_pos ht).symm.trans hf
        refine r_iconst S dX12_faultOf_54 ?_
        refine lv_goto (tgt := 59) S.1 S.2.1 dX12_faultOf_55 (by decide) ?_
        refine r_istore S rfl (lv2 := [(7, .int (zI 1)), (0, .ref (ad 0)), (1, .int (zI x1_)), (2, .int (zI x2_)), (3, .int (zI x3_)), (4, .int (zI x4_)), (5, .int (zI x5_)), (6, .int (zI x3))]) dX12_faultOf_59 hl (by decide) rfl (fun ls hl => ?_)
        refine r_bipush S dX12_faultOf_61 (by decide) ?_
        obtain ⟨x11, hx11, hf⟩ := nm_some hf
        refine r_istore S hx11 (lv2 := [(8, .int (zI x11)), (7, .int (zI 1)), (0, .ref (ad 0)), (1, .int (zI x1_)), (2, .int (zI x2_)), (3, .int (zI x3_)), (4, .int (zI x4_)), (5, .int (zI x5_)), (6, .int (zI x3))]) dX12_faultOf_63 hl (by decide) rfl (fun ls hl => ?_)
        refine lv_iload_n S.1 S.2.1 dX12_faultOf_65 rfl (lv_at hl 3 rfl) ?_
        obtain ⟨x12, x13, x14, x15, hq, hf⟩ := bL3_some hf
        have kJ0 : ∀ (H : Heap) (locs : List Loc) (ls : Array Slot), va_P D vwCl (WW 28 (cellM cy ad) ad σ) H → va_S (AC 28 ad) H0 H locs → lv_has ls 9 [(0, .ref (ad 0)), (2, .int (zI x12)), (3, .int (zI x13)), (4, .int (zI x14)), (5, .int (zI x5_)), (8, .int (zI x15))] → W p l e rm_X12_faultOf s m args below meth c H locs 0 0 Q (F0 m 231 ls []) := by
          intro H locs ls hP hS hl
          refine lv_iload S.1 S.2.1 dX12_faultOf_231 (lv_at hl 5 rfl) ?_
          refine r_if_ge (tgt := 239) S dX12_faultOf_233 (by decide) (fun c40 => ?_) (fun c40 => ?_)
          · have hf := (if_pos c40).symm.trans hf
            refine lv_iload S.1 S.2.1 dX12_faultOf_239 (lv_at hl 5 rfl) ?_
            refine r_istore_n S rfl (lv2 := [(1, .int (zI x15)), (0, .ref (ad 0)), (2, .int (zI x12)), (3, .int (zI x13)), (4, .int (zI x14)), (5, .int (zI x5_)), (8, .int (zI x15))]) dX12_faultOf_241 rfl hl (by decide) rfl (fun ls hl => ?_)
            obtain ⟨x41, hx41, hf⟩ := nm_some hf
            refine r_iinc S hx41 (k0 := 5) (lv2 := [(5, .int (zI x41)), (1, .int (zI x15)), (0, .ref (ad 0)), (2, .int (zI x12)), (3, .int (zI x13)), (4, .int (zI x14)), (8, .int (zI x15))]) dX12_faultOf_242 hl rfl (by decide) rfl (fun ls hl => ?_)
            refine lv_goto (tgt := 12) S.1 S.2.1 dX12_faultOf_245 (by decide) ?_
            exact ih x15 x12 x13 x14 x41 _ _ _ hf hP hS (lv_sub hl [2, 1, 3, 4, 5, 0] rfl)
          · have hf := (if_neg c40).symm.trans hf
            exact k0 _ _ _ _ _ (Option.some.inj hf).symm hP hS (lv_sub hl [4] rfl)
        clear hf
        have hf := hq
        refine r_if_ne (tgt := 109) S dX12_faultOf_66 (by decide) (fun c16 => ?_) (fun c16 => ?_)
        · have hf := (if_neg c16).symm.trans hf
          refine lv_iload_n S.1 S.2.1 dX12_faultOf_109 rfl (lv_at hl 3 rfl) ?_
          refine r_iconst S dX12_faultOf_110 ?_
          refine lv_icmp_ne (tgt := 134) S.1 S.2.1 dX12_faultOf_111 (by decide) (fun c17 => ?_) (fun c17 => ?_)
          · have hf := (if_neg c17).symm.trans hf
            refine lv_iload_n S.1 S.2.1 dX12_faultOf_134 rfl (lv_at hl 3 rfl) ?_
            refine r_iconst S dX12_faultOf_135 ?_
            refine lv_icmp_ne (tgt := 169) S.1 S.2.1 dX12_faultOf_136 (by decide) (fun c18 => ?_) (fun c18 => ?_)
            · have hf := (if_neg c18).symm.trans hf
              refine lv_iload_n S.1 S.2.1 dX12_faultOf_169 rfl (lv_at hl 3 rfl) ?_
              refine r_iconst S dX12_faultOf_170 ?_
              obtain ⟨t19, hq, hf⟩ := bV_some hf
              have kJ0 : t19 = 0 → ∀ (H : Heap) (locs : List Loc) (ls : Array Slot), va_P D vwCl (WW 28 (cellM cy ad) ad σ) H → va_S (AC 28 ad) H0 H locs → lv_has ls 9 [(0, .ref (ad 0)), (2, .int (zI x2_)), (3, .int (zI x3_)), (4, .int (zI x4_)), (5, .int (zI x5_)), (6, .int (zI x3)), (8, .int (zI x11))] → W p l e rm_X12_faultOf s m args below meth c H locs 0 0 Q (F0 m 194 ls []) := by
                intro ht
                intro H locs ls hP hS hl
                have hf := (if_pos ht).symm.trans hf
                refine lv_iload S.1 S.2.1 dX12_faultOf_194 (lv_at hl 5 rfl) ?_
                refine r_bipush S dX12_faultOf_196 (by decide) ?_
                obtain ⟨t23, hq, hf⟩ := bV_some hf
                have kJ0 : t23 = 0 → ∀ (H : Heap) (locs : List Loc) (ls : Array Slot), va_P D vwCl (WW 28 (cellM cy ad) ad σ) H → va_S (AC 28 ad) H0 H locs → lv_has ls 9 [(0, .ref (ad 0)), (2, .int (zI x2_)), (3, .int (zI x3_)), (4, .int (zI x4_)), (5, .int (zI x5_)), (6, .int (zI x3)), (8, .int (zI x11))] → W p l e rm_X12_faultOf s m args below meth c H locs 0 0 Q (F0 m 215 ls []) := by
                  intro ht
                  intro H locs ls hP hS hl
                  have hf := (if_pos ht).symm.trans hf
                  refine lv_iload S.1 S.2.1 dX12_faultOf_215 (lv_at hl 5 rfl) ?_
                  refine r_bipush S dX12_faultOf_217 (by decide) ?_
                  refine lv_icmp_ne (tgt := 231) S.1 S.2.1 dX12_faultOf_219 (by decide) (fun c26 => ?_) (fun c26 => ?_)
                  · have hf := (if_neg c26).symm.trans hf
                    obtain ⟨e1, e2, e3, e4⟩ := inj4 hf
                    subst e1
                    subst e2
                    subst e3
                    subst e4
                    exact kJ0 _ _ _ hP hS (lv_sub hl [0, 1, 2, 3, 4, 6] rfl)
                  · have hf := (if_pos c26).symm.trans hf
                    refine lv_iload_n S.1 S.2.1 dX12_faultOf_222 rfl (lv_at hl 1 rfl) ?_
                    refine r_bipush S dX12_faultOf_223 (by decide) ?_
                    refine lv_icmp_eq (tgt := 231) S.1 S.2.1 dX12_faultOf_225 (by decide) (fun c27 => ?_) (fun c27 => ?_)
                    · have hf := (if_pos c27).symm.trans hf
                      obtain ⟨e1, e2, e3, e4⟩ := inj4 hf
                      subst e1
                      subst e2
                      subst e3
                      subst e4
                      exact kJ0 _ _ _ hP hS (lv_sub hl [0, 1, 2, 3, 4, 6] rfl)
                    · have hf := (if_neg c27).symm.trans hf
                      refine r_iconst S dX12_faultOf_228 ?_
                      refine r_istore S rfl (lv2 := [(8, .int (zI 0)), (0, .ref (ad 0)), (2, .int (zI x2_)), (3, .int (zI x3_)), (4, .int (zI x4_)), (5, .int (zI x5_)), (6, .int (zI x3))]) dX12_faultOf_229 hl (by decide) rfl (fun ls hl => ?_)
                      obtain ⟨e1, e2, e3, e4⟩ := inj4 hf
                      subst e1
                      subst e2
                      subst e3
                      subst e4
                      exact kJ0 _ _ _ hP hS (lv_sub hl [1, 2, 3, 4, 5, 0] rfl)
                have kJ1 : t23 = 1 → ∀ (H : Heap) (locs : List Loc) (ls : Array Slot), va_P D vwCl (WW 28 (cellM cy ad) ad σ) H → va_S (AC 28 ad) H0 H locs → lv_has ls 9 [(0, .ref (ad 0)), (2, .int (zI x2_)), (3, .int (zI x3_)), (4, .int (zI x4_)), (5, .int (zI x5_))] → W p l e rm_X12_faultOf s m args below meth c H locs 0 0 Q (F0 m 206 ls []) := by
                  intro ht
                  intro H locs ls hP hS hl
                  have hf := (if_neg (by rw [ht]; decide)).symm.trans hf
                  obtain ⟨x28, hx28, hf⟩ := nm_some hf
                  refine r_iinc S hx28 (k0 := 2) (lv2 := [(3, .int (zI x28)), (0, .ref (ad 0)), (2, .int (zI x2_)), (4, .int (zI x4_)), (5, .int (zI x5_))]) dX12_faultOf_206 hl rfl (by decide) rfl (fun ls hl => ?_)
                  refine r_iconst S dX12_faultOf_209 ?_
                  refine r_istore S rfl (lv2 := [(8, .int (zI 2)), (3, .int (zI x28)), (0, .ref (ad 0)), (2, .int (zI x2_)), (4, .int (zI x4_)), (5, .int (zI x5_))]) dX12_faultOf_210 hl (by decide) rfl (fun ls hl => ?_)
                  refine lv_goto (tgt := 231) S.1 S.2.1 dX12_faultOf_212 (by decide) ?_
                  obtain ⟨e1, e2, e3, e4⟩ := inj4 hf
                  subst e1
                  subst e2
                  subst e3
                  subst e4
                  exact kJ0 _ _ _ hP hS (lv_sub hl [2, 3, 1, 4, 5, 0] rfl)
                clear hf
                have hf := hq
                refine lv_icmp_ne (tgt := 215) S.1 S.2.1 dX12_faultOf_198 (by decide) (fun c24 => ?_) (fun c24 => ?_)
                · have hf := (if_neg c24).symm.trans hf
                  have e1 := Option.some.inj hf
                  subst e1
                  exact kJ0 rfl _ _ _ hP hS (lv_sub hl [0, 1, 2, 3, 4, 5, 6] rfl)
                · have hf := (if_pos c24).symm.trans hf
                  refine lv_iload_n S.1 S.2.1 dX12_faultOf_201 rfl (lv_at hl 2 rfl) ?_
                  refine r_iconst S dX12_faultOf_202 ?_
                  refine lv_icmp_ge (tgt := 215) S.1 S.2.1 dX12_faultOf_203 (by decide) (fun c25 => ?_) (fun c25 => ?_)
                  · have hf := (if_pos c25).symm.trans hf
                    have e1 := Option.some.inj hf
                    subst e1
                    exact kJ0 rfl _ _ _ hP hS (lv_sub hl [0, 1, 2, 3, 4, 5, 6] rfl)
                  · have hf := (if_neg c25).symm.trans hf
                    have e1 := Option.some.inj hf
                    subst e1
                    exact kJ1 rfl _ _ _ hP hS (lv_sub hl [0, 1, 2, 3, 4] rfl)
              have kJ1 : t19 = 1 → ∀ (H : Heap) (locs : List Loc) (ls : Array Slot), va_P D vwCl (WW 28 (cellM cy ad) ad σ) H → va_S (AC 28 ad) H0 H locs → lv_has ls 9 [(0, .ref (ad 0)), (2, .int (zI x2_)), (3, .int (zI x3_)), (4, .int (zI x4_)), (5, .int (zI x5_))] → W p l e rm_X12_faultOf s m args below meth c H locs 0 0 Q (F0 m 185 ls []) := by
                intro ht
                intro H locs ls hP hS hl
                have hf := (if_neg (by rw [ht]; decide)).symm.trans hf
                obtain ⟨x29, hx29, hf⟩ := nm_some hf
                refine r_iinc S hx29 (k0 := 3) (lv2 := [(4, .int (zI x29)), (0, .ref (ad 0)), (2, .int (zI x2_)), (3, .int (zI x3_)), (5, .int (zI x5_))]) dX12_faultOf_185 hl rfl (by decide) rfl (fun ls hl => ?_)
                refine r_iconst S dX12_faultOf_188 ?_
                refine r_istore S rfl (lv2 := [(8, .int (zI 3)), (4, .int (zI x29)), (0, .ref (ad 0)), (2, .int (zI x2_)), (3, .int (zI x3_)), (5, .int (zI x5_))]) dX12_faultOf_189 hl (by decide) rfl (fun ls hl => ?_)
                refine lv_goto (tgt := 231) S.1 S.2.1 dX12_faultOf_191 (by decide) ?_
                obtain ⟨e1, e2, e3, e4⟩ := inj4 hf
                subst e1
                subst e2
                subst e3
                subst e4
                exact kJ0 _ _ _ hP hS (lv_sub hl [2, 3, 4, 1, 5, 0] rfl)
              clear hf
              have hf := hq
              refine lv_icmp_ne (tgt := 194) S.1 S.2.1 dX12_faultOf_171 (by decide) (fun c20 => ?_) (fun c20 => ?_)
              · have hf := (if_neg c20).symm.trans hf
                have e1 := Option.some.inj hf
                subst e1
                exact kJ0 rfl _ _ _ hP hS (lv_sub hl [2, 4, 5, 6, 7, 8, 0] rfl)
              · have hf := (if_pos c20).symm.trans hf
                refine lv_iload S.1 S.2.1 dX12_faultOf_174 (lv_at hl 1 rfl) ?_
                refine r_if_eq (tgt := 194) S dX12_faultOf_176 (by decide) (fun c21 => ?_) (fun c21 => ?_)
                · have hf := (if_pos c21).symm.trans hf
                  have e1 := Option.some.inj hf
                  subst e1
                  exact kJ0 rfl _ _ _ hP hS (lv_sub hl [2, 4, 5, 6, 7, 8, 0] rfl)
                · have hf := (if_neg c21).symm.trans hf
                  refine lv_iload S.1 S.2.1 dX12_faultOf_179 (lv_at hl 6 rfl) ?_
                  refine r_iconst S dX12_faultOf_181 ?_
                  refine lv_icmp_ge (tgt := 194) S.1 S.2.1 dX12_faultOf_182 (by decide) (fun c22 => ?_) (fun c22 => ?_)
                  · have hf := (if_pos c22).symm.trans hf
                    have e1 := Option.some.inj hf
                    subst e1
                    exact kJ0 rfl _ _ _ hP hS (lv_sub hl [2, 4, 5, 6, 7, 8, 0] rfl)
                  · have hf := (if_neg c22).symm.trans hf
                    have e1 := Option.some.inj hf
                    subst e1
                    exact kJ1 rfl _ _ _ hP hS (lv_sub hl [2, 4, 5, 6, 7] rfl)
            · have hf := (if_pos c18).symm.trans hf
              refine lv_iload S.1 S.2.1 dX12_faultOf_139 (lv_at hl 8 rfl) ?_
              refine r_bipush S dX12_faultOf_141 (by decide) ?_
              obtain ⟨v30, hq, hf⟩ := bV_some hf
              have kJ0 : ∀ (H : Heap) (locs : List Loc) (ls : Array Slot), va_P D vwCl (WW 28 (cellM cy ad) ad σ) H → va_S (AC 28 ad) H0 H locs → lv_has ls 9 [(0, .ref (ad 0)), (2, .int (zI x2_)), (3, .int (zI x3_)), (5, .int (zI x5_))] → W p l e rm_X12_faultOf s m args below meth c H locs 0 0 Q (F0 m 161 ls [.int (zI v30)]) := by
                intro H locs ls hP hS hl
                refine r_istore S rfl (lv2 := [(8, .int (zI v30)), (0, .ref (ad 0)), (2, .int (zI x2_)), (3, .int (zI x3_)), (5, .int (zI x5_))]) dX12_faultOf_161 hl (by decide) rfl (fun ls hl => ?_)
                refine r_iconst S dX12_faultOf_163 ?_
                refine r_istore S rfl (lv2 := [(4, .int (zI 1)), (8, .int (zI v30)), (0, .ref (ad 0)), (2, .int (zI x2_)), (3, .int (zI x3_)), (5, .int (zI x5_))]) dX12_faultOf_164 hl (by decide) rfl (fun ls hl => ?_)
                refine lv_goto (tgt := 231) S.1 S.2.1 dX12_faultOf_166 (by decide) ?_
                obtain ⟨e1, e2, e3, e4⟩ := inj4 hf
                subst e1
                subst e2
                subst e3
                subst e4
                exact kJ0 _ _ _ hP hS (lv_sub hl [2, 3, 4, 0, 5, 1] rfl)
              clear hf
              have hf := hq
              refine lv_icmp_ne (tgt := 150) S.1 S.2.1 dX12_faultOf_143 (by decide) (fun c31 => ?_) (fun c31 => ?_)
              · have hf := (if_neg c31).symm.trans hf
                refine lv_iload S.1 S.2.1 dX12_faultOf_150 (lv_at hl 1 rfl) ?_
                refine r_if_eq (tgt := 159) S dX12_faultOf_152 (by decide) (fun c32 => ?_) (fun c32 => ?_)
                · have hf := (if_pos c32).symm.trans hf
                  refine r_bipush S dX12_faultOf_159 (by decide) ?_
                  have e1 := Option.some.inj hf
                  subst e1
                  exact kJ0 _ _ _ hP hS (lv_sub hl [2, 4, 5, 7] rfl)
                · have hf := (if_neg c32).symm.trans hf
                  refine r_iconst S dX12_faultOf_155 ?_
                  refine lv_goto (tgt := 161) S.1 S.2.1 dX12_faultOf_156 (by decide) ?_
                  have e1 := Option.some.inj hf
                  subst e1
                  exact kJ0 _ _ _ hP hS (lv_sub hl [2, 4, 5, 7] rfl)
              · have hf := (if_pos c31).symm.trans hf
                refine r_iconst S dX12_faultOf_146 ?_
                refine lv_goto (tgt := 161) S.1 S.2.1 dX12_faultOf_147 (by decide) ?_
                have e1 := Option.some.inj hf
                subst e1
                exact kJ0 _ _ _ hP hS (lv_sub hl [2, 4, 5, 7] rfl)
          · have hf := (if_pos c17).symm.trans hf
            refine lv_iload S.1 S.2.1 dX12_faultOf_114 (lv_at hl 8 rfl) ?_
            refine r_bipush S dX12_faultOf_116 (by decide) ?_
            obtain ⟨v33, hq, hf⟩ := bV_some hf
            have kJ0 : ∀ (H : Heap) (locs : List Loc) (ls : Array Slot), va_P D vwCl (WW 28 (cellM cy ad) ad σ) H → va_S (AC 28 ad) H0 H locs → lv_has ls 9 [(0, .ref (ad 0)), (2, .int (zI x2_)), (4, .int (zI x4_)), (5, .int (zI x5_))] → W p l e rm_X12_faultOf s m args below meth c H locs 0 0 Q (F0 m 127 ls [.int (zI v33)]) := by
              intro H locs ls hP hS hl
              refine r_istore S rfl (lv2 := [(8, .int (zI v33)), (0, .ref (ad 0)), (2, .int (zI x2_)), (4, .int (zI x4_)), (5, .int (zI x5_))]) dX12_faultOf_127 hl (by decide) rfl (fun ls hl => ?_)
              refine r_iconst S dX12_faultOf_129 ?_
              refine r_istore_n S rfl (lv2 := [(3, .int (zI 1)), (8, .int (zI v33)), (0, .ref (ad 0)), (2, .int (zI x2_)), (4, .int (zI x4_)), (5, .int (zI x5_))]) dX12_faultOf_130 rfl hl (by decide) rfl (fun ls hl => ?_)
              refine lv_goto (tgt := 231) S.1 S.2.1 dX12_faultOf_131 (by decide) ?_
              obtain ⟨e1, e2, e3, e4⟩ := inj4 hf
              subst e1
              subst e2
              subst e3
              subst e4
              exact kJ0 _ _ _ hP hS (lv_sub hl [2, 3, 0, 4, 5, 1] rfl)
            clear hf
            have hf := hq
            refine lv_icmp_ne (tgt := 125) S.1 S.2.1 dX12_faultOf_118 (by decide) (fun c34 => ?_) (fun c34 => ?_)
            · have hf := (if_neg c34).symm.trans hf
              refine r_bipush S dX12_faultOf_125 (by decide) ?_
              have e1 := Option.some.inj hf
              subst e1
              exact kJ0 _ _ _ hP hS (lv_sub hl [2, 4, 6, 7] rfl)
            · have hf := (if_pos c34).symm.trans hf
              refine r_iconst S dX12_faultOf_121 ?_
              refine lv_goto (tgt := 127) S.1 S.2.1 dX12_faultOf_122 (by decide) ?_
              have e1 := Option.some.inj hf
              subst e1
              exact kJ0 _ _ _ hP hS (lv_sub hl [2, 4, 6, 7] rfl)
        · have hf := (if_pos c16).symm.trans hf
          refine lv_iload S.1 S.2.1 dX12_faultOf_69 (lv_at hl 8 rfl) ?_
          refine r_bipush S dX12_faultOf_71 (by decide) ?_
          refine r_bipush S dX12_faultOf_73 (by decide) ?_
          obtain ⟨y36, hq35, hf⟩ := bV_some hf
          refine r_callSI S hK hP hS [.int (zI x3), .int (zI 65), .int (zI 70)] (c_X12_in l D cy ad hO x3 65 70 σ hq35) (cw_X12_faultOf_X12_in S.2.2.2.2) rfl hl.1 (rest := []) rfl (Nat.le_of_ble_eq_true rfl) dX12_faultOf_75 ⟨Nat.zero_le _, Nat.zero_le _⟩ (fun H locs hP hS => ?_)
          refine r_if_eq (tgt := 231) S dX12_faultOf_78 (by decide) (fun c37 => ?_) (fun c37 => ?_)
          · have hf := (if_pos c37).symm.trans hf
            obtain ⟨e1, e2, e3, e4⟩ := inj4 hf
            subst e1
            subst e2
            subst e3
            subst e4
            exact kJ0 _ _ _ hP hS (lv_sub hl [2, 4, 5, 6, 7, 0] rfl)
          · have hf := (if_neg c37).symm.trans hf
            refine lv_iload_n S.1 S.2.1 dX12_faultOf_81 rfl (lv_at hl 4 rfl) ?_
            refine lv_iload S.1 S.2.1 dX12_faultOf_82 (lv_at hl 8 rfl) ?_
            refine r_bipush S dX12_faultOf_84 (by decide) ?_
            refine r_isub S dX12_faultOf_86 ?_
            refine r_ishr S dX12_faultOf_87 ?_
            refine r_iconst S dX12_faultOf_88 ?_
            refine r_iand S dX12_faultOf_89 ?_
            refine r_if_ne (tgt := 231) S dX12_faultOf_90 (by decide) (fun c38 => ?_) (fun c38 => ?_)
            · have hf := (if_neg c38).symm.trans hf
              obtain ⟨e1, e2, e3, e4⟩ := inj4 hf
              subst e1
              subst e2
              subst e3
              subst e4
              exact kJ0 _ _ _ hP hS (lv_sub hl [2, 4, 5, 6, 7, 0] rfl)
            · have hf := (if_pos c38).symm.trans hf
              refine lv_iload_n S.1 S.2.1 dX12_faultOf_93 rfl (lv_at hl 4 rfl) ?_
              refine r_iconst S dX12_faultOf_94 ?_
              refine lv_iload S.1 S.2.1 dX12_faultOf_95 (lv_at hl 8 rfl) ?_
              refine r_bipush S dX12_faultOf_97 (by decide) ?_
              refine r_isub S dX12_faultOf_99 ?_
              refine r_ishl S dX12_faultOf_100 ?_
              refine r_ior S dX12_faultOf_101 ?_
              obtain ⟨x39, hx39, hf⟩ := nm_some hf
              refine r_istore_n S hx39 (lv2 := [(2, .int (zI x39)), (8, .int (zI x11)), (7, .int (zI 1)), (0, .ref (ad 0)), (1, .int (zI x1_)), (3, .int (zI x3_)), (4, .int (zI x4_)), (5, .int (zI x5_)), (6, .int (zI x3))]) dX12_faultOf_102 rfl hl (by decide) rfl (fun ls hl => ?_)
              refine r_iconst S dX12_faultOf_103 ?_
              refine r_istore S rfl (lv2 := [(8, .int (zI 1)), (2, .int (zI x39)), (7, .int (zI 1)), (0, .ref (ad 0)), (1, .int (zI x1_)), (3, .int (zI x3_)), (4, .int (zI x4_)), (5, .int (zI x5_)), (6, .int (zI x3))]) dX12_faultOf_104 hl (by decide) rfl (fun ls hl => ?_)
              refine lv_goto (tgt := 231) S.1 S.2.1 dX12_faultOf_106 (by decide) ?_
              obtain ⟨e1, e2, e3, e4⟩ := inj4 hf
              subst e1
              subst e2
              subst e3
              subst e4
              exact kJ0 _ _ _ hP hS (lv_sub hl [3, 1, 5, 6, 7, 0] rfl)
      have kJ1 : t6 = 1 → ∀ (H : Heap) (locs : List Loc) (ls : Array Slot), va_P D vwCl (WW 28 (cellM cy ad) ad σ) H → va_S (AC 28 ad) H0 H locs → lv_has ls 9 [(0, .ref (ad 0)), (1, .int (zI x1_)), (2, .int (zI x2_)), (3, .int (zI x3_)), (4, .int (zI x4_)), (5, .int (zI x5_)), (6, .int (zI x3))] → W p l e rm_X12_faultOf s m args below meth c H locs 0 0 Q (F0 m 58 ls []) := by
        intro ht
        intro H locs ls hP hS hl
        have hf := (if_neg (by rw [ht]; decide)).symm.trans hf
        refine r_iconst S dX12_faultOf_58 ?_
        refine r_istore S rfl (lv2 := [(7, .int (zI 0)), (0, .ref (ad 0)), (1, .int (zI x1_)), (2, .int (zI x2_)), (3, .int (zI x3_)), (4, .int (zI x4_)), (5, .int (zI x5_)), (6, .int (zI x3))]) dX12_faultOf_59 hl (by decide) rfl (fun ls hl => ?_)
        refine r_bipush S dX12_faultOf_61 (by decide) ?_
        obtain ⟨x42, hx42, hf⟩ := nm_some hf
        refine r_istore S hx42 (lv2 := [(8, .int (zI x42)), (7, .int (zI 0)), (0, .ref (ad 0)), (1, .int (zI x1_)), (2, .int (zI x2_)), (3, .int (zI x3_)), (4, .int (zI x4_)), (5, .int (zI x5_)), (6, .int (zI x3))]) dX12_faultOf_63 hl (by decide) rfl (fun ls hl => ?_)
        refine lv_iload_n S.1 S.2.1 dX12_faultOf_65 rfl (lv_at hl 3 rfl) ?_
        obtain ⟨x43, x44, x45, x46, hq, hf⟩ := bL3_some hf
        have kJ0 : ∀ (H : Heap) (locs : List Loc) (ls : Array Slot), va_P D vwCl (WW 28 (cellM cy ad) ad σ) H → va_S (AC 28 ad) H0 H locs → lv_has ls 9 [(0, .ref (ad 0)), (2, .int (zI x43)), (3, .int (zI x44)), (4, .int (zI x45)), (5, .int (zI x5_)), (8, .int (zI x46))] → W p l e rm_X12_faultOf s m args below meth c H locs 0 0 Q (F0 m 231 ls []) := by
          intro H locs ls hP hS hl
          refine lv_iload S.1 S.2.1 dX12_faultOf_231 (lv_at hl 5 rfl) ?_
          refine r_if_ge (tgt := 239) S dX12_faultOf_233 (by decide) (fun c71 => ?_) (fun c71 => ?_)
          · have hf := (if_pos c71).symm.trans hf
            refine lv_iload S.1 S.2.1 dX12_faultOf_239 (lv_at hl 5 rfl) ?_
            refine r_istore_n S rfl (lv2 := [(1, .int (zI x46)), (0, .ref (ad 0)), (2, .int (zI x43)), (3, .int (zI x44)), (4, .int (zI x45)), (5, .int (zI x5_)), (8, .int (zI x46))]) dX12_faultOf_241 rfl hl (by decide) rfl (fun ls hl => ?_)
            obtain ⟨x72, hx72, hf⟩ := nm_some hf
            refine r_iinc S hx72 (k0 := 5) (lv2 := [(5, .int (zI x72)), (1, .int (zI x46)), (0, .ref (ad 0)), (2, .int (zI x43)), (3, .int (zI x44)), (4, .int (zI x45)), (8, .int (zI x46))]) dX12_faultOf_242 hl rfl (by decide) rfl (fun ls hl => ?_)
            refine lv_goto (tgt := 12) S.1 S.2.1 dX12_faultOf_245 (by decide) ?_
            exact ih x46 x43 x44 x45 x72 _ _ _ hf hP hS (lv_sub hl [2, 1, 3, 4, 5, 0] rfl)
          · have hf := (if_neg c71).symm.trans hf
            exact k0 _ _ _ _ _ (Option.some.inj hf).symm hP hS (lv_sub hl [4] rfl)
        clear hf
        have hf := hq
        refine r_if_ne (tgt := 109) S dX12_faultOf_66 (by decide) (fun c47 => ?_) (fun c47 => ?_)
        · have hf := (if_neg c47).symm.trans hf
          refine lv_iload_n S.1 S.2.1 dX12_faultOf_109 rfl (lv_at hl 3 rfl) ?_
          refine r_iconst S dX12_faultOf_110 ?_
          refine lv_icmp_ne (tgt := 134) S.1 S.2.1 dX12_faultOf_111 (by decide) (fun c48 => ?_) (fun c48 => ?_)
          · have hf := (if_neg c48).symm.trans hf
            refine lv_iload_n S.1 S.2.1 dX12_faultOf_134 rfl (lv_at hl 3 rfl) ?_
            refine r_iconst S dX12_faultOf_135 ?_
            refine lv_icmp_ne (tgt := 169) S.1 S.2.1 dX12_faultOf_136 (by decide) (fun c49 => ?_) (fun c49 => ?_)
            · have hf := (if_neg c49).symm.trans hf
              refine lv_iload_n S.1 S.2.1 dX12_faultOf_169 rfl (lv_at hl 3 rfl) ?_
              refine r_iconst S dX12_faultOf_170 ?_
              obtain ⟨t50, hq, hf⟩ := bV_some hf
              have kJ0 : t50 = 0 → ∀ (H : Heap) (locs : List Loc) (ls : Array Slot), va_P D vwCl (WW 28 (cellM cy ad) ad σ) H → va_S (AC 28 ad) H0 H locs → lv_has ls 9 [(0, .ref (ad 0)), (2, .int (zI x2_)), (3, .int (zI x3_)), (4, .int (zI x4_)), (5, .int (zI x5_)), (6, .int (zI x3)), (8, .int (zI x42))] → W p l e rm_X12_faultOf s m args below meth c H locs 0 0 Q (F0 m 194 ls []) := by
                intro ht
                intro H locs ls hP hS hl
                have hf := (if_pos ht).symm.trans hf
                refine lv_iload S.1 S.2.1 dX12_faultOf_194 (lv_at hl 5 rfl) ?_
                refine r_bipush S dX12_faultOf_196 (by decide) ?_
                obtain ⟨t54, hq, hf⟩ := bV_some hf
                have kJ0 : t54 = 0 → ∀ (H : Heap) (locs : List Loc) (ls : Array Slot), va_P D vwCl (WW 28 (cellM cy ad) ad σ) H → va_S (AC 28 ad) H0 H locs → lv_has ls 9 [(0, .ref (ad 0)), (2, .int (zI x2_)), (3, .int (zI x3_)), (4, .int (zI x4_)), (5, .int (zI x5_)), (6, .int (zI x3)), (8, .int (zI x42))] → W p l e rm_X12_faultOf s m args below meth c H locs 0 0 Q (F0 m 215 ls []) := by
                  intro ht
                  intro H locs ls hP hS hl
                  have hf := (if_pos ht).symm.trans hf
                  refine lv_iload S.1 S.2.1 dX12_faultOf_215 (lv_at hl 5 rfl) ?_
                  refine r_bipush S dX12_faultOf_217 (by decide) ?_
                  refine lv_icmp_ne (tgt := 231) S.1 S.2.1 dX12_faultOf_219 (by decide) (fun c57 => ?_) (fun c57 => ?_)
                  · have hf := (if_neg c57).symm.trans hf
                    obtain ⟨e1, e2, e3, e4⟩ := inj4 hf
                    subst e1
                    subst e2
                    subst e3
                    subst e4
                    exact kJ0 _ _ _ hP hS (lv_sub hl [0, 1, 2, 3, 4, 6] rfl)
                  · have hf := (if_pos c57).symm.trans hf
                    refine lv_iload_n S.1 S.2.1 dX12_faultOf_222 rfl (lv_at hl 1 rfl) ?_
                    refine r_bipush S dX12_faultOf_223 (by decide) ?_
                    refine lv_icmp_eq (tgt := 231) S.1 S.2.1 dX12_faultOf_225 (by decide) (fun c58 => ?_) (fun c58 => ?_)
                    · have hf := (if_pos c58).symm.trans hf
                      obtain ⟨e1, e2, e3, e4⟩ := inj4 hf
                      subst e1
                      subst e2
                      subst e3
                      subst e4
                      exact kJ0 _ _ _ hP hS (lv_sub hl [0, 1, 2, 3, 4, 6] rfl)
                    · have hf := (if_neg c58).symm.trans hf
                      refine r_iconst S dX12_faultOf_228 ?_
                      refine r_istore S rfl (lv2 := [(8, .int (zI 0)), (0, .ref (ad 0)), (2, .int (zI x2_)), (3, .int (zI x3_)), (4, .int (zI x4_)), (5, .int (zI x5_)), (6, .int (zI x3))]) dX12_faultOf_229 hl (by decide) rfl (fun ls hl => ?_)
                      obtain ⟨e1, e2, e3, e4⟩ := inj4 hf
                      subst e1
                      subst e2
                      subst e3
                      subst e4
                      exact kJ0 _ _ _ hP hS (lv_sub hl [1, 2, 3, 4, 5, 0] rfl)
                have kJ1 : t54 = 1 → ∀ (H : Heap) (locs : List Loc) (ls : Array Slot), va_P D vwCl (WW 28 (cellM cy ad) ad σ) H → va_S (AC 28 ad) H0 H locs → lv_has ls 9 [(0, .ref (ad 0)), (2, .int (zI x2_)), (3, .int (zI x3_)), (4, .int (zI x4_)), (5, .int (zI x5_))] → W p l e rm_X12_faultOf s m args below meth c H locs 0 0 Q (F0 m 206 ls []) := by
                  intro ht
                  intro H locs ls hP hS hl
                  have hf := (if_neg (by rw [ht]; decide)).symm.trans hf
                  obtain ⟨x59, hx59, hf⟩ := nm_some hf
                  refine r_iinc S hx59 (k0 := 2) (lv2 := [(3, .int (zI x59)), (0, .ref (ad 0)), (2, .int (zI x2_)), (4, .int (zI x4_)), (5, .int (zI x5_))]) dX12_faultOf_206 hl rfl (by decide) rfl (fun ls hl => ?_)
                  refine r_iconst S dX12_faultOf_209 ?_
                  refine r_istore S rfl (lv2 := [(8, .int (zI 2)), (3, .int (zI x59)), (0, .ref (ad 0)), (2, .int (zI x2_)), (4, .int (zI x4_)), (5, .int (zI x5_))]) dX12_faultOf_210 hl (by decide) rfl (fun ls hl => ?_)
                  refine lv_goto (tgt := 231) S.1 S.2.1 dX12_faultOf_212 (by decide) ?_
                  obtain ⟨e1, e2, e3, e4⟩ := inj4 hf
                  subst e1
                  subst e2
                  subst e3
                  subst e4
                  exact kJ0 _ _ _ hP hS (lv_sub hl [2, 3, 1, 4, 5, 0] rfl)
                clear hf
                have hf := hq
                refine lv_icmp_ne (tgt := 215) S.1 S.2.1 dX12_faultOf_198 (by decide) (fun c55 => ?_) (fun c55 => ?_)
                · have hf := (if_neg c55).symm.trans hf
                  have e1 := Option.some.inj hf
                  subst e1
                  exact kJ0 rfl _ _ _ hP hS (lv_sub hl [0, 1, 2, 3, 4, 5, 6] rfl)
                · have hf := (if_pos c55).symm.trans hf
                  refine lv_iload_n S.1 S.2.1 dX12_faultOf_201 rfl (lv_at hl 2 rfl) ?_
                  refine r_iconst S dX12_faultOf_202 ?_
                  refine lv_icmp_ge (tgt := 215) S.1 S.2.1 dX12_faultOf_203 (by decide) (fun c56 => ?_) (fun c56 => ?_)
                  · have hf := (if_pos c56).symm.trans hf
                    have e1 := Option.some.inj hf
                    subst e1
                    exact kJ0 rfl _ _ _ hP hS (lv_sub hl [0, 1, 2, 3, 4, 5, 6] rfl)
                  · have hf := (if_neg c56).symm.trans hf
                    have e1 := Option.some.inj hf
                    subst e1
                    exact kJ1 rfl _ _ _ hP hS (lv_sub hl [0, 1, 2, 3, 4] rfl)
              have kJ1 : t50 = 1 → ∀ (H : Heap) (locs : List Loc) (ls : Array Slot), va_P D vwCl (WW 28 (cellM cy ad) ad σ) H → va_S (AC 28 ad) H0 H locs → lv_has ls 9 [(0, .ref (ad 0)), (2, .int (zI x2_)), (3, .int (zI x3_)), (4, .int (zI x4_)), (5, .int (zI x5_))] → W p l e rm_X12_faultOf s m args below meth c H locs 0 0 Q (F0 m 185 ls []) := by
                intro ht
                intro H locs ls hP hS hl
                have hf := (if_neg (by rw [ht]; decide)).symm.trans hf
                obtain ⟨x60, hx60, hf⟩ := nm_some hf
                refine r_iinc S hx60 (k0 := 3) (lv2 := [(4, .int (zI x60)), (0, .ref (ad 0)), (2, .int (zI x2_)), (3, .int (zI x3_)), (5, .int (zI x5_))]) dX12_faultOf_185 hl rfl (by decide) rfl (fun ls hl => ?_)
                refine r_iconst S dX12_faultOf_188 ?_
                refine r_istore S rfl (lv2 := [(8, .int (zI 3)), (4, .int (zI x60)), (0, .ref (ad 0)), (2, .int (zI x2_)), (3, .int (zI x3_)), (5, .int (zI x5_))]) dX12_faultOf_189 hl (by decide) rfl (fun ls hl => ?_)
                refine lv_goto (tgt := 231) S.1 S.2.1 dX12_faultOf_191 (by decide) ?_
                obtain ⟨e1, e2, e3, e4⟩ := inj4 hf
                subst e1
                subst e2
                subst e3
                subst e4
                exact kJ0 _ _ _ hP hS (lv_sub hl [2, 3, 4, 1, 5, 0] rfl)
              clear hf
              have hf := hq
              refine lv_icmp_ne (tgt := 194) S.1 S.2.1 dX12_faultOf_171 (by decide) (fun c51 => ?_) (fun c51 => ?_)
              · have hf := (if_neg c51).symm.trans hf
                have e1 := Option.some.inj hf
                subst e1
                exact kJ0 rfl _ _ _ hP hS (lv_sub hl [2, 4, 5, 6, 7, 8, 0] rfl)
              · have hf := (if_pos c51).symm.trans hf
                refine lv_iload S.1 S.2.1 dX12_faultOf_174 (lv_at hl 1 rfl) ?_
                refine r_if_eq (tgt := 194) S dX12_faultOf_176 (by decide) (fun c52 => ?_) (fun c52 => ?_)
                · have hf := (if_pos c52).symm.trans hf
                  have e1 := Option.some.inj hf
                  subst e1
                  exact kJ0 rfl _ _ _ hP hS (lv_sub hl [2, 4, 5, 6, 7, 8, 0] rfl)
                · have hf := (if_neg c52).symm.trans hf
                  refine lv_iload S.1 S.2.1 dX12_faultOf_179 (lv_at hl 6 rfl) ?_
                  refine r_iconst S dX12_faultOf_181 ?_
                  refine lv_icmp_ge (tgt := 194) S.1 S.2.1 dX12_faultOf_182 (by decide) (fun c53 => ?_) (fun c53 => ?_)
                  · have hf := (if_pos c53).symm.trans hf
                    have e1 := Option.some.inj hf
                    subst e1
                    exact kJ0 rfl _ _ _ hP hS (lv_sub hl [2, 4, 5, 6, 7, 8, 0] rfl)
                  · have hf := (if_neg c53).symm.trans hf
                    have e1 := Option.some.inj hf
                    subst e1
                    exact kJ1 rfl _ _ _ hP hS (lv_sub hl [2, 4, 5, 6, 7] rfl)
            · have hf := (if_pos c49).symm.trans hf
              refine lv_iload S.1 S.2.1 dX12_faultOf_139 (lv_at hl 8 rfl) ?_
              refine r_bipush S dX12_faultOf_141 (by decide) ?_
              obtain ⟨v61, hq, hf⟩ := bV_some hf
              have kJ0 : ∀ (H : Heap) (locs : List Loc) (ls : Array Slot), va_P D vwCl (WW 28 (cellM cy ad) ad σ) H → va_S (AC 28 ad) H0 H locs → lv_has ls 9 [(0, .ref (ad 0)), (2, .int (zI x2_)), (3, .int (zI x3_)), (5, .int (zI x5_))] → W p l e rm_X12_faultOf s m args below meth c H locs 0 0 Q (F0 m 161 ls [.int (zI v61)]) := by
                intro H locs ls hP hS hl
                refine r_istore S rfl (lv2 := [(8, .int (zI v61)), (0, .ref (ad 0)), (2, .int (zI x2_)), (3, .int (zI x3_)), (5, .int (zI x5_))]) dX12_faultOf_161 hl (by decide) rfl (fun ls hl => ?_)
                refine r_iconst S dX12_faultOf_163 ?_
                refine r_istore S rfl (lv2 := [(4, .int (zI 1)), (8, .int (zI v61)), (0, .ref (ad 0)), (2, .int (zI x2_)), (3, .int (zI x3_)), (5, .int (zI x5_))]) dX12_faultOf_164 hl (by decide) rfl (fun ls hl => ?_)
                refine lv_goto (tgt := 231) S.1 S.2.1 dX12_faultOf_166 (by decide) ?_
                obtain ⟨e1, e2, e3, e4⟩ := inj4 hf
                subst e1
                subst e2
                subst e3
                subst e4
                exact kJ0 _ _ _ hP hS (lv_sub hl [2, 3, 4, 0, 5, 1] rfl)
              clear hf
              have hf := hq
              refine lv_icmp_ne (tgt := 150) S.1 S.2.1 dX12_faultOf_143 (by decide) (fun c62 => ?_) (fun c62 => ?_)
              · have hf := (if_neg c62).symm.trans hf
                refine lv_iload S.1 S.2.1 dX12_faultOf_150 (lv_at hl 1 rfl) ?_
                refine r_if_eq (tgt := 159) S dX12_faultOf_152 (by decide) (fun c63 => ?_) (fun c63 => ?_)
                · have hf := (if_pos c63).symm.trans hf
                  refine r_bipush S dX12_faultOf_159 (by decide) ?_
                  have e1 := Option.some.inj hf
                  subst e1
                  exact kJ0 _ _ _ hP hS (lv_sub hl [2, 4, 5, 7] rfl)
                · have hf := (if_neg c63).symm.trans hf
                  refine r_iconst S dX12_faultOf_155 ?_
                  refine lv_goto (tgt := 161) S.1 S.2.1 dX12_faultOf_156 (by decide) ?_
                  have e1 := Option.some.inj hf
                  subst e1
                  exact kJ0 _ _ _ hP hS (lv_sub hl [2, 4, 5, 7] rfl)
              · have hf := (if_pos c62).symm.trans hf
                refine r_iconst S dX12_faultOf_146 ?_
                refine lv_goto (tgt := 161) S.1 S.2.1 dX12_faultOf_147 (by decide) ?_
                have e1 := Option.some.inj hf
                subst e1
                exact kJ0 _ _ _ hP hS (lv_sub hl [2, 4, 5, 7] rfl)
          · have hf := (if_pos c48).symm.trans hf
            refine lv_iload S.1 S.2.1 dX12_faultOf_114 (lv_at hl 8 rfl) ?_
            refine r_bipush S dX12_faultOf_116 (by decide) ?_
            obtain ⟨v64, hq, hf⟩ := bV_some hf
            have kJ0 : ∀ (H : Heap) (locs : List Loc) (ls : Array Slot), va_P D vwCl (WW 28 (cellM cy ad) ad σ) H → va_S (AC 28 ad) H0 H locs → lv_has ls 9 [(0, .ref (ad 0)), (2, .int (zI x2_)), (4, .int (zI x4_)), (5, .int (zI x5_))] → W p l e rm_X12_faultOf s m args below meth c H locs 0 0 Q (F0 m 127 ls [.int (zI v64)]) := by
              intro H locs ls hP hS hl
              refine r_istore S rfl (lv2 := [(8, .int (zI v64)), (0, .ref (ad 0)), (2, .int (zI x2_)), (4, .int (zI x4_)), (5, .int (zI x5_))]) dX12_faultOf_127 hl (by decide) rfl (fun ls hl => ?_)
              refine r_iconst S dX12_faultOf_129 ?_
              refine r_istore_n S rfl (lv2 := [(3, .int (zI 1)), (8, .int (zI v64)), (0, .ref (ad 0)), (2, .int (zI x2_)), (4, .int (zI x4_)), (5, .int (zI x5_))]) dX12_faultOf_130 rfl hl (by decide) rfl (fun ls hl => ?_)
              refine lv_goto (tgt := 231) S.1 S.2.1 dX12_faultOf_131 (by decide) ?_
              obtain ⟨e1, e2, e3, e4⟩ := inj4 hf
              subst e1
              subst e2
              subst e3
              subst e4
              exact kJ0 _ _ _ hP hS (lv_sub hl [2, 3, 0, 4, 5, 1] rfl)
            clear hf
            have hf := hq
            refine lv_icmp_ne (tgt := 125) S.1 S.2.1 dX12_faultOf_118 (by decide) (fun c65 => ?_) (fun c65 => ?_)
            · have hf := (if_neg c65).symm.trans hf
              refine r_bipush S dX12_faultOf_125 (by decide) ?_
              have e1 := Option.some.inj hf
              subst e1
              exact kJ0 _ _ _ hP hS (lv_sub hl [2, 4, 6, 7] rfl)
            · have hf := (if_pos c65).symm.trans hf
              refine r_iconst S dX12_faultOf_121 ?_
              refine lv_goto (tgt := 127) S.1 S.2.1 dX12_faultOf_122 (by decide) ?_
              have e1 := Option.some.inj hf
              subst e1
              exact kJ0 _ _ _ hP hS (lv_sub hl [2, 4, 6, 7] rfl)
        · have hf := (if_pos c47).symm.trans hf
          refine lv_iload S.1 S.2.1 dX12_faultOf_69 (lv_at hl 8 rfl) ?_
          refine r_bipush S dX12_faultOf_71 (by decide) ?_
          refine r_bipush S dX12_faultOf_73 (by decide) ?_
          obtain ⟨y67, hq66, hf⟩ := bV_some hf
          refine r_callSI S hK hP hS [.int (zI x3), .int (zI 65), .int (zI 70)] (c_X12_in l D cy ad hO x3 65 70 σ hq66) (cw_X12_faultOf_X12_in S.2.2.2.2) rfl hl.1 (rest := []) rfl (Nat.le_of_ble_eq_true rfl) dX12_faultOf_75 ⟨Nat.zero_le _, Nat.zero_le _⟩ (fun H locs hP hS => ?_)
          refine r_if_eq (tgt := 231) S dX12_faultOf_78 (by decide) (fun c68 => ?_) (fun c68 => ?_)
          · have hf := (if_pos c68).symm.trans hf
            obtain ⟨e1, e2, e3, e4⟩ := inj4 hf
            subst e1
            subst e2
            subst e3
            subst e4
            exact kJ0 _ _ _ hP hS (lv_sub hl [2, 4, 5, 6, 7, 0] rfl)
          · have hf := (if_neg c68).symm.trans hf
            refine lv_iload_n S.1 S.2.1 dX12_faultOf_81 rfl (lv_at hl 4 rfl) ?_
            refine lv_iload S.1 S.2.1 dX12_faultOf_82 (lv_at hl 8 rfl) ?_
            refine r_bipush S dX12_faultOf_84 (by decide) ?_
            refine r_isub S dX12_faultOf_86 ?_
            refine r_ishr S dX12_faultOf_87 ?_
            refine r_iconst S dX12_faultOf_88 ?_
            refine r_iand S dX12_faultOf_89 ?_
            refine r_if_ne (tgt := 231) S dX12_faultOf_90 (by decide) (fun c69 => ?_) (fun c69 => ?_)
            · have hf := (if_neg c69).symm.trans hf
              obtain ⟨e1, e2, e3, e4⟩ := inj4 hf
              subst e1
              subst e2
              subst e3
              subst e4
              exact kJ0 _ _ _ hP hS (lv_sub hl [2, 4, 5, 6, 7, 0] rfl)
            · have hf := (if_pos c69).symm.trans hf
              refine lv_iload_n S.1 S.2.1 dX12_faultOf_93 rfl (lv_at hl 4 rfl) ?_
              refine r_iconst S dX12_faultOf_94 ?_
              refine lv_iload S.1 S.2.1 dX12_faultOf_95 (lv_at hl 8 rfl) ?_
              refine r_bipush S dX12_faultOf_97 (by decide) ?_
              refine r_isub S dX12_faultOf_99 ?_
              refine r_ishl S dX12_faultOf_100 ?_
              refine r_ior S dX12_faultOf_101 ?_
              obtain ⟨x70, hx70, hf⟩ := nm_some hf
              refine r_istore_n S hx70 (lv2 := [(2, .int (zI x70)), (8, .int (zI x42)), (7, .int (zI 0)), (0, .ref (ad 0)), (1, .int (zI x1_)), (3, .int (zI x3_)), (4, .int (zI x4_)), (5, .int (zI x5_)), (6, .int (zI x3))]) dX12_faultOf_102 rfl hl (by decide) rfl (fun ls hl => ?_)
              refine r_iconst S dX12_faultOf_103 ?_
              refine r_istore S rfl (lv2 := [(8, .int (zI 1)), (2, .int (zI x70)), (7, .int (zI 0)), (0, .ref (ad 0)), (1, .int (zI x1_)), (3, .int (zI x3_)), (4, .int (zI x4_)), (5, .int (zI x5_)), (6, .int (zI x3))]) dX12_faultOf_104 hl (by decide) rfl (fun ls hl => ?_)
              refine lv_goto (tgt := 231) S.1 S.2.1 dX12_faultOf_106 (by decide) ?_
              obtain ⟨e1, e2, e3, e4⟩ := inj4 hf
              subst e1
              subst e2
              subst e3
              subst e4
              exact kJ0 _ _ _ hP hS (lv_sub hl [3, 1, 5, 6, 7, 0] rfl)
      clear hf
      have hf := hq
      refine r_if_ne (tgt := 54) S dX12_faultOf_39 (by decide) (fun c7 => ?_) (fun c7 => ?_)
      · have hf := (if_neg c7).symm.trans hf
        have e1 := Option.some.inj hf
        subst e1
        exact kJ0 rfl _ _ _ hP hS (lv_sub hl [1, 2, 3, 4, 5, 6, 0] rfl)
      · have hf := (if_pos c7).symm.trans hf
        refine lv_iload S.1 S.2.1 dX12_faultOf_42 (lv_at hl 0 rfl) ?_
        refine r_bipush S dX12_faultOf_44 (by decide) ?_
        refine r_bipush S dX12_faultOf_46 (by decide) ?_
        obtain ⟨y9, hq8, hf⟩ := bV_some hf
        refine r_callSI S hK hP hS [.int (zI x3), .int (zI 65), .int (zI 70)] (c_X12_in l D cy ad hO x3 65 70 σ hq8) (cw_X12_faultOf_X12_in S.2.2.2.2) rfl hl.1 (rest := []) rfl (Nat.le_of_ble_eq_true rfl) dX12_faultOf_48 ⟨Nat.zero_le _, Nat.zero_le _⟩ (fun H locs hP hS => ?_)
        refine r_if_eq (tgt := 58) S dX12_faultOf_51 (by decide) (fun c10 => ?_) (fun c10 => ?_)
        · have hf := (if_pos c10).symm.trans hf
          have e1 := Option.some.inj hf
          subst e1
          exact kJ1 rfl _ _ _ hP hS (lv_sub hl [1, 2, 3, 4, 5, 6, 0] rfl)
        · have hf := (if_neg c10).symm.trans hf
          have e1 := Option.some.inj hf
          subst e1
          exact kJ0 rfl _ _ _ hP hS (lv_sub hl [1, 2, 3, 4, 5, 6, 0] rfl)
set_option maxHeartbeats 4000000 in
set_option maxRecDepth 100000 in
theorem c_X12_faultOf (l : Launch) (D : va_G) (cy : Nat → ClassId) (ad : Nat → Nat) (hO : adOK 28 ad) (n : Nat) (σ : Mem) {v : Int} (hf : f_X12_faultOf n σ = some v) : Met l yX12_faultOf wsX12_faultOf rm_X12_faultOf (va_Pc [.ref (ad 0)] (PreW D cy 28 (cellM cy ad) ad σ)) (QI D 28 (cellM cy ad) ad v σ) 0 0 (AC 28 ad) := by
  refine r_met (cc := cX12_faultOf) (maxL := 9) (ret := (some .int)) (own := RX12) (by decide) rfl rfl [.ref (ad 0)] (Nat.le_of_ble_eq_true rfl) ?_
  intro p e s m below meth c ls S hK hP hlk hr hl
  have hS : va_S (AC 28 ad) s.heap s.heap [] := va_S.rf
  have hl : lv_has ls 9 [(0, .ref (ad 0))] := hl
  unfold f_X12_faultOf at hf
  refine r_iconst S dX12_faultOf_0 ?_
  refine r_istore_n S rfl (lv2 := [(1, .int (zI 0)), (0, .ref (ad 0))]) dX12_faultOf_1 rfl hl (by decide) rfl (fun ls hl => ?_)
  refine r_iconst S dX12_faultOf_2 ?_
  refine r_istore_n S rfl (lv2 := [(2, .int (zI 0)), (1, .int (zI 0)), (0, .ref (ad 0))]) dX12_faultOf_3 rfl hl (by decide) rfl (fun ls hl => ?_)
  refine r_iconst S dX12_faultOf_4 ?_
  refine r_istore_n S rfl (lv2 := [(3, .int (zI 0)), (2, .int (zI 0)), (1, .int (zI 0)), (0, .ref (ad 0))]) dX12_faultOf_5 rfl hl (by decide) rfl (fun ls hl => ?_)
  refine r_iconst S dX12_faultOf_6 ?_
  refine r_istore S rfl (lv2 := [(4, .int (zI 0)), (3, .int (zI 0)), (2, .int (zI 0)), (1, .int (zI 0)), (0, .ref (ad 0))]) dX12_faultOf_7 hl (by decide) rfl (fun ls hl => ?_)
  refine r_iconst S dX12_faultOf_9 ?_
  refine r_istore S rfl (lv2 := [(5, .int (zI 0)), (4, .int (zI 0)), (3, .int (zI 0)), (2, .int (zI 0)), (1, .int (zI 0)), (0, .ref (ad 0))]) dX12_faultOf_10 hl (by decide) rfl (fun ls hl => ?_)
  obtain ⟨t1, x2, x3, hq, hf⟩ := bL2_some hf
  refine w_X12_faultOf_L12 hO S hK n σ (fun x2 x3 H locs ls he hP hS hl => ?_) (fun x2 x3 H locs ls he hP hS hl => ?_) n 0 0 0 0 0 _ _ _ hq hP hS (lv_sub hl [5, 4, 3, 2, 1, 0] rfl)
  · cases he
    have hf := (if_pos rfl).symm.trans hf
    refine lv_iload S.1 S.2.1 dX12_faultOf_236 (lv_at hl 0 rfl) ?_
    have e1 := Option.some.inj hf
    subst e1
    exact e_I S hlk hP hS hr dX12_faultOf_238
  · cases he
    have hf := (if_neg (by decide)).symm.trans hf
    refine lv_iload_n S.1 S.2.1 dX12_faultOf_248 rfl (lv_at hl 1 rfl) ?_
    refine r_iconst S dX12_faultOf_249 ?_
    refine lv_icmp_le (tgt := 258) S.1 S.2.1 dX12_faultOf_250 (by decide) (fun c4 => ?_) (fun c4 => ?_)
    · have hf := (if_pos c4).symm.trans hf
      refine lv_aload_n S.1 S.2.1 dX12_faultOf_258 rfl (lv_at hl 0 rfl) ?_
      refine r_get S hK hP (by decide) rfl rfl h_X12_faultOf_X12 0 (by decide) k_X12_faultOf_1 rfl dX12_faultOf_259 ?_
      have e1 := Option.some.inj hf
      subst e1
      exact e_I S hlk hP hS hr dX12_faultOf_262
    · have hf := (if_neg c4).symm.trans hf
      refine r_bipush S dX12_faultOf_253 (by decide) ?_
      refine lv_goto (tgt := 262) S.1 S.2.1 dX12_faultOf_255 (by decide) ?_
      have e1 := Option.some.inj hf
      subst e1
      exact e_I S hlk hP hS hr dX12_faultOf_262
def rm_X12_fault : Room := { frames := 2, cells := 0, slots := 0, locals := 50 }
theorem cw_X12_fault_X12_faultOf {s : State} {args : Array Value} (hts : ∀ w ∈ wsX12_fault, w.before args s = true) : CallW rm_X12_fault s args RX12 RX12 101 yX12_faultOf cX12_faultOf 9 (some .int) wsX12_faultOf rm_X12_faultOf 0 0 0 := cwV 0 hts gX12_fault_X12_faultOf rfl rfl rfl (by decide +kernel) ⟨Nat.le_of_ble_eq_true rfl, Nat.le_of_ble_eq_true rfl⟩
set_option maxHeartbeats 4000000 in
set_option maxRecDepth 100000 in
theorem c_X12_fault (l : Launch) (D : va_G) (cy : Nat → ClassId) (ad : Nat → Nat) (hO : adOK 28 ad) (n : Nat) (σ : Mem) {v : Int} (hf : f_X12_fault n σ = some v) : Met l yX12_fault wsX12_fault rm_X12_fault (va_Pc [.ref (ad 0)] (PreW D cy 28 (cellM cy ad) ad σ)) (QI D 28 (cellM cy ad) ad v σ) 0 0 (AC 28 ad) := by
  refine r_met (cc := cX12_fault) (maxL := 1) (ret := (some .int)) (own := RX12) (by decide) rfl rfl [.ref (ad 0)] (Nat.le_of_ble_eq_true rfl) ?_
  intro p e s m below meth c ls S hK hP hlk hr hl
  have hS : va_S (AC 28 ad) s.heap s.heap [] := va_S.rf
  have hl : lv_has ls 1 [(0, .ref (ad 0))] := hl
  unfold f_X12_fault at hf
  refine lv_aload_n S.1 S.2.1 dX12_fault_0 rfl (lv_at hl 0 rfl) ?_
  obtain ⟨y2, hq1, hf⟩ := bV_some hf
  refine r_callVI S hK hP hS (by decide) rfl rfl [] (c_X12_faultOf l D cy ad hO n σ hq1) (cw_X12_fault_X12_faultOf S.2.2.2.2) rfl hl.1 (rest := []) rfl (Nat.le_of_ble_eq_true rfl) dX12_fault_1 ⟨Nat.zero_le _, Nat.zero_le _⟩ (fun H locs hP hS => ?_)
  have e1 := Option.some.inj hf
  subst e1
  exact e_I S hlk hP hS hr dX12_fault_4
def rm_X12_isName : Room := { frames := 1, cells := 0, slots := 0, locals := 22 }
theorem cw_X12_isName_X12_in {s : State} {args : Array Value} (hts : ∀ w ∈ wsX12_isName, w.before args s = true) : CallB rm_X12_isName s args RX12 93 yX12_in cX12_in 3 (some .boolean) wsX12_in rm_X12_in 0 0 3 ∧ (Cond.static yX12_in).before args s = true := va_cwS 3 hts gX12_isName_X12_in rfl rfl rfl (by decide +kernel) ⟨Nat.le_of_ble_eq_true rfl, Nat.le_of_ble_eq_true rfl⟩
set_option maxHeartbeats 4000000 in
set_option maxRecDepth 100000 in
theorem c_X12_isName (l : Launch) (D : va_G) (cy : Nat → ClassId) (ad : Nat → Nat) (hO : adOK 28 ad) (a0 : Int) (σ : Mem) {v : Int} (hf : f_X12_isName a0 = some v) : Met l yX12_isName wsX12_isName rm_X12_isName (va_Pc [.int (zI a0)] (PreW D cy 28 (cellM cy ad) ad σ)) (QI D 28 (cellM cy ad) ad v σ) 0 0 (AC 28 ad) := by
  refine r_met (cc := cX12_isName) (maxL := 1) (ret := (some .boolean)) (own := RX12) (by decide) rfl rfl [.int (zI a0)] (Nat.le_of_ble_eq_true rfl) ?_
  intro p e s m below meth c ls S hK hP hlk hr hl
  have hS : va_S (AC 28 ad) s.heap s.heap [] := va_S.rf
  have hl : lv_has ls 1 [(0, .int (zI a0))] := hl
  unfold f_X12_isName at hf
  refine lv_iload_n S.1 S.2.1 dX12_isName_0 rfl (lv_at hl 0 rfl) ?_
  refine r_iconst S dX12_isName_1 ?_
  refine r_iconst S dX12_isName_2 ?_
  obtain ⟨y2, hq1, hf⟩ := bV_some hf
  refine r_callSI S hK hP hS [.int (zI a0), .int (zI 0), .int (zI 5)] (c_X12_in l D cy ad hO a0 0 5 σ hq1) (cw_X12_isName_X12_in S.2.2.2.2) rfl hl.1 (rest := []) rfl (Nat.le_of_ble_eq_true rfl) dX12_isName_3 ⟨Nat.zero_le _, Nat.zero_le _⟩ (fun H locs hP hS => ?_)
  obtain ⟨hb3, hf⟩ := gd_some hf
  have e1 := Option.some.inj hf
  subst e1
  exact e_Z S hlk hP hS hb3 hr dX12_isName_6
def rm_X12_take : Room := { frames := 0, cells := 0, slots := 0, locals := 0 }
theorem k_X12_take_1 : (.fieldLink RX12 140 "MendTextsModel" "letters" "I" : Cond) ∈ wsX12_take := List.mem_of_getElem? (i := 1) (by decide +kernel)
theorem k_X12_take_2 : (.fieldLink RX12 25 "MendTextsModel" "exampleMany" "[I" : Cond) ∈ wsX12_take := List.mem_of_getElem? (i := 2) (by decide +kernel)
theorem k_X12_take_3 : (.fieldLink RX12 133 "MendTextsModel" "handMany" "I" : Cond) ∈ wsX12_take := List.mem_of_getElem? (i := 3) (by decide +kernel)
theorem k_X12_take_4 : (.fieldLink RX12 34 "MendTextsModel" "hand" "[I" : Cond) ∈ wsX12_take := List.mem_of_getElem? (i := 4) (by decide +kernel)
theorem k_X12_take_5 : (.fieldLink RX12 22 "MendTextsModel" "word" "[I" : Cond) ∈ wsX12_take := List.mem_of_getElem? (i := 5) (by decide +kernel)
theorem k_X12_take_6 : (.fieldLink RX12 28 "MendTextsModel" "exampleLetter" "[I" : Cond) ∈ wsX12_take := List.mem_of_getElem? (i := 6) (by decide +kernel)
theorem h_X12_take_X12 : ∀ w ∈ u_ws RX12 TX12 36, w ∈ wsX12_take := mem_places _ [7, 8, 9, 10, 11, 12, 13, 14, 15, 16, 17, 18, 19, 20, 21, 22, 23, 24, 25, 26, 27, 28, 29, 30, 31, 32, 33, 34, 35, 36, 37, 38, 39, 40, 41, 42] (by decide +kernel)
set_option maxHeartbeats 4000000 in
set_option maxRecDepth 100000 in
theorem w_X12_take_L23 {p : Program} {l : Launch} {e : Env} {s : State} {m : MethodId} {args : Array Value} {below : List Frame} {meth : Method} {c : Code} {Q : State → Prop} {D : va_G} {cy : Nat → ClassId} {ad : Nat → Nat} {H0 : Heap} (hO : adOK 28 ad) (S : CallFix p m c cX12_take 3 s args wsX12_take RX12) (hK : KK D cy s) (n : Nat) (x1_ : Int) {res : Mem} (k0 : ∀ (τ : Mem) (H2 : Heap) (locs2 : List Loc) (ls2 : Array Slot), res = τ → va_P D vwCl (WW 28 (cellM cy ad) ad τ) H2 → va_S (AC 28 ad) H0 H2 locs2 → lv_has ls2 3 [] → W p l e rm_X12_take s m args below meth c H2 locs2 0 0 Q (F0 m 67 ls2 [])) :
    ∀ (k : Nat) (x2_ : Int) (σ : Mem) (H : Heap) (locs : List Loc) (ls : Array Slot), f_X12_take_L23 n x1_ k x2_ σ = some res → va_P D vwCl (WW 28 (cellM cy ad) ad σ) H → va_S (AC 28 ad) H0 H locs → lv_has ls 3 [(0, .ref (ad 0)), (1, .int (zI x1_)), (2, .int (zI x2_))] → W p l e rm_X12_take s m args below meth c H locs 0 0 Q (F0 m 23 ls []) := by
  intro k
  induction k with
  | zero =>
    intro x2_ σ H locs ls hf
    have hf : none = some res := hf
    cases hf
  | succ k ih =>
    intro x2_ σ H locs ls hf hP hS hl
    rw [f_X12_take_L23] at hf
    refine lv_iload_n S.1 S.2.1 dX12_take_23 rfl (lv_at hl 2 rfl) ?_
    refine lv_aload_n S.1 S.2.1 dX12_take_24 rfl (lv_at hl 0 rfl) ?_
    refine r_get S hK hP (by decide) rfl rfl h_X12_take_X12 12 (by decide) k_X12_take_3 rfl dX12_take_25 ?_
    refine lv_icmp_ge (tgt := 67) S.1 S.2.1 dX12_take_28 (by decide) (fun c1 => ?_) (fun c1 => ?_)
    · have hf := (if_pos c1).symm.trans hf
      exact k0 _ _ _ _ (Option.some.inj hf).symm hP hS (lv_sub hl [] rfl)
    · have hf := (if_neg c1).symm.trans hf
      refine lv_aload_n S.1 S.2.1 dX12_take_31 rfl (lv_at hl 0 rfl) ?_
      refine r_get S hK hP (by decide) rfl rfl h_X12_take_X12 13 (by decide) k_X12_take_4 rfl dX12_take_32 ?_
      refine lv_iload_n S.1 S.2.1 dX12_take_35 rfl (lv_at hl 2 rfl) ?_
      refine lv_iload_n S.1 S.2.1 dX12_take_36 rfl (lv_at hl 1 rfl) ?_
      obtain ⟨v2, hq, hf⟩ := bV_some hf
      have kJ0 : ∀ (H : Heap) (locs : List Loc) (ls : Array Slot), va_P D vwCl (WW 28 (cellM cy ad) ad σ) H → va_S (AC 28 ad) H0 H locs → lv_has ls 3 [(0, .ref (ad 0)), (1, .int (zI x1_)), (2, .int (zI x2_))] → W p l e rm_X12_take s m args below meth c H locs 0 0 Q (F0 m 60 ls [.int (zI v2), .int (zI x2_), .ref (ad 9)]) := by
        intro H locs ls hP hS hl
        obtain ⟨g6, hf⟩ := gd_some hf
        obtain ⟨σ7, hσ7, hf⟩ := nm_some hf
        refine r_iast S hK hP hO hS (by decide) (n := 6) (fun _ => rfl) (by decide) g6 hσ7 dX12_take_60 (fun H locs hP hS => ?_)
        obtain ⟨x8, hx8, hf⟩ := nm_some hf
        refine r_iinc S hx8 (k0 := 2) (lv2 := [(2, .int (zI x8)), (0, .ref (ad 0)), (1, .int (zI x1_))]) dX12_take_61 hl rfl (by decide) rfl (fun ls hl => ?_)
        refine lv_goto (tgt := 23) S.1 S.2.1 dX12_take_64 (by decide) ?_
        exact ih x8 σ7 _ _ _ hf hP hS (lv_sub hl [1, 2, 0] rfl)
      clear hf
      have hf := hq
      refine r_if_ge (tgt := 49) S dX12_take_37 (by decide) (fun c3 => ?_) (fun c3 => ?_)
      · have hf := (if_pos c3).symm.trans hf
        refine lv_aload_n S.1 S.2.1 dX12_take_49 rfl (lv_at hl 0 rfl) ?_
        refine r_get S hK hP (by decide) rfl rfl h_X12_take_X12 10 (by decide) k_X12_take_6 rfl dX12_take_50 ?_
        refine r_bipush S dX12_take_53 (by decide) ?_
        refine lv_iload_n S.1 S.2.1 dX12_take_55 rfl (lv_at hl 1 rfl) ?_
        refine r_imul S dX12_take_56 ?_
        refine lv_iload_n S.1 S.2.1 dX12_take_57 rfl (lv_at hl 2 rfl) ?_
        refine r_iadd S dX12_take_58 ?_
        obtain ⟨g4, hf⟩ := gd_some hf
        refine r_iald S hK hP (by decide) (n := 18) (fun _ => rfl) (by decide) g4 dX12_take_59 ?_
        have e1 := Option.some.inj hf
        subst e1
        exact kJ0 _ _ _ hP hS (lv_sub hl [0, 1, 2] rfl)
      · have hf := (if_neg c3).symm.trans hf
        refine lv_aload_n S.1 S.2.1 dX12_take_40 rfl (lv_at hl 0 rfl) ?_
        refine r_get S hK hP (by decide) rfl rfl h_X12_take_X12 7 (by decide) k_X12_take_5 rfl dX12_take_41 ?_
        refine lv_iload_n S.1 S.2.1 dX12_take_44 rfl (lv_at hl 2 rfl) ?_
        obtain ⟨g5, hf⟩ := gd_some hf
        refine r_iald S hK hP (by decide) (n := 6) (fun _ => rfl) (by decide) g5 dX12_take_45 ?_
        refine lv_goto (tgt := 60) S.1 S.2.1 dX12_take_46 (by decide) ?_
        have e1 := Option.some.inj hf
        subst e1
        exact kJ0 _ _ _ hP hS (lv_sub hl [0, 1, 2] rfl)
set_option maxHeartbeats 4000000 in
set_option maxRecDepth 100000 in
theorem c_X12_take (l : Launch) (D : va_G) (cy : Nat → ClassId) (ad : Nat → Nat) (hO : adOK 28 ad) (n : Nat) (a0 : Int) (σ : Mem) {τ : Mem} (hf : f_X12_take n a0 σ = some τ) : Met l yX12_take wsX12_take rm_X12_take (va_Pc [.ref (ad 0), .int (zI a0)] (PreW D cy 28 (cellM cy ad) ad σ)) (QV D 28 (cellM cy ad) ad τ) 0 0 (AC 28 ad) := by
  refine r_met (cc := cX12_take) (maxL := 3) (ret := none) (own := RX12) (by decide) rfl rfl [.ref (ad 0), .int (zI a0)] (Nat.le_of_ble_eq_true rfl) ?_
  intro p e s m below meth c ls S hK hP hlk hr hl
  have hS : va_S (AC 28 ad) s.heap s.heap [] := va_S.rf
  have hl : lv_has ls 3 [(0, .ref (ad 0)), (1, .int (zI a0))] := hl
  unfold f_X12_take at hf
  refine lv_aload_n S.1 S.2.1 dX12_take_0 rfl (lv_at hl 0 rfl) ?_
  refine lv_iload_n S.1 S.2.1 dX12_take_1 rfl (lv_at hl 1 rfl) ?_
  obtain ⟨v1, hq, hf⟩ := bV_some hf
  have kJ0 : ∀ (H : Heap) (locs : List Loc) (ls : Array Slot), va_P D vwCl (WW 28 (cellM cy ad) ad σ) H → va_S (AC 28 ad) s.heap H locs → lv_has ls 3 [(0, .ref (ad 0)), (1, .int (zI a0))] → W p l e rm_X12_take s m ([.ref (ad 0), .int (zI a0)] : List Value).toArray below meth c H locs 0 0 (MQ below (QV D 28 (cellM cy ad) ad τ) ([.ref (ad 0), .int (zI a0)] : List Value).toArray s 0 0 (AC 28 ad)) (F0 m 18 ls [.int (zI v1), .ref (ad 0)]) := by
    intro H locs ls hP hS hl
    obtain ⟨σ4, hσ4, hf⟩ := nm_some hf
    refine r_put S hK hP hO hS (by decide) rfl rfl h_X12_take_X12 tyX12 tyX12_ok nmX12 12 (by decide) k_X12_take_3 rfl (tyX12_ok 12 (by decide)) rfl rfl (Nat.le_of_ble_eq_true rfl) hσ4 rfl dX12_take_18 (fun H locs hP hS => ?_)
    refine r_iconst S dX12_take_21 ?_
    refine r_istore_n S rfl (lv2 := [(2, .int (zI 0)), (0, .ref (ad 0)), (1, .int (zI a0))]) dX12_take_22 rfl hl (by decide) rfl (fun ls hl => ?_)
    obtain ⟨σ5, hq, hf⟩ := bV_some hf
    refine w_X12_take_L23 hO S hK n a0 (fun σ5 H locs ls he hP hS hl => ?_) n 0 σ4 _ _ _ hq hP hS (lv_sub hl [1, 2, 0] rfl)
    cases he
    have e1 := Option.some.inj hf
    subst e1
    exact e_V S hlk hP hS hr dX12_take_67
  clear hf
  have hf := hq
  refine r_if_ge (tgt := 12) S dX12_take_2 (by decide) (fun c2 => ?_) (fun c2 => ?_)
  · have hf := (if_pos c2).symm.trans hf
    refine lv_aload_n S.1 S.2.1 dX12_take_12 rfl (lv_at hl 0 rfl) ?_
    refine r_get S hK hP (by decide) rfl rfl h_X12_take_X12 9 (by decide) k_X12_take_2 rfl dX12_take_13 ?_
    refine lv_iload_n S.1 S.2.1 dX12_take_16 rfl (lv_at hl 1 rfl) ?_
    obtain ⟨g3, hf⟩ := gd_some hf
    refine r_iald S hK hP (by decide) (n := 3) (fun _ => rfl) (by decide) g3 dX12_take_17 ?_
    have e1 := Option.some.inj hf
    subst e1
    exact kJ0 _ _ _ hP hS (lv_sub hl [0, 1] rfl)
  · have hf := (if_neg c2).symm.trans hf
    refine lv_aload_n S.1 S.2.1 dX12_take_5 rfl (lv_at hl 0 rfl) ?_
    refine r_get S hK hP (by decide) rfl rfl h_X12_take_X12 6 (by decide) k_X12_take_1 rfl dX12_take_6 ?_
    refine lv_goto (tgt := 18) S.1 S.2.1 dX12_take_9 (by decide) ?_
    have e1 := Option.some.inj hf
    subst e1
    exact kJ0 _ _ _ hP hS (lv_sub hl [0, 1] rfl)
def rm_X12_layMends : Room := { frames := 2, cells := 0, slots := 0, locals := 58 }
theorem k_X12_layMends_1 : (.fieldLink RX12 37 "MendTextsModel" "cost" "[I" : Cond) ∈ wsX12_layMends := List.mem_of_getElem? (i := 1) (by decide +kernel)
theorem k_X12_layMends_2 : (.constant RX12 124 (100000000) : Cond) ∈ wsX12_layMends := List.mem_of_getElem? (i := 2) (by decide +kernel)
theorem k_X12_layMends_3 : (.fieldLink RX12 40 "MendTextsModel" "length" "[I" : Cond) ∈ wsX12_layMends := List.mem_of_getElem? (i := 3) (by decide +kernel)
theorem k_X12_layMends_4 : (.fieldLink RX12 43 "MendTextsModel" "text" "[I" : Cond) ∈ wsX12_layMends := List.mem_of_getElem? (i := 4) (by decide +kernel)
theorem k_X12_layMends_5 : (.fieldLink RX12 133 "MendTextsModel" "handMany" "I" : Cond) ∈ wsX12_layMends := List.mem_of_getElem? (i := 5) (by decide +kernel)
theorem k_X12_layMends_6 : (.fieldLink RX12 13 "MendTextsModel" "rules" "[I" : Cond) ∈ wsX12_layMends := List.mem_of_getElem? (i := 6) (by decide +kernel)
theorem h_X12_layMends_X12 : ∀ w ∈ u_ws RX12 TX12 36, w ∈ wsX12_layMends := mem_places _ [29, 30, 31, 32, 33, 34, 35, 36, 37, 38, 39, 40, 41, 42, 43, 44, 45, 46, 47, 48, 49, 50, 51, 52, 53, 54, 55, 56, 57, 58, 59, 60, 61, 62, 63, 64] (by decide +kernel)
theorem cw_X12_layMends_X12_better {s : State} {args : Array Value} (hts : ∀ w ∈ wsX12_layMends, w.before args s = true) : CallW rm_X12_layMends s args RX12 RX12 136 yX12_better cX12_better 14 (some .boolean) wsX12_better rm_X12_better 0 0 4 := cwV 4 hts gX12_layMends_X12_better rfl rfl rfl (by decide +kernel) ⟨Nat.le_of_ble_eq_true rfl, Nat.le_of_ble_eq_true rfl⟩
set_option maxHeartbeats 4000000 in
set_option maxRecDepth 100000 in
theorem w_X12_layMends_L2 {p : Program} {l : Launch} {e : Env} {s : State} {m : MethodId} {args : Array Value} {below : List Frame} {meth : Method} {c : Code} {Q : State → Prop} {D : va_G} {cy : Nat → ClassId} {ad : Nat → Nat} {H0 : Heap} (hO : adOK 28 ad) (S : CallFix p m c cX12_layMends 6 s args wsX12_layMends RX12) (hK : KK D cy s) (n : Nat) {res : Mem} (k0 : ∀ (τ : Mem) (H2 : Heap) (locs2 : List Loc) (ls2 : Array Slot), res = τ → va_P D vwCl (WW 28 (cellM cy ad) ad τ) H2 → va_S (AC 28 ad) H0 H2 locs2 → lv_has ls2 6 [(0, .ref (ad 0))] → W p l e rm_X12_layMends s m args below meth c H2 locs2 0 0 Q (F0 m 37 ls2 [])) :
    ∀ (k : Nat) (x1_ : Int) (σ : Mem) (H : Heap) (locs : List Loc) (ls : Array Slot), f_X12_layMends_L2 n k x1_ σ = some res → va_P D vwCl (WW 28 (cellM cy ad) ad σ) H → va_S (AC 28 ad) H0 H locs → lv_has ls 6 [(0, .ref (ad 0)), (1, .int (zI x1_))] → W p l e rm_X12_layMends s m args below meth c H locs 0 0 Q (F0 m 2 ls []) := by
  intro k
  induction k with
  | zero =>
    intro x1_ σ H locs ls hf
    have hf : none = some res := hf
    cases hf
  | succ k ih =>
    intro x1_ σ H locs ls hf hP hS hl
    rw [f_X12_layMends_L2] at hf
    refine lv_iload_n S.1 S.2.1 dX12_layMends_2 rfl (lv_at hl 1 rfl) ?_
    refine r_sipush S dX12_layMends_3 (by decide) ?_
    refine lv_icmp_ge (tgt := 37) S.1 S.2.1 dX12_layMends_6 (by decide) (fun c1 => ?_) (fun c1 => ?_)
    · have hf := (if_pos c1).symm.trans hf
      exact k0 _ _ _ _ (Option.some.inj hf).symm hP hS (lv_sub hl [0] rfl)
    · have hf := (if_neg c1).symm.trans hf
      refine lv_aload_n S.1 S.2.1 dX12_layMends_9 rfl (lv_at hl 0 rfl) ?_
      refine r_get S hK hP (by decide) rfl rfl h_X12_layMends_X12 14 (by decide) k_X12_layMends_1 rfl dX12_layMends_10 ?_
      refine lv_iload_n S.1 S.2.1 dX12_layMends_13 rfl (lv_at hl 1 rfl) ?_
      refine r_ldc S 100000000 (by decide +kernel) k_X12_layMends_2 dX12_layMends_14 ?_
      obtain ⟨g2, hf⟩ := gd_some hf
      obtain ⟨σ3, hσ3, hf⟩ := nm_some hf
      refine r_iast S hK hP hO hS (by decide) (n := 294) (fun _ => rfl) (by decide) g2 hσ3 dX12_layMends_16 (fun H locs hP hS => ?_)
      refine lv_aload_n S.1 S.2.1 dX12_layMends_17 rfl (lv_at hl 0 rfl) ?_
      refine r_get S hK hP (by decide) rfl rfl h_X12_layMends_X12 15 (by decide) k_X12_layMends_3 rfl dX12_layMends_18 ?_
      refine lv_iload_n S.1 S.2.1 dX12_layMends_21 rfl (lv_at hl 1 rfl) ?_
      refine r_iconst S dX12_layMends_22 ?_
      obtain ⟨σ4, hσ4, hf⟩ := nm_some hf
      refine r_iast S hK hP hO hS (by decide) (n := 294) (fun _ => rfl) (by decide) g2 hσ4 dX12_layMends_23 (fun H locs hP hS => ?_)
      refine lv_aload_n S.1 S.2.1 dX12_layMends_24 rfl (lv_at hl 0 rfl) ?_
      refine r_get S hK hP (by decide) rfl rfl h_X12_layMends_X12 16 (by decide) k_X12_layMends_4 rfl dX12_layMends_25 ?_
      refine lv_iload_n S.1 S.2.1 dX12_layMends_28 rfl (lv_at hl 1 rfl) ?_
      refine r_iconst S dX12_layMends_29 ?_
      obtain ⟨σ5, hσ5, hf⟩ := nm_some hf
      refine r_iast S hK hP hO hS (by decide) (n := 294) (fun _ => rfl) (by decide) g2 hσ5 dX12_layMends_30 (fun H locs hP hS => ?_)
      obtain ⟨x6, hx6, hf⟩ := nm_some hf
      refine r_iinc S hx6 (k0 := 1) (lv2 := [(1, .int (zI x6)), (0, .ref (ad 0))]) dX12_layMends_31 hl rfl (by decide) rfl (fun ls hl => ?_)
      refine lv_goto (tgt := 2) S.1 S.2.1 dX12_layMends_34 (by decide) ?_
      exact ih x6 σ5 _ _ _ hf hP hS (lv_sub hl [1, 0] rfl)
set_option maxHeartbeats 4000000 in
set_option maxRecDepth 100000 in
theorem w_X12_layMends_L78 {p : Program} {l : Launch} {e : Env} {s : State} {m : MethodId} {args : Array Value} {below : List Frame} {meth : Method} {c : Code} {Q : State → Prop} {D : va_G} {cy : Nat → ClassId} {ad : Nat → Nat} {H0 : Heap} (hO : adOK 28 ad) (S : CallFix p m c cX12_layMends 6 s args wsX12_layMends RX12) (hK : KK D cy s) (n : Nat) (x2_ : Int) (x3_ : Int) (x4_ : Int) {res : Int × Mem} (k0 : ∀ (y1_ : Int) (τ : Mem) (H2 : Heap) (locs2 : List Loc) (ls2 : Array Slot), res = (y1_, τ) → va_P D vwCl (WW 28 (cellM cy ad) ad τ) H2 → va_S (AC 28 ad) H0 H2 locs2 → lv_has ls2 6 [(0, .ref (ad 0)), (1, .int (zI y1_)), (2, .int (zI x2_)), (3, .int (zI x3_)), (4, .int (zI x4_))] → W p l e rm_X12_layMends s m args below meth c H2 locs2 0 0 Q (F0 m 118 ls2 [])) :
    ∀ (k : Nat) (x1_ : Int) (x5_ : Int) (σ : Mem) (H : Heap) (locs : List Loc) (ls : Array Slot), f_X12_layMends_L78 n x2_ x3_ x4_ k x1_ x5_ σ = some res → va_P D vwCl (WW 28 (cellM cy ad) ad σ) H → va_S (AC 28 ad) H0 H locs → lv_has ls 6 [(0, .ref (ad 0)), (1, .int (zI x1_)), (2, .int (zI x2_)), (3, .int (zI x3_)), (4, .int (zI x4_)), (5, .int (zI x5_))] → W p l e rm_X12_layMends s m args below meth c H locs 0 0 Q (F0 m 78 ls []) := by
  intro k
  induction k with
  | zero =>
    intro x1_ x5_ σ H locs ls hf
    have hf : none = some res := hf
    cases hf
  | succ k ih =>
    intro x1_ x5_ σ H locs ls hf hP hS hl
    rw [f_X12_layMends_L78] at hf
    refine lv_iload S.1 S.2.1 dX12_layMends_78 (lv_at hl 5 rfl) ?_
    refine lv_aload_n S.1 S.2.1 dX12_layMends_80 rfl (lv_at hl 0 rfl) ?_
    refine r_get S hK hP (by decide) rfl rfl h_X12_layMends_X12 2 (by decide) k_X12_layMends_6 rfl dX12_layMends_81 ?_
    refine lv_iload_n S.1 S.2.1 dX12_layMends_84 rfl (lv_at hl 2 rfl) ?_
    obtain ⟨g1, hf⟩ := gd_some hf
    refine r_iald S hK hP (by decide) (n := 6) (fun _ => rfl) (by decide) g1 dX12_layMends_85 ?_
    refine lv_icmp_ge (tgt := 118) S.1 S.2.1 dX12_layMends_86 (by decide) (fun c2 => ?_) (fun c2 => ?_)
    · have hf := (if_pos c2).symm.trans hf
      exact k0 _ _ _ _ _ (Option.some.inj hf).symm hP hS (lv_sub hl [0, 1, 2, 3, 4] rfl)
    · have hf := (if_neg c2).symm.trans hf
      refine lv_aload_n S.1 S.2.1 dX12_layMends_89 rfl (lv_at hl 0 rfl) ?_
      refine lv_iload_n S.1 S.2.1 dX12_layMends_90 rfl (lv_at hl 2 rfl) ?_
      refine lv_iload S.1 S.2.1 dX12_layMends_91 (lv_at hl 5 rfl) ?_
      refine lv_iload_n S.1 S.2.1 dX12_layMends_93 rfl (lv_at hl 3 rfl) ?_
      refine lv_iload S.1 S.2.1 dX12_layMends_94 (lv_at hl 4 rfl) ?_
      obtain ⟨y5, σ4, hq3, hf⟩ := bL1_some hf
      refine r_callVI S hK hP hS (by decide) rfl rfl [.int (zI x2_), .int (zI x5_), .int (zI x3_), .int (zI x4_)] (c_X12_better l D cy ad hO n x2_ x5_ x3_ x4_ σ hq3) (cw_X12_layMends_X12_better S.2.2.2.2) rfl hl.1 (rest := []) rfl (Nat.le_of_ble_eq_true rfl) dX12_layMends_96 ⟨Nat.zero_le _, Nat.zero_le _⟩ (fun H locs hP hS => ?_)
      obtain ⟨t6, hq, hf⟩ := bV_some hf
      have kJ0 : t6 = 0 → ∀ (H : Heap) (locs : List Loc) (ls : Array Slot), va_P D vwCl (WW 28 (cellM cy ad) ad σ4) H → va_S (AC 28 ad) H0 H locs → lv_has ls 6 [(0, .ref (ad 0)), (2, .int (zI x2_)), (3, .int (zI x3_)), (4, .int (zI x4_)), (5, .int (zI x5_))] → W p l e rm_X12_layMends s m args below meth c H locs 0 0 Q (F0 m 106 ls []) := by
        intro ht
        intro H locs ls hP hS hl
        have hf := (if_pos ht).symm.trans hf
        refine r_iconst S dX12_layMends_106 ?_
        refine lv_goto (tgt := 111) S.1 S.2.1 dX12_layMends_107 (by decide) ?_
        refine r_istore_n S rfl (lv2 := [(1, .int (zI 1)), (0, .ref (ad 0)), (2, .int (zI x2_)), (3, .int (zI x3_)), (4, .int (zI x4_)), (5, .int (zI x5_))]) dX12_layMends_111 rfl hl (by decide) rfl (fun ls hl => ?_)
        obtain ⟨x9, hx9, hf⟩ := nm_some hf
        refine r_iinc S hx9 (k0 := 5) (lv2 := [(5, .int (zI x9)), (1, .int (zI 1)), (0, .ref (ad 0)), (2, .int (zI x2_)), (3, .int (zI x3_)), (4, .int (zI x4_))]) dX12_layMends_112 hl rfl (by decide) rfl (fun ls hl => ?_)
        refine lv_goto (tgt := 78) S.1 S.2.1 dX12_layMends_115 (by decide) ?_
        exact ih 1 x9 σ4 _ _ _ hf hP hS (lv_sub hl [2, 1, 3, 4, 5, 0] rfl)
      have kJ1 : t6 = 1 → ∀ (H : Heap) (locs : List Loc) (ls : Array Slot), va_P D vwCl (WW 28 (cellM cy ad) ad σ4) H → va_S (AC 28 ad) H0 H locs → lv_has ls 6 [(0, .ref (ad 0)), (2, .int (zI x2_)), (3, .int (zI x3_)), (4, .int (zI x4_)), (5, .int (zI x5_))] → W p l e rm_X12_layMends s m args below meth c H locs 0 0 Q (F0 m 110 ls []) := by
        intro ht
        intro H locs ls hP hS hl
        have hf := (if_neg (by rw [ht]; decide)).symm.trans hf
        refine r_iconst S dX12_layMends_110 ?_
        refine r_istore_n S rfl (lv2 := [(1, .int (zI 0)), (0, .ref (ad 0)), (2, .int (zI x2_)), (3, .int (zI x3_)), (4, .int (zI x4_)), (5, .int (zI x5_))]) dX12_layMends_111 rfl hl (by decide) rfl (fun ls hl => ?_)
        obtain ⟨x10, hx10, hf⟩ := nm_some hf
        refine r_iinc S hx10 (k0 := 5) (lv2 := [(5, .int (zI x10)), (1, .int (zI 0)), (0, .ref (ad 0)), (2, .int (zI x2_)), (3, .int (zI x3_)), (4, .int (zI x4_))]) dX12_layMends_112 hl rfl (by decide) rfl (fun ls hl => ?_)
        refine lv_goto (tgt := 78) S.1 S.2.1 dX12_layMends_115 (by decide) ?_
        exact ih 0 x10 σ4 _ _ _ hf hP hS (lv_sub hl [2, 1, 3, 4, 5, 0] rfl)
      clear hf
      have hf := hq
      refine r_if_ne (tgt := 106) S dX12_layMends_99 (by decide) (fun c7 => ?_) (fun c7 => ?_)
      · have hf := (if_neg c7).symm.trans hf
        have e1 := Option.some.inj hf
        subst e1
        exact kJ0 rfl _ _ _ hP hS (lv_sub hl [0, 2, 3, 4, 5] rfl)
      · have hf := (if_pos c7).symm.trans hf
        refine lv_iload_n S.1 S.2.1 dX12_layMends_102 rfl (lv_at hl 1 rfl) ?_
        refine r_if_eq (tgt := 110) S dX12_layMends_103 (by decide) (fun c8 => ?_) (fun c8 => ?_)
        · have hf := (if_pos c8).symm.trans hf
          have e1 := Option.some.inj hf
          subst e1
          exact kJ1 rfl _ _ _ hP hS (lv_sub hl [0, 2, 3, 4, 5] rfl)
        · have hf := (if_neg c8).symm.trans hf
          have e1 := Option.some.inj hf
          subst e1
          exact kJ0 rfl _ _ _ hP hS (lv_sub hl [0, 2, 3, 4, 5] rfl)
set_option maxHeartbeats 4000000 in
set_option maxRecDepth 100000 in
theorem w_X12_layMends_L66 {p : Program} {l : Launch} {e : Env} {s : State} {m : MethodId} {args : Array Value} {below : List Frame} {meth : Method} {c : Code} {Q : State → Prop} {D : va_G} {cy : Nat → ClassId} {ad : Nat → Nat} {H0 : Heap} (hO : adOK 28 ad) (S : CallFix p m c cX12_layMends 6 s args wsX12_layMends RX12) (hK : KK D cy s) (n : Nat) (x2_ : Int) (x3_ : Int) {res : Int × Mem} (k0 : ∀ (y1_ : Int) (τ : Mem) (H2 : Heap) (locs2 : List Loc) (ls2 : Array Slot), res = (y1_, τ) → va_P D vwCl (WW 28 (cellM cy ad) ad τ) H2 → va_S (AC 28 ad) H0 H2 locs2 → lv_has ls2 6 [(0, .ref (ad 0)), (1, .int (zI y1_)), (2, .int (zI x2_)), (3, .int (zI x3_))] → W p l e rm_X12_layMends s m args below meth c H2 locs2 0 0 Q (F0 m 124 ls2 [])) :
    ∀ (k : Nat) (x1_ : Int) (x4_ : Int) (σ : Mem) (H : Heap) (locs : List Loc) (ls : Array Slot), f_X12_layMends_L66 n x2_ x3_ k x1_ x4_ σ = some res → va_P D vwCl (WW 28 (cellM cy ad) ad σ) H → va_S (AC 28 ad) H0 H locs → lv_has ls 6 [(0, .ref (ad 0)), (1, .int (zI x1_)), (2, .int (zI x2_)), (3, .int (zI x3_)), (4, .int (zI x4_))] → W p l e rm_X12_layMends s m args below meth c H locs 0 0 Q (F0 m 66 ls []) := by
  intro k
  induction k with
  | zero =>
    intro x1_ x4_ σ H locs ls hf
    have hf : none = some res := hf
    cases hf
  | succ k ih =>
    intro x1_ x4_ σ H locs ls hf hP hS hl
    rw [f_X12_layMends_L66] at hf
    refine lv_iload S.1 S.2.1 dX12_layMends_66 (lv_at hl 4 rfl) ?_
    refine lv_aload_n S.1 S.2.1 dX12_layMends_68 rfl (lv_at hl 0 rfl) ?_
    refine r_get S hK hP (by decide) rfl rfl h_X12_layMends_X12 12 (by decide) k_X12_layMends_5 rfl dX12_layMends_69 ?_
    refine lv_icmp_gt (tgt := 124) S.1 S.2.1 dX12_layMends_72 (by decide) (fun c1 => ?_) (fun c1 => ?_)
    · have hf := (if_pos c1).symm.trans hf
      exact k0 _ _ _ _ _ (Option.some.inj hf).symm hP hS (lv_sub hl [0, 1, 2, 3] rfl)
    · have hf := (if_neg c1).symm.trans hf
      refine r_iconst S dX12_layMends_75 ?_
      refine r_istore S rfl (lv2 := [(5, .int (zI 0)), (0, .ref (ad 0)), (1, .int (zI x1_)), (2, .int (zI x2_)), (3, .int (zI x3_)), (4, .int (zI x4_))]) dX12_layMends_76 hl (by decide) rfl (fun ls hl => ?_)
      obtain ⟨x2, σ3, hq, hf⟩ := bL1_some hf
      refine w_X12_layMends_L78 hO S hK n x2_ x3_ x4_ (fun x2 σ3 H locs ls he hP hS hl => ?_) n x1_ 0 σ _ _ _ hq hP hS (lv_sub hl [1, 2, 3, 4, 5, 0] rfl)
      cases he
      obtain ⟨x4, hx4, hf⟩ := nm_some hf
      refine r_iinc S hx4 (k0 := 4) (lv2 := [(4, .int (zI x4)), (0, .ref (ad 0)), (1, .int (zI x2)), (2, .int (zI x2_)), (3, .int (zI x3_))]) dX12_layMends_118 hl rfl (by decide) rfl (fun ls hl => ?_)
      refine lv_goto (tgt := 66) S.1 S.2.1 dX12_layMends_121 (by decide) ?_
      exact ih x2 x4 σ3 _ _ _ hf hP hS (lv_sub hl [1, 2, 3, 4, 0] rfl)
set_option maxHeartbeats 4000000 in
set_option maxRecDepth 100000 in
theorem w_X12_layMends_L55 {p : Program} {l : Launch} {e : Env} {s : State} {m : MethodId} {args : Array Value} {below : List Frame} {meth : Method} {c : Code} {Q : State → Prop} {D : va_G} {cy : Nat → ClassId} {ad : Nat → Nat} {H0 : Heap} (hO : adOK 28 ad) (S : CallFix p m c cX12_layMends 6 s args wsX12_layMends RX12) (hK : KK D cy s) (n : Nat) (x2_ : Int) {res : Int × Mem} (k0 : ∀ (y1_ : Int) (τ : Mem) (H2 : Heap) (locs2 : List Loc) (ls2 : Array Slot), res = (y1_, τ) → va_P D vwCl (WW 28 (cellM cy ad) ad τ) H2 → va_S (AC 28 ad) H0 H2 locs2 → lv_has ls2 6 [(0, .ref (ad 0)), (1, .int (zI y1_)), (2, .int (zI x2_))] → W p l e rm_X12_layMends s m args below meth c H2 locs2 0 0 Q (F0 m 130 ls2 [])) :
    ∀ (k : Nat) (x1_ : Int) (x3_ : Int) (σ : Mem) (H : Heap) (locs : List Loc) (ls : Array Slot), f_X12_layMends_L55 n x2_ k x1_ x3_ σ = some res → va_P D vwCl (WW 28 (cellM cy ad) ad σ) H → va_S (AC 28 ad) H0 H locs → lv_has ls 6 [(0, .ref (ad 0)), (1, .int (zI x1_)), (2, .int (zI x2_)), (3, .int (zI x3_))] → W p l e rm_X12_layMends s m args below meth c H locs 0 0 Q (F0 m 55 ls []) := by
  intro k
  induction k with
  | zero =>
    intro x1_ x3_ σ H locs ls hf
    have hf : none = some res := hf
    cases hf
  | succ k ih =>
    intro x1_ x3_ σ H locs ls hf hP hS hl
    rw [f_X12_layMends_L55] at hf
    refine lv_iload_n S.1 S.2.1 dX12_layMends_55 rfl (lv_at hl 3 rfl) ?_
    refine lv_aload_n S.1 S.2.1 dX12_layMends_56 rfl (lv_at hl 0 rfl) ?_
    refine r_get S hK hP (by decide) rfl rfl h_X12_layMends_X12 12 (by decide) k_X12_layMends_5 rfl dX12_layMends_57 ?_
    refine lv_icmp_gt (tgt := 130) S.1 S.2.1 dX12_layMends_60 (by decide) (fun c1 => ?_) (fun c1 => ?_)
    · have hf := (if_pos c1).symm.trans hf
      exact k0 _ _ _ _ _ (Option.some.inj hf).symm hP hS (lv_sub hl [0, 1, 2] rfl)
    · have hf := (if_neg c1).symm.trans hf
      refine lv_iload_n S.1 S.2.1 dX12_layMends_63 rfl (lv_at hl 3 rfl) ?_
      refine r_istore S rfl (lv2 := [(4, .int (zI x3_)), (0, .ref (ad 0)), (1, .int (zI x1_)), (2, .int (zI x2_)), (3, .int (zI x3_))]) dX12_layMends_64 hl (by decide) rfl (fun ls hl => ?_)
      obtain ⟨x2, σ3, hq, hf⟩ := bL1_some hf
      refine w_X12_layMends_L66 hO S hK n x2_ x3_ (fun x2 σ3 H locs ls he hP hS hl => ?_) n x1_ x3_ σ _ _ _ hq hP hS (lv_sub hl [1, 2, 3, 4, 0] rfl)
      cases he
      obtain ⟨x4, hx4, hf⟩ := nm_some hf
      refine r_iinc S hx4 (k0 := 3) (lv2 := [(3, .int (zI x4)), (0, .ref (ad 0)), (1, .int (zI x2)), (2, .int (zI x2_))]) dX12_layMends_124 hl rfl (by decide) rfl (fun ls hl => ?_)
      refine lv_goto (tgt := 55) S.1 S.2.1 dX12_layMends_127 (by decide) ?_
      exact ih x2 x4 σ3 _ _ _ hf hP hS (lv_sub hl [1, 2, 3, 0] rfl)
set_option maxHeartbeats 4000000 in
set_option maxRecDepth 100000 in
theorem w_X12_layMends_L47 {p : Program} {l : Launch} {e : Env} {s : State} {m : MethodId} {args : Array Value} {below : List Frame} {meth : Method} {c : Code} {Q : State → Prop} {D : va_G} {cy : Nat → ClassId} {ad : Nat → Nat} {H0 : Heap} (hO : adOK 28 ad) (S : CallFix p m c cX12_layMends 6 s args wsX12_layMends RX12) (hK : KK D cy s) (n : Nat) {res : Int × Mem} (k0 : ∀ (y1_ : Int) (τ : Mem) (H2 : Heap) (locs2 : List Loc) (ls2 : Array Slot), res = (y1_, τ) → va_P D vwCl (WW 28 (cellM cy ad) ad τ) H2 → va_S (AC 28 ad) H0 H2 locs2 → lv_has ls2 6 [(0, .ref (ad 0)), (1, .int (zI y1_))] → W p l e rm_X12_layMends s m args below meth c H2 locs2 0 0 Q (F0 m 136 ls2 [])) :
    ∀ (k : Nat) (x1_ : Int) (x2_ : Int) (σ : Mem) (H : Heap) (locs : List Loc) (ls : Array Slot), f_X12_layMends_L47 n k x1_ x2_ σ = some res → va_P D vwCl (WW 28 (cellM cy ad) ad σ) H → va_S (AC 28 ad) H0 H locs → lv_has ls 6 [(0, .ref (ad 0)), (1, .int (zI x1_)), (2, .int (zI x2_))] → W p l e rm_X12_layMends s m args below meth c H locs 0 0 Q (F0 m 47 ls []) := by
  intro k
  induction k with
  | zero =>
    intro x1_ x2_ σ H locs ls hf
    have hf : none = some res := hf
    cases hf
  | succ k ih =>
    intro x1_ x2_ σ H locs ls hf hP hS hl
    rw [f_X12_layMends_L47] at hf
    refine lv_iload_n S.1 S.2.1 dX12_layMends_47 rfl (lv_at hl 2 rfl) ?_
    refine r_bipush S dX12_layMends_48 (by decide) ?_
    refine lv_icmp_ge (tgt := 136) S.1 S.2.1 dX12_layMends_50 (by decide) (fun c1 => ?_) (fun c1 => ?_)
    · have hf := (if_pos c1).symm.trans hf
      exact k0 _ _ _ _ _ (Option.some.inj hf).symm hP hS (lv_sub hl [0, 1] rfl)
    · have hf := (if_neg c1).symm.trans hf
      refine r_iconst S dX12_layMends_53 ?_
      refine r_istore_n S rfl (lv2 := [(3, .int (zI 0)), (0, .ref (ad 0)), (1, .int (zI x1_)), (2, .int (zI x2_))]) dX12_layMends_54 rfl hl (by decide) rfl (fun ls hl => ?_)
      obtain ⟨x2, σ3, hq, hf⟩ := bL1_some hf
      refine w_X12_layMends_L55 hO S hK n x2_ (fun x2 σ3 H locs ls he hP hS hl => ?_) n x1_ 0 σ _ _ _ hq hP hS (lv_sub hl [1, 2, 3, 0] rfl)
      cases he
      obtain ⟨x4, hx4, hf⟩ := nm_some hf
      refine r_iinc S hx4 (k0 := 2) (lv2 := [(2, .int (zI x4)), (0, .ref (ad 0)), (1, .int (zI x2))]) dX12_layMends_130 hl rfl (by decide) rfl (fun ls hl => ?_)
      refine lv_goto (tgt := 47) S.1 S.2.1 dX12_layMends_133 (by decide) ?_
      exact ih x2 x4 σ3 _ _ _ hf hP hS (lv_sub hl [1, 2, 0] rfl)
set_option maxHeartbeats 4000000 in
set_option maxRecDepth 100000 in
theorem w_X12_layMends_L39 {p : Program} {l : Launch} {e : Env} {s : State} {m : MethodId} {args : Array Value} {below : List Frame} {meth : Method} {c : Code} {Q : State → Prop} {D : va_G} {cy : Nat → ClassId} {ad : Nat → Nat} {H0 : Heap} (hO : adOK 28 ad) (S : CallFix p m c cX12_layMends 6 s args wsX12_layMends RX12) (hK : KK D cy s) (n : Nat) {res : Mem} (k0 : ∀ (τ : Mem) (H2 : Heap) (locs2 : List Loc) (ls2 : Array Slot), res = τ → va_P D vwCl (WW 28 (cellM cy ad) ad τ) H2 → va_S (AC 28 ad) H0 H2 locs2 → lv_has ls2 6 [] → W p l e rm_X12_layMends s m args below meth c H2 locs2 0 0 Q (F0 m 139 ls2 [])) :
    ∀ (k : Nat) (x1_ : Int) (σ : Mem) (H : Heap) (locs : List Loc) (ls : Array Slot), f_X12_layMends_L39 n k x1_ σ = some res → va_P D vwCl (WW 28 (cellM cy ad) ad σ) H → va_S (AC 28 ad) H0 H locs → lv_has ls 6 [(0, .ref (ad 0)), (1, .int (zI x1_))] → W p l e rm_X12_layMends s m args below meth c H locs 0 0 Q (F0 m 39 ls []) := by
  intro k
  induction k with
  | zero =>
    intro x1_ σ H locs ls hf
    have hf : none = some res := hf
    cases hf
  | succ k ih =>
    intro x1_ σ H locs ls hf hP hS hl
    rw [f_X12_layMends_L39] at hf
    refine lv_iload_n S.1 S.2.1 dX12_layMends_39 rfl (lv_at hl 1 rfl) ?_
    refine r_if_eq (tgt := 139) S dX12_layMends_40 (by decide) (fun c1 => ?_) (fun c1 => ?_)
    · have hf := (if_pos c1).symm.trans hf
      exact k0 _ _ _ _ (Option.some.inj hf).symm hP hS (lv_sub hl [] rfl)
    · have hf := (if_neg c1).symm.trans hf
      refine r_iconst S dX12_layMends_43 ?_
      refine r_istore_n S rfl (lv2 := [(1, .int (zI 0)), (0, .ref (ad 0))]) dX12_layMends_44 rfl hl (by decide) rfl (fun ls hl => ?_)
      refine r_iconst S dX12_layMends_45 ?_
      refine r_istore_n S rfl (lv2 := [(2, .int (zI 0)), (1, .int (zI 0)), (0, .ref (ad 0))]) dX12_layMends_46 rfl hl (by decide) rfl (fun ls hl => ?_)
      obtain ⟨x2, σ3, hq, hf⟩ := bL1_some hf
      refine w_X12_layMends_L47 hO S hK n (fun x2 σ3 H locs ls he hP hS hl => ?_) n 0 0 σ _ _ _ hq hP hS (lv_sub hl [2, 1, 0] rfl)
      cases he
      refine lv_goto (tgt := 39) S.1 S.2.1 dX12_layMends_136 (by decide) ?_
      exact ih x2 σ3 _ _ _ hf hP hS (lv_sub hl [0, 1] rfl)
set_option maxHeartbeats 4000000 in
set_option maxRecDepth 100000 in
theorem c_X12_layMends (l : Launch) (D : va_G) (cy : Nat → ClassId) (ad : Nat → Nat) (hO : adOK 28 ad) (n : Nat) (σ : Mem) {τ : Mem} (hf : f_X12_layMends n σ = some τ) : Met l yX12_layMends wsX12_layMends rm_X12_layMends (va_Pc [.ref (ad 0)] (PreW D cy 28 (cellM cy ad) ad σ)) (QV D 28 (cellM cy ad) ad τ) 0 0 (AC 28 ad) := by
  refine r_met (cc := cX12_layMends) (maxL := 6) (ret := none) (own := RX12) (by decide) rfl rfl [.ref (ad 0)] (Nat.le_of_ble_eq_true rfl) ?_
  intro p e s m below meth c ls S hK hP hlk hr hl
  have hS : va_S (AC 28 ad) s.heap s.heap [] := va_S.rf
  have hl : lv_has ls 6 [(0, .ref (ad 0))] := hl
  unfold f_X12_layMends at hf
  refine r_iconst S dX12_layMends_0 ?_
  refine r_istore_n S rfl (lv2 := [(1, .int (zI 0)), (0, .ref (ad 0))]) dX12_layMends_1 rfl hl (by decide) rfl (fun ls hl => ?_)
  obtain ⟨σ1, hq, hf⟩ := bV_some hf
  refine w_X12_layMends_L2 hO S hK n (fun σ1 H locs ls he hP hS hl => ?_) n 0 σ _ _ _ hq hP hS (lv_sub hl [1, 0] rfl)
  cases he
  refine r_iconst S dX12_layMends_37 ?_
  refine r_istore_n S rfl (lv2 := [(1, .int (zI 1)), (0, .ref (ad 0))]) dX12_layMends_38 rfl hl (by decide) rfl (fun ls hl => ?_)
  obtain ⟨σ2, hq, hf⟩ := bV_some hf
  refine w_X12_layMends_L39 hO S hK n (fun σ2 H locs ls he hP hS hl => ?_) n 1 σ1 _ _ _ hq hP hS (lv_sub hl [1, 0] rfl)
  cases he
  have e1 := Option.some.inj hf
  subst e1
  exact e_V S hlk hP hS hr dX12_layMends_139
def rm_X12_first : Room := { frames := 3, cells := 0, slots := 0, locals := 83 }
theorem k_X12_first_1 : (.fieldLink RX12 55 "MendTextsModel" "begins" "[Z" : Cond) ∈ wsX12_first := List.mem_of_getElem? (i := 1) (by decide +kernel)
theorem k_X12_first_2 : (.fieldLink RX12 133 "MendTextsModel" "handMany" "I" : Cond) ∈ wsX12_first := List.mem_of_getElem? (i := 2) (by decide +kernel)
theorem k_X12_first_3 : (.fieldLink RX12 13 "MendTextsModel" "rules" "[I" : Cond) ∈ wsX12_first := List.mem_of_getElem? (i := 3) (by decide +kernel)
theorem k_X12_first_4 : (.fieldLink RX12 140 "MendTextsModel" "letters" "I" : Cond) ∈ wsX12_first := List.mem_of_getElem? (i := 4) (by decide +kernel)
theorem h_X12_first_X12 : ∀ w ∈ u_ws RX12 TX12 36, w ∈ wsX12_first := mem_places _ [65, 66, 67, 68, 69, 70, 71, 72, 73, 74, 75, 76, 77, 78, 79, 80, 81, 82, 83, 84, 85, 86, 87, 88, 89, 90, 91, 92, 93, 94, 95, 96, 97, 98, 99, 100] (by decide +kernel)
theorem cw_X12_first_X12_beginsRule {s : State} {args : Array Value} (hts : ∀ w ∈ wsX12_first, w.before args s = true) : CallW rm_X12_first s args RX12 RX12 159 yX12_beginsRule cX12_beginsRule 10 (some .boolean) wsX12_beginsRule rm_X12_beginsRule 0 0 4 := cwV 4 hts gX12_first_X12_beginsRule rfl rfl rfl (by decide +kernel) ⟨Nat.le_of_ble_eq_true rfl, Nat.le_of_ble_eq_true rfl⟩
theorem cw_X12_first_X12_isName {s : State} {args : Array Value} (hts : ∀ w ∈ wsX12_first, w.before args s = true) : CallB rm_X12_first s args RX12 111 yX12_isName cX12_isName 1 (some .boolean) wsX12_isName rm_X12_isName 0 0 1 ∧ (Cond.static yX12_isName).before args s = true := va_cwS 1 hts gX12_first_X12_isName rfl rfl rfl (by decide +kernel) ⟨Nat.le_of_ble_eq_true rfl, Nat.le_of_ble_eq_true rfl⟩
theorem cw_X12_first_X12_layMends {s : State} {args : Array Value} (hts : ∀ w ∈ wsX12_first, w.before args s = true) : CallW rm_X12_first s args RX12 RX12 143 yX12_layMends cX12_layMends 6 none wsX12_layMends rm_X12_layMends 0 0 0 := cwV 0 hts gX12_first_X12_layMends rfl rfl rfl (by decide +kernel) ⟨Nat.le_of_ble_eq_true rfl, Nat.le_of_ble_eq_true rfl⟩
theorem cw_X12_first_X12_take {s : State} {args : Array Value} (hts : ∀ w ∈ wsX12_first, w.before args s = true) : CallW rm_X12_first s args RX12 RX12 146 yX12_take cX12_take 3 none wsX12_take rm_X12_take 0 0 1 := cwV 1 hts gX12_first_X12_take rfl rfl rfl (by decide +kernel) ⟨Nat.le_of_ble_eq_true rfl, Nat.le_of_ble_eq_true rfl⟩
set_option maxHeartbeats 4000000 in
set_option maxRecDepth 100000 in
theorem w_X12_first_L21 {p : Program} {l : Launch} {e : Env} {s : State} {m : MethodId} {args : Array Value} {below : List Frame} {meth : Method} {c : Code} {Q : State → Prop} {D : va_G} {cy : Nat → ClassId} {ad : Nat → Nat} {H0 : Heap} (hO : adOK 28 ad) (S : CallFix p m c cX12_first 8 s args wsX12_first RX12) (hK : KK D cy s) (n : Nat) (x1_ : Int) {res : Mem} (k0 : ∀ (τ : Mem) (H2 : Heap) (locs2 : List Loc) (ls2 : Array Slot), res = τ → va_P D vwCl (WW 28 (cellM cy ad) ad τ) H2 → va_S (AC 28 ad) H0 H2 locs2 → lv_has ls2 8 [(0, .ref (ad 0)), (1, .int (zI x1_))] → W p l e rm_X12_first s m args below meth c H2 locs2 0 0 Q (F0 m 41 ls2 [])) :
    ∀ (k : Nat) (x2_ : Int) (σ : Mem) (H : Heap) (locs : List Loc) (ls : Array Slot), f_X12_first_L21 n x1_ k x2_ σ = some res → va_P D vwCl (WW 28 (cellM cy ad) ad σ) H → va_S (AC 28 ad) H0 H locs → lv_has ls 8 [(0, .ref (ad 0)), (1, .int (zI x1_)), (2, .int (zI x2_))] → W p l e rm_X12_first s m args below meth c H locs 0 0 Q (F0 m 21 ls []) := by
  intro k
  induction k with
  | zero =>
    intro x2_ σ H locs ls hf
    have hf : none = some res := hf
    cases hf
  | succ k ih =>
    intro x2_ σ H locs ls hf hP hS hl
    rw [f_X12_first_L21] at hf
    refine lv_iload_n S.1 S.2.1 dX12_first_21 rfl (lv_at hl 2 rfl) ?_
    refine r_sipush S dX12_first_22 (by decide) ?_
    refine lv_icmp_ge (tgt := 41) S.1 S.2.1 dX12_first_25 (by decide) (fun c1 => ?_) (fun c1 => ?_)
    · have hf := (if_pos c1).symm.trans hf
      exact k0 _ _ _ _ (Option.some.inj hf).symm hP hS (lv_sub hl [0, 1] rfl)
    · have hf := (if_neg c1).symm.trans hf
      refine lv_aload_n S.1 S.2.1 dX12_first_28 rfl (lv_at hl 0 rfl) ?_
      refine r_get S hK hP (by decide) rfl rfl h_X12_first_X12 23 (by decide) k_X12_first_1 rfl dX12_first_29 ?_
      refine lv_iload_n S.1 S.2.1 dX12_first_32 rfl (lv_at hl 2 rfl) ?_
      refine r_iconst S dX12_first_33 ?_
      obtain ⟨g2, hf⟩ := gd_some hf
      obtain ⟨σ3, hσ3, hf⟩ := nm_some hf
      refine r_zast S hK hP hO hS (by decide) (n := 294) (fun _ => rfl) (by decide) g2 (Or.inl rfl) hσ3 dX12_first_34 (fun H locs hP hS => ?_)
      obtain ⟨x4, hx4, hf⟩ := nm_some hf
      refine r_iinc S hx4 (k0 := 2) (lv2 := [(2, .int (zI x4)), (0, .ref (ad 0)), (1, .int (zI x1_))]) dX12_first_35 hl rfl (by decide) rfl (fun ls hl => ?_)
      refine lv_goto (tgt := 21) S.1 S.2.1 dX12_first_38 (by decide) ?_
      exact ih x4 σ3 _ _ _ hf hP hS (lv_sub hl [1, 2, 0] rfl)
set_option maxHeartbeats 4000000 in
set_option maxRecDepth 100000 in
theorem w_X12_first_L100 {p : Program} {l : Launch} {e : Env} {s : State} {m : MethodId} {args : Array Value} {below : List Frame} {meth : Method} {c : Code} {Q : State → Prop} {D : va_G} {cy : Nat → ClassId} {ad : Nat → Nat} {H0 : Heap} (hO : adOK 28 ad) (S : CallFix p m c cX12_first 8 s args wsX12_first RX12) (hK : KK D cy s) (n : Nat) (x1_ : Int) (x3_ : Int) (x4_ : Int) (x5_ : Int) (x6_ : Int) {res : Int × Mem} (k0 : ∀ (y2_ : Int) (τ : Mem) (H2 : Heap) (locs2 : List Loc) (ls2 : Array Slot), res = (y2_, τ) → va_P D vwCl (WW 28 (cellM cy ad) ad τ) H2 → va_S (AC 28 ad) H0 H2 locs2 → lv_has ls2 8 [(0, .ref (ad 0)), (1, .int (zI x1_)), (2, .int (zI y2_)), (3, .int (zI x3_)), (4, .int (zI x4_)), (5, .int (zI x5_))] → W p l e rm_X12_first s m args below meth c H2 locs2 0 0 Q (F0 m 165 ls2 [])) :
    ∀ (k : Nat) (x2_ : Int) (x7_ : Int) (σ : Mem) (H : Heap) (locs : List Loc) (ls : Array Slot), f_X12_first_L100 n x1_ x3_ x4_ x5_ x6_ k x2_ x7_ σ = some res → va_P D vwCl (WW 28 (cellM cy ad) ad σ) H → va_S (AC 28 ad) H0 H locs → lv_has ls 8 [(0, .ref (ad 0)), (1, .int (zI x1_)), (2, .int (zI x2_)), (3, .int (zI x3_)), (4, .int (zI x4_)), (5, .int (zI x5_)), (6, .int (zI x6_)), (7, .int (zI x7_))] → W p l e rm_X12_first s m args below meth c H locs 0 0 Q (F0 m 100 ls []) := by
  intro k
  induction k with
  | zero =>
    intro x2_ x7_ σ H locs ls hf
    have hf : none = some res := hf
    cases hf
  | succ k ih =>
    intro x2_ x7_ σ H locs ls hf hP hS hl
    rw [f_X12_first_L100] at hf
    refine lv_iload S.1 S.2.1 dX12_first_100 (lv_at hl 7 rfl) ?_
    refine lv_aload_n S.1 S.2.1 dX12_first_102 rfl (lv_at hl 0 rfl) ?_
    refine r_get S hK hP (by decide) rfl rfl h_X12_first_X12 2 (by decide) k_X12_first_3 rfl dX12_first_103 ?_
    refine lv_iload_n S.1 S.2.1 dX12_first_106 rfl (lv_at hl 3 rfl) ?_
    obtain ⟨g1, hf⟩ := gd_some hf
    refine r_iald S hK hP (by decide) (n := 6) (fun _ => rfl) (by decide) g1 dX12_first_107 ?_
    refine lv_icmp_ge (tgt := 165) S.1 S.2.1 dX12_first_108 (by decide) (fun c2 => ?_) (fun c2 => ?_)
    · have hf := (if_pos c2).symm.trans hf
      exact k0 _ _ _ _ _ (Option.some.inj hf).symm hP hS (lv_sub hl [0, 1, 2, 3, 4, 5] rfl)
    · have hf := (if_neg c2).symm.trans hf
      refine lv_aload_n S.1 S.2.1 dX12_first_111 rfl (lv_at hl 0 rfl) ?_
      refine r_get S hK hP (by decide) rfl rfl h_X12_first_X12 23 (by decide) k_X12_first_1 rfl dX12_first_112 ?_
      refine lv_iload S.1 S.2.1 dX12_first_115 (lv_at hl 6 rfl) ?_
      obtain ⟨g3, hf⟩ := gd_some hf
      refine r_zald S hK hP (by decide) (n := 294) (fun _ => rfl) (by decide) g3 dX12_first_117 ?_
      refine r_if_ne (tgt := 165) S dX12_first_118 (by decide) (fun c4 => ?_) (fun c4 => ?_)
      · have hf := (if_neg c4).symm.trans hf
        exact k0 _ _ _ _ _ (Option.some.inj hf).symm hP hS (lv_sub hl [0, 1, 2, 3, 4, 5] rfl)
      · have hf := (if_pos c4).symm.trans hf
        refine lv_aload_n S.1 S.2.1 dX12_first_121 rfl (lv_at hl 0 rfl) ?_
        refine r_get S hK hP (by decide) rfl rfl h_X12_first_X12 23 (by decide) k_X12_first_1 rfl dX12_first_122 ?_
        refine lv_iload S.1 S.2.1 dX12_first_125 (lv_at hl 6 rfl) ?_
        refine lv_aload_n S.1 S.2.1 dX12_first_127 rfl (lv_at hl 0 rfl) ?_
        refine lv_iload_n S.1 S.2.1 dX12_first_128 rfl (lv_at hl 3 rfl) ?_
        refine lv_iload S.1 S.2.1 dX12_first_129 (lv_at hl 7 rfl) ?_
        refine lv_iload S.1 S.2.1 dX12_first_131 (lv_at hl 4 rfl) ?_
        refine lv_iload S.1 S.2.1 dX12_first_133 (lv_at hl 5 rfl) ?_
        obtain ⟨y7, σ6, hq5, hf⟩ := bL1_some hf
        refine r_callVI S hK hP hS (by decide) rfl rfl [.int (zI x3_), .int (zI x7_), .int (zI x4_), .int (zI x5_)] (c_X12_beginsRule l D cy ad hO n x3_ x7_ x4_ x5_ σ hq5) (cw_X12_first_X12_beginsRule S.2.2.2.2) rfl hl.1 (rest := [.int (zI x6_), .ref (ad 16)]) rfl (Nat.le_of_ble_eq_true rfl) dX12_first_135 ⟨Nat.zero_le _, Nat.zero_le _⟩ (fun H locs hP hS => ?_)
        obtain ⟨hb8, hf⟩ := gd_some hf
        obtain ⟨σ9, hσ9, hf⟩ := nm_some hf
        refine r_zast S hK hP hO hS (by decide) (n := 294) (fun _ => rfl) (by decide) g3 hb8 hσ9 dX12_first_138 (fun H locs hP hS => ?_)
        refine lv_iload_n S.1 S.2.1 dX12_first_139 rfl (lv_at hl 2 rfl) ?_
        obtain ⟨t10, hq, hf⟩ := bV_some hf
        have kJ0 : t10 = 0 → ∀ (H : Heap) (locs : List Loc) (ls : Array Slot), va_P D vwCl (WW 28 (cellM cy ad) ad σ9) H → va_S (AC 28 ad) H0 H locs → lv_has ls 8 [(0, .ref (ad 0)), (1, .int (zI x1_)), (3, .int (zI x3_)), (4, .int (zI x4_)), (5, .int (zI x5_)), (6, .int (zI x6_)), (7, .int (zI x7_))] → W p l e rm_X12_first s m args below meth c H locs 0 0 Q (F0 m 153 ls []) := by
          intro ht
          intro H locs ls hP hS hl
          have hf := (if_pos ht).symm.trans hf
          refine r_iconst S dX12_first_153 ?_
          refine lv_goto (tgt := 158) S.1 S.2.1 dX12_first_154 (by decide) ?_
          refine r_istore_n S rfl (lv2 := [(2, .int (zI 1)), (0, .ref (ad 0)), (1, .int (zI x1_)), (3, .int (zI x3_)), (4, .int (zI x4_)), (5, .int (zI x5_)), (6, .int (zI x6_)), (7, .int (zI x7_))]) dX12_first_158 rfl hl (by decide) rfl (fun ls hl => ?_)
          obtain ⟨x13, hx13, hf⟩ := nm_some hf
          refine r_iinc S hx13 (k0 := 7) (lv2 := [(7, .int (zI x13)), (2, .int (zI 1)), (0, .ref (ad 0)), (1, .int (zI x1_)), (3, .int (zI x3_)), (4, .int (zI x4_)), (5, .int (zI x5_)), (6, .int (zI x6_))]) dX12_first_159 hl rfl (by decide) rfl (fun ls hl => ?_)
          refine lv_goto (tgt := 100) S.1 S.2.1 dX12_first_162 (by decide) ?_
          exact ih 1 x13 σ9 _ _ _ hf hP hS (lv_sub hl [2, 3, 1, 4, 5, 6, 7, 0] rfl)
        have kJ1 : t10 = 1 → ∀ (H : Heap) (locs : List Loc) (ls : Array Slot), va_P D vwCl (WW 28 (cellM cy ad) ad σ9) H → va_S (AC 28 ad) H0 H locs → lv_has ls 8 [(0, .ref (ad 0)), (1, .int (zI x1_)), (3, .int (zI x3_)), (4, .int (zI x4_)), (5, .int (zI x5_)), (6, .int (zI x6_)), (7, .int (zI x7_))] → W p l e rm_X12_first s m args below meth c H locs 0 0 Q (F0 m 157 ls []) := by
          intro ht
          intro H locs ls hP hS hl
          have hf := (if_neg (by rw [ht]; decide)).symm.trans hf
          refine r_iconst S dX12_first_157 ?_
          refine r_istore_n S rfl (lv2 := [(2, .int (zI 0)), (0, .ref (ad 0)), (1, .int (zI x1_)), (3, .int (zI x3_)), (4, .int (zI x4_)), (5, .int (zI x5_)), (6, .int (zI x6_)), (7, .int (zI x7_))]) dX12_first_158 rfl hl (by decide) rfl (fun ls hl => ?_)
          obtain ⟨x14, hx14, hf⟩ := nm_some hf
          refine r_iinc S hx14 (k0 := 7) (lv2 := [(7, .int (zI x14)), (2, .int (zI 0)), (0, .ref (ad 0)), (1, .int (zI x1_)), (3, .int (zI x3_)), (4, .int (zI x4_)), (5, .int (zI x5_)), (6, .int (zI x6_))]) dX12_first_159 hl rfl (by decide) rfl (fun ls hl => ?_)
          refine lv_goto (tgt := 100) S.1 S.2.1 dX12_first_162 (by decide) ?_
          exact ih 0 x14 σ9 _ _ _ hf hP hS (lv_sub hl [2, 3, 1, 4, 5, 6, 7, 0] rfl)
        clear hf
        have hf := hq
        refine r_if_ne (tgt := 153) S dX12_first_140 (by decide) (fun c11 => ?_) (fun c11 => ?_)
        · have hf := (if_neg c11).symm.trans hf
          have e1 := Option.some.inj hf
          subst e1
          exact kJ0 rfl _ _ _ hP hS (lv_sub hl [0, 1, 3, 4, 5, 6, 7] rfl)
        · have hf := (if_pos c11).symm.trans hf
          refine lv_aload_n S.1 S.2.1 dX12_first_143 rfl (lv_at hl 0 rfl) ?_
          refine r_get S hK hP (by decide) rfl rfl h_X12_first_X12 23 (by decide) k_X12_first_1 rfl dX12_first_144 ?_
          refine lv_iload S.1 S.2.1 dX12_first_147 (lv_at hl 6 rfl) ?_
          refine r_zald S hK hP (by decide) (n := 294) (fun _ => rfl) (by decide) g3 dX12_first_149 ?_
          refine r_if_eq (tgt := 157) S dX12_first_150 (by decide) (fun c12 => ?_) (fun c12 => ?_)
          · have hf := (if_pos c12).symm.trans hf
            have e1 := Option.some.inj hf
            subst e1
            exact kJ1 rfl _ _ _ hP hS (lv_sub hl [0, 1, 3, 4, 5, 6, 7] rfl)
          · have hf := (if_neg c12).symm.trans hf
            have e1 := Option.some.inj hf
            subst e1
            exact kJ0 rfl _ _ _ hP hS (lv_sub hl [0, 1, 3, 4, 5, 6, 7] rfl)
set_option maxHeartbeats 4000000 in
set_option maxRecDepth 100000 in
theorem w_X12_first_L73 {p : Program} {l : Launch} {e : Env} {s : State} {m : MethodId} {args : Array Value} {below : List Frame} {meth : Method} {c : Code} {Q : State → Prop} {D : va_G} {cy : Nat → ClassId} {ad : Nat → Nat} {H0 : Heap} (hO : adOK 28 ad) (S : CallFix p m c cX12_first 8 s args wsX12_first RX12) (hK : KK D cy s) (n : Nat) (x1_ : Int) (x3_ : Int) (x4_ : Int) {res : Int × Mem} (k0 : ∀ (y2_ : Int) (τ : Mem) (H2 : Heap) (locs2 : List Loc) (ls2 : Array Slot), res = (y2_, τ) → va_P D vwCl (WW 28 (cellM cy ad) ad τ) H2 → va_S (AC 28 ad) H0 H2 locs2 → lv_has ls2 8 [(0, .ref (ad 0)), (1, .int (zI x1_)), (2, .int (zI y2_)), (3, .int (zI x3_)), (4, .int (zI x4_))] → W p l e rm_X12_first s m args below meth c H2 locs2 0 0 Q (F0 m 171 ls2 [])) :
    ∀ (k : Nat) (x2_ : Int) (x5_ : Int) (σ : Mem) (H : Heap) (locs : List Loc) (ls : Array Slot), f_X12_first_L73 n x1_ x3_ x4_ k x2_ x5_ σ = some res → va_P D vwCl (WW 28 (cellM cy ad) ad σ) H → va_S (AC 28 ad) H0 H locs → lv_has ls 8 [(0, .ref (ad 0)), (1, .int (zI x1_)), (2, .int (zI x2_)), (3, .int (zI x3_)), (4, .int (zI x4_)), (5, .int (zI x5_))] → W p l e rm_X12_first s m args below meth c H locs 0 0 Q (F0 m 73 ls []) := by
  intro k
  induction k with
  | zero =>
    intro x2_ x5_ σ H locs ls hf
    have hf : none = some res := hf
    cases hf
  | succ k ih =>
    intro x2_ x5_ σ H locs ls hf hP hS hl
    rw [f_X12_first_L73] at hf
    refine lv_iload S.1 S.2.1 dX12_first_73 (lv_at hl 5 rfl) ?_
    refine lv_aload_n S.1 S.2.1 dX12_first_75 rfl (lv_at hl 0 rfl) ?_
    refine r_get S hK hP (by decide) rfl rfl h_X12_first_X12 12 (by decide) k_X12_first_2 rfl dX12_first_76 ?_
    refine lv_icmp_gt (tgt := 171) S.1 S.2.1 dX12_first_79 (by decide) (fun c1 => ?_) (fun c1 => ?_)
    · have hf := (if_pos c1).symm.trans hf
      exact k0 _ _ _ _ _ (Option.some.inj hf).symm hP hS (lv_sub hl [0, 1, 2, 3, 4] rfl)
    · have hf := (if_neg c1).symm.trans hf
      refine r_bipush S dX12_first_82 (by decide) ?_
      refine lv_iload_n S.1 S.2.1 dX12_first_84 rfl (lv_at hl 3 rfl) ?_
      refine r_imul S dX12_first_85 ?_
      refine r_bipush S dX12_first_86 (by decide) ?_
      refine lv_iload S.1 S.2.1 dX12_first_88 (lv_at hl 4 rfl) ?_
      refine r_imul S dX12_first_90 ?_
      refine r_iadd S dX12_first_91 ?_
      refine lv_iload S.1 S.2.1 dX12_first_92 (lv_at hl 5 rfl) ?_
      refine r_iadd S dX12_first_94 ?_
      obtain ⟨x2, hx2, hf⟩ := nm_some hf
      refine r_istore S hx2 (lv2 := [(6, .int (zI x2)), (0, .ref (ad 0)), (1, .int (zI x1_)), (2, .int (zI x2_)), (3, .int (zI x3_)), (4, .int (zI x4_)), (5, .int (zI x5_))]) dX12_first_95 hl (by decide) rfl (fun ls hl => ?_)
      refine r_iconst S dX12_first_97 ?_
      refine r_istore S rfl (lv2 := [(7, .int (zI 0)), (6, .int (zI x2)), (0, .ref (ad 0)), (1, .int (zI x1_)), (2, .int (zI x2_)), (3, .int (zI x3_)), (4, .int (zI x4_)), (5, .int (zI x5_))]) dX12_first_98 hl (by decide) rfl (fun ls hl => ?_)
      obtain ⟨x3, σ4, hq, hf⟩ := bL1_some hf
      refine w_X12_first_L100 hO S hK n x1_ x3_ x4_ x5_ x2 (fun x3 σ4 H locs ls he hP hS hl => ?_) n x2_ 0 σ _ _ _ hq hP hS (lv_sub hl [2, 3, 4, 5, 6, 7, 1, 0] rfl)
      cases he
      obtain ⟨x5, hx5, hf⟩ := nm_some hf
      refine r_iinc S hx5 (k0 := 5) (lv2 := [(5, .int (zI x5)), (0, .ref (ad 0)), (1, .int (zI x1_)), (2, .int (zI x3)), (3, .int (zI x3_)), (4, .int (zI x4_))]) dX12_first_165 hl rfl (by decide) rfl (fun ls hl => ?_)
      refine lv_goto (tgt := 73) S.1 S.2.1 dX12_first_168 (by decide) ?_
      exact ih x3 x5 σ4 _ _ _ hf hP hS (lv_sub hl [1, 2, 3, 4, 5, 0] rfl)
set_option maxHeartbeats 4000000 in
set_option maxRecDepth 100000 in
theorem w_X12_first_L60 {p : Program} {l : Launch} {e : Env} {s : State} {m : MethodId} {args : Array Value} {below : List Frame} {meth : Method} {c : Code} {Q : State → Prop} {D : va_G} {cy : Nat → ClassId} {ad : Nat → Nat} {H0 : Heap} (hO : adOK 28 ad) (S : CallFix p m c cX12_first 8 s args wsX12_first RX12) (hK : KK D cy s) (n : Nat) (x1_ : Int) (x3_ : Int) {res : Int × Mem} (k0 : ∀ (y2_ : Int) (τ : Mem) (H2 : Heap) (locs2 : List Loc) (ls2 : Array Slot), res = (y2_, τ) → va_P D vwCl (WW 28 (cellM cy ad) ad τ) H2 → va_S (AC 28 ad) H0 H2 locs2 → lv_has ls2 8 [(0, .ref (ad 0)), (1, .int (zI x1_)), (2, .int (zI y2_)), (3, .int (zI x3_))] → W p l e rm_X12_first s m args below meth c H2 locs2 0 0 Q (F0 m 177 ls2 [])) :
    ∀ (k : Nat) (x2_ : Int) (x4_ : Int) (σ : Mem) (H : Heap) (locs : List Loc) (ls : Array Slot), f_X12_first_L60 n x1_ x3_ k x2_ x4_ σ = some res → va_P D vwCl (WW 28 (cellM cy ad) ad σ) H → va_S (AC 28 ad) H0 H locs → lv_has ls 8 [(0, .ref (ad 0)), (1, .int (zI x1_)), (2, .int (zI x2_)), (3, .int (zI x3_)), (4, .int (zI x4_))] → W p l e rm_X12_first s m args below meth c H locs 0 0 Q (F0 m 60 ls []) := by
  intro k
  induction k with
  | zero =>
    intro x2_ x4_ σ H locs ls hf
    have hf : none = some res := hf
    cases hf
  | succ k ih =>
    intro x2_ x4_ σ H locs ls hf hP hS hl
    rw [f_X12_first_L60] at hf
    refine lv_iload S.1 S.2.1 dX12_first_60 (lv_at hl 4 rfl) ?_
    refine lv_aload_n S.1 S.2.1 dX12_first_62 rfl (lv_at hl 0 rfl) ?_
    refine r_get S hK hP (by decide) rfl rfl h_X12_first_X12 12 (by decide) k_X12_first_2 rfl dX12_first_63 ?_
    refine lv_icmp_gt (tgt := 177) S.1 S.2.1 dX12_first_66 (by decide) (fun c1 => ?_) (fun c1 => ?_)
    · have hf := (if_pos c1).symm.trans hf
      exact k0 _ _ _ _ _ (Option.some.inj hf).symm hP hS (lv_sub hl [0, 1, 2, 3] rfl)
    · have hf := (if_neg c1).symm.trans hf
      refine lv_iload S.1 S.2.1 dX12_first_69 (lv_at hl 4 rfl) ?_
      refine r_istore S rfl (lv2 := [(5, .int (zI x4_)), (0, .ref (ad 0)), (1, .int (zI x1_)), (2, .int (zI x2_)), (3, .int (zI x3_)), (4, .int (zI x4_))]) dX12_first_71 hl (by decide) rfl (fun ls hl => ?_)
      obtain ⟨x2, σ3, hq, hf⟩ := bL1_some hf
      refine w_X12_first_L73 hO S hK n x1_ x3_ x4_ (fun x2 σ3 H locs ls he hP hS hl => ?_) n x2_ x4_ σ _ _ _ hq hP hS (lv_sub hl [1, 2, 3, 4, 5, 0] rfl)
      cases he
      obtain ⟨x4, hx4, hf⟩ := nm_some hf
      refine r_iinc S hx4 (k0 := 4) (lv2 := [(4, .int (zI x4)), (0, .ref (ad 0)), (1, .int (zI x1_)), (2, .int (zI x2)), (3, .int (zI x3_))]) dX12_first_171 hl rfl (by decide) rfl (fun ls hl => ?_)
      refine lv_goto (tgt := 60) S.1 S.2.1 dX12_first_174 (by decide) ?_
      exact ih x2 x4 σ3 _ _ _ hf hP hS (lv_sub hl [1, 2, 3, 4, 0] rfl)
set_option maxHeartbeats 4000000 in
set_option maxRecDepth 100000 in
theorem w_X12_first_L51 {p : Program} {l : Launch} {e : Env} {s : State} {m : MethodId} {args : Array Value} {below : List Frame} {meth : Method} {c : Code} {Q : State → Prop} {D : va_G} {cy : Nat → ClassId} {ad : Nat → Nat} {H0 : Heap} (hO : adOK 28 ad) (S : CallFix p m c cX12_first 8 s args wsX12_first RX12) (hK : KK D cy s) (n : Nat) (x1_ : Int) {res : Int × Mem} (k0 : ∀ (y2_ : Int) (τ : Mem) (H2 : Heap) (locs2 : List Loc) (ls2 : Array Slot), res = (y2_, τ) → va_P D vwCl (WW 28 (cellM cy ad) ad τ) H2 → va_S (AC 28 ad) H0 H2 locs2 → lv_has ls2 8 [(0, .ref (ad 0)), (1, .int (zI x1_)), (2, .int (zI y2_))] → W p l e rm_X12_first s m args below meth c H2 locs2 0 0 Q (F0 m 183 ls2 [])) :
    ∀ (k : Nat) (x2_ : Int) (x3_ : Int) (σ : Mem) (H : Heap) (locs : List Loc) (ls : Array Slot), f_X12_first_L51 n x1_ k x2_ x3_ σ = some res → va_P D vwCl (WW 28 (cellM cy ad) ad σ) H → va_S (AC 28 ad) H0 H locs → lv_has ls 8 [(0, .ref (ad 0)), (1, .int (zI x1_)), (2, .int (zI x2_)), (3, .int (zI x3_))] → W p l e rm_X12_first s m args below meth c H locs 0 0 Q (F0 m 51 ls []) := by
  intro k
  induction k with
  | zero =>
    intro x2_ x3_ σ H locs ls hf
    have hf : none = some res := hf
    cases hf
  | succ k ih =>
    intro x2_ x3_ σ H locs ls hf hP hS hl
    rw [f_X12_first_L51] at hf
    refine lv_iload_n S.1 S.2.1 dX12_first_51 rfl (lv_at hl 3 rfl) ?_
    refine r_bipush S dX12_first_52 (by decide) ?_
    refine lv_icmp_ge (tgt := 183) S.1 S.2.1 dX12_first_54 (by decide) (fun c1 => ?_) (fun c1 => ?_)
    · have hf := (if_pos c1).symm.trans hf
      exact k0 _ _ _ _ _ (Option.some.inj hf).symm hP hS (lv_sub hl [0, 1, 2] rfl)
    · have hf := (if_neg c1).symm.trans hf
      refine r_iconst S dX12_first_57 ?_
      refine r_istore S rfl (lv2 := [(4, .int (zI 0)), (0, .ref (ad 0)), (1, .int (zI x1_)), (2, .int (zI x2_)), (3, .int (zI x3_))]) dX12_first_58 hl (by decide) rfl (fun ls hl => ?_)
      obtain ⟨x2, σ3, hq, hf⟩ := bL1_some hf
      refine w_X12_first_L60 hO S hK n x1_ x3_ (fun x2 σ3 H locs ls he hP hS hl => ?_) n x2_ 0 σ _ _ _ hq hP hS (lv_sub hl [1, 2, 3, 4, 0] rfl)
      cases he
      obtain ⟨x4, hx4, hf⟩ := nm_some hf
      refine r_iinc S hx4 (k0 := 3) (lv2 := [(3, .int (zI x4)), (0, .ref (ad 0)), (1, .int (zI x1_)), (2, .int (zI x2))]) dX12_first_177 hl rfl (by decide) rfl (fun ls hl => ?_)
      refine lv_goto (tgt := 51) S.1 S.2.1 dX12_first_180 (by decide) ?_
      exact ih x2 x4 σ3 _ _ _ hf hP hS (lv_sub hl [1, 2, 3, 0] rfl)
set_option maxHeartbeats 4000000 in
set_option maxRecDepth 100000 in
theorem w_X12_first_L43 {p : Program} {l : Launch} {e : Env} {s : State} {m : MethodId} {args : Array Value} {below : List Frame} {meth : Method} {c : Code} {Q : State → Prop} {D : va_G} {cy : Nat → ClassId} {ad : Nat → Nat} {H0 : Heap} (hO : adOK 28 ad) (S : CallFix p m c cX12_first 8 s args wsX12_first RX12) (hK : KK D cy s) (n : Nat) (x1_ : Int) {res : Mem} (k0 : ∀ (τ : Mem) (H2 : Heap) (locs2 : List Loc) (ls2 : Array Slot), res = τ → va_P D vwCl (WW 28 (cellM cy ad) ad τ) H2 → va_S (AC 28 ad) H0 H2 locs2 → lv_has ls2 8 [(0, .ref (ad 0)), (1, .int (zI x1_))] → W p l e rm_X12_first s m args below meth c H2 locs2 0 0 Q (F0 m 186 ls2 [])) :
    ∀ (k : Nat) (x2_ : Int) (σ : Mem) (H : Heap) (locs : List Loc) (ls : Array Slot), f_X12_first_L43 n x1_ k x2_ σ = some res → va_P D vwCl (WW 28 (cellM cy ad) ad σ) H → va_S (AC 28 ad) H0 H locs → lv_has ls 8 [(0, .ref (ad 0)), (1, .int (zI x1_)), (2, .int (zI x2_))] → W p l e rm_X12_first s m args below meth c H locs 0 0 Q (F0 m 43 ls []) := by
  intro k
  induction k with
  | zero =>
    intro x2_ σ H locs ls hf
    have hf : none = some res := hf
    cases hf
  | succ k ih =>
    intro x2_ σ H locs ls hf hP hS hl
    rw [f_X12_first_L43] at hf
    refine lv_iload_n S.1 S.2.1 dX12_first_43 rfl (lv_at hl 2 rfl) ?_
    refine r_if_eq (tgt := 186) S dX12_first_44 (by decide) (fun c1 => ?_) (fun c1 => ?_)
    · have hf := (if_pos c1).symm.trans hf
      exact k0 _ _ _ _ (Option.some.inj hf).symm hP hS (lv_sub hl [0, 1] rfl)
    · have hf := (if_neg c1).symm.trans hf
      refine r_iconst S dX12_first_47 ?_
      refine r_istore_n S rfl (lv2 := [(2, .int (zI 0)), (0, .ref (ad 0)), (1, .int (zI x1_))]) dX12_first_48 rfl hl (by decide) rfl (fun ls hl => ?_)
      refine r_iconst S dX12_first_49 ?_
      refine r_istore_n S rfl (lv2 := [(3, .int (zI 0)), (2, .int (zI 0)), (0, .ref (ad 0)), (1, .int (zI x1_))]) dX12_first_50 rfl hl (by decide) rfl (fun ls hl => ?_)
      obtain ⟨x2, σ3, hq, hf⟩ := bL1_some hf
      refine w_X12_first_L51 hO S hK n x1_ (fun x2 σ3 H locs ls he hP hS hl => ?_) n 0 0 σ _ _ _ hq hP hS (lv_sub hl [2, 3, 1, 0] rfl)
      cases he
      refine lv_goto (tgt := 43) S.1 S.2.1 dX12_first_183 (by decide) ?_
      exact ih x2 σ3 _ _ _ hf hP hS (lv_sub hl [0, 1, 2] rfl)
set_option maxHeartbeats 4000000 in
set_option maxRecDepth 100000 in
theorem w_X12_first_L188 {p : Program} {l : Launch} {e : Env} {s : State} {m : MethodId} {args : Array Value} {below : List Frame} {meth : Method} {c : Code} {Q : State → Prop} {D : va_G} {cy : Nat → ClassId} {ad : Nat → Nat} {H0 : Heap} (hO : adOK 28 ad) (S : CallFix p m c cX12_first 8 s args wsX12_first RX12) (hK : KK D cy s) (n : Nat) (x1_ : Int) (σ : Mem) {res : Nat × Int} (k0 : ∀ (y3_ : Int) (H2 : Heap) (locs2 : List Loc) (ls2 : Array Slot), res = (0, y3_) → va_P D vwCl (WW 28 (cellM cy ad) ad σ) H2 → va_S (AC 28 ad) H0 H2 locs2 → lv_has ls2 8 [(3, .int (zI y3_))] → W p l e rm_X12_first s m args below meth c H2 locs2 0 0 Q (F0 m 210 ls2 [])) (k1 : ∀ (y3_ : Int) (H2 : Heap) (locs2 : List Loc) (ls2 : Array Slot), res = (1, y3_) → va_P D vwCl (WW 28 (cellM cy ad) ad σ) H2 → va_S (AC 28 ad) H0 H2 locs2 → lv_has ls2 8 [] → W p l e rm_X12_first s m args below meth c H2 locs2 0 0 Q (F0 m 218 ls2 [])) :
    ∀ (k : Nat) (x3_ : Int) (H : Heap) (locs : List Loc) (ls : Array Slot), f_X12_first_L188 n x1_ σ k x3_ = some res → va_P D vwCl (WW 28 (cellM cy ad) ad σ) H → va_S (AC 28 ad) H0 H locs → lv_has ls 8 [(0, .ref (ad 0)), (1, .int (zI x1_)), (3, .int (zI x3_))] → W p l e rm_X12_first s m args below meth c H locs 0 0 Q (F0 m 188 ls []) := by
  intro k
  induction k with
  | zero =>
    intro x3_ H locs ls hf
    have hf : none = some res := hf
    cases hf
  | succ k ih =>
    intro x3_ H locs ls hf hP hS hl
    rw [f_X12_first_L188] at hf
    refine lv_iload_n S.1 S.2.1 dX12_first_188 rfl (lv_at hl 2 rfl) ?_
    refine lv_aload_n S.1 S.2.1 dX12_first_189 rfl (lv_at hl 0 rfl) ?_
    refine r_get S hK hP (by decide) rfl rfl h_X12_first_X12 6 (by decide) k_X12_first_4 rfl dX12_first_190 ?_
    refine lv_icmp_gt (tgt := 218) S.1 S.2.1 dX12_first_193 (by decide) (fun c1 => ?_) (fun c1 => ?_)
    · have hf := (if_pos c1).symm.trans hf
      exact k1 _ _ _ _ (Option.some.inj hf).symm hP hS (lv_sub hl [] rfl)
    · have hf := (if_neg c1).symm.trans hf
      refine lv_aload_n S.1 S.2.1 dX12_first_196 rfl (lv_at hl 0 rfl) ?_
      refine r_get S hK hP (by decide) rfl rfl h_X12_first_X12 23 (by decide) k_X12_first_1 rfl dX12_first_197 ?_
      refine r_bipush S dX12_first_200 (by decide) ?_
      refine lv_iload_n S.1 S.2.1 dX12_first_202 rfl (lv_at hl 1 rfl) ?_
      refine r_imul S dX12_first_203 ?_
      refine lv_iload_n S.1 S.2.1 dX12_first_204 rfl (lv_at hl 2 rfl) ?_
      refine r_iadd S dX12_first_205 ?_
      obtain ⟨g2, hf⟩ := gd_some hf
      refine r_zald S hK hP (by decide) (n := 294) (fun _ => rfl) (by decide) g2 dX12_first_206 ?_
      refine r_if_ne (tgt := 212) S dX12_first_207 (by decide) (fun c3 => ?_) (fun c3 => ?_)
      · have hf := (if_neg c3).symm.trans hf
        obtain ⟨x4, hx4, hf⟩ := nm_some hf
        refine r_iinc S hx4 (k0 := 2) (lv2 := [(3, .int (zI x4)), (0, .ref (ad 0)), (1, .int (zI x1_))]) dX12_first_212 hl rfl (by decide) rfl (fun ls hl => ?_)
        refine lv_goto (tgt := 188) S.1 S.2.1 dX12_first_215 (by decide) ?_
        exact ih x4 _ _ _ hf hP hS (lv_sub hl [1, 2, 0] rfl)
      · have hf := (if_pos c3).symm.trans hf
        exact k0 _ _ _ _ (Option.some.inj hf).symm hP hS (lv_sub hl [2] rfl)
set_option maxHeartbeats 4000000 in
set_option maxRecDepth 100000 in
theorem c_X12_first (l : Launch) (D : va_G) (cy : Nat → ClassId) (ad : Nat → Nat) (hO : adOK 28 ad) (n : Nat) (a0 : Int) (σ : Mem) {v : Int} {τ : Mem} (hf : f_X12_first n a0 σ = some (v, τ)) : Met l yX12_first wsX12_first rm_X12_first (va_Pc [.ref (ad 0), .int (zI a0)] (PreW D cy 28 (cellM cy ad) ad σ)) (QI D 28 (cellM cy ad) ad v τ) 0 0 (AC 28 ad) := by
  refine r_met (cc := cX12_first) (maxL := 8) (ret := (some .int)) (own := RX12) (by decide) rfl rfl [.ref (ad 0), .int (zI a0)] (Nat.le_of_ble_eq_true rfl) ?_
  intro p e s m below meth c ls S hK hP hlk hr hl
  have hS : va_S (AC 28 ad) s.heap s.heap [] := va_S.rf
  have hl : lv_has ls 8 [(0, .ref (ad 0)), (1, .int (zI a0))] := hl
  unfold f_X12_first at hf
  refine lv_iload_n S.1 S.2.1 dX12_first_0 rfl (lv_at hl 1 rfl) ?_
  obtain ⟨y2, hq1, hf⟩ := bV_some hf
  refine r_callSI S hK hP hS [.int (zI a0)] (c_X12_isName l D cy ad hO a0 σ hq1) (cw_X12_first_X12_isName S.2.2.2.2) rfl hl.1 (rest := []) rfl (Nat.le_of_ble_eq_true rfl) dX12_first_1 ⟨Nat.zero_le _, Nat.zero_le _⟩ (fun H locs hP hS => ?_)
  refine r_if_ne (tgt := 9) S dX12_first_4 (by decide) (fun c3 => ?_) (fun c3 => ?_)
  · have hf := (if_neg c3).symm.trans hf
    refine lv_aload_n S.1 S.2.1 dX12_first_9 rfl (lv_at hl 0 rfl) ?_
    refine r_bipush S dX12_first_10 (by decide) ?_
    obtain ⟨σ5, hq4, hf⟩ := bV_some hf
    refine r_callVV S hK hP hS (by decide) rfl rfl [.int (zI ((-6)))] (c_X12_take l D cy ad hO n ((-6)) σ hq4) (cw_X12_first_X12_take S.2.2.2.2) rfl hl.1 (rest := []) rfl (Nat.le_of_ble_eq_true rfl) dX12_first_12 ⟨Nat.zero_le _, Nat.zero_le _⟩ (fun H locs hP hS => ?_)
    refine lv_aload_n S.1 S.2.1 dX12_first_15 rfl (lv_at hl 0 rfl) ?_
    obtain ⟨σ7, hq6, hf⟩ := bV_some hf
    refine r_callVV S hK hP hS (by decide) rfl rfl [] (c_X12_layMends l D cy ad hO n σ5 hq6) (cw_X12_first_X12_layMends S.2.2.2.2) rfl hl.1 (rest := []) rfl (Nat.le_of_ble_eq_true rfl) dX12_first_16 ⟨Nat.zero_le _, Nat.zero_le _⟩ (fun H locs hP hS => ?_)
    refine r_iconst S dX12_first_19 ?_
    refine r_istore_n S rfl (lv2 := [(2, .int (zI 0)), (0, .ref (ad 0)), (1, .int (zI a0))]) dX12_first_20 rfl hl (by decide) rfl (fun ls hl => ?_)
    obtain ⟨σ8, hq, hf⟩ := bV_some hf
    refine w_X12_first_L21 hO S hK n a0 (fun σ8 H locs ls he hP hS hl => ?_) n 0 σ7 _ _ _ hq hP hS (lv_sub hl [1, 2, 0] rfl)
    cases he
    refine r_iconst S dX12_first_41 ?_
    refine r_istore_n S rfl (lv2 := [(2, .int (zI 1)), (0, .ref (ad 0)), (1, .int (zI a0))]) dX12_first_42 rfl hl (by decide) rfl (fun ls hl => ?_)
    obtain ⟨σ9, hq, hf⟩ := bV_some hf
    refine w_X12_first_L43 hO S hK n a0 (fun σ9 H locs ls he hP hS hl => ?_) n 1 σ8 _ _ _ hq hP hS (lv_sub hl [1, 2, 0] rfl)
    cases he
    refine r_iconst S dX12_first_186 ?_
    refine r_istore_n S rfl (lv2 := [(3, .int (zI 0)), (0, .ref (ad 0)), (1, .int (zI a0))]) dX12_first_187 rfl hl (by decide) rfl (fun ls hl => ?_)
    obtain ⟨t10, x11, hq, hf⟩ := bL1_some hf
    refine w_X12_first_L188 hO S hK n a0 σ9 (fun x11 H locs ls he hP hS hl => ?_) (fun x11 H locs ls he hP hS hl => ?_) n 0 _ _ _ hq hP hS (lv_sub hl [1, 2, 0] rfl)
    · cases he
      have hf := (if_pos rfl).symm.trans hf
      refine lv_iload_n S.1 S.2.1 dX12_first_210 rfl (lv_at hl 0 rfl) ?_
      obtain ⟨e1, e2⟩ := inj2 hf
      subst e1
      subst e2
      exact e_I S hlk hP hS hr dX12_first_211
    · cases he
      have hf := (if_neg (by decide)).symm.trans hf
      refine r_bipush S dX12_first_218 (by decide) ?_
      obtain ⟨e1, e2⟩ := inj2 hf
      subst e1
      subst e2
      exact e_I S hlk hP hS hr dX12_first_220
  · have hf := (if_pos c3).symm.trans hf
    refine r_iconst S dX12_first_7 ?_
    obtain ⟨e1, e2⟩ := inj2 hf
    subst e1
    subst e2
    exact e_I S hlk hP hS hr dX12_first_8
def rm_X12_forget : Room := { frames := 1, cells := 0, slots := 0, locals := 21 }
theorem k_X12_forget_1 : (.fieldLink RX12 187 "MendTextsModel" "examples" "I" : Cond) ∈ wsX12_forget := List.mem_of_getElem? (i := 1) (by decide +kernel)
theorem h_X12_forget_X12 : ∀ w ∈ u_ws RX12 TX12 36, w ∈ wsX12_forget := mem_places _ [8, 9, 10, 11, 12, 13, 14, 15, 16, 17, 18, 19, 20, 21, 22, 23, 24, 25, 26, 27, 28, 29, 30, 31, 32, 33, 34, 35, 36, 37, 38, 39, 40, 41, 42, 43] (by decide +kernel)
theorem cw_X12_forget_X12_turn {s : State} {args : Array Value} (hts : ∀ w ∈ wsX12_forget, w.before args s = true) : CallW rm_X12_forget s args RX12 RX12 108 yX12_turn cX12_turn 2 none wsX12_turn rm_X12_turn 0 0 0 := cwV 0 hts gX12_forget_X12_turn rfl rfl rfl (by decide +kernel) ⟨Nat.le_of_ble_eq_true rfl, Nat.le_of_ble_eq_true rfl⟩
set_option maxHeartbeats 4000000 in
set_option maxRecDepth 100000 in
theorem c_X12_forget (l : Launch) (D : va_G) (cy : Nat → ClassId) (ad : Nat → Nat) (hO : adOK 28 ad) (n : Nat) (σ : Mem) {v : Int} {τ : Mem} (hf : f_X12_forget n σ = some (v, τ)) : Met l yX12_forget wsX12_forget rm_X12_forget (va_Pc [.ref (ad 0)] (PreW D cy 28 (cellM cy ad) ad σ)) (QI D 28 (cellM cy ad) ad v τ) 0 0 (AC 28 ad) := by
  refine r_met (cc := cX12_forget) (maxL := 2) (ret := (some .int)) (own := RX12) (by decide) rfl rfl [.ref (ad 0)] (Nat.le_of_ble_eq_true rfl) ?_
  intro p e s m below meth c ls S hK hP hlk hr hl
  have hS : va_S (AC 28 ad) s.heap s.heap [] := va_S.rf
  have hl : lv_has ls 2 [(0, .ref (ad 0))] := hl
  unfold f_X12_forget at hf
  refine lv_aload_n S.1 S.2.1 dX12_forget_0 rfl (lv_at hl 0 rfl) ?_
  refine r_get S hK hP (by decide) rfl rfl h_X12_forget_X12 8 (by decide) k_X12_forget_1 rfl dX12_forget_1 ?_
  obtain ⟨x1, hx1, hf⟩ := nm_some hf
  refine r_istore_n S hx1 (lv2 := [(1, .int (zI x1)), (0, .ref (ad 0))]) dX12_forget_4 rfl hl (by decide) rfl (fun ls hl => ?_)
  refine lv_aload_n S.1 S.2.1 dX12_forget_5 rfl (lv_at hl 1 rfl) ?_
  refine r_iconst S dX12_forget_6 ?_
  obtain ⟨σ2, hσ2, hf⟩ := nm_some hf
  refine r_put S hK hP hO hS (by decide) rfl rfl h_X12_forget_X12 tyX12 tyX12_ok nmX12 8 (by decide) k_X12_forget_1 rfl (tyX12_ok 8 (by decide)) rfl rfl (Nat.le_of_ble_eq_true rfl) hσ2 rfl dX12_forget_7 (fun H locs hP hS => ?_)
  refine lv_aload_n S.1 S.2.1 dX12_forget_10 rfl (lv_at hl 1 rfl) ?_
  obtain ⟨σ4, hq3, hf⟩ := bV_some hf
  refine r_callVV S hK hP hS (by decide) rfl rfl [] (c_X12_turn l D cy ad hO n σ2 hq3) (cw_X12_forget_X12_turn S.2.2.2.2) rfl hl.1 (rest := []) rfl (Nat.le_of_ble_eq_true rfl) dX12_forget_11 ⟨Nat.zero_le _, Nat.zero_le _⟩ (fun H locs hP hS => ?_)
  refine lv_iload_n S.1 S.2.1 dX12_forget_14 rfl (lv_at hl 0 rfl) ?_
  obtain ⟨e1, e2⟩ := inj2 hf
  subst e1
  subst e2
  exact e_I S hlk hP hS hr dX12_forget_15
