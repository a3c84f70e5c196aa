def f_J6_bitCount_0f7a4 (a0 : Int) : Option Int :=
      nm (a0 - (iAnd (iUshr a0 1) 1431655765)) (fun (x1 : Int) =>
      nm ((iAnd x1 858993459) + (iAnd (iUshr x1 2) 858993459)) (fun (x2 : Int) =>
      nm (iAnd (x2 + (iUshr x2 4)) 252645135) (fun (x3 : Int) =>
      nm (x3 + (iUshr x3 8)) (fun (x4 : Int) =>
      nm (x4 + (iUshr x4 16)) (fun (x5 : Int) =>
      some (iAnd x5 63))))))
def f_X4_lengthOf (g : Nat) (a0 : Int) (σ : Mem) : Option Int :=
      if zI a0 < zI 0 then
      (some 0)
      else (if zI 25 ≤ zI a0 then
      (some 0)
      else (    gd (0 ≤ a0 ∧ a0 < ((25 : Nat) : Int)) (
      some (σ (g + 2) a0.toNat))))
def f_X4_signAt (a0 : Int) (a1 : Int) (σ : Mem) : Option Int :=
      nm ((a0 * 4) + a1) (fun (x1 : Int) =>
      if zI x1 < zI 0 then
      (some 0)
      else (if zI (((100 : Nat) : Int)) ≤ zI x1 then
      (some 0)
      else (    gd (0 ≤ x1 ∧ x1 < ((100 : Nat) : Int)) (
      some (σ 6 x1.toNat)))))
def f_X0_fitAt (a0 : Int) (σ : Mem) : Option Int :=
      if zI a0 < zI 0 then
      (some 9223372036854775807)
      else (if zI (((2940 : Nat) : Int)) ≤ zI a0 then
      (some 9223372036854775807)
      else (    gd (0 ≤ a0 ∧ a0 < ((2940 : Nat) : Int)) (
      some (σ 28 a0.toNat))))
def f_X0_fitOf (a0 : Int) (a1 : Int) (a2 : Int) (σ : Mem) : Option Int :=
      bV (f_X0_fitAt (((a0 * 49) + (a1 * 7)) + a2) σ) (fun (y2 : Int) =>
      some y2)
def f_X0_comesToWords_L2 (n : Nat) (x1_ : Int) (σ : Mem) : Nat → Int → Option (Nat)
  | 0, _ => none
  | k + 1, x2_ =>
      bV (f_X4_lengthOf 3 x1_ σ) (fun (y2 : Int) =>
      if zI y2 ≤ zI x2_ then
      (some 1)
      else (    bV (f_X4_signAt x1_ x2_ σ) (fun (y5 : Int) =>
      bV (f_X0_fitOf y5 0 0 σ) (fun (y7 : Int) =>
      if zI (lCmp y7 9223372036854775807) = zI 0 then
      (some 0)
      else (    nm (x2_ + 1) (fun (x9 : Int) =>
      f_X0_comesToWords_L2 n x1_ σ k x9))))))
def f_X0_comesToWords (n : Nat) (a0 : Int) (σ : Mem) : Option Int :=
      bV (f_X0_comesToWords_L2 n a0 σ n 0) (fun (t1 : Nat) =>
      if t1 = 0 then
      (some 0)
      else (some 1))
def f_X11_isName (a0 : Int) : Option Int :=
      if zI a0 < zI 0 then
      (some 0)
      else (if zI 6 ≤ zI a0 then
      (some 0)
      else (some 1))
def f_X4_countOf (g : Nat) (a0 : Int) (σ : Mem) : Option Int :=
      bV (f_X11_isName a0) (fun (y2 : Int) =>
      if zI y2 = zI 0 then
      (some 0)
      else (    gd (0 ≤ a0 ∧ a0 < ((6 : Nat) : Int)) (
      if zI (σ g 6) = zI a0 then
      (some ((σ (g + 1) a0.toNat) + 1))
      else (some ((σ (g + 1) a0.toNat) + 0)))))
def f_X4_slotOf (a0 : Int) (a1 : Int) (σ : Mem) : Option Int :=
      bV (f_X11_isName a0) (fun (y2 : Int) =>
      if zI y2 = zI 0 then
      (some 24)
      else (    gd (0 ≤ a0 ∧ a0 < ((6 : Nat) : Int)) (
      if zI (σ 4 a0.toNat) ≤ zI a1 then
      (some 24)
      else (some ((a0 * 4) + a1)))))
def f_X4_namesUsedBy_L24 (n : Nat) (x1_ : Int) (x3_ : Int) (x4_ : Int) (σ : Mem) : Nat → Int → Int → Option (Int)
  | 0, _, _ => none
  | k + 1, x2_, x5_ =>
      bV (f_X4_lengthOf 3 x4_ σ) (fun (y2 : Int) =>
      if zI y2 ≤ zI x5_ then
      (some x2_)
      else (    bV (f_X4_signAt x4_ x5_ σ) (fun (y5 : Int) =>
      bV (
      if zI y5 < zI 4 then
      (some 0)
      else (some (iShl 1 (y5 - 4)))) (fun (v6 : Int) =>
      nm (iOr x2_ v6) (fun (x8 : Int) =>
      nm (x5_ + 1) (fun (x9 : Int) =>
      f_X4_namesUsedBy_L24 n x1_ x3_ x4_ σ k x8 x9))))))
def f_X4_namesUsedBy_L4 (n : Nat) (x1_ : Int) (σ : Mem) : Nat → Int → Int → Option (Int)
  | 0, _, _ => none
  | k + 1, x2_, x3_ =>
      bV (f_X4_countOf 3 x1_ σ) (fun (y2 : Int) =>
      if zI y2 ≤ zI x3_ then
      (some x2_)
      else (    bV (f_X4_slotOf x1_ x3_ σ) (fun (y5 : Int) =>
      bV (f_X4_namesUsedBy_L24 n x1_ x3_ y5 σ n x2_ 0) (fun (x6 : Int) =>
      nm (x3_ + 1) (fun (x7 : Int) =>
      f_X4_namesUsedBy_L4 n x1_ σ k x6 x7)))))
def f_X4_namesUsedBy (n : Nat) (a0 : Int) (σ : Mem) : Option Int :=
      bV (f_X4_namesUsedBy_L4 n a0 σ n 0 0) (fun (x1 : Int) =>
      some x1)
def f_X4_findUsers_L22 (n : Nat) (x2_ : Int) (x3_ : Int) : Nat → Int → Mem → Option (Mem)
  | 0, _, _ => none
  | k + 1, x4_, σ =>
      if zI 6 ≤ zI x4_ then
      (some σ)
      else (if zI (((6 : Nat) : Int)) ≤ zI x4_ then
      (some σ)
      else (    gd (0 ≤ x4_ ∧ x4_ < ((6 : Nat) : Int)) (
      nm (st σ 29 x4_.toNat (iOr (σ 29 x4_.toNat) (iShl (iAnd (iShr x3_ x4_) 1) x2_))) (fun (σ4 : Mem) =>
      nm (x4_ + 1) (fun (x5 : Int) =>
      f_X4_findUsers_L22 n x2_ x3_ k x5 σ4)))))
def f_X4_findUsers_L7 (n : Nat) : Nat → Int → Mem → Option (Mem)
  | 0, _, _ => none
  | k + 1, x2_, σ =>
      if zI 6 ≤ zI x2_ then
      (some σ)
      else (    bV (f_X4_namesUsedBy n x2_ σ) (fun (y3 : Int) =>
      bV (f_X4_findUsers_L22 n x2_ y3 n 0 σ) (fun (σ4 : Mem) =>
      nm (x2_ + 1) (fun (x5 : Int) =>
      f_X4_findUsers_L7 n k x5 σ4))))
def f_X4_findUsers (n : Nat) (σ : Mem) : Option Mem :=
      nm (fil σ 29 6 0) (fun (σ1 : Mem) =>
      bV (f_X4_findUsers_L7 n n 0 σ1) (fun (σ2 : Mem) =>
      some σ2))
def f_X10_letterAt (w : Nat) (a0 : Int) (σ : Mem) : Option Int :=
      if zI a0 < zI 0 then
      (some ((-1)))
      else (if zI (σ w 1) ≤ zI a0 then
      (some ((-1)))
      else (if zI (((lenW w : Nat) : Int)) ≤ zI a0 then
      (some ((-1)))
      else (    gd (0 ≤ a0 ∧ a0 < ((lenW w : Nat) : Int)) (
      some (σ (w + 1) a0.toNat)))))
def f_X1_drop (σ : Mem) : Option Int :=
      gd (0 ≤ (0 : Int) ∧ (0 : Int) < ((3 : Nat) : Int)) (
      some (σ 12 (0 : Int).toNat))
def f_X1_change (σ : Mem) : Option Int :=
      gd (0 ≤ (2 : Int) ∧ (2 : Int) < ((3 : Nat) : Int)) (
      some (σ 12 (2 : Int).toNat))
def f_X1_put (σ : Mem) : Option Int :=
      gd (0 ≤ (1 : Int) ∧ (1 : Int) < ((3 : Nat) : Int)) (
      some (σ 12 (1 : Int).toNat))
def f_X3_ofOne (a0 : Int) (a1 : Int) : Option Int :=
      some (lOr (lOr (lShl (i2l a0) 43) 16777216) (i2l a1))
def f_X0_setFit (a0 : Int) (a1 : Int) (a2 : Int) (a3 : Int) (σ : Mem) : Option Mem :=
      nm (((a0 * 49) + (a1 * 7)) + a2) (fun (x1 : Int) =>
      if zI x1 < zI 0 then
      (some σ)
      else (if zI (((2940 : Nat) : Int)) ≤ zI x1 then
      (some σ)
      else (    gd (0 ≤ x1 ∧ x1 < ((2940 : Nat) : Int)) (
      nm (st σ 28 x1.toNat a3) (fun (σ5 : Mem) =>
      some σ5)))))
def f_X0_fillLettersOf_L45 (n : Nat) (x1_ : Int) (x2_ : Int) (x3_ : Int) (x4_ : Int) (x5_ : Int) : Nat → Int → Mem → Option (Mem)
  | 0, _, _ => none
  | k + 1, x6_, σ =>
      if zI 4 ≤ zI x6_ then
      (some σ)
      else (bV (
      if zI (iAnd (iShr x3_ x6_) 1) = zI 0 then
      (some x5_)
      else (some 0)) (fun (v2 : Int) =>
      nm (x4_ + v2) (fun (x4 : Int) =>
      bV (
      if zI x1_ = zI x2_ then
      (    bV (f_X1_put σ) (fun (y8 : Int) =>
      some y8))
      else (some x4)) (fun (v5 : Int) =>
      bV (f_X3_ofOne v5 x6_) (fun (y10 : Int) =>
      bV (f_X0_setFit x6_ x1_ x2_ y10 σ) (fun (σ12 : Mem) =>
      nm (x6_ + 1) (fun (x13 : Int) =>
      f_X0_fillLettersOf_L45 n x1_ x2_ x3_ x4_ x5_ k x13 σ12)))))))
def f_X0_fillLettersOf (n : Nat) (a0 : Int) (a1 : Int) (a2 : Int) (σ : Mem) : Option Mem :=
      bV (f_X1_drop σ) (fun (y2 : Int) =>
      nm (((a1 - a0) - 1) * y2) (fun (x3 : Int) =>
      bV (f_X1_change σ) (fun (y5 : Int) =>
      bV (f_X1_drop σ) (fun (y7 : Int) =>
      bV (f_X1_put σ) (fun (y9 : Int) =>
      nm (iMin y5 (y7 + y9)) (fun (x10 : Int) =>
      bV (f_X0_fillLettersOf_L45 n a0 a1 a2 x3 x10 n 0 σ) (fun (σ11 : Mem) =>
      some σ11)))))))
def f_X0_fillLetters_L17 (n : Nat) (x1_ : Int) : Nat → Int → Int → Mem → Option (Mem)
  | 0, _, _, _ => none
  | k + 1, x2_, x3_, σ =>
      gd (isW (σ 27 2).toNat) (
      if zI (σ ((σ 27 2).toNat) 1) < zI x3_ then
      (some σ)
      else (bV (
      if zI x3_ ≤ zI x1_ then
      (some x2_)
      else (    bV (f_X10_letterAt ((σ 27 2).toNat) (x3_ - 1) σ) (fun (y6 : Int) =>
      nm (iOr x2_ (iShl 1 y6)) (fun (x7 : Int) =>
      some x7)))) (fun (x3 : Int) =>
      bV (f_X0_fillLettersOf n x1_ x3_ x3 σ) (fun (σ9 : Mem) =>
      nm (x3_ + 1) (fun (x10 : Int) =>
      f_X0_fillLetters_L17 n x1_ k x3 x10 σ9)))))
def f_X0_fillLetters_L2 (n : Nat) : Nat → Int → Mem → Option (Mem)
  | 0, _, _ => none
  | k + 1, x1_, σ =>
      gd (isW (σ 27 2).toNat) (
      if zI (σ ((σ 27 2).toNat) 1) < zI x1_ then
      (some σ)
      else (bV (f_X0_fillLetters_L17 n x1_ n 0 x1_ σ) (fun (σ3 : Mem) =>
      nm (x1_ + 1) (fun (x4 : Int) =>
      f_X0_fillLetters_L2 n k x4 σ3))))
def f_X0_fillLetters (n : Nat) (σ : Mem) : Option Mem :=
      bV (f_X0_fillLetters_L2 n n 0 σ) (fun (σ1 : Mem) =>
      some σ1)
def f_X3_ofNone (a0 : Int) : Option Int :=
      some (lShl (i2l a0) 43)
def f_X3_lesser (a0 : Int) (a1 : Int) (a2 : Int) : Option Int :=
      if zI (lCmp a1 9223372036854775807) = zI 0 then
      (some a0)
      else (if zI (lCmp a2 9223372036854775807) = zI 0 then
      (some a0)
      else (    nm ((lAnd a1 ((-16777216))) + (lAnd a2 ((-16777216)))) (fun (x3 : Int) =>
      if zI (lCmp x3 a0) ≤ zI 0 then
      (bV (
      if zI 0 < zI (lCmp (lAnd (lShr x3 24) 524287) 12) then
      (some x3)
      else (    nm (2 * (lAnd (lShr a2 24) 524287)) (fun (x7 : Int) =>
      nm (lOr x3 (lOr (lShl (lAnd a1 16777215) (l2i x7)) (lAnd a2 16777215))) (fun (x8 : Int) =>
      some x8)))) (fun (x5 : Int) =>
      if zI 0 ≤ zI (lCmp x5 a0) then
      (some a0)
      else (some x5)))
      else (some a0))))
def f_X0_ruleFit_L113 (n : Nat) (x1_ : Int) (x2_ : Int) (x3_ : Int) (x4_ : Int) (x8_ : Int) (σ : Mem) : Nat → Int → Int → Int → Int → Option (Int)
  | 0, _, _, _, _ => none
  | k + 1, x6_, x9_, x10_, x11_ =>
      if zI x3_ < zI x11_ then
      (some x6_)
      else (    bV (f_X0_fitAt x9_ σ) (fun (y3 : Int) =>
      bV (f_X0_fitAt x10_ σ) (fun (y5 : Int) =>
      bV (f_X3_lesser x6_ y3 y5) (fun (y7 : Int) =>
      nm (x9_ + 1) (fun (x8 : Int) =>
      nm (x10_ + 7) (fun (x9 : Int) =>
      nm (x11_ + 1) (fun (x10 : Int) =>
      f_X0_ruleFit_L113 n x1_ x2_ x3_ x4_ x8_ σ k y7 x8 x9 x10)))))))
def f_X0_ruleFit_L62 (n : Nat) (x1_ : Int) (x2_ : Int) (x3_ : Int) (x4_ : Int) : Nat → Int → Int → Int → Mem → Option (Int × Mem)
  | 0, _, _, _, _ => none
  | k + 1, x5_, x6_, x8_, σ =>
      if zI x4_ ≤ zI x8_ then
      (some (x6_, σ))
      else (    nm (((x5_ * 49) + (x2_ * 7)) + x2_) (fun (x2 : Int) =>
      bV (f_X4_signAt x1_ x8_ σ) (fun (y4 : Int) =>
      nm (((y4 * 49) + (x2_ * 7)) + x3_) (fun (x5 : Int) =>
      bV (f_X0_ruleFit_L113 n x1_ x2_ x3_ x4_ x8_ σ n 9223372036854775807 x2 x5 x2_) (fun (x6 : Int) =>
      nm (((10 + (x1_ * 2)) + x8_) - 1) (fun (x7 : Int) =>
      bV (
      if zI x4_ ≤ zI (x8_ + 1) then
      (some σ)
      else (    bV (f_X0_setFit x7 x2_ x3_ x6 σ) (fun (σ11 : Mem) =>
      some σ11))) (fun (σ8 : Mem) =>
      nm (x8_ + 1) (fun (x12 : Int) =>
      f_X0_ruleFit_L62 n x1_ x2_ x3_ x4_ k x7 x6 x12 σ8))))))))
def f_X0_ruleFit (n : Nat) (a0 : Int) (a1 : Int) (a2 : Int) (σ : Mem) : Option (Int × Mem) :=
      bV (f_X4_lengthOf 3 a0 σ) (fun (y2 : Int) =>
      if zI y2 = zI 0 then
      (    bV (f_X1_drop σ) (fun (y11 : Int) =>
      bV (f_X3_ofNone ((a2 - a1) * y11)) (fun (y13 : Int) =>
      some (y13, σ))))
      else (    bV (f_X4_signAt a0 0 σ) (fun (y5 : Int) =>
      bV (f_X0_fitAt (((y5 * 49) + (a1 * 7)) + a2) σ) (fun (y7 : Int) =>
      bL1 (f_X0_ruleFit_L62 n a0 a1 a2 y2 n y5 y7 1 σ) (fun (x8 : Int) (σ9 : Mem) =>
      some (x8, σ9))))))
def f_X0_lessen_L28 (n : Nat) (x1_ : Int) (x2_ : Int) (x3_ : Int) (x4_ : Int) (x8_ : Int) : Nat → Int → Int → Mem → Option (Int × Mem)
  | 0, _, _, _ => none
  | k + 1, x6_, x9_, σ =>
      if zI x8_ ≤ zI x9_ then
      (some (x6_, σ))
      else (    bV (f_X4_slotOf x1_ x9_ σ) (fun (y3 : Int) =>
      bL1 (f_X0_ruleFit n y3 x2_ x3_ σ) (fun (y6 : Int) (σ5 : Mem) =>
      nm (lMin x6_ y6) (fun (x7 : Int) =>
      nm (x9_ + 1) (fun (x8 : Int) =>
      f_X0_lessen_L28 n x1_ x2_ x3_ x4_ x8_ k x7 x8 σ5)))))
def f_X0_lessen (n : Nat) (a0 : Int) (a1 : Int) (a2 : Int) (σ : Mem) : Option (Int × Mem) :=
      bV (f_X0_fitOf (4 + a0) a1 a2 σ) (fun (y2 : Int) =>
      bV (f_X4_countOf 3 a0 σ) (fun (y4 : Int) =>
      bL1 (f_X0_lessen_L28 n a0 a1 a2 y2 y4 n y2 0 σ) (fun (x5 : Int) (σ6 : Mem) =>
      bV (f_X0_setFit (4 + a0) a1 a2 x5 σ6) (fun (σ8 : Mem) =>
      if zI 0 ≤ zI (lCmp x5 y2) then
      (some (0, σ8))
      else (some (1, σ8))))))
def f_X0_settle_L2 (n : Nat) (x1_ : Int) (x2_ : Int) : Nat → Int → Mem → Option (Mem)
  | 0, _, _ => none
  | k + 1, x3_, σ =>
      if zI 6 ≤ zI x3_ then
      (some σ)
      else (    bV (f_X0_setFit (4 + x3_) x1_ x2_ 9223372036854775807 σ) (fun (σ3 : Mem) =>
      nm (x3_ + 1) (fun (x4 : Int) =>
      f_X0_settle_L2 n x1_ x2_ k x4 σ3)))
def f_X0_settle_L46 (n : Nat) (x1_ : Int) (x2_ : Int) (x4_ : Int) : Nat → Int → Int → Mem → Option (Int × Mem)
  | 0, _, _, _ => none
  | k + 1, x3_, x5_, σ =>
      if zI x5_ < zI 0 then
      (some (x3_, σ))
      else (bL1 (
      if zI (iAnd (iShr x3_ x5_) 1) = zI 0 then
      (some (x3_, σ))
      else (    nm (iAnd x3_ (iXor (iShl 1 x5_) ((-1)))) (fun (x5 : Int) =>
      bL1 (f_X0_lessen n x5_ x1_ x2_ σ) (fun (y8 : Int) (σ7 : Mem) =>
      bV (
      if zI y8 = zI 0 then
      (some 0)
      else (    gd (0 ≤ x5_ ∧ x5_ < ((6 : Nat) : Int)) (
      some (σ7 29 x5_.toNat)))) (fun (v9 : Int) =>
      nm (iOr x5 v9) (fun (x12 : Int) =>
      some (x12, σ7))))))) (fun (x2 : Int) (σ3 : Mem) =>
      nm (x5_ + (-1)) (fun (x13 : Int) =>
      f_X0_settle_L46 n x1_ x2_ x4_ k x2 x13 σ3)))
def f_X0_settle_L32 (n : Nat) (x1_ : Int) (x2_ : Int) : Nat → Int → Int → Mem → Option (Mem)
  | 0, _, _, _ => none
  | k + 1, x3_, x4_, σ =>
      if zI x3_ = zI 0 then
      (some σ)
      else (if zI 6 < zI x4_ then
      (some σ)
      else (bL1 (f_X0_settle_L46 n x1_ x2_ x4_ n x3_ 5 σ) (fun (x3 : Int) (σ4 : Mem) =>
      nm (x4_ + 1) (fun (x5 : Int) =>
      f_X0_settle_L32 n x1_ x2_ k x3 x5 σ4))))
def f_X0_settle (n : Nat) (a0 : Int) (a1 : Int) (σ : Mem) : Option Mem :=
      bV (f_X0_settle_L2 n a0 a1 n 0 σ) (fun (σ1 : Mem) =>
      bV (f_X0_settle_L32 n a0 a1 n 63 0 σ1) (fun (σ2 : Mem) =>
      some σ2))
def f_X0_fill_L35 (n : Nat) (w0 : Nat) (x2_ : Int) : Nat → Int → Mem → Option (Mem)
  | 0, _, _ => none
  | k + 1, x3_, σ =>
      gd (isW (σ 27 2).toNat) (
      if zI (σ ((σ 27 2).toNat) 1) < zI (x3_ + x2_) then
      (some σ)
      else (    bV (f_X0_settle n x3_ (x3_ + x2_) σ) (fun (σ4 : Mem) =>
      nm (x3_ + 1) (fun (x5 : Int) =>
      f_X0_fill_L35 n w0 x2_ k x5 σ4))))
def f_X0_fill_L22 (n : Nat) (w0 : Nat) : Nat → Int → Mem → Option (Mem)
  | 0, _, _ => none
  | k + 1, x2_, σ =>
      gd (isW (σ 27 2).toNat) (
      if zI (σ ((σ 27 2).toNat) 1) < zI x2_ then
      (some σ)
      else (bV (f_X0_fill_L35 n w0 x2_ n 0 σ) (fun (σ3 : Mem) =>
      nm (x2_ + 1) (fun (x4 : Int) =>
      f_X0_fill_L22 n w0 k x4 σ3))))
def f_X0_fill (n : Nat) (w0 : Nat) (σ : Mem) : Option Mem :=
      nm (st σ 27 2 (((w0 : Nat) : Int))) (fun (σ1 : Mem) =>
      bV (f_X4_findUsers n σ1) (fun (σ3 : Mem) =>
      bV (f_X0_fillLetters n σ3) (fun (σ5 : Mem) =>
      bV (f_X0_fill_L22 n w0 n 0 σ5) (fun (σ6 : Mem) =>
      some σ6))))
def f_X3_costOf (a0 : Int) : Option Int :=
      some (l2i (lShr a0 43))
def f_X0_fitsAsItIs (a0 : Int) (a1 : Int) (a2 : Int) (σ : Mem) : Option Int :=
      bV (f_X0_fitOf a0 a1 a2 σ) (fun (y2 : Int) =>
      if zI (lCmp y2 9223372036854775807) = zI 0 then
      (some 0)
      else (    bV (f_X3_costOf y2) (fun (y5 : Int) =>
      if zI y5 = zI 0 then
      (some 1)
      else (some 0))))
def f_X0_leastOf (a0 : Int) (σ : Mem) : Option Int :=
      bV (f_X0_fitOf (4 + a0) 0 0 σ) (fun (y2 : Int) =>
      some y2)
def f_X0_length (σ : Mem) : Option Int :=
      gd (isW (σ 27 2).toNat) (
      some (σ ((σ 27 2).toNat) 1))
def f_X0_letterStandsAt (a0 : Int) (a1 : Int) (σ : Mem) : Option Int :=
      gd (isW (σ 27 2).toNat) (
      bV (f_X10_letterAt ((σ 27 2).toNat) a1 σ) (fun (y3 : Int) =>
      if zI y3 = zI a0 then
      (some 1)
      else (some 0)))
def f_X10_add (w : Nat) (a0 : Int) (σ : Mem) : Option Mem :=
      if zI (σ w 1) < zI 0 then
      (some σ)
      else (if zI (((lenW w : Nat) : Int)) ≤ zI (σ w 1) then
      (some σ)
      else (    gd (0 ≤ (σ w 1) ∧ (σ w 1) < ((lenW w : Nat) : Int)) (
      nm (st σ (w + 1) (σ w 1).toNat a0) (fun (σ4 : Mem) =>
      nm (st σ4 w 1 ((σ4 w 1) + 1)) (fun (σ5 : Mem) =>
      some σ5)))))
def f_X10_clear (w : Nat) (σ : Mem) : Option Mem :=
      nm (st σ w 1 0) (fun (σ1 : Mem) =>
      some σ1)
def f_X10_copy_L6 (n : Nat) (w : Nat) (w0 : Nat) : Nat → Int → Mem → Option (Mem)
  | 0, _, _ => none
  | k + 1, x2_, σ =>
      if zI (σ w0 1) ≤ zI x2_ then
      (some σ)
      else (    bV (f_X10_letterAt w0 x2_ σ) (fun (y3 : Int) =>
      bV (f_X10_add w y3 σ) (fun (σ5 : Mem) =>
      nm (x2_ + 1) (fun (x6 : Int) =>
      f_X10_copy_L6 n w w0 k x6 σ5))))
def f_X10_copy (n : Nat) (w : Nat) (w0 : Nat) (σ : Mem) : Option Mem :=
      bV (f_X10_clear w σ) (fun (σ2 : Mem) =>
      bV (f_X10_copy_L6 n w w0 n 0 σ2) (fun (σ3 : Mem) =>
      some σ3))
def f_X11_chartOfWord (n : Nat) (σ : Mem) : Option (Nat × Mem) :=
      if zI (σ 0 12) = zI 0 then
      (    bV (f_X0_fill n 13 σ) (fun (σ3 : Mem) =>
      nm (st σ3 0 12 1) (fun (σ4 : Mem) =>
      some (27, σ4))))
      else (some (27, σ))
def f_X11_codeOf (a0 : Int) : Option Int :=
      if zI 4 ≤ zI a0 then
      (some ((10 + a0) - 4))
      else (some a0)
def f_X1_of (a0 : Int) (σ : Mem) : Option Int :=
      if zI a0 < zI 0 then
      (some 1)
      else (if zI 3 ≤ zI a0 then
      (some 1)
      else (    gd (0 ≤ a0 ∧ a0 < ((3 : Nat) : Int)) (
      some (σ 12 a0.toNat))))
def f_X1_set (a0 : Int) (a1 : Int) (σ : Mem) : Option Mem :=
      if zI a0 < zI 0 then
      (some σ)
      else (if zI 3 ≤ zI a0 then
      (some σ)
      else (    gd (0 ≤ a0 ∧ a0 < ((3 : Nat) : Int)) (
      nm (st σ 12 a0.toNat a1) (fun (σ4 : Mem) =>
      some σ4))))
def f_X9_forgetBest (σ : Mem) : Option Mem :=
      nm (st σ 38 3 ((-1))) (fun (σ1 : Mem) =>
      some σ1)
def f_X11_forgetAnswers (σ : Mem) : Option Mem :=
      nm (st σ 0 12 0) (fun (σ1 : Mem) =>
      bV (f_X9_forgetBest σ1) (fun (σ3 : Mem) =>
      some σ3))
def f_X11_cost (a0 : Int) (a1 : Int) (σ : Mem) : Option (Int × Mem) :=
      if zI a0 < zI 0 then
      (some ((-2), σ))
      else (if zI 3 ≤ zI a0 then
      (some ((-2), σ))
      else (if zI a1 < zI 1 then
      (some ((-2), σ))
      else (if zI a1 ≤ zI 9 then
      (    bV (f_X1_of a0 σ) (fun (y6 : Int) =>
      bV (f_X1_set a0 a1 σ) (fun (σ8 : Mem) =>
      bV (f_X11_forgetAnswers σ8) (fun (σ10 : Mem) =>
      some (y6, σ10)))))
      else (some ((-2), σ)))))
def f_X2_has (a0 : Int) (σ : Mem) : Option Int :=
      if zI a0 < zI 0 then
      (some 0)
      else (if zI (σ 25 2) ≤ zI a0 then
      (some 0)
      else (if zI 3 ≤ zI a0 then
      (some 0)
      else (some 1)))
def f_X2_at (a0 : Int) (σ : Mem) : Option Nat :=
      bV (f_X2_has a0 σ) (fun (y2 : Int) =>
      if zI y2 = zI 0 then
      (some 23)
      else (    gd (0 ≤ a0 ∧ a0 < ((3 : Nat) : Int)) (
      gd (isW (σ 26 a0.toNat).toNat) (
      some ((σ 26 a0.toNat).toNat)))))
def f_X2_add (n : Nat) (w0 : Nat) (σ : Mem) : Option (Int × Mem) :=
      if zI (σ 25 2) < zI 3 then
      (    nm (st σ 25 2 ((σ 25 2) + 1)) (fun (σ2 : Mem) =>
      bV (f_X2_at ((σ2 25 2) - 1) σ2) (fun (w4 : Nat) =>
      gd (isW w4) (
      bV (f_X10_copy n w4 w0 σ2) (fun (σ7 : Mem) =>
      some (1, σ7))))))
      else (some (0, σ))
def f_X11_example (n : Nat) (σ : Mem) : Option (Int × Mem) :=
      bL1 (f_X2_add n 13 σ) (fun (y3 : Int) (σ2 : Mem) =>
      if zI y3 = zI 0 then
      (some ((-4), σ2))
      else (    bV (f_X9_forgetBest σ2) (fun (σ6 : Mem) =>
      some ((σ6 25 2) - 1, σ6))))
def f_X4_clear (σ : Mem) : Option Mem :=
      nm (fil σ 8 6 0) (fun (σ1 : Mem) =>
      nm (st σ1 7 3 0) (fun (σ2 : Mem) =>
      nm (st σ2 7 4 0) (fun (σ3 : Mem) =>
      nm (st σ3 7 5 0) (fun (σ4 : Mem) =>
      some σ4))))
def f_X5_signAt (a0 : Int) (σ : Mem) : Option Int :=
      if zI a0 < zI 0 then
      (some 0)
      else (if zI (σ 1 1) ≤ zI a0 then
      (some 0)
      else (if zI 60 ≤ zI a0 then
      (some 0)
      else (    gd (0 ≤ a0 ∧ a0 < ((60 : Nat) : Int)) (
      some (σ 2 a0.toNat)))))
def f_X4_tellName (a0 : Int) (σ : Mem) : Option (Int × Mem) :=
      bV (f_X11_isName a0) (fun (y2 : Int) =>
      if zI y2 = zI 0 then
      (some (0, σ))
      else (if zI (iAnd (iShr (σ 7 3) a0) 1) = zI 0 then
      (bV (
      if zI (σ 7 3) = zI 0 then
      (    nm (st σ 7 4 a0) (fun (σ7 : Mem) =>
      some σ7))
      else (some σ)) (fun (σ5 : Mem) =>
      nm (st σ5 7 3 (iOr (σ5 7 3) (iShl 1 a0))) (fun (σ8 : Mem) =>
      nm (st σ8 7 5 a0) (fun (σ9 : Mem) =>
      some (1, σ9)))))
      else (some (0, σ))))
def f_X4_hasRoomForRule (σ : Mem) : Option Int :=
      bV (f_X4_countOf 7 (σ 7 5) σ) (fun (y2 : Int) =>
      if zI 4 ≤ zI y2 then
      (some 0)
      else (some 1))
def f_X4_isSlot (a0 : Int) : Option Int :=
      if zI a0 < zI 0 then
      (some 0)
      else (if zI 25 ≤ zI a0 then
      (some 0)
      else (some 1))
def f_X4_emptySlot (g : Nat) (a0 : Int) (σ : Mem) : Option Mem :=
      bV (f_X4_isSlot a0) (fun (y2 : Int) =>
      if zI y2 = zI 0 then
      (some σ)
      else (    gd (0 ≤ a0 ∧ a0 < ((25 : Nat) : Int)) (
      nm (st σ (g + 2) a0.toNat 0) (fun (σ5 : Mem) =>
      some σ5))))
def f_X4_beginRule (σ : Mem) : Option Mem :=
      bV (f_X11_isName (σ 7 5)) (fun (y2 : Int) =>
      if zI y2 = zI 0 then
      (some σ)
      else (    bV (f_X4_hasRoomForRule σ) (fun (y5 : Int) =>
      if zI y5 = zI 0 then
      (some σ)
      else (    gd (0 ≤ (σ 7 5) ∧ (σ 7 5) < ((6 : Nat) : Int)) (
      bV (f_X4_emptySlot 7 (((σ 7 5) * 4) + (σ 8 (σ 7 5).toNat)) σ) (fun (σ9 : Mem) =>
      gd (0 ≤ (σ9 7 5) ∧ (σ9 7 5) < ((6 : Nat) : Int)) (
      nm (st σ9 8 (σ9 7 5).toNat ((σ9 8 (σ9 7 5).toNat) + 1)) (fun (σ11 : Mem) =>
      some σ11))))))))
def f_X8_isSign (a0 : Int) : Option Int :=
      bV (
      if zI a0 < zI 97 then
      (some 0)
      else (if zI a0 < zI 101 then
      (some 1)
      else (some 0))) (fun (t1 : Nat) =>
      if t1 = 0 then
      (if zI a0 < zI 65 then
      (some 0)
      else (if zI 71 ≤ zI a0 then
      (some 0)
      else (some 1)))
      else (some 1))
def f_X4_addTo (g : Nat) (a0 : Int) (a1 : Int) (σ : Mem) : Option (Int × Mem) :=
      bV (f_X4_lengthOf g a0 σ) (fun (y2 : Int) =>
      bV (f_X4_isSlot a0) (fun (y4 : Int) =>
      if zI y4 = zI 0 then
      (some (0, σ))
      else (if zI y2 < zI 0 then
      (some (0, σ))
      else (if zI y2 < zI 4 then
      (    gd (0 ≤ ((a0 * 4) + y2) ∧ ((a0 * 4) + y2) < ((100 : Nat) : Int)) (
      nm (st σ (g + 3) ((a0 * 4) + y2).toNat a1) (fun (σ9 : Mem) =>
      gd (0 ≤ a0 ∧ a0 < ((25 : Nat) : Int)) (
      nm (st σ9 (g + 2) a0.toNat (y2 + 1)) (fun (σ11 : Mem) =>
      some (1, σ11))))))
      else (some (0, σ))))))
def f_X4_addSign (a0 : Int) (σ : Mem) : Option (Int × Mem) :=
      bV (f_X4_countOf 7 (σ 7 5) σ) (fun (y2 : Int) =>
      bL1 (f_X4_addTo 7 ((((σ 7 5) * 4) + y2) - 1) a0 σ) (fun (y5 : Int) (σ4 : Mem) =>
      gd (y5 = 0 ∨ y5 = 1) (some (y5, σ4))))
def f_X8_addSign (a0 : Int) (σ : Mem) : Option (Int × Mem) :=
      bV (
      if zI a0 < zI 97 then
      (some ((4 + a0) - 65))
      else (some (a0 - 97))) (fun (v1 : Int) =>
      bL1 (f_X4_addSign v1 σ) (fun (y5 : Int) (σ4 : Mem) =>
      if zI y5 = zI 0 then
      (some (5, σ4))
      else (some (3, σ4))))
def f_X8_openRule (a0 : Int) (σ : Mem) : Option (Int × Mem) :=
      if zI a0 = zI 95 then
      (    bV (f_X4_beginRule σ) (fun (σ11 : Mem) =>
      some (4, σ11)))
      else (    bV (f_X8_isSign a0) (fun (y3 : Int) =>
      if zI y3 = zI 0 then
      (some (5, σ))
      else (    bV (f_X4_beginRule σ) (fun (σ6 : Mem) =>
      bL1 (f_X8_addSign a0 σ6) (fun (y9 : Int) (σ8 : Mem) =>
      some (y9, σ8))))))
def f_X4_hasRoomForName (σ : Mem) : Option Int :=
      if zI (σ 7 3) = zI 63 then
      (some 0)
      else (some 1)
def f_X8_closeRule (a0 : Int) (σ : Mem) : Option Int :=
      bV (
      if zI a0 = zI 124 then
      (    bV (f_X4_hasRoomForRule σ) (fun (y4 : Int) =>
      if zI y4 = zI 0 then
      (some 0)
      else (some 1)))
      else (some 0)) (fun (t1 : Nat) =>
      if t1 = 0 then
      (if zI a0 = zI 59 then
      (    bV (f_X4_hasRoomForName σ) (fun (y8 : Int) =>
      if zI y8 = zI 0 then
      (some 5)
      else (some 0)))
      else (some 5))
      else (some 2))
def f_X8_next (a0 : Int) (a1 : Int) (σ : Mem) : Option (Int × Mem) :=
      if zI a0 = zI 0 then
      (    bL1 (f_X4_tellName (a1 - 65) σ) (fun (y3 : Int) (σ2 : Mem) =>
      if zI y3 = zI 0 then
      (some (5, σ2))
      else (some (1, σ2))))
      else (if zI a0 = zI 1 then
      (if zI a1 = zI 61 then
      (some (2, σ))
      else (some (5, σ)))
      else (if zI a0 = zI 2 then
      (    bL1 (f_X8_openRule a1 σ) (fun (y10 : Int) (σ9 : Mem) =>
      some (y10, σ9)))
      else (if zI a0 = zI 3 then
      (    bV (f_X8_isSign a1) (fun (y13 : Int) =>
      if zI y13 = zI 0 then
      (    bV (f_X8_closeRule a1 σ) (fun (y16 : Int) =>
      some (y16, σ)))
      else (    bL1 (f_X8_addSign a1 σ) (fun (y19 : Int) (σ18 : Mem) =>
      some (y19, σ18)))))
      else (    bV (f_X8_closeRule a1 σ) (fun (y22 : Int) =>
      some (y22, σ))))))
def f_X8_read_L8 (n : Nat) : Nat → Int → Int → Mem → Option (Nat × Int × Int × Mem)
  | 0, _, _, _ => none
  | k + 1, x2_, x3_, σ =>
      if zI (σ 1 1) ≤ zI x3_ then
      (some (1, x2_, 0, σ))
      else (    bV (f_X5_signAt x3_ σ) (fun (y3 : Int) =>
      bL1 (f_X8_next x2_ y3 σ) (fun (y6 : Int) (σ5 : Mem) =>
      if zI y6 = zI 5 then
      (some (0, 0, x3_, σ5))
      else (    nm (x3_ + 1) (fun (x8 : Int) =>
      f_X8_read_L8 n k y6 x8 σ5)))))
def f_X8_read (n : Nat) (σ : Mem) : Option (Int × Mem) :=
      bV (f_X4_clear σ) (fun (σ2 : Mem) =>
      bL3 (f_X8_read_L8 n n 0 0 σ2) (fun (t3 : Nat) (x4 : Int) (x5 : Int) (σ6 : Mem) =>
      if t3 = 0 then
      (some (x5, σ6))
      else (if zI x4 = zI 3 then
      (some ((-6), σ6))
      else (if zI x4 = zI 4 then
      (some ((-6), σ6))
      else (some (σ6 1 1, σ6))))))
def f_X11_fault (n : Nat) (σ : Mem) : Option (Int × Mem) :=
      bL1 (f_X8_read n σ) (fun (y3 : Int) (σ2 : Mem) =>
      some (y3, σ2))
def f_X6_farOfSign (a0 : Int) (a1 : Int) (σ : Mem) : Option Int :=
      if zI 4 ≤ zI a0 then
      (    nm (((a0 - 4) * 7) + a1) (fun (x2 : Int) =>
      if zI x2 < zI 0 then
      (some ((-1)))
      else (if zI (((42 : Nat) : Int)) ≤ zI x2 then
      (some ((-1)))
      else (    gd (0 ≤ x2 ∧ x2 < ((42 : Nat) : Int)) (
      some (σ 31 x2.toNat))))))
      else (    bV (f_X0_letterStandsAt a0 a1 σ) (fun (y7 : Int) =>
      if zI y7 = zI 0 then
      (some a1)
      else (some (a1 + 1))))
def f_X6_farFrom_L5 (n : Nat) (x1_ : Int) (x2_ : Int) (σ : Mem) : Nat → Int → Int → Option (Int)
  | 0, _, _ => none
  | k + 1, x3_, x4_ =>
      bV (f_X0_length σ) (fun (y2 : Int) =>
      if zI y2 < zI x4_ then
      (some x3_)
      else (bV (
      if zI (iAnd (iShr x1_ x4_) 1) = zI 0 then
      (some x3_)
      else (    bV (f_X6_farOfSign x2_ x4_ σ) (fun (y7 : Int) =>
      nm (iMax x3_ y7) (fun (x8 : Int) =>
      some x8)))) (fun (x4 : Int) =>
      nm (x4_ + 1) (fun (x9 : Int) =>
      f_X6_farFrom_L5 n x1_ x2_ σ k x4 x9))))
def f_X6_farFrom (n : Nat) (a0 : Int) (a1 : Int) (σ : Mem) : Option Int :=
      nm ((-1)) (fun (x1 : Int) =>
      bV (f_X6_farFrom_L5 n a0 a1 σ n x1 0) (fun (x2 : Int) =>
      some x2))
def f_X6_endsBehind_L21 (n : Nat) (x1_ : Int) (x2_ : Int) (x4_ : Int) (σ : Mem) : Nat → Int → Int → Option (Int)
  | 0, _, _ => none
  | k + 1, x3_, x5_ =>
      if zI (iAnd (iShr x1_ x4_) 1) = zI 0 then
      (some x3_)
      else (    bV (f_X0_length σ) (fun (y3 : Int) =>
      if zI y3 < zI x5_ then
      (some x3_)
      else (    bV (f_X0_fitsAsItIs x2_ x4_ x5_ σ) (fun (y6 : Int) =>
      bV (
      if zI y6 = zI 0 then
      (some x3_)
      else (    nm (iOr x3_ (iShl 1 x5_)) (fun (x9 : Int) =>
      some x9))) (fun (x7 : Int) =>
      nm (x5_ + 1) (fun (x10 : Int) =>
      f_X6_endsBehind_L21 n x1_ x2_ x4_ σ k x7 x10))))))
def f_X6_endsBehind_L5 (n : Nat) (x1_ : Int) (x2_ : Int) (σ : Mem) : Nat → Int → Int → Option (Int)
  | 0, _, _ => none
  | k + 1, x3_, x4_ =>
      bV (f_X0_length σ) (fun (y2 : Int) =>
      if zI y2 < zI x4_ then
      (some x3_)
      else (bV (f_X6_endsBehind_L21 n x1_ x2_ x4_ σ n x3_ x4_) (fun (x4 : Int) =>
      nm (x4_ + 1) (fun (x5 : Int) =>
      f_X6_endsBehind_L5 n x1_ x2_ σ k x4 x5))))
def f_X6_endsBehind (n : Nat) (a0 : Int) (a1 : Int) (σ : Mem) : Option Int :=
      bV (f_X6_endsBehind_L5 n a0 a1 σ n 0 0) (fun (x1 : Int) =>
      some x1)
def f_X6_farOfRule_L23 (n : Nat) (x1_ : Int) (σ : Mem) : Nat → Int → Int → Int → Option (Int)
  | 0, _, _, _ => none
  | k + 1, x3_, x4_, x5_ =>
      bV (f_X4_lengthOf 3 x1_ σ) (fun (y2 : Int) =>
      if zI y2 ≤ zI x5_ then
      (some x3_)
      else (    bV (f_X4_signAt x1_ x5_ σ) (fun (y5 : Int) =>
      bV (f_X6_farFrom n x4_ y5 σ) (fun (y7 : Int) =>
      nm (iMax x3_ y7) (fun (x8 : Int) =>
      bV (f_X6_endsBehind n x4_ y5 σ) (fun (y10 : Int) =>
      nm (x5_ + 1) (fun (x11 : Int) =>
      f_X6_farOfRule_L23 n x1_ σ k x8 y10 x11)))))))
def f_X6_farOfRule (n : Nat) (a0 : Int) (a1 : Int) (σ : Mem) : Option Int :=
      bV (f_X0_comesToWords n a0 σ) (fun (y2 : Int) =>
      if zI y2 = zI 0 then
      (some ((-1)))
      else (    nm (iShl 1 a1) (fun (x4 : Int) =>
      bV (f_X6_farOfRule_L23 n a0 σ n a1 x4 0) (fun (x5 : Int) =>
      some x5))))
def f_X6_sweep_L19 (n : Nat) (x1_ : Int) (x3_ : Int) (x4_ : Int) : Nat → Int → Int → Mem → Option (Int × Mem)
  | 0, _, _, _ => none
  | k + 1, x2_, x5_, σ =>
      bV (f_X4_countOf 3 x3_ σ) (fun (y2 : Int) =>
      if zI y2 ≤ zI x5_ then
      (some (x2_, σ))
      else (    bV (f_X4_slotOf x3_ x5_ σ) (fun (y5 : Int) =>
      bV (f_X6_farOfRule n y5 x1_ σ) (fun (y7 : Int) =>
      bL1 (
      if zI x4_ < zI 0 then
      (some (x2_, σ))
      else (if zI (((42 : Nat) : Int)) ≤ zI x4_ then
      (some (x2_, σ))
      else (    gd (0 ≤ x4_ ∧ x4_ < ((42 : Nat) : Int)) (
      if zI y7 ≤ zI (σ 31 x4_.toNat) then
      (some (x2_, σ))
      else (    nm (st σ 31 x4_.toNat y7) (fun (σ14 : Mem) =>
      some (1, σ14))))))) (fun (x8 : Int) (σ9 : Mem) =>
      nm (x5_ + 1) (fun (x15 : Int) =>
      f_X6_sweep_L19 n x1_ x3_ x4_ k x8 x15 σ9))))))
def f_X6_sweep_L4 (n : Nat) (x1_ : Int) : Nat → Int → Int → Mem → Option (Int × Mem)
  | 0, _, _, _ => none
  | k + 1, x2_, x3_, σ =>
      if zI x3_ < zI 0 then
      (some (x2_, σ))
      else (    nm ((x3_ * 7) + x1_) (fun (x2 : Int) =>
      bL1 (f_X6_sweep_L19 n x1_ x3_ x2 n x2_ 0 σ) (fun (x3 : Int) (σ4 : Mem) =>
      nm (x3_ + (-1)) (fun (x5 : Int) =>
      f_X6_sweep_L4 n x1_ k x3 x5 σ4))))
def f_X6_sweep (n : Nat) (a0 : Int) (σ : Mem) : Option (Int × Mem) :=
      bL1 (f_X6_sweep_L4 n a0 n 0 5 σ) (fun (x1 : Int) (σ2 : Mem) =>
      gd (x1 = 0 ∨ x1 = 1) (some (x1, σ2)))
def f_X6_farthest_L25 (n : Nat) (x1_ : Int) (x2_ : Int) : Nat → Int → Int → Mem → Option (Mem)
  | 0, _, _, _ => none
  | k + 1, x3_, x4_, σ =>
      if zI x3_ = zI 0 then
      (some σ)
      else (if zI 6 ≤ zI x4_ then
      (some σ)
      else (    bL1 (f_X6_sweep n x2_ σ) (fun (y5 : Int) (σ4 : Mem) =>
      nm (x4_ + 1) (fun (x6 : Int) =>
      f_X6_farthest_L25 n x1_ x2_ k y5 x6 σ4))))
def f_X6_farthest_L16 (n : Nat) (x1_ : Int) : Nat → Int → Mem → Option (Mem)
  | 0, _, _ => none
  | k + 1, x2_, σ =>
      if zI x2_ < zI 0 then
      (some σ)
      else (bV (f_X6_farthest_L25 n x1_ x2_ n 1 0 σ) (fun (σ2 : Mem) =>
      nm (x2_ + (-1)) (fun (x3 : Int) =>
      f_X6_farthest_L16 n x1_ k x3 σ2)))
def f_X6_farthest (n : Nat) (a0 : Int) (σ : Mem) : Option (Int × Mem) :=
      nm (fil σ 31 42 ((-1))) (fun (σ1 : Mem) =>
      bV (f_X0_length σ1) (fun (y3 : Int) =>
      bV (f_X6_farthest_L16 n a0 n y3 σ1) (fun (σ4 : Mem) =>
      bV (f_X6_farOfSign (4 + a0) 0 σ4) (fun (y6 : Int) =>
      some (y6, σ4)))))
def f_X11_first (n : Nat) (a0 : Int) (σ : Mem) : Option (Int × Mem) :=
      bV (f_X11_isName a0) (fun (y2 : Int) =>
      if zI y2 = zI 0 then
      (some ((-1), σ))
      else (    bL1 (f_X11_chartOfWord n σ) (fun (w6 : Nat) (σ5 : Mem) =>
      gd (w6 = 27) (
      bL1 (f_X6_farthest n a0 σ5) (fun (y10 : Int) (σ9 : Mem) =>
      if zI y10 = zI (σ9 13 1) then
      (some ((-6), σ9))
      else (some (y10 + 1, σ9)))))))
def f_X11_forget (σ : Mem) : Option (Int × Mem) :=
      nm (σ 25 2) (fun (x1 : Int) =>
      nm (st σ 25 2 0) (fun (σ2 : Mem) =>
      bV (f_X9_forgetBest σ2) (fun (σ4 : Mem) =>
      some (x1, σ4))))
def f_X4_copy (σ : Mem) : Option Mem :=
      nm (cpy σ 8 4 (6 : Int).toNat) (fun (σ1 : Mem) =>
      nm (cpy σ1 9 5 (25 : Int).toNat) (fun (σ2 : Mem) =>
      nm (cpy σ2 10 6 (100 : Int).toNat) (fun (σ3 : Mem) =>
      nm (st σ3 3 3 (σ3 7 3)) (fun (σ4 : Mem) =>
      nm (st σ4 3 4 (σ4 7 4)) (fun (σ5 : Mem) =>
      some σ5)))))
def f_X11_grammar (n : Nat) (σ : Mem) : Option (Int × Mem) :=
      bL1 (f_X8_read n σ) (fun (y3 : Int) (σ2 : Mem) =>
      if zI y3 = zI ((-6)) then
      (    bV (f_X4_copy σ2) (fun (σ6 : Mem) =>
      nm (st σ6 1 1 0) (fun (σ7 : Mem) =>
      bV (f_X11_forgetAnswers σ7) (fun (σ9 : Mem) =>
      bV (f_J6_bitCount_0f7a4 (σ9 3 3)) (fun (y11 : Int) =>
      some (y11, σ9))))))
      else (some ((-5), σ2)))
def f_X11_is (n : Nat) (a0 : Int) (σ : Mem) : Option (Int × Mem) :=
      bV (f_X11_isName a0) (fun (y2 : Int) =>
      if zI y2 = zI 0 then
      (some ((-1), σ))
      else (    bL1 (f_X11_chartOfWord n σ) (fun (w6 : Nat) (σ5 : Mem) =>
      gd (w6 = 27) (
      bV (f_X0_fitsAsItIs (4 + a0) 0 (σ5 13 1) σ5) (fun (y9 : Int) =>
      if zI y9 = zI 0 then
      (some (0, σ5))
      else (some (1, σ5)))))))
def f_X11_textFit (n : Nat) (σ : Mem) : Option (Int × Mem) :=
      bL1 (f_X11_chartOfWord n σ) (fun (w3 : Nat) (σ2 : Mem) =>
      gd (w3 = 27) (
      bV (f_X0_fitOf (4 + (σ2 3 4)) 0 (σ2 13 1) σ2) (fun (y6 : Int) =>
      some (y6, σ2))))
def f_X3_lengthOf (a0 : Int) : Option Int :=
      some (l2i (lAnd (lShr a0 24) 524287))
def f_X11_refusalOf (a0 : Int) : Option Int :=
      if zI (lCmp a0 9223372036854775807) = zI 0 then
      (some ((-5)))
      else (    bV (f_X3_lengthOf a0) (fun (y3 : Int) =>
      if zI y3 ≤ zI 12 then
      (some 0)
      else (some ((-3)))))
def f_X3_letterAt (a0 : Int) (a1 : Int) : Option Int :=
      bV (f_X3_lengthOf a0) (fun (y2 : Int) =>
      some (iAnd (l2i (lShr a0 (2 * ((y2 - 1) - a1)))) 3))
def f_X11_readText_L9 (n : Nat) (x1_ : Int) : Nat → Int → Mem → Option (Mem)
  | 0, _, _ => none
  | k + 1, x3_, σ =>
      if zI 12 ≤ zI x3_ then
      (some σ)
      else (    bV (f_X3_lengthOf x1_) (fun (y3 : Int) =>
      if zI y3 ≤ zI x3_ then
      (some σ)
      else (    bV (f_X3_letterAt x1_ x3_) (fun (y6 : Int) =>
      bV (f_X10_add 15 y6 σ) (fun (σ8 : Mem) =>
      nm (x3_ + 1) (fun (x9 : Int) =>
      f_X11_readText_L9 n x1_ k x9 σ8))))))
def f_X11_readText (n : Nat) (a0 : Int) (σ : Mem) : Option Mem :=
      bV (f_X10_clear 15 σ) (fun (σ2 : Mem) =>
      bV (f_X11_readText_L9 n a0 n 0 σ2) (fun (σ3 : Mem) =>
      some σ3))
def f_X7_clear (rr : Nat) (a0 : Int) (σ : Mem) : Option Mem :=
      if zI a0 < zI 0 then
      (some σ)
      else (if zI (((91 : Nat) : Int)) ≤ zI a0 then
      (some σ)
      else (if zI (((91 : Nat) : Int)) ≤ zI a0 then
      (some σ)
      else (bV (
      if zI a0 = zI 0 then
      (some 0)
      else (some 1073741824)) (fun (v4 : Int) =>
      gd (0 ≤ a0 ∧ a0 < ((91 : Nat) : Int)) (
      nm (st σ (rr + 1) a0.toNat v4) (fun (σ7 : Mem) =>
      if zI a0 = zI 0 then
      (    nm (st σ7 (rr + 2) a0.toNat 1) (fun (σ10 : Mem) =>
      some σ10))
      else (    nm (st σ7 (rr + 2) a0.toNat 0) (fun (σ9 : Mem) =>
      some σ9))))))))
def f_X7_offer (rr : Nat) (a0 : Int) (a1 : Int) (a2 : Int) (σ : Mem) : Option Mem :=
      if zI a1 < zI 0 then
      (some σ)
      else (if zI a0 ≤ zI a1 then
      (some σ)
      else (if zI (((91 : Nat) : Int)) ≤ zI a0 then
      (some σ)
      else (if zI a0 < zI (((91 : Nat) : Int)) then
      (    gd (0 ≤ a1 ∧ a1 < ((91 : Nat) : Int)) (
      nm ((σ (rr + 1) a1.toNat) + a2) (fun (x6 : Int) =>
      gd (0 ≤ a0 ∧ a0 < ((91 : Nat) : Int)) (
      bV (
      if zI (σ (rr + 1) a0.toNat) ≤ zI x6 then
      (some σ)
      else (    nm (st σ (rr + 1) a0.toNat x6) (fun (σ10 : Mem) =>
      nm (st σ10 (rr + 2) a0.toNat 0) (fun (σ11 : Mem) =>
      some σ11)))) (fun (σ8 : Mem) =>
      if zI x6 = zI (σ8 (rr + 1) a0.toNat) then
      (    nm (st σ8 (rr + 2) a0.toNat ((σ8 (rr + 2) a0.toNat) + (σ8 (rr + 2) a1.toNat))) (fun (σ13 : Mem) =>
      some σ13))
      else (some σ8))))))
      else (some σ))))
def f_X7_letter (w0 : Nat) (a1 : Int) (a2 : Int) (σ : Mem) : Option Int :=
      bV (
      if zI a2 = zI 0 then
      (some (a1 - 1))
      else (some ((σ w0 1) - a1))) (fun (v1 : Int) =>
      bV (f_X10_letterAt w0 v1 σ) (fun (y4 : Int) =>
      some y4))
def f_X7_fill_L15 (n : Nat) (rr : Nat) (w0 : Nat) (w1 : Nat) (x3_ : Int) (x4_ : Int) : Nat → Int → Mem → Option (Mem)
  | 0, _, _ => none
  | k + 1, x5_, σ =>
      if zI (σ w1 1) < zI x5_ then
      (some σ)
      else (    nm ((x4_ * 13) + x5_) (fun (x2 : Int) =>
      bV (f_X7_clear rr x2 σ) (fun (σ4 : Mem) =>
      bV (
      if zI x4_ ≤ zI 0 then
      (some σ4)
      else (    bV (f_X1_drop σ4) (fun (y8 : Int) =>
      bV (f_X7_offer rr x2 (x2 - 13) y8 σ4) (fun (σ10 : Mem) =>
      some σ10)))) (fun (σ5 : Mem) =>
      bV (
      if zI x5_ ≤ zI 0 then
      (some σ5)
      else (    bV (f_X1_put σ5) (fun (y14 : Int) =>
      bV (f_X7_offer rr x2 (x2 - 1) y14 σ5) (fun (σ16 : Mem) =>
      some σ16)))) (fun (σ11 : Mem) =>
      bV (
      if zI x4_ ≤ zI 0 then
      (some σ11)
      else (if zI x5_ ≤ zI 0 then
      (some σ11)
      else (    bV (f_X7_letter w0 x4_ x3_ σ11) (fun (y21 : Int) =>
      bV (f_X7_letter w1 x5_ x3_ σ11) (fun (y23 : Int) =>
      bV (
      if zI y21 = zI y23 then
      (some 1)
      else (some 0)) (fun (v24 : Int) =>
      bV (
      if zI v24 = zI 0 then
      (    bV (f_X1_change σ11) (fun (y29 : Int) =>
      some y29))
      else (some 0)) (fun (v26 : Int) =>
      bV (f_X7_offer rr x2 ((x2 - 13) - 1) v26 σ11) (fun (σ31 : Mem) =>
      some σ31)))))))) (fun (σ17 : Mem) =>
      nm (x5_ + 1) (fun (x32 : Int) =>
      f_X7_fill_L15 n rr w0 w1 x3_ x4_ k x32 σ17)))))))
def f_X7_fill_L3 (n : Nat) (rr : Nat) (w0 : Nat) (w1 : Nat) (x3_ : Int) : Nat → Int → Mem → Option (Mem)
  | 0, _, _ => none
  | k + 1, x4_, σ =>
      if zI (σ w0 1) < zI x4_ then
      (some σ)
      else (bV (f_X7_fill_L15 n rr w0 w1 x3_ x4_ n 0 σ) (fun (σ2 : Mem) =>
      nm (x4_ + 1) (fun (x3 : Int) =>
      f_X7_fill_L3 n rr w0 w1 x3_ k x3 σ2)))
def f_X7_fill (n : Nat) (rr : Nat) (w0 : Nat) (w1 : Nat) (a2 : Int) (σ : Mem) : Option Mem :=
      bV (f_X7_fill_L3 n rr w0 w1 a2 n 0 σ) (fun (σ1 : Mem) =>
      some σ1)
def f_X7_leastAt (rr : Nat) (a0 : Int) (a1 : Int) (σ : Mem) : Option Int :=
      nm ((a0 * 13) + a1) (fun (x1 : Int) =>
      if zI x1 < zI 0 then
      (some 1073741824)
      else (if zI (((91 : Nat) : Int)) ≤ zI x1 then
      (some 1073741824)
      else (    gd (0 ≤ x1 ∧ x1 < ((91 : Nat) : Int)) (
      some (σ (rr + 1) x1.toNat)))))
def f_X7_countAt (rr : Nat) (a0 : Int) (a1 : Int) (σ : Mem) : Option Int :=
      nm ((a0 * 13) + a1) (fun (x1 : Int) =>
      if zI x1 < zI 0 then
      (some 0)
      else (if zI (((91 : Nat) : Int)) ≤ zI x1 then
      (some 0)
      else (    gd (0 ≤ x1 ∧ x1 < ((91 : Nat) : Int)) (
      some (σ (rr + 2) x1.toNat)))))
def f_X11_waysThatKeep_L40 (n : Nat) (x1_ : Int) (x2_ : Int) (x3_ : Int) (σ : Mem) : Nat → Int → Int → Option (Int)
  | 0, _, _ => none
  | k + 1, x4_, x5_ =>
      if zI (σ 15 1) ≤ zI x5_ then
      (some x4_)
      else (    nm (((σ 15 1) - x5_) - 1) (fun (x2 : Int) =>
      bV (f_X10_letterAt 13 x1_ σ) (fun (y4 : Int) =>
      bV (f_X10_letterAt 15 x5_ σ) (fun (y6 : Int) =>
      bV (
      if zI y4 = zI y6 then
      (    bV (f_X7_leastAt 32 x1_ x5_ σ) (fun (y10 : Int) =>
      bV (f_X7_leastAt 35 x2_ x2 σ) (fun (y12 : Int) =>
      if zI (y10 + y12) = zI x3_ then
      (    bV (f_X7_countAt 32 x1_ x5_ σ) (fun (y15 : Int) =>
      bV (f_X7_countAt 35 x2_ x2 σ) (fun (y17 : Int) =>
      nm (x4_ + (y15 * y17)) (fun (x18 : Int) =>
      some x18))))
      else (some x4_))))
      else (some x4_)) (fun (x7 : Int) =>
      nm (x5_ + 1) (fun (x19 : Int) =>
      f_X11_waysThatKeep_L40 n x1_ x2_ x3_ σ k x7 x19))))))
def f_X11_waysThatKeep (n : Nat) (a0 : Int) (σ : Mem) : Option Int :=
      nm (((σ 13 1) - a0) - 1) (fun (x1 : Int) =>
      bV (f_X7_leastAt 32 (σ 13 1) (σ 15 1) σ) (fun (y3 : Int) =>
      bV (f_X11_waysThatKeep_L40 n a0 x1 y3 σ n 0 0) (fun (x4 : Int) =>
      some x4)))
def f_X11_kept (n : Nat) (a0 : Int) (σ : Mem) : Option (Int × Mem) :=
      if zI a0 < zI 0 then
      (some ((-2), σ))
      else (if zI a0 < zI (σ 13 1) then
      (    bL1 (f_X11_textFit n σ) (fun (y5 : Int) (σ4 : Mem) =>
      bV (f_X11_refusalOf y5) (fun (y7 : Int) =>
      if zI y7 = zI 0 then
      (    bV (f_X11_readText n y5 σ4) (fun (σ10 : Mem) =>
      bV (f_X7_fill n 32 13 15 0 σ10) (fun (σ12 : Mem) =>
      bV (f_X7_fill n 35 13 15 1 σ12) (fun (σ14 : Mem) =>
      bV (f_X11_waysThatKeep n a0 σ14) (fun (y16 : Int) =>
      if zI y16 = zI 0 then
      (some (0, σ14))
      else (    bV (f_X7_countAt 32 (σ14 13 1) (σ14 15 1) σ14) (fun (y19 : Int) =>
      if zI y16 = zI y19 then
      (some (2, σ14))
      else (some (1, σ14)))))))))
      else (some (y7, σ4)))))
      else (some ((-2), σ)))
def f_X11_lettersOf (a0 : Int) (a1 : Int) : Option Int :=
      if zI (lCmp a0 9223372036854775807) = zI 0 then
      (some ((-6)))
      else (    bV (f_X3_lengthOf a0) (fun (y3 : Int) =>
      if zI y3 ≤ zI 12 then
      (    bV (f_X3_lengthOf a0) (fun (y6 : Int) =>
      if zI a1 = zI ((-1)) then
      (some y6)
      else (if zI a1 < zI 0 then
      (some ((-6)))
      else (if zI y6 ≤ zI a1 then
      (some ((-6)))
      else (    bV (f_X3_letterAt a0 a1) (fun (y11 : Int) =>
      some y11))))))
      else (some ((-6)))))
def f_X11_least (n : Nat) (a0 : Int) (a1 : Int) (σ : Mem) : Option (Int × Mem) :=
      bV (f_X11_isName a0) (fun (y2 : Int) =>
      if zI y2 = zI 0 then
      (some ((-1), σ))
      else (    bL1 (f_X11_chartOfWord n σ) (fun (w6 : Nat) (σ5 : Mem) =>
      gd (w6 = 27) (
      bV (f_X0_leastOf a0 σ5) (fun (y9 : Int) =>
      bV (f_X11_lettersOf y9 a1) (fun (y11 : Int) =>
      some (y11, σ5)))))))
def f_X11_mend (n : Nat) (a0 : Int) (a1 : Int) (a2 : Int) (σ : Mem) : Option (Int × Mem) :=
      bV (f_X11_isName a0) (fun (y2 : Int) =>
      if zI y2 = zI 0 then
      (some ((-1), σ))
      else (if zI a1 < zI 0 then
      (some ((-2), σ))
      else (if zI a2 < zI a1 then
      (some ((-2), σ))
      else (if zI a2 ≤ zI (σ 13 1) then
      (    bL1 (f_X11_chartOfWord n σ) (fun (w9 : Nat) (σ8 : Mem) =>
      gd (w9 = 27) (
      bV (f_X0_fitOf (4 + a0) a1 a2 σ8) (fun (y12 : Int) =>
      if zI (lCmp y12 9223372036854775807) = zI 0 then
      (some ((-5), σ8))
      else (    bV (f_X3_costOf y12) (fun (y15 : Int) =>
      some (y15, σ8)))))))
      else (some ((-2), σ))))))
def f_X9_hasSought (a0 : Int) (σ : Mem) : Option Int :=
      if zI a0 = zI (σ 38 3) then
      (some 1)
      else (some 0)
def f_X4_startUses_L18 (n : Nat) (x1_ : Int) (x3_ : Int) (σ : Mem) : Nat → Int → Int → Option (Int)
  | 0, _, _ => none
  | k + 1, x2_, x4_ =>
      if zI 6 ≤ zI x4_ then
      (some x2_)
      else (bV (
      if zI (iAnd (iShr x2_ x4_) 1) = zI 0 then
      (some 0)
      else (    bV (f_X4_namesUsedBy n x4_ σ) (fun (y5 : Int) =>
      some y5))) (fun (v2 : Int) =>
      nm (iOr x2_ v2) (fun (x6 : Int) =>
      nm (x4_ + 1) (fun (x7 : Int) =>
      f_X4_startUses_L18 n x1_ x3_ σ k x6 x7))))
def f_X4_startUses_L9 (n : Nat) (x1_ : Int) (σ : Mem) : Nat → Int → Int → Option (Int)
  | 0, _, _ => none
  | k + 1, x2_, x3_ =>
      if zI 6 ≤ zI x3_ then
      (some x2_)
      else (bV (f_X4_startUses_L18 n x1_ x3_ σ n x2_ 0) (fun (x2 : Int) =>
      nm (x3_ + 1) (fun (x3 : Int) =>
      f_X4_startUses_L9 n x1_ σ k x2 x3)))
def f_X4_startUses (n : Nat) (a0 : Int) (σ : Mem) : Option Int :=
      nm (iShl 1 (σ 3 4)) (fun (x1 : Int) =>
      bV (f_X4_startUses_L9 n a0 σ n x1 0) (fun (x2 : Int) =>
      if zI (iAnd (iShr x2 a0) 1) = zI 0 then
      (some 0)
      else (some 1)))
def f_X4_tryRule (a0 : Int) (a1 : Int) (σ : Mem) : Option Mem :=
      nm (st σ 3 6 a0) (fun (σ1 : Mem) =>
      bV (f_X4_emptySlot 3 24 σ1) (fun (σ3 : Mem) =>
      nm ((a1 - 1) - 10) (fun (x4 : Int) =>
      if zI x4 < zI 0 then
      (if zI a1 ≤ zI 0 then
      (some σ3)
      else (    bL1 (f_X4_addTo 3 24 (a1 - 1) σ3) (fun (y9 : Int) (σ8 : Mem) =>
      some σ8)))
      else (    bL1 (f_X4_addTo 3 24 (iDiv x4 4) σ3) (fun (y12 : Int) (σ11 : Mem) =>
      bL1 (f_X4_addTo 3 24 (iRem x4 4) σ11) (fun (y15 : Int) (σ14 : Mem) =>
      some σ14))))))
def f_X9_totalBelow_L4 (n : Nat) (x1_ : Int) : Nat → Int → Int → Mem → Option (Nat × Int × Mem)
  | 0, _, _, _ => none
  | k + 1, x2_, x3_, σ =>
      if zI (σ 25 2) ≤ zI x3_ then
      (some (1, x2_, σ))
      else (if zI x1_ ≤ zI x2_ then
      (some (1, x2_, σ))
      else (    bV (f_X2_at x3_ σ) (fun (w4 : Nat) =>
      gd (isW w4) (
      bV (f_X0_fill n w4 σ) (fun (σ7 : Mem) =>
      bV (f_X0_fitOf (4 + (σ7 3 4)) 0 (σ7 w4 1) σ7) (fun (y9 : Int) =>
      if zI (lCmp y9 9223372036854775807) = zI 0 then
      (some (0, 0, σ7))
      else (    bV (f_X3_costOf y9) (fun (y12 : Int) =>
      nm (x2_ + y12) (fun (x13 : Int) =>
      nm (x3_ + 1) (fun (x14 : Int) =>
      f_X9_totalBelow_L4 n x1_ k x13 x14 σ7))))))))))
def f_X9_totalBelow (n : Nat) (a0 : Int) (σ : Mem) : Option (Int × Mem) :=
      bL2 (f_X9_totalBelow_L4 n a0 n 0 0 σ) (fun (t1 : Nat) (x2 : Int) (σ3 : Mem) =>
      if t1 = 0 then
      (some (a0, σ3))
      else (some (iMin x2 a0, σ3)))
def f_X4_endTrial (σ : Mem) : Option Mem :=
      nm (st σ 3 6 ((-1))) (fun (σ1 : Mem) =>
      some σ1)
def f_X9_seek_L31 (n : Nat) (x1_ : Int) (x2_ : Int) : Nat → Int → Mem → Option (Mem)
  | 0, _, _ => none
  | k + 1, x3_, σ =>
      if zI x2_ ≤ zI x3_ then
      (some σ)
      else (if zI (σ 38 4) ≤ zI 0 then
      (some σ)
      else (    bV (f_X4_tryRule x1_ x3_ σ) (fun (σ4 : Mem) =>
      bL1 (f_X9_totalBelow n (σ4 38 4) σ4) (fun (y7 : Int) (σ6 : Mem) =>
      bV (
      if zI (σ6 38 4) ≤ zI y7 then
      (some σ6)
      else (    nm (st σ6 38 4 y7) (fun (σ10 : Mem) =>
      nm (st σ10 38 5 x3_) (fun (σ11 : Mem) =>
      some σ11)))) (fun (σ8 : Mem) =>
      nm (x3_ + 1) (fun (x12 : Int) =>
      f_X9_seek_L31 n x1_ x2_ k x12 σ8))))))
def f_X9_seek (n : Nat) (a0 : Int) (σ : Mem) : Option Mem :=
      nm (st σ 38 4 1073741824) (fun (σ1 : Mem) =>
      nm (st σ1 38 5 0) (fun (σ2 : Mem) =>
      bV (f_X4_startUses n a0 σ2) (fun (y4 : Int) =>
      bV (
      if zI y4 = zI 0 then
      (some 1)
      else (some 27)) (fun (v5 : Int) =>
      bV (f_X9_seek_L31 n a0 v5 n 0 σ2) (fun (σ7 : Mem) =>
      bV (f_X4_tryRule a0 (σ7 38 5) σ7) (fun (σ9 : Mem) =>
      bV (f_X4_endTrial σ9) (fun (σ11 : Mem) =>
      nm (st σ11 38 3 a0) (fun (σ12 : Mem) =>
      some σ12))))))))
def f_X11_more (n : Nat) (a0 : Int) (a1 : Int) (σ : Mem) : Option (Int × Mem) :=
      bV (f_X11_isName a0) (fun (y2 : Int) =>
      if zI y2 = zI 0 then
      (some ((-1), σ))
      else (if zI a1 < zI 0 then
      (some ((-2), σ))
      else (if zI a1 ≤ zI 3 then
      (if zI (σ 25 2) = zI 0 then
      (some ((-3), σ))
      else (    bV (f_X9_hasSought a0 σ) (fun (y8 : Int) =>
      bV (
      if zI y8 = zI 0 then
      (    nm (st σ 0 12 0) (fun (σ11 : Mem) =>
      bV (f_X9_seek n a0 σ11) (fun (σ13 : Mem) =>
      some σ13)))
      else (some σ)) (fun (σ9 : Mem) =>
      if zI (σ9 38 4) = zI 1073741824 then
      (some ((-5), σ9))
      else (if zI a1 = zI 0 then
      (some (σ9 38 4, σ9))
      else (    bV (f_X4_lengthOf 3 24 σ9) (fun (y17 : Int) =>
      if zI a1 = zI 1 then
      (some (y17, σ9))
      else (if zI y17 ≤ zI (a1 - 2) then
      (some ((-6), σ9))
      else (    bV (f_X4_signAt 24 (a1 - 2) σ9) (fun (y21 : Int) =>
      bV (f_X11_codeOf y21) (fun (y23 : Int) =>
      some (y23, σ9))))))))))))
      else (some ((-2), σ)))))
def f_X11_near (n : Nat) (a0 : Int) (a1 : Int) (σ : Mem) : Option (Int × Mem) :=
      bV (f_X2_has a0 σ) (fun (y2 : Int) =>
      if zI y2 = zI 0 then
      (some ((-1), σ))
      else (    bV (f_X2_has a1 σ) (fun (y5 : Int) =>
      if zI y5 = zI 0 then
      (some ((-1), σ))
      else (    bV (f_X2_at a0 σ) (fun (w8 : Nat) =>
      gd (isW w8) (
      bV (f_X2_at a1 σ) (fun (w11 : Nat) =>
      gd (isW w11) (
      bV (f_X7_fill n 32 w8 w11 0 σ) (fun (σ14 : Mem) =>
      bV (f_X7_leastAt 32 (σ14 w8 1) (σ14 w11 1) σ14) (fun (y16 : Int) =>
      some (y16, σ14)))))))))))
def f_X11_nothing_L9 (n : Nat) (σ : Mem) : Nat → Int → Int → Option (Int)
  | 0, _, _ => none
  | k + 1, x2_, x3_ =>
      if zI 6 ≤ zI x3_ then
      (some x2_)
      else (    bV (f_X0_leastOf x3_ σ) (fun (y3 : Int) =>
      bV (
      if zI (lCmp y3 9223372036854775807) = zI 0 then
      (    nm (iOr x2_ (iShl 1 x3_)) (fun (x6 : Int) =>
      some x6))
      else (some x2_)) (fun (x4 : Int) =>
      nm (x3_ + 1) (fun (x7 : Int) =>
      f_X11_nothing_L9 n σ k x4 x7))))
def f_X11_nothing (n : Nat) (σ : Mem) : Option (Int × Mem) :=
      bL1 (f_X11_chartOfWord n σ) (fun (w3 : Nat) (σ2 : Mem) =>
      gd (w3 = 27) (
      bV (f_X11_nothing_L9 n σ2 n 0 0) (fun (x5 : Int) =>
      some (x5, σ2))))
def f_X11_rule (a0 : Int) (a1 : Int) (a2 : Int) (σ : Mem) : Option Int :=
      bV (f_X11_isName a0) (fun (y2 : Int) =>
      if zI y2 = zI 0 then
      (some ((-1)))
      else (if zI a1 < zI 0 then
      (some ((-1)))
      else (    bV (f_X4_countOf 3 a0 σ) (fun (y6 : Int) =>
      if zI a1 < zI y6 then
      (    bV (f_X4_slotOf a0 a1 σ) (fun (y9 : Int) =>
      bV (f_X4_lengthOf 3 y9 σ) (fun (y11 : Int) =>
      if zI a2 = zI ((-1)) then
      (some y11)
      else (if zI a2 < zI 0 then
      (some ((-6)))
      else (if zI y11 ≤ zI a2 then
      (some ((-6)))
      else (    bV (f_X4_signAt y9 a2 σ) (fun (y16 : Int) =>
      bV (f_X11_codeOf y16) (fun (y18 : Int) =>
      some y18))))))))
      else (some ((-1)))))))
def f_X5_add (a0 : Int) (σ : Mem) : Option (Int × Mem) :=
      if zI (σ 1 1) < zI 0 then
      (some (0, σ))
      else (if zI (σ 1 1) < zI 60 then
      (    gd (0 ≤ (σ 1 1) ∧ (σ 1 1) < ((60 : Nat) : Int)) (
      nm (st σ 2 (σ 1 1).toNat a0) (fun (σ4 : Mem) =>
      nm (st σ4 1 1 ((σ4 1 1) + 1)) (fun (σ5 : Mem) =>
      some (1, σ5)))))
      else (some (0, σ)))
def f_X11_say (a0 : Int) (σ : Mem) : Option (Int × Mem) :=
      if zI a0 < zI 33 then
      (some ((-2), σ))
      else (if zI a0 ≤ zI 126 then
      (    bL1 (f_X5_add a0 σ) (fun (y5 : Int) (σ4 : Mem) =>
      if zI y5 = zI 0 then
      (some ((-4), σ4))
      else (some (σ4 1 1, σ4))))
      else (some ((-2), σ)))
def f_X11_text (n : Nat) (a0 : Int) (σ : Mem) : Option (Int × Mem) :=
      bL1 (f_X11_textFit n σ) (fun (y3 : Int) (σ2 : Mem) =>
      bV (f_X11_refusalOf y3) (fun (y5 : Int) =>
      if zI y5 = zI 0 then
      (    bV (f_X11_lettersOf y3 a0) (fun (y8 : Int) =>
      some (y8, σ2)))
      else (some (y5, σ2))))
def f_X11_told (a0 : Int) (σ : Mem) : Option Int :=
      bV (
      if zI a0 < zI 5 then
      (some 0)
      else (if zI 8 ≤ zI a0 then
      (some 0)
      else (some 1))) (fun (t1 : Nat) =>
      if t1 = 0 then
      (bV (
      if zI a0 < zI 10 then
      (some 0)
      else (if zI 16 ≤ zI a0 then
      (some 0)
      else (some 1))) (fun (t4 : Nat) =>
      if t4 = 0 then
      (if zI a0 = zI 0 then
      (some (σ 1 1))
      else (if zI a0 = zI 1 then
      (some (σ 3 3))
      else (if zI a0 = zI 2 then
      (some (σ 3 4))
      else (if zI a0 = zI 3 then
      (some (σ 13 1))
      else (if zI a0 = zI 4 then
      (some (σ 25 2))
      else (some ((-2))))))))
      else (    bV (f_X4_countOf 3 (a0 - 10) σ) (fun (y13 : Int) =>
      some y13))))
      else (    bV (f_X1_of (a0 - 5) σ) (fun (y15 : Int) =>
      some y15)))
def f_X11_total (n : Nat) (σ : Mem) : Option (Int × Mem) :=
      nm (st σ 0 12 0) (fun (σ1 : Mem) =>
      bL1 (f_X9_totalBelow n 1073741824 σ1) (fun (y4 : Int) (σ3 : Mem) =>
      if zI y4 = zI 1073741824 then
      (some ((-5), σ3))
      else (some (y4, σ3))))
def f_X11_ways (n : Nat) (σ : Mem) : Option (Int × Mem) :=
      bL1 (f_X11_textFit n σ) (fun (y3 : Int) (σ2 : Mem) =>
      bV (f_X11_refusalOf y3) (fun (y5 : Int) =>
      if zI y5 = zI 0 then
      (    bV (f_X11_readText n y3 σ2) (fun (σ8 : Mem) =>
      bV (f_X7_fill n 32 13 15 0 σ8) (fun (σ10 : Mem) =>
      bV (f_X7_countAt 32 (σ10 13 1) (σ10 15 1) σ10) (fun (y12 : Int) =>
      some (iMin y12 1000000, σ10)))))
      else (some (y5, σ2))))
def f_X11_wipe (σ : Mem) : Option (Int × Mem) :=
      nm (σ 1 1) (fun (x1 : Int) =>
      nm (st σ 1 1 0) (fun (σ2 : Mem) =>
      some (x1, σ2)))
def f_X5_isWord_L13 (n : Nat) (σ : Mem) : Nat → Int → Option (Nat)
  | 0, _ => none
  | k + 1, x1_ =>
      if zI (σ 1 1) ≤ zI x1_ then
      (some 1)
      else (    bV (f_X5_signAt x1_ σ) (fun (y3 : Int) =>
      if zI y3 < zI 97 then
      (some 0)
      else (if zI y3 < zI 101 then
      (    nm (x1_ + 1) (fun (x6 : Int) =>
      f_X5_isWord_L13 n σ k x6))
      else (some 0))))
def f_X5_isWord (n : Nat) (σ : Mem) : Option Int :=
      if zI (σ 1 1) ≤ zI 6 then
      (bV (f_X5_isWord_L13 n σ n 0) (fun (t2 : Nat) =>
      if t2 = 0 then
      (some 0)
      else (some 1)))
      else (some 0)
def f_X11_word_L22 (n : Nat) : Nat → Int → Mem → Option (Mem)
  | 0, _, _ => none
  | k + 1, x1_, σ =>
      if zI (σ 1 1) ≤ zI x1_ then
      (some σ)
      else (    bV (f_X5_signAt x1_ σ) (fun (y3 : Int) =>
      bV (f_X10_add 13 (y3 - 97) σ) (fun (σ5 : Mem) =>
      nm (x1_ + 1) (fun (x6 : Int) =>
      f_X11_word_L22 n k x6 σ5))))
def f_X11_word (n : Nat) (σ : Mem) : Option (Int × Mem) :=
      bV (f_X5_isWord n σ) (fun (y2 : Int) =>
      if zI y2 = zI 0 then
      (some ((-5), σ))
      else (    bV (f_X10_clear 13 σ) (fun (σ5 : Mem) =>
      bV (f_X11_word_L22 n n 0 σ5) (fun (σ6 : Mem) =>
      nm (st σ6 1 1 0) (fun (σ7 : Mem) =>
      bV (f_X11_forgetAnswers σ7) (fun (σ9 : Mem) =>
      some (σ9 13 1, σ9)))))))
def f_X12_addAhead (a0 : Int) (a1 : Int) (a2 : Int) (σ : Mem) : Option Mem :=
      gd (0 ≤ a1 ∧ a1 < ((91 : Nat) : Int)) (
      nm ((σ 19 a1.toNat) + a2) (fun (x2 : Int) =>
      gd (0 ≤ a0 ∧ a0 < ((91 : Nat) : Int)) (
      if zI (σ 19 a0.toNat) ≤ zI x2 then
      (if zI x2 = zI (σ 19 a0.toNat) then
      (    nm (st σ 21 a0.toNat ((σ 21 a0.toNat) + (σ 21 a1.toNat))) (fun (σ6 : Mem) =>
      some σ6))
      else (some σ))
      else (    nm (st σ 19 a0.toNat x2) (fun (σ7 : Mem) =>
      nm (st σ7 21 a0.toNat (σ7 21 a1.toNat)) (fun (σ8 : Mem) =>
      some σ8))))))
def f_X12_addBehind (a0 : Int) (a1 : Int) (a2 : Int) (σ : Mem) : Option Mem :=
      gd (0 ≤ a1 ∧ a1 < ((91 : Nat) : Int)) (
      nm ((σ 20 a1.toNat) + a2) (fun (x2 : Int) =>
      gd (0 ≤ a0 ∧ a0 < ((91 : Nat) : Int)) (
      if zI (σ 20 a0.toNat) ≤ zI x2 then
      (if zI x2 = zI (σ 20 a0.toNat) then
      (    nm (st σ 22 a0.toNat ((σ 22 a0.toNat) + (σ 22 a1.toNat))) (fun (σ6 : Mem) =>
      some σ6))
      else (some σ))
      else (    nm (st σ 20 a0.toNat x2) (fun (σ7 : Mem) =>
      nm (st σ7 22 a0.toNat (σ7 22 a1.toNat)) (fun (σ8 : Mem) =>
      some σ8))))))
def f_X12_beginsOne (a0 : Int) (a1 : Int) (a2 : Int) (σ : Mem) : Option Int :=
      if zI a0 < zI 10 then
      (if zI a2 = zI a1 then
      (some 1)
      else (if zI a2 = zI (a1 + 1) then
      (    gd (0 ≤ a1 ∧ a1 < ((6 : Nat) : Int)) (
      if zI (σ 9 a1.toNat) = zI a0 then
      (some 1)
      else (some 0)))
      else (some 0)))
      else (    gd (0 ≤ (((49 * (a0 - 10)) + (7 * a1)) + a2) ∧ (((49 * (a0 - 10)) + (7 * a1)) + a2) < ((294 : Nat) : Int)) (
      gd ((σ 16 (((49 * (a0 - 10)) + (7 * a1)) + a2).toNat) = 0 ∨ (σ 16 (((49 * (a0 - 10)) + (7 * a1)) + a2).toNat) = 1) (some (σ 16 (((49 * (a0 - 10)) + (7 * a1)) + a2).toNat))))
def f_X12_comes (a0 : Int) (σ : Mem) : Option Int :=
      if zI a0 < zI 10 then
      (some 1)
      else (    gd (0 ≤ (49 * (a0 - 10)) ∧ (49 * (a0 - 10)) < ((294 : Nat) : Int)) (
      if zI 100000000 ≤ zI (σ 10 (49 * (a0 - 10)).toNat) then
      (some 0)
      else (some 1)))
def f_X12_makes (a0 : Int) (a1 : Int) (a2 : Int) (σ : Mem) : Option Int :=
      if zI a0 < zI 10 then
      (if zI a2 = zI (a1 + 1) then
      (    gd (0 ≤ a1 ∧ a1 < ((6 : Nat) : Int)) (
      if zI (σ 9 a1.toNat) = zI a0 then
      (some 1)
      else (some 0)))
      else (some 0))
      else (    gd (0 ≤ (((49 * (a0 - 10)) + (7 * a1)) + a2) ∧ (((49 * (a0 - 10)) + (7 * a1)) + a2) < ((294 : Nat) : Int)) (
      if zI (σ 10 (((49 * (a0 - 10)) + (7 * a1)) + a2).toNat) = zI 0 then
      (some 1)
      else (some 0)))
def f_X12_beginsRule_L19 (n : Nat) (x3_ : Int) (x4_ : Int) (x5_ : Int) (x6_ : Int) : Nat → Int → Mem → Option (Mem)
  | 0, _, _ => none
  | k + 1, x7_, σ =>
      if zI 35 ≤ zI x7_ then
      (some σ)
      else (bV (
      if zI x7_ = zI x3_ then
      (some 1)
      else (some 0)) (fun (v2 : Int) =>
      gd (0 ≤ x7_ ∧ x7_ < ((35 : Nat) : Int)) (
      gd (v2 = 0 ∨ v2 = 1) (
      nm (st σ 17 x7_.toNat v2) (fun (σ6 : Mem) =>
      nm (x7_ + 1) (fun (x7 : Int) =>
      f_X12_beginsRule_L19 n x3_ x4_ x5_ x6_ k x7 σ6))))))
def f_X12_beginsRule_L53 (n : Nat) (x3_ : Int) (x4_ : Int) (x5_ : Int) (x6_ : Int) (σ : Mem) : Nat → Int → Option (Nat)
  | 0, _ => none
  | k + 1, x7_ =>
      if zI x6_ ≤ zI x7_ then
      (some 1)
      else (    gd (0 ≤ ((4 * x5_) + x7_) ∧ ((4 * x5_) + x7_) < ((120 : Nat) : Int)) (
      bV (f_X12_comes (σ 4 ((4 * x5_) + x7_).toNat) σ) (fun (y4 : Int) =>
      if zI y4 = zI 0 then
      (some 0)
      else (    nm (x7_ + 1) (fun (x6 : Int) =>
      f_X12_beginsRule_L53 n x3_ x4_ x5_ x6_ σ k x6)))))
def f_X12_beginsRule_L152 (n : Nat) (x3_ : Int) (x4_ : Int) (x5_ : Int) (x6_ : Int) (x7_ : Int) (x8_ : Int) : Nat → Int → Mem → Option (Mem)
  | 0, _, _ => none
  | k + 1, x9_, σ =>
      if zI x4_ < zI x9_ then
      (some σ)
      else (    gd (0 ≤ ((7 * x7_) + x8_) ∧ ((7 * x7_) + x8_) < ((35 : Nat) : Int)) (
      if zI (σ 17 ((7 * x7_) + x8_).toNat) = zI 0 then
      (some σ)
      else (    gd (0 ≤ ((7 * (x7_ + 1)) + x9_) ∧ ((7 * (x7_ + 1)) + x9_) < ((35 : Nat) : Int)) (
      bV (
      if zI (σ 17 ((7 * (x7_ + 1)) + x9_).toNat) = zI 0 then
      (    gd (0 ≤ ((4 * x5_) + x7_) ∧ ((4 * x5_) + x7_) < ((120 : Nat) : Int)) (
      bV (f_X12_makes (σ 4 ((4 * x5_) + x7_).toNat) x8_ x9_ σ) (fun (y9 : Int) =>
      if zI y9 = zI 0 then
      (some 1)
      else (some 0))))
      else (some 0)) (fun (t5 : Nat) =>
      if t5 = 0 then
      (    nm (st σ 17 ((7 * (x7_ + 1)) + x9_).toNat 1) (fun (σ11 : Mem) =>
      nm (x9_ + 1) (fun (x12 : Int) =>
      f_X12_beginsRule_L152 n x3_ x4_ x5_ x6_ x7_ x8_ k x12 σ11)))
      else (    nm (st σ 17 ((7 * (x7_ + 1)) + x9_).toNat 0) (fun (σ13 : Mem) =>
      nm (x9_ + 1) (fun (x14 : Int) =>
      f_X12_beginsRule_L152 n x3_ x4_ x5_ x6_ x7_ x8_ k x14 σ13))))))))
def f_X12_beginsRule_L100 (n : Nat) (x3_ : Int) (x4_ : Int) (x5_ : Int) (x6_ : Int) (x7_ : Int) : Nat → Int → Mem → Option (Nat × Mem)
  | 0, _, _ => none
  | k + 1, x8_, σ =>
      if zI x4_ < zI x8_ then
      (some (1, σ))
      else (    gd (0 ≤ ((7 * x7_) + x8_) ∧ ((7 * x7_) + x8_) < ((35 : Nat) : Int)) (
      bV (
      if zI (σ 17 ((7 * x7_) + x8_).toNat) = zI 0 then
      (some 0)
      else (    gd (0 ≤ ((4 * x5_) + x7_) ∧ ((4 * x5_) + x7_) < ((120 : Nat) : Int)) (
      bV (f_X12_beginsOne (σ 4 ((4 * x5_) + x7_).toNat) x8_ x4_ σ) (fun (y7 : Int) =>
      if zI y7 = zI 0 then
      (some 0)
      else (some 1))))) (fun (t3 : Nat) =>
      if t3 = 0 then
      (bV (f_X12_beginsRule_L152 n x3_ x4_ x5_ x6_ x7_ x8_ n x8_ σ) (fun (σ9 : Mem) =>
      nm (x8_ + 1) (fun (x10 : Int) =>
      f_X12_beginsRule_L100 n x3_ x4_ x5_ x6_ x7_ k x10 σ9)))
      else (some (0, σ)))))
def f_X12_beginsRule_L90 (n : Nat) (x3_ : Int) (x4_ : Int) (x5_ : Int) (x6_ : Int) : Nat → Int → Mem → Option (Nat × Mem)
  | 0, _, _ => none
  | k + 1, x7_, σ =>
      if zI x6_ ≤ zI x7_ then
      (some (1, σ))
      else (bL1 (f_X12_beginsRule_L100 n x3_ x4_ x5_ x6_ x7_ n x3_ σ) (fun (t2 : Nat) (σ3 : Mem) =>
      if t2 = 0 then
      (some (0, σ3))
      else (    nm (x7_ + 1) (fun (x4 : Int) =>
      f_X12_beginsRule_L90 n x3_ x4_ x5_ x6_ k x4 σ3))))
def f_X12_beginsRule (n : Nat) (a0 : Int) (a1 : Int) (a2 : Int) (a3 : Int) (σ : Mem) : Option (Int × Mem) :=
      nm ((5 * a0) + a1) (fun (x1 : Int) =>
      gd (0 ≤ x1 ∧ x1 < ((30 : Nat) : Int)) (
      nm (σ 3 x1.toNat) (fun (x3 : Int) =>
      bV (f_X12_beginsRule_L19 n a2 a3 x1 x3 n 0 σ) (fun (σ4 : Mem) =>
      bV (f_X12_beginsRule_L53 n a2 a3 x1 x3 σ4 n 0) (fun (t5 : Nat) =>
      if t5 = 0 then
      (some (0, σ4))
      else (bL1 (f_X12_beginsRule_L90 n a2 a3 x1 x3 n 0 σ4) (fun (t6 : Nat) (σ7 : Mem) =>
      if t6 = 0 then
      (some (1, σ7))
      else (    gd (0 ≤ ((7 * x3) + a3) ∧ ((7 * x3) + a3) < ((35 : Nat) : Int)) (
      gd ((σ7 17 ((7 * x3) + a3).toNat) = 0 ∨ (σ7 17 ((7 * x3) + a3).toNat) = 1) (some (σ7 17 ((7 * x3) + a3).toNat, σ7)))))))))))
def f_X12_one_L80 (n : Nat) (x1_ : Int) (x2_ : Int) (x3_ : Int) : Nat → Int → Mem → Option (Mem)
  | 0, _, _ => none
  | k + 1, x4_, σ =>
      if zI x3_ ≤ zI x4_ then
      (some σ)
      else (    gd (0 ≤ (0 : Int) ∧ (0 : Int) < ((3 : Nat) : Int)) (
      gd (0 ≤ x4_ ∧ x4_ < ((6 : Nat) : Int)) (
      bV (
      if zI (σ 9 x4_.toNat) = zI x1_ then
      (some 0)
      else (    gd (0 ≤ (2 : Int) ∧ (2 : Int) < ((3 : Nat) : Int)) (
      some (σ 8 (2 : Int).toNat)))) (fun (v4 : Int) =>
      nm ((((x3_ - x2_) - 1) * (σ 8 (0 : Int).toNat)) + v4) (fun (x7 : Int) =>
      bV (
      if zI (σ 0 20) ≤ zI x7 then
      (some (σ 0 20))
      else (some x7)) (fun (v8 : Int) =>
      nm (st σ 0 20 v8) (fun (σ10 : Mem) =>
      nm (x4_ + 1) (fun (x11 : Int) =>
      f_X12_one_L80 n x1_ x2_ x3_ k x11 σ10))))))))
def f_X12_one (n : Nat) (a0 : Int) (a1 : Int) (a2 : Int) (σ : Mem) : Option Mem :=
      if zI a0 < zI 10 then
      (    gd (0 ≤ (0 : Int) ∧ (0 : Int) < ((3 : Nat) : Int)) (
      gd (0 ≤ (1 : Int) ∧ (1 : Int) < ((3 : Nat) : Int)) (
      nm (st σ 0 20 (((a2 - a1) * (σ 8 (0 : Int).toNat)) + (σ 8 (1 : Int).toNat))) (fun (σ4 : Mem) =>
      bV (f_X12_one_L80 n a0 a1 a2 n a1 σ4) (fun (σ5 : Mem) =>
      nm (st σ5 0 21 1) (fun (σ6 : Mem) =>
      nm (st σ6 0 22 a0) (fun (σ7 : Mem) =>
      some σ7)))))))
      else (    nm (((49 * (a0 - 10)) + (7 * a1)) + a2) (fun (x8 : Int) =>
      gd (0 ≤ x8 ∧ x8 < ((294 : Nat) : Int)) (
      nm (st σ 0 20 (σ 10 x8.toNat)) (fun (σ10 : Mem) =>
      nm (st σ10 0 21 (σ10 11 x8.toNat)) (fun (σ11 : Mem) =>
      nm (st σ11 0 22 (σ11 12 x8.toNat)) (fun (σ12 : Mem) =>
      some σ12))))))
def f_X12_isBetter (a0 : Int) (a1 : Int) (a2 : Int) (a3 : Int) (a4 : Int) (a5 : Int) : Option Int :=
      if zI a0 = zI a3 then
      (if zI a1 = zI a4 then
      (if zI 12 < zI a1 then
      (some 0)
      else (if zI a5 ≤ zI a2 then
      (some 0)
      else (some 1)))
      else (if zI a4 ≤ zI a1 then
      (some 0)
      else (some 1)))
      else (if zI a3 ≤ zI a0 then
      (some 0)
      else (some 1))
def f_X12_better_L19 (n : Nat) (x1_ : Int) (x3_ : Int) (x4_ : Int) (x5_ : Int) (x6_ : Int) : Nat → Int → Mem → Option (Mem)
  | 0, _, _ => none
  | k + 1, x7_, σ =>
      if zI (7 * (x6_ + 1)) ≤ zI x7_ then
      (some σ)
      else (    gd (0 ≤ x7_ ∧ x7_ < ((35 : Nat) : Int)) (
      nm (st σ 13 x7_.toNat 100000000) (fun (σ3 : Mem) =>
      nm (x7_ + 1) (fun (x4 : Int) =>
      f_X12_better_L19 n x1_ x3_ x4_ x5_ x6_ k x4 σ3))))
def f_X12_better_L91 (n : Nat) (x1_ : Int) (x3_ : Int) (x4_ : Int) (x5_ : Int) (x6_ : Int) (x7_ : Int) (x8_ : Int) : Nat → Int → Mem → Option (Mem)
  | 0, _, _ => none
  | k + 1, x9_, σ =>
      if zI x4_ < zI x9_ then
      (some σ)
      else (    gd (0 ≤ ((7 * x7_) + x8_) ∧ ((7 * x7_) + x8_) < ((35 : Nat) : Int)) (
      if zI 100000000 ≤ zI (σ 13 ((7 * x7_) + x8_).toNat) then
      (some σ)
      else (    gd (0 ≤ ((4 * x5_) + x7_) ∧ ((4 * x5_) + x7_) < ((120 : Nat) : Int)) (
      bV (f_X12_one n (σ 4 ((4 * x5_) + x7_).toNat) x8_ x9_ σ) (fun (σ6 : Mem) =>
      nm ((7 * (x7_ + 1)) + x9_) (fun (x7 : Int) =>
      nm ((σ6 13 ((7 * x7_) + x8_).toNat) + (σ6 0 20)) (fun (x8 : Int) =>
      nm ((σ6 14 ((7 * x7_) + x8_).toNat) + (σ6 0 21)) (fun (x9 : Int) =>
      bV (
      if zI x9 ≤ zI 12 then
      (some (iOr (iShl (σ6 15 ((7 * x7_) + x8_).toNat) (2 * (σ6 0 21))) (σ6 0 22)))
      else (some 0)) (fun (v10 : Int) =>
      bV (
      if zI 100000000 ≤ zI (σ6 0 20) then
      (some σ6)
      else (    gd (0 ≤ x7 ∧ x7 < ((35 : Nat) : Int)) (
      bV (
      if zI (σ6 13 x7.toNat) = zI 100000000 then
      (some 0)
      else (    bV (f_X12_isBetter x8 x9 v10 (σ6 13 x7.toNat) (σ6 14 x7.toNat) (σ6 15 x7.toNat)) (fun (y18 : Int) =>
      if zI y18 = zI 0 then
      (some 1)
      else (some 0)))) (fun (t15 : Nat) =>
      if t15 = 0 then
      (    nm (st σ6 13 x7.toNat x8) (fun (σ20 : Mem) =>
      nm (st σ20 14 x7.toNat x9) (fun (σ21 : Mem) =>
      nm (st σ21 15 x7.toNat v10) (fun (σ22 : Mem) =>
      some σ22))))
      else (some σ6))))) (fun (σ12 : Mem) =>
      nm (x9_ + 1) (fun (x23 : Int) =>
      f_X12_better_L91 n x1_ x3_ x4_ x5_ x6_ x7_ x8_ k x23 σ12)))))))))))
def f_X12_better_L80 (n : Nat) (x1_ : Int) (x3_ : Int) (x4_ : Int) (x5_ : Int) (x6_ : Int) (x7_ : Int) : Nat → Int → Mem → Option (Mem)
  | 0, _, _ => none
  | k + 1, x8_, σ =>
      if zI x4_ < zI x8_ then
      (some σ)
      else (bV (f_X12_better_L91 n x1_ x3_ x4_ x5_ x6_ x7_ x8_ n x8_ σ) (fun (σ2 : Mem) =>
      nm (x8_ + 1) (fun (x3 : Int) =>
      f_X12_better_L80 n x1_ x3_ x4_ x5_ x6_ x7_ k x3 σ2)))
def f_X12_better_L70 (n : Nat) (x1_ : Int) (x3_ : Int) (x4_ : Int) (x5_ : Int) (x6_ : Int) : Nat → Int → Mem → Option (Mem)
  | 0, _, _ => none
  | k + 1, x7_, σ =>
      if zI x6_ ≤ zI x7_ then
      (some σ)
      else (bV (f_X12_better_L80 n x1_ x3_ x4_ x5_ x6_ x7_ n x3_ σ) (fun (σ2 : Mem) =>
      nm (x7_ + 1) (fun (x3 : Int) =>
      f_X12_better_L70 n x1_ x3_ x4_ x5_ x6_ k x3 σ2)))
def f_X12_better (n : Nat) (a0 : Int) (a1 : Int) (a2 : Int) (a3 : Int) (σ : Mem) : Option (Int × Mem) :=
      nm ((5 * a0) + a1) (fun (x1 : Int) =>
      gd (0 ≤ x1 ∧ x1 < ((30 : Nat) : Int)) (
      nm (σ 3 x1.toNat) (fun (x3 : Int) =>
      bV (f_X12_better_L19 n a0 a2 a3 x1 x3 n 0 σ) (fun (σ4 : Mem) =>
      gd (0 ≤ a2 ∧ a2 < ((35 : Nat) : Int)) (
      nm (st σ4 13 a2.toNat 0) (fun (σ6 : Mem) =>
      nm (st σ6 14 a2.toNat 0) (fun (σ7 : Mem) =>
      nm (st σ7 15 a2.toNat 0) (fun (σ8 : Mem) =>
      bV (f_X12_better_L70 n a0 a2 a3 x1 x3 n 0 σ8) (fun (σ9 : Mem) =>
      bV (
      if zI x3 = zI 0 then
      (some a2)
      else (some ((7 * x3) + a3))) (fun (v10 : Int) =>
      bV (
      if zI x3 = zI 0 then
      (    gd (0 ≤ (0 : Int) ∧ (0 : Int) < ((3 : Nat) : Int)) (
      some ((a3 - a2) * (σ9 8 (0 : Int).toNat))))
      else (    gd (0 ≤ v10 ∧ v10 < ((35 : Nat) : Int)) (
      some (σ9 13 v10.toNat)))) (fun (v12 : Int) =>
      nm (((49 * a0) + (7 * a2)) + a3) (fun (x16 : Int) =>
      if zI 100000000 ≤ zI v12 then
      (some (0, σ9))
      else (    gd (0 ≤ x16 ∧ x16 < ((294 : Nat) : Int)) (
      bV (
      if zI 100000000 ≤ zI (σ9 10 x16.toNat) then
      (some 0)
      else (    gd (0 ≤ v10 ∧ v10 < ((35 : Nat) : Int)) (
      bV (f_X12_isBetter v12 (σ9 14 v10.toNat) (σ9 15 v10.toNat) (σ9 10 x16.toNat) (σ9 11 x16.toNat) (σ9 12 x16.toNat)) (fun (y23 : Int) =>
      if zI y23 = zI 0 then
      (some 1)
      else (some 0))))) (fun (t19 : Nat) =>
      if t19 = 0 then
      (    nm (st σ9 10 x16.toNat v12) (fun (σ25 : Mem) =>
      gd (0 ≤ v10 ∧ v10 < ((35 : Nat) : Int)) (
      nm (st σ25 11 x16.toNat (σ25 14 v10.toNat)) (fun (σ27 : Mem) =>
      nm (st σ27 12 x16.toNat (σ27 15 v10.toNat)) (fun (σ28 : Mem) =>
      some (1, σ28))))))
      else (some (0, σ9)))))))))))))))))
def f_X12_in (a0 : Int) (a1 : Int) (a2 : Int) : Option Int :=
      if zI a0 < zI a1 then
      (some 0)
      else (if zI a2 < zI a0 then
      (some 0)
      else (some 1))
def f_X12_turn_L2 (n : Nat) : Nat → Int → Mem → Option (Mem)
  | 0, _, _ => none
  | k + 1, x1_, σ =>
      if zI 6 ≤ zI x1_ then
      (some σ)
      else (    gd (0 ≤ x1_ ∧ x1_ < ((6 : Nat) : Int)) (
      nm (st σ 23 x1_.toNat 0) (fun (σ3 : Mem) =>
      nm (x1_ + 1) (fun (x4 : Int) =>
      f_X12_turn_L2 n k x4 σ3))))
def f_X12_turn (n : Nat) (σ : Mem) : Option Mem :=
      bV (f_X12_turn_L2 n n 0 σ) (fun (σ1 : Mem) =>
      some σ1)
def f_X12_cost (n : Nat) (a0 : Int) (a1 : Int) (σ : Mem) : Option (Int × Mem) :=
      bV (f_X12_in a0 0 2) (fun (y2 : Int) =>
      if zI y2 = zI 0 then
      (some ((-2), σ))
      else (    bV (f_X12_in a1 1 9) (fun (y5 : Int) =>
      if zI y5 = zI 0 then
      (some ((-2), σ))
      else (    gd (0 ≤ a0 ∧ a0 < ((3 : Nat) : Int)) (
      nm (σ 8 a0.toNat) (fun (x8 : Int) =>
      nm (st σ 8 a0.toNat a1) (fun (σ9 : Mem) =>
      bV (f_X12_turn n σ9) (fun (σ11 : Mem) =>
      some (x8, σ11)))))))))
def f_X12_example_L26 (n : Nat) : Nat → Int → Mem → Option (Mem)
  | 0, _, _ => none
  | k + 1, x1_, σ =>
      if zI (σ 0 6) ≤ zI x1_ then
      (some σ)
      else (    gd (0 ≤ x1_ ∧ x1_ < ((6 : Nat) : Int)) (
      gd (0 ≤ ((6 * (σ 0 8)) + x1_) ∧ ((6 * (σ 0 8)) + x1_) < ((18 : Nat) : Int)) (
      nm (st σ 7 ((6 * (σ 0 8)) + x1_).toNat (σ 5 x1_.toNat)) (fun (σ4 : Mem) =>
      nm (x1_ + 1) (fun (x5 : Int) =>
      f_X12_example_L26 n k x5 σ4)))))
def f_X12_example (n : Nat) (σ : Mem) : Option (Int × Mem) :=
      if zI (σ 0 8) = zI 3 then
      (some ((-4), σ))
      else (    gd (0 ≤ (σ 0 8) ∧ (σ 0 8) < ((3 : Nat) : Int)) (
      nm (st σ 6 (σ 0 8).toNat (σ 0 6)) (fun (σ3 : Mem) =>
      bV (f_X12_example_L26 n n 0 σ3) (fun (σ4 : Mem) =>
      nm (st σ4 0 8 ((σ4 0 8) + 1)) (fun (σ5 : Mem) =>
      bV (f_X12_turn n σ5) (fun (σ7 : Mem) =>
      some ((σ7 0 8) - 1, σ7)))))))
def f_X12_faultOf_L12 (n : Nat) (σ : Mem) : Nat → Int → Int → Int → Int → Int → Option (Nat × Int × Int)
  | 0, _, _, _, _, _ => none
  | k + 1, x1_, x2_, x3_, x4_, x5_ =>
      if zI (σ 0 0) ≤ zI x5_ then
      (some (1, x1_, 0))
      else (    gd (0 ≤ x5_ ∧ x5_ < ((60 : Nat) : Int)) (
      nm (σ 1 x5_.toNat) (fun (x3 : Int) =>
      bV (f_X12_in x3 97 100) (fun (y5 : Int) =>
      bV (
      if zI y5 = zI 0 then
      (    bV (f_X12_in x3 65 70) (fun (y9 : Int) =>
      if zI y9 = zI 0 then
      (some 1)
      else (some 0)))
      else (some 0)) (fun (t6 : Nat) =>
      if t6 = 0 then
      (    nm ((-6)) (fun (x11 : Int) =>
      bL3 (
      if zI x1_ = zI 0 then
      (    bV (f_X12_in x3 65 70) (fun (y36 : Int) =>
      if zI y36 = zI 0 then
      (some (x2_, x3_, x4_, x11))
      else (if zI (iAnd (iShr x2_ (x3 - 65)) 1) = zI 0 then
      (    nm (iOr x2_ (iShl 1 (x3 - 65))) (fun (x39 : Int) =>
      some (x39, x3_, x4_, 1)))
      else (some (x2_, x3_, x4_, x11)))))
      else (if zI x1_ = zI 1 then
      (bV (
      if zI x3 = zI 61 then
      (some 2)
      else (some ((-6)))) (fun (v33 : Int) =>
      some (x2_, 1, x4_, v33)))
      else (if zI x1_ = zI 2 then
      (bV (
      if zI x3 = zI 95 then
      (some 4)
      else (if zI 1 = zI 0 then
      (some ((-6)))
      else (some 3))) (fun (v30 : Int) =>
      some (x2_, x3_, 1, v30)))
      else (bV (
      if zI x1_ = zI 3 then
      (if zI 1 = zI 0 then
      (some 0)
      else (if zI 4 ≤ zI x4_ then
      (some 0)
      else (some 1)))
      else (some 0)) (fun (t19 : Nat) =>
      if t19 = 0 then
      (bV (
      if zI x3 = zI 124 then
      (if zI 4 ≤ zI x3_ then
      (some 0)
      else (some 1))
      else (some 0)) (fun (t23 : Nat) =>
      if t23 = 0 then
      (if zI x3 = zI 59 then
      (if zI x2_ = zI 63 then
      (some (x2_, x3_, x4_, x11))
      else (some (x2_, x3_, x4_, 0)))
      else (some (x2_, x3_, x4_, x11)))
      else (    nm (x3_ + 1) (fun (x28 : Int) =>
      some (x2_, x28, x4_, 2)))))
      else (    nm (x4_ + 1) (fun (x29 : Int) =>
      some (x2_, x3_, x29, 3)))))))) (fun (x12 : Int) (x13 : Int) (x14 : Int) (x15 : Int) =>
      if zI 0 ≤ zI x15 then
      (    nm (x5_ + 1) (fun (x41 : Int) =>
      f_X12_faultOf_L12 n σ k x15 x12 x13 x14 x41))
      else (some (0, 0, x5_)))))
      else (    nm ((-6)) (fun (x42 : Int) =>
      bL3 (
      if zI x1_ = zI 0 then
      (    bV (f_X12_in x3 65 70) (fun (y67 : Int) =>
      if zI y67 = zI 0 then
      (some (x2_, x3_, x4_, x42))
      else (if zI (iAnd (iShr x2_ (x3 - 65)) 1) = zI 0 then
      (    nm (iOr x2_ (iShl 1 (x3 - 65))) (fun (x70 : Int) =>
      some (x70, x3_, x4_, 1)))
      else (some (x2_, x3_, x4_, x42)))))
      else (if zI x1_ = zI 1 then
      (bV (
      if zI x3 = zI 61 then
      (some 2)
      else (some ((-6)))) (fun (v64 : Int) =>
      some (x2_, 1, x4_, v64)))
      else (if zI x1_ = zI 2 then
      (bV (
      if zI x3 = zI 95 then
      (some 4)
      else (if zI 0 = zI 0 then
      (some ((-6)))
      else (some 3))) (fun (v61 : Int) =>
      some (x2_, x3_, 1, v61)))
      else (bV (
      if zI x1_ = zI 3 then
      (if zI 0 = zI 0 then
      (some 0)
      else (if zI 4 ≤ zI x4_ then
      (some 0)
      else (some 1)))
      else (some 0)) (fun (t50 : Nat) =>
      if t50 = 0 then
      (bV (
      if zI x3 = zI 124 then
      (if zI 4 ≤ zI x3_ then
      (some 0)
      else (some 1))
      else (some 0)) (fun (t54 : Nat) =>
      if t54 = 0 then
      (if zI x3 = zI 59 then
      (if zI x2_ = zI 63 then
      (some (x2_, x3_, x4_, x42))
      else (some (x2_, x3_, x4_, 0)))
      else (some (x2_, x3_, x4_, x42)))
      else (    nm (x3_ + 1) (fun (x59 : Int) =>
      some (x2_, x59, x4_, 2)))))
      else (    nm (x4_ + 1) (fun (x60 : Int) =>
      some (x2_, x3_, x60, 3)))))))) (fun (x43 : Int) (x44 : Int) (x45 : Int) (x46 : Int) =>
      if zI 0 ≤ zI x46 then
      (    nm (x5_ + 1) (fun (x72 : Int) =>
      f_X12_faultOf_L12 n σ k x46 x43 x44 x45 x72))
      else (some (0, 0, x5_))))))))))
def f_X12_faultOf (n : Nat) (σ : Mem) : Option Int :=
      bL2 (f_X12_faultOf_L12 n σ n 0 0 0 0 0) (fun (t1 : Nat) (x2 : Int) (x3 : Int) =>
      if t1 = 0 then
      (some x3)
      else (if zI x2 ≤ zI 2 then
      (some (σ 0 0))
      else (some ((-6)))))
def f_X12_fault (n : Nat) (σ : Mem) : Option Int :=
      bV (f_X12_faultOf n σ) (fun (y2 : Int) =>
      some y2)
def f_X12_isName (a0 : Int) : Option Int :=
      bV (f_X12_in a0 0 5) (fun (y2 : Int) =>
      gd (y2 = 0 ∨ y2 = 1) (some y2))
def f_X12_take_L23 (n : Nat) (x1_ : Int) : Nat → Int → Mem → Option (Mem)
  | 0, _, _ => none
  | k + 1, x2_, σ =>
      if zI (σ 0 12) ≤ zI x2_ then
      (some σ)
      else (bV (
      if zI 0 ≤ zI x1_ then
      (    gd (0 ≤ ((6 * x1_) + x2_) ∧ ((6 * x1_) + x2_) < ((18 : Nat) : Int)) (
      some (σ 7 ((6 * x1_) + x2_).toNat)))
      else (    gd (0 ≤ x2_ ∧ x2_ < ((6 : Nat) : Int)) (
      some (σ 5 x2_.toNat)))) (fun (v2 : Int) =>
      gd (0 ≤ x2_ ∧ x2_ < ((6 : Nat) : Int)) (
      nm (st σ 9 x2_.toNat v2) (fun (σ7 : Mem) =>
      nm (x2_ + 1) (fun (x8 : Int) =>
      f_X12_take_L23 n x1_ k x8 σ7)))))
def f_X12_take (n : Nat) (a0 : Int) (σ : Mem) : Option Mem :=
      bV (
      if zI 0 ≤ zI a0 then
      (    gd (0 ≤ a0 ∧ a0 < ((3 : Nat) : Int)) (
      some (σ 6 a0.toNat)))
      else (some (σ 0 6))) (fun (v1 : Int) =>
      nm (st σ 0 12 v1) (fun (σ4 : Mem) =>
      bV (f_X12_take_L23 n a0 n 0 σ4) (fun (σ5 : Mem) =>
      some σ5)))
def f_X12_layMends_L2 (n : Nat) : Nat → Int → Mem → Option (Mem)
  | 0, _, _ => none
  | k + 1, x1_, σ =>
      if zI 294 ≤ zI x1_ then
      (some σ)
      else (    gd (0 ≤ x1_ ∧ x1_ < ((294 : Nat) : Int)) (
      nm (st σ 10 x1_.toNat 100000000) (fun (σ3 : Mem) =>
      nm (st σ3 11 x1_.toNat 0) (fun (σ4 : Mem) =>
      nm (st σ4 12 x1_.toNat 0) (fun (σ5 : Mem) =>
      nm (x1_ + 1) (fun (x6 : Int) =>
      f_X12_layMends_L2 n k x6 σ5))))))
def f_X12_layMends_L78 (n : Nat) (x2_ : Int) (x3_ : Int) (x4_ : Int) : Nat → Int → Int → Mem → Option (Int × Mem)
  | 0, _, _, _ => none
  | k + 1, x1_, x5_, σ =>
      gd (0 ≤ x2_ ∧ x2_ < ((6 : Nat) : Int)) (
      if zI (σ 2 x2_.toNat) ≤ zI x5_ then
      (some (x1_, σ))
      else (    bL1 (f_X12_better n x2_ x5_ x3_ x4_ σ) (fun (y5 : Int) (σ4 : Mem) =>
      bV (
      if zI y5 = zI 0 then
      (if zI x1_ = zI 0 then
      (some 1)
      else (some 0))
      else (some 0)) (fun (t6 : Nat) =>
      if t6 = 0 then
      (    nm (x5_ + 1) (fun (x9 : Int) =>
      f_X12_layMends_L78 n x2_ x3_ x4_ k 1 x9 σ4))
      else (    nm (x5_ + 1) (fun (x10 : Int) =>
      f_X12_layMends_L78 n x2_ x3_ x4_ k 0 x10 σ4))))))
def f_X12_layMends_L66 (n : Nat) (x2_ : Int) (x3_ : Int) : Nat → Int → Int → Mem → Option (Int × Mem)
  | 0, _, _, _ => none
  | k + 1, x1_, x4_, σ =>
      if zI (σ 0 12) < zI x4_ then
      (some (x1_, σ))
      else (bL1 (f_X12_layMends_L78 n x2_ x3_ x4_ n x1_ 0 σ) (fun (x2 : Int) (σ3 : Mem) =>
      nm (x4_ + 1) (fun (x4 : Int) =>
      f_X12_layMends_L66 n x2_ x3_ k x2 x4 σ3)))
def f_X12_layMends_L55 (n : Nat) (x2_ : Int) : Nat → Int → Int → Mem → Option (Int × Mem)
  | 0, _, _, _ => none
  | k + 1, x1_, x3_, σ =>
      if zI (σ 0 12) < zI x3_ then
      (some (x1_, σ))
      else (bL1 (f_X12_layMends_L66 n x2_ x3_ n x1_ x3_ σ) (fun (x2 : Int) (σ3 : Mem) =>
      nm (x3_ + 1) (fun (x4 : Int) =>
      f_X12_layMends_L55 n x2_ k x2 x4 σ3)))
def f_X12_layMends_L47 (n : Nat) : Nat → Int → Int → Mem → Option (Int × Mem)
  | 0, _, _, _ => none
  | k + 1, x1_, x2_, σ =>
      if zI 6 ≤ zI x2_ then
      (some (x1_, σ))
      else (bL1 (f_X12_layMends_L55 n x2_ n x1_ 0 σ) (fun (x2 : Int) (σ3 : Mem) =>
      nm (x2_ + 1) (fun (x4 : Int) =>
      f_X12_layMends_L47 n k x2 x4 σ3)))
def f_X12_layMends_L39 (n : Nat) : Nat → Int → Mem → Option (Mem)
  | 0, _, _ => none
  | k + 1, x1_, σ =>
      if zI x1_ = zI 0 then
      (some σ)
      else (bL1 (f_X12_layMends_L47 n n 0 0 σ) (fun (x2 : Int) (σ3 : Mem) =>
      f_X12_layMends_L39 n k x2 σ3))
def f_X12_layMends (n : Nat) (σ : Mem) : Option Mem :=
      bV (f_X12_layMends_L2 n n 0 σ) (fun (σ1 : Mem) =>
      bV (f_X12_layMends_L39 n n 1 σ1) (fun (σ2 : Mem) =>
      some σ2))
def f_X12_first_L21 (n : Nat) (x1_ : Int) : Nat → Int → Mem → Option (Mem)
  | 0, _, _ => none
  | k + 1, x2_, σ =>
      if zI 294 ≤ zI x2_ then
      (some σ)
      else (    gd (0 ≤ x2_ ∧ x2_ < ((294 : Nat) : Int)) (
      nm (st σ 16 x2_.toNat 0) (fun (σ3 : Mem) =>
      nm (x2_ + 1) (fun (x4 : Int) =>
      f_X12_first_L21 n x1_ k x4 σ3))))
def f_X12_first_L100 (n : Nat) (x1_ : Int) (x3_ : Int) (x4_ : Int) (x5_ : Int) (x6_ : Int) : Nat → Int → Int → Mem → Option (Int × Mem)
  | 0, _, _, _ => none
  | k + 1, x2_, x7_, σ =>
      gd (0 ≤ x3_ ∧ x3_ < ((6 : Nat) : Int)) (
      if zI (σ 2 x3_.toNat) ≤ zI x7_ then
      (some (x2_, σ))
      else (    gd (0 ≤ x6_ ∧ x6_ < ((294 : Nat) : Int)) (
      if zI (σ 16 x6_.toNat) = zI 0 then
      (    bL1 (f_X12_beginsRule n x3_ x7_ x4_ x5_ σ) (fun (y7 : Int) (σ6 : Mem) =>
      gd (y7 = 0 ∨ y7 = 1) (
      nm (st σ6 16 x6_.toNat y7) (fun (σ9 : Mem) =>
      bV (
      if zI x2_ = zI 0 then
      (if zI (σ9 16 x6_.toNat) = zI 0 then
      (some 1)
      else (some 0))
      else (some 0)) (fun (t10 : Nat) =>
      if t10 = 0 then
      (    nm (x7_ + 1) (fun (x13 : Int) =>
      f_X12_first_L100 n x1_ x3_ x4_ x5_ x6_ k 1 x13 σ9))
      else (    nm (x7_ + 1) (fun (x14 : Int) =>
      f_X12_first_L100 n x1_ x3_ x4_ x5_ x6_ k 0 x14 σ9)))))))
      else (some (x2_, σ)))))
def f_X12_first_L73 (n : Nat) (x1_ : Int) (x3_ : Int) (x4_ : Int) : Nat → Int → Int → Mem → Option (Int × Mem)
  | 0, _, _, _ => none
  | k + 1, x2_, x5_, σ =>
      if zI (σ 0 12) < zI x5_ then
      (some (x2_, σ))
      else (    nm (((49 * x3_) + (7 * x4_)) + x5_) (fun (x2 : Int) =>
      bL1 (f_X12_first_L100 n x1_ x3_ x4_ x5_ x2 n x2_ 0 σ) (fun (x3 : Int) (σ4 : Mem) =>
      nm (x5_ + 1) (fun (x5 : Int) =>
      f_X12_first_L73 n x1_ x3_ x4_ k x3 x5 σ4))))
def f_X12_first_L60 (n : Nat) (x1_ : Int) (x3_ : Int) : Nat → Int → Int → Mem → Option (Int × Mem)
  | 0, _, _, _ => none
  | k + 1, x2_, x4_, σ =>
      if zI (σ 0 12) < zI x4_ then
      (some (x2_, σ))
      else (bL1 (f_X12_first_L73 n x1_ x3_ x4_ n x2_ x4_ σ) (fun (x2 : Int) (σ3 : Mem) =>
      nm (x4_ + 1) (fun (x4 : Int) =>
      f_X12_first_L60 n x1_ x3_ k x2 x4 σ3)))
def f_X12_first_L51 (n : Nat) (x1_ : Int) : Nat → Int → Int → Mem → Option (Int × Mem)
  | 0, _, _, _ => none
  | k + 1, x2_, x3_, σ =>
      if zI 6 ≤ zI x3_ then
      (some (x2_, σ))
      else (bL1 (f_X12_first_L60 n x1_ x3_ n x2_ 0 σ) (fun (x2 : Int) (σ3 : Mem) =>
      nm (x3_ + 1) (fun (x4 : Int) =>
      f_X12_first_L51 n x1_ k x2 x4 σ3)))
def f_X12_first_L43 (n : Nat) (x1_ : Int) : Nat → Int → Mem → Option (Mem)
  | 0, _, _ => none
  | k + 1, x2_, σ =>
      if zI x2_ = zI 0 then
      (some σ)
      else (bL1 (f_X12_first_L51 n x1_ n 0 0 σ) (fun (x2 : Int) (σ3 : Mem) =>
      f_X12_first_L43 n x1_ k x2 σ3))
def f_X12_first_L188 (n : Nat) (x1_ : Int) (σ : Mem) : Nat → Int → Option (Nat × Int)
  | 0, _ => none
  | k + 1, x3_ =>
      if zI (σ 0 6) < zI x3_ then
      (some (1, 0))
      else (    gd (0 ≤ ((49 * x1_) + x3_) ∧ ((49 * x1_) + x3_) < ((294 : Nat) : Int)) (
      if zI (σ 16 ((49 * x1_) + x3_).toNat) = zI 0 then
      (some (0, x3_))
      else (    nm (x3_ + 1) (fun (x4 : Int) =>
      f_X12_first_L188 n x1_ σ k x4))))
def f_X12_first (n : Nat) (a0 : Int) (σ : Mem) : Option (Int × Mem) :=
      bV (f_X12_isName a0) (fun (y2 : Int) =>
      if zI y2 = zI 0 then
      (some ((-1), σ))
      else (    bV (f_X12_take n ((-6)) σ) (fun (σ5 : Mem) =>
      bV (f_X12_layMends n σ5) (fun (σ7 : Mem) =>
      bV (f_X12_first_L21 n a0 n 0 σ7) (fun (σ8 : Mem) =>
      bV (f_X12_first_L43 n a0 n 1 σ8) (fun (σ9 : Mem) =>
      bL1 (f_X12_first_L188 n a0 σ9 n 0) (fun (t10 : Nat) (x11 : Int) =>
      if t10 = 0 then
      (some (x11, σ9))
      else (some ((-6), σ9)))))))))
def f_X12_forget (n : Nat) (σ : Mem) : Option (Int × Mem) :=
      nm (σ 0 8) (fun (x1 : Int) =>
      nm (st σ 0 8 0) (fun (σ2 : Mem) =>
      bV (f_X12_turn n σ2) (fun (σ4 : Mem) =>
      some (x1, σ4))))
def f_X12_grammar_L12 (n : Nat) : Nat → Int → Mem → Option (Mem)
  | 0, _, _ => none
  | k + 1, x1_, σ =>
      if zI 6 ≤ zI x1_ then
      (some σ)
      else (    gd (0 ≤ x1_ ∧ x1_ < ((6 : Nat) : Int)) (
      nm (st σ 2 x1_.toNat 0) (fun (σ3 : Mem) =>
      nm (x1_ + 1) (fun (x4 : Int) =>
      f_X12_grammar_L12 n k x4 σ3))))
def f_X12_grammar_L100 (n : Nat) (x1_ : Int) (x3_ : Int) (x5_ : Int) : Nat → Int → Mem → Option (Int × Mem)
  | 0, _, _ => none
  | k + 1, x2_, σ =>
      if zI (σ 0 0) ≤ zI x2_ then
      (some (x2_, σ))
      else (    gd (0 ≤ x2_ ∧ x2_ < ((60 : Nat) : Int)) (
      if zI (σ 1 x2_.toNat) = zI 124 then
      (some (x2_, σ))
      else (if zI (σ 1 x2_.toNat) = zI 59 then
      (some (x2_, σ))
      else (bV (
      if zI (σ 1 x2_.toNat) = zI 95 then
      (some σ)
      else (    gd (0 ≤ x5_ ∧ x5_ < ((30 : Nat) : Int)) (
      bV (f_X12_in (σ 1 x2_.toNat) 97 100) (fun (y9 : Int) =>
      bV (
      if zI y9 = zI 0 then
      (some ((10 + (σ 1 x2_.toNat)) - 65))
      else (some ((σ 1 x2_.toNat) - 97))) (fun (v10 : Int) =>
      gd (0 ≤ ((4 * x5_) + (σ 3 x5_.toNat)) ∧ ((4 * x5_) + (σ 3 x5_.toNat)) < ((120 : Nat) : Int)) (
      nm (st σ 4 ((4 * x5_) + (σ 3 x5_.toNat)).toNat v10) (fun (σ13 : Mem) =>
      nm (st σ13 3 x5_.toNat ((σ13 3 x5_.toNat) + 1)) (fun (σ14 : Mem) =>
      some σ14)))))))) (fun (σ5 : Mem) =>
      nm (x2_ + 1) (fun (x15 : Int) =>
      f_X12_grammar_L100 n x1_ x3_ x5_ k x15 σ5))))))
def f_X12_grammar_L75 (n : Nat) (x1_ : Int) (x3_ : Int) : Nat → Int → Int → Mem → Option (Int × Mem)
  | 0, _, _, _ => none
  | k + 1, x2_, x4_, σ =>
      if zI x4_ = zI 0 then
      (some (x2_, σ))
      else (    gd (0 ≤ x3_ ∧ x3_ < ((6 : Nat) : Int)) (
      nm ((5 * x3_) + (σ 2 x3_.toNat)) (fun (x3 : Int) =>
      gd (0 ≤ x3 ∧ x3 < ((30 : Nat) : Int)) (
      nm (st σ 3 x3.toNat 0) (fun (σ5 : Mem) =>
      bL1 (f_X12_grammar_L100 n x1_ x3_ x3 n x2_ σ5) (fun (x6 : Int) (σ7 : Mem) =>
      nm (st σ7 2 x3_.toNat ((σ7 2 x3_.toNat) + 1)) (fun (σ8 : Mem) =>
      bV (
      if zI (σ8 0 0) ≤ zI x6 then
      (some 0)
      else (    gd (0 ≤ x6 ∧ x6 < ((60 : Nat) : Int)) (
      if zI (σ8 1 x6.toNat) = zI 124 then
      (some 1)
      else (some 0)))) (fun (t9 : Nat) =>
      if t9 = 0 then
      (    nm (x6 + 1) (fun (x13 : Int) =>
      f_X12_grammar_L75 n x1_ x3_ k x13 0 σ8))
      else (    nm (x6 + 1) (fun (x14 : Int) =>
      f_X12_grammar_L75 n x1_ x3_ k x14 1 σ8))))))))))
def f_X12_grammar_L48 (n : Nat) : Nat → Int → Int → Mem → Option (Int × Mem)
  | 0, _, _, _ => none
  | k + 1, x1_, x2_, σ =>
      if zI (σ 0 0) ≤ zI x2_ then
      (some (x1_, σ))
      else (    gd (0 ≤ x2_ ∧ x2_ < ((60 : Nat) : Int)) (
      nm ((σ 1 x2_.toNat) - 65) (fun (x3 : Int) =>
      nm (x1_ + 1) (fun (x4 : Int) =>
      nm (x2_ + 2) (fun (x5 : Int) =>
      bL1 (f_X12_grammar_L75 n x4 x3 n x5 1 σ) (fun (x6 : Int) (σ7 : Mem) =>
      f_X12_grammar_L48 n k x4 x6 σ7))))))
def f_X12_grammar (n : Nat) (σ : Mem) : Option (Int × Mem) :=
      bV (f_X12_faultOf n σ) (fun (y2 : Int) =>
      if zI y2 < zI 0 then
      (bV (f_X12_grammar_L12 n n 0 σ) (fun (σ4 : Mem) =>
      gd (0 ≤ (0 : Int) ∧ (0 : Int) < ((60 : Nat) : Int)) (
      nm (st σ4 0 5 ((σ4 1 (0 : Int).toNat) - 65)) (fun (σ6 : Mem) =>
      bL1 (f_X12_grammar_L48 n n 0 0 σ6) (fun (x7 : Int) (σ8 : Mem) =>
      nm (st σ8 0 0 0) (fun (σ9 : Mem) =>
      bV (f_X12_turn n σ9) (fun (σ11 : Mem) =>
      some (x7, σ11))))))))
      else (some ((-5), σ)))
def f_X12_is (n : Nat) (a0 : Int) (σ : Mem) : Option (Int × Mem) :=
      bV (f_X12_isName a0) (fun (y2 : Int) =>
      if zI y2 = zI 0 then
      (some ((-1), σ))
      else (    bV (f_X12_take n ((-6)) σ) (fun (σ5 : Mem) =>
      bV (f_X12_layMends n σ5) (fun (σ7 : Mem) =>
      gd (0 ≤ ((49 * a0) + (σ7 0 6)) ∧ ((49 * a0) + (σ7 0 6)) < ((294 : Nat) : Int)) (
      if zI (σ7 10 ((49 * a0) + (σ7 0 6)).toNat) = zI 0 then
      (some (1, σ7))
      else (some (0, σ7)))))))
def f_X12_isExample (a0 : Int) (σ : Mem) : Option Int :=
      bV (f_X12_in a0 0 ((σ 0 8) - 1)) (fun (y2 : Int) =>
      gd (y2 = 0 ∨ y2 = 1) (some y2))
def f_X12_layText (n : Nat) (σ : Mem) : Option (Int × Mem) :=
      bV (f_X12_take n ((-6)) σ) (fun (σ2 : Mem) =>
      bV (f_X12_layMends n σ2) (fun (σ4 : Mem) =>
      nm ((49 * (σ4 0 5)) + (σ4 0 6)) (fun (x5 : Int) =>
      gd (0 ≤ x5 ∧ x5 < ((294 : Nat) : Int)) (
      if zI (σ4 10 x5.toNat) < zI 100000000 then
      (if zI (σ4 11 x5.toNat) ≤ zI 12 then
      (some (0, σ4))
      else (some ((-3), σ4)))
      else (some ((-5), σ4))))))
def f_X12_pairCost (a0 : Int) (a1 : Int) (σ : Mem) : Option Int :=
      gd (0 ≤ a0 ∧ a0 < ((6 : Nat) : Int)) (
      gd (0 ≤ a1 ∧ a1 < ((12 : Nat) : Int)) (
      if zI (σ 9 a0.toNat) = zI (σ 18 a1.toNat) then
      (some 0)
      else (    gd (0 ≤ (2 : Int) ∧ (2 : Int) < ((3 : Nat) : Int)) (
      some (σ 8 (2 : Int).toNat)))))
def f_X12_layRows_L2 (n : Nat) : Nat → Int → Mem → Option (Mem)
  | 0, _, _ => none
  | k + 1, x1_, σ =>
      if zI 91 ≤ zI x1_ then
      (some σ)
      else (    gd (0 ≤ x1_ ∧ x1_ < ((91 : Nat) : Int)) (
      nm (st σ 19 x1_.toNat 100000000) (fun (σ3 : Mem) =>
      nm (st σ3 20 x1_.toNat 100000000) (fun (σ4 : Mem) =>
      nm (st σ4 21 x1_.toNat 0) (fun (σ5 : Mem) =>
      nm (st σ5 22 x1_.toNat 0) (fun (σ6 : Mem) =>
      nm (x1_ + 1) (fun (x7 : Int) =>
      f_X12_layRows_L2 n k x7 σ6)))))))
def f_X12_layRows_L56 (n : Nat) (x1_ : Int) : Nat → Int → Mem → Option (Mem)
  | 0, _, _ => none
  | k + 1, x2_, σ =>
      if zI (σ 0 25) < zI x2_ then
      (some σ)
      else (    nm ((13 * x1_) + x2_) (fun (x2 : Int) =>
      bV (
      if zI x2 = zI 0 then
      (    gd (0 ≤ x2 ∧ x2 < ((91 : Nat) : Int)) (
      nm (st σ 19 x2.toNat 0) (fun (σ6 : Mem) =>
      nm (st σ6 21 x2.toNat 1) (fun (σ7 : Mem) =>
      some σ7))))
      else (some σ)) (fun (σ3 : Mem) =>
      bV (
      if zI x1_ ≤ zI 0 then
      (some σ3)
      else (    gd (0 ≤ (0 : Int) ∧ (0 : Int) < ((3 : Nat) : Int)) (
      bV (f_X12_addAhead x2 (x2 - 13) (σ3 8 (0 : Int).toNat) σ3) (fun (σ12 : Mem) =>
      some σ12)))) (fun (σ8 : Mem) =>
      bV (
      if zI x2_ ≤ zI 0 then
      (some σ8)
      else (    gd (0 ≤ (1 : Int) ∧ (1 : Int) < ((3 : Nat) : Int)) (
      bV (f_X12_addAhead x2 (x2 - 1) (σ8 8 (1 : Int).toNat) σ8) (fun (σ17 : Mem) =>
      some σ17)))) (fun (σ13 : Mem) =>
      bV (
      if zI x1_ ≤ zI 0 then
      (some σ13)
      else (if zI x2_ ≤ zI 0 then
      (some σ13)
      else (    bV (f_X12_pairCost (x1_ - 1) (x2_ - 1) σ13) (fun (y22 : Int) =>
      bV (f_X12_addAhead x2 (x2 - 14) y22 σ13) (fun (σ24 : Mem) =>
      some σ24))))) (fun (σ18 : Mem) =>
      nm (x2_ + 1) (fun (x25 : Int) =>
      f_X12_layRows_L56 n x1_ k x25 σ18)))))))
def f_X12_layRows_L46 (n : Nat) : Nat → Int → Mem → Option (Mem)
  | 0, _, _ => none
  | k + 1, x1_, σ =>
      if zI (σ 0 12) < zI x1_ then
      (some σ)
      else (bV (f_X12_layRows_L56 n x1_ n 0 σ) (fun (σ2 : Mem) =>
      nm (x1_ + 1) (fun (x3 : Int) =>
      f_X12_layRows_L46 n k x3 σ2)))
def f_X12_layRows_L179 (n : Nat) (x1_ : Int) : Nat → Int → Mem → Option (Mem)
  | 0, _, _ => none
  | k + 1, x2_, σ =>
      if zI x2_ < zI 0 then
      (some σ)
      else (    nm ((13 * x1_) + x2_) (fun (x2 : Int) =>
      bV (
      if zI x1_ = zI (σ 0 12) then
      (if zI x2_ = zI (σ 0 25) then
      (    gd (0 ≤ x2 ∧ x2 < ((91 : Nat) : Int)) (
      nm (st σ 20 x2.toNat 0) (fun (σ7 : Mem) =>
      nm (st σ7 22 x2.toNat 1) (fun (σ8 : Mem) =>
      some σ8))))
      else (some σ))
      else (some σ)) (fun (σ3 : Mem) =>
      bV (
      if zI (σ3 0 12) ≤ zI x1_ then
      (some σ3)
      else (    gd (0 ≤ (0 : Int) ∧ (0 : Int) < ((3 : Nat) : Int)) (
      bV (f_X12_addBehind x2 (x2 + 13) (σ3 8 (0 : Int).toNat) σ3) (fun (σ13 : Mem) =>
      some σ13)))) (fun (σ9 : Mem) =>
      bV (
      if zI (σ9 0 25) ≤ zI x2_ then
      (some σ9)
      else (    gd (0 ≤ (1 : Int) ∧ (1 : Int) < ((3 : Nat) : Int)) (
      bV (f_X12_addBehind x2 (x2 + 1) (σ9 8 (1 : Int).toNat) σ9) (fun (σ18 : Mem) =>
      some σ18)))) (fun (σ14 : Mem) =>
      bV (
      if zI (σ14 0 12) ≤ zI x1_ then
      (some σ14)
      else (if zI (σ14 0 25) ≤ zI x2_ then
      (some σ14)
      else (    bV (f_X12_pairCost x1_ x2_ σ14) (fun (y23 : Int) =>
      bV (f_X12_addBehind x2 (x2 + 14) y23 σ14) (fun (σ25 : Mem) =>
      some σ25))))) (fun (σ19 : Mem) =>
      nm (x2_ + (-1)) (fun (x26 : Int) =>
      f_X12_layRows_L179 n x1_ k x26 σ19)))))))
def f_X12_layRows_L170 (n : Nat) : Nat → Int → Mem → Option (Mem)
  | 0, _, _ => none
  | k + 1, x1_, σ =>
      if zI x1_ < zI 0 then
      (some σ)
      else (    nm (σ 0 25) (fun (x2 : Int) =>
      bV (f_X12_layRows_L179 n x1_ n x2 σ) (fun (σ3 : Mem) =>
      nm (x1_ + (-1)) (fun (x4 : Int) =>
      f_X12_layRows_L170 n k x4 σ3))))
def f_X12_layRows (n : Nat) (σ : Mem) : Option Mem :=
      bV (f_X12_layRows_L2 n n 0 σ) (fun (σ1 : Mem) =>
      bV (f_X12_layRows_L46 n n 0 σ1) (fun (σ2 : Mem) =>
      nm (σ2 0 12) (fun (x3 : Int) =>
      bV (f_X12_layRows_L170 n n x3 σ2) (fun (σ4 : Mem) =>
      some σ4))))
def f_X12_layTextRows_L25 (n : Nat) (x1_ : Int) : Nat → Int → Mem → Option (Mem)
  | 0, _, _ => none
  | k + 1, x2_, σ =>
      if zI (σ 0 25) ≤ zI x2_ then
      (some σ)
      else (    gd (0 ≤ x1_ ∧ x1_ < ((294 : Nat) : Int)) (
      gd (0 ≤ x2_ ∧ x2_ < ((12 : Nat) : Int)) (
      nm (st σ 18 x2_.toNat (iAnd (iShr (σ 12 x1_.toNat) (2 * (((σ 0 25) - 1) - x2_))) 3)) (fun (σ4 : Mem) =>
      nm (x2_ + 1) (fun (x5 : Int) =>
      f_X12_layTextRows_L25 n x1_ k x5 σ4)))))
def f_X12_layTextRows (n : Nat) (σ : Mem) : Option Mem :=
      nm ((49 * (σ 0 5)) + (σ 0 6)) (fun (x1 : Int) =>
      gd (0 ≤ x1 ∧ x1 < ((294 : Nat) : Int)) (
      nm (st σ 0 25 (σ 11 x1.toNat)) (fun (σ3 : Mem) =>
      bV (f_X12_layTextRows_L25 n x1 n 0 σ3) (fun (σ4 : Mem) =>
      bV (f_X12_layRows n σ4) (fun (σ6 : Mem) =>
      some σ6)))))
def f_X12_kept_L37 (n : Nat) (x1_ : Int) (σ : Mem) : Nat → Int → Int → Option (Int)
  | 0, _, _ => none
  | k + 1, x3_, x5_ =>
      if zI (σ 0 25) ≤ zI x5_ then
      (some x3_)
      else (    nm ((13 * x1_) + x5_) (fun (x2 : Int) =>
      gd (0 ≤ x1_ ∧ x1_ < ((6 : Nat) : Int)) (
      gd (0 ≤ x5_ ∧ x5_ < ((12 : Nat) : Int)) (
      bV (
      if zI (σ 9 x1_.toNat) = zI (σ 18 x5_.toNat) then
      (    gd (0 ≤ x2 ∧ x2 < ((91 : Nat) : Int)) (
      gd (0 ≤ (x2 + 14) ∧ (x2 + 14) < ((91 : Nat) : Int)) (
      gd (0 ≤ (0 : Int) ∧ (0 : Int) < ((91 : Nat) : Int)) (
      if zI ((σ 19 x2.toNat) + (σ 20 (x2 + 14).toNat)) = zI (σ 20 (0 : Int).toNat) then
      (some 1)
      else (some 0)))))
      else (some 0)) (fun (t5 : Nat) =>
      if t5 = 0 then
      (bV (
      if zI 0 = zI 0 then
      (some 0)
      else (    gd (0 ≤ x2 ∧ x2 < ((91 : Nat) : Int)) (
      gd (0 ≤ (x2 + 14) ∧ (x2 + 14) < ((91 : Nat) : Int)) (
      some ((σ 21 x2.toNat) * (σ 22 (x2 + 14).toNat)))))) (fun (v11 : Int) =>
      nm (x3_ + v11) (fun (x15 : Int) =>
      nm (x5_ + 1) (fun (x16 : Int) =>
      f_X12_kept_L37 n x1_ σ k x15 x16))))
      else (bV (
      if zI 1 = zI 0 then
      (some 0)
      else (    gd (0 ≤ x2 ∧ x2 < ((91 : Nat) : Int)) (
      gd (0 ≤ (x2 + 14) ∧ (x2 + 14) < ((91 : Nat) : Int)) (
      some ((σ 21 x2.toNat) * (σ 22 (x2 + 14).toNat)))))) (fun (v17 : Int) =>
      nm (x3_ + v17) (fun (x21 : Int) =>
      nm (x5_ + 1) (fun (x22 : Int) =>
      f_X12_kept_L37 n x1_ σ k x21 x22)))))))))
def f_X12_kept (n : Nat) (a0 : Int) (σ : Mem) : Option (Int × Mem) :=
      bV (f_X12_in a0 0 ((σ 0 6) - 1)) (fun (y2 : Int) =>
      if zI y2 = zI 0 then
      (some ((-2), σ))
      else (    bL1 (f_X12_layText n σ) (fun (y6 : Int) (σ5 : Mem) =>
      if zI 0 ≤ zI y6 then
      (    bV (f_X12_layTextRows n σ5) (fun (σ9 : Mem) =>
      bV (f_X12_kept_L37 n a0 σ9 n 0 0) (fun (x10 : Int) =>
      if zI (lCmp x10 0) = zI 0 then
      (some (0, σ9))
      else (    gd (0 ≤ (0 : Int) ∧ (0 : Int) < ((91 : Nat) : Int)) (
      if zI (lCmp x10 (σ9 22 (0 : Int).toNat)) = zI 0 then
      (some (2, σ9))
      else (some (1, σ9)))))))
      else (some (y6, σ5)))))
def f_X12_totalOf_L4 (n : Nat) : Nat → Int → Int → Mem → Option (Int × Mem)
  | 0, _, _, _ => none
  | k + 1, x1_, x2_, σ =>
      if zI (σ 0 8) ≤ zI x2_ then
      (some (x1_, σ))
      else (    bV (f_X12_take n x2_ σ) (fun (σ3 : Mem) =>
      bV (f_X12_layMends n σ3) (fun (σ5 : Mem) =>
      gd (0 ≤ ((49 * (σ5 0 5)) + (σ5 0 12)) ∧ ((49 * (σ5 0 5)) + (σ5 0 12)) < ((294 : Nat) : Int)) (
      nm (σ5 10 ((49 * (σ5 0 5)) + (σ5 0 12)).toNat) (fun (x7 : Int) =>
      bV (
      if zI 100000000 ≤ zI x7 then
      (some 0)
      else (if zI x1_ < zI 100000000 then
      (some 1)
      else (some 0))) (fun (t8 : Nat) =>
      if t8 = 0 then
      (    nm (x2_ + 1) (fun (x11 : Int) =>
      f_X12_totalOf_L4 n k 100000000 x11 σ5))
      else (    nm (x1_ + x7) (fun (x12 : Int) =>
      nm (x2_ + 1) (fun (x13 : Int) =>
      f_X12_totalOf_L4 n k x12 x13 σ5)))))))))
def f_X12_totalOf (n : Nat) (σ : Mem) : Option (Int × Mem) :=
      bL1 (f_X12_totalOf_L4 n n 0 0 σ) (fun (x1 : Int) (σ2 : Mem) =>
      some (x1, σ2))
def f_X12_layMore_L38 (n : Nat) (x1_ : Int) (x2_ : Int) : Nat → Int → Int → Int → Int → Int → Mem → Option (Int × Int × Int × Int × Mem)
  | 0, _, _, _, _, _, _ => none
  | k + 1, x3_, x4_, x5_, x6_, x7_, σ =>
      if zI 27 ≤ zI x7_ then
      (some (x3_, x4_, x5_, x6_, σ))
      else (bV (
      if zI x7_ = zI 0 then
      (some 0)
      else (if zI 11 ≤ zI x7_ then
      (some 2)
      else (some 1))) (fun (v2 : Int) =>
      gd (0 ≤ x2_ ∧ x2_ < ((30 : Nat) : Int)) (
      nm (st σ 3 x2_.toNat v2) (fun (σ6 : Mem) =>
      bV (
      if zI 5 ≤ zI x7_ then
      (if zI 11 ≤ zI x7_ then
      (some (iDiv (x7_ - 11) 4))
      else (some ((10 + x7_) - 5)))
      else (some (x7_ - 1))) (fun (v7 : Int) =>
      gd (0 ≤ (4 * x2_) ∧ (4 * x2_) < ((120 : Nat) : Int)) (
      nm (st σ6 4 (4 * x2_).toNat v7) (fun (σ11 : Mem) =>
      gd (0 ≤ ((4 * x2_) + 1) ∧ ((4 * x2_) + 1) < ((120 : Nat) : Int)) (
      nm (st σ11 4 ((4 * x2_) + 1).toNat (iRem (x7_ + 1) 4)) (fun (σ13 : Mem) =>
      bL1 (f_X12_totalOf n σ13) (fun (y16 : Int) (σ15 : Mem) =>
      bL3 (
      if zI x3_ ≤ zI y16 then
      (some (x3_, x4_, x5_, x6_))
      else (    nm (σ15 3 x2_.toNat) (fun (x22 : Int) =>
      bV (
      if zI x22 ≤ zI 0 then
      (some ((-6)))
      else (some (σ15 4 (4 * x2_).toNat))) (fun (v23 : Int) =>
      bV (
      if zI x22 ≤ zI 1 then
      (some ((-6)))
      else (some (σ15 4 ((4 * x2_) + 1).toNat))) (fun (v25 : Int) =>
      some (y16, x22, v23, v25)))))) (fun (x17 : Int) (x18 : Int) (x19 : Int) (x20 : Int) =>
      nm (x7_ + 1) (fun (x27 : Int) =>
      f_X12_layMore_L38 n x1_ x2_ k x17 x18 x19 x20 x27 σ15))))))))))))
def f_X12_layMore (n : Nat) (a0 : Int) (σ : Mem) : Option Mem :=
      gd (0 ≤ a0 ∧ a0 < ((6 : Nat) : Int)) (
      nm ((5 * a0) + (σ 2 a0.toNat)) (fun (x2 : Int) =>
      nm ((-6)) (fun (x3 : Int) =>
      nm ((-6)) (fun (x4 : Int) =>
      nm (st σ 2 a0.toNat ((σ 2 a0.toNat) + 1)) (fun (σ5 : Mem) =>
      bL4 (f_X12_layMore_L38 n a0 x2 n 100000000 0 x3 x4 0 σ5) (fun (x6 : Int) (x7 : Int) (x8 : Int) (x9 : Int) (σ10 : Mem) =>
      nm (st σ10 2 a0.toNat ((σ10 2 a0.toNat) - 1)) (fun (σ11 : Mem) =>
      nm (st σ11 23 a0.toNat 1) (fun (σ12 : Mem) =>
      nm (st σ12 24 a0.toNat x6) (fun (σ13 : Mem) =>
      nm (st σ13 25 a0.toNat x7) (fun (σ14 : Mem) =>
      nm (st σ14 26 a0.toNat x8) (fun (σ15 : Mem) =>
      nm (st σ15 27 a0.toNat x9) (fun (σ16 : Mem) =>
      some σ16))))))))))))
def f_X12_least (n : Nat) (a0 : Int) (a1 : Int) (σ : Mem) : Option (Int × Mem) :=
      bV (f_X12_isName a0) (fun (y2 : Int) =>
      if zI y2 = zI 0 then
      (some ((-1), σ))
      else (    nm (st σ 0 12 0) (fun (σ4 : Mem) =>
      bV (f_X12_layMends n σ4) (fun (σ6 : Mem) =>
      gd (0 ≤ (49 * a0) ∧ (49 * a0) < ((294 : Nat) : Int)) (
      nm (σ6 11 (49 * a0).toNat) (fun (x8 : Int) =>
      if zI 100000000 ≤ zI (σ6 10 (49 * a0).toNat) then
      (some ((-6), σ6))
      else (if zI x8 ≤ zI 12 then
      (if zI a1 = zI ((-1)) then
      (some (x8, σ6))
      else (    bV (f_X12_in a1 0 (x8 - 1)) (fun (y13 : Int) =>
      if zI y13 = zI 0 then
      (some ((-6), σ6))
      else (some (iAnd (iShr (σ6 12 (49 * a0).toNat) (2 * ((x8 - 1) - a1))) 3, σ6)))))
      else (some ((-6), σ6)))))))))
def f_X12_mend (n : Nat) (a0 : Int) (a1 : Int) (a2 : Int) (σ : Mem) : Option (Int × Mem) :=
      bV (f_X12_isName a0) (fun (y2 : Int) =>
      if zI y2 = zI 0 then
      (some ((-1), σ))
      else (if zI a1 < zI 0 then
      (some ((-2), σ))
      else (if zI a2 < zI a1 then
      (some ((-2), σ))
      else (if zI a2 ≤ zI (σ 0 6) then
      (    bV (f_X12_take n ((-6)) σ) (fun (σ8 : Mem) =>
      bV (f_X12_layMends n σ8) (fun (σ10 : Mem) =>
      gd (0 ≤ (((49 * a0) + (7 * a1)) + a2) ∧ (((49 * a0) + (7 * a1)) + a2) < ((294 : Nat) : Int)) (
      nm (σ10 10 (((49 * a0) + (7 * a1)) + a2).toNat) (fun (x12 : Int) =>
      if zI x12 < zI 100000000 then
      (some (x12, σ10))
      else (some ((-5), σ10)))))))
      else (some ((-2), σ))))))
def f_X12_more (n : Nat) (a0 : Int) (a1 : Int) (σ : Mem) : Option (Int × Mem) :=
      bV (f_X12_isName a0) (fun (y2 : Int) =>
      if zI y2 = zI 0 then
      (some ((-1), σ))
      else (    bV (f_X12_in a1 0 3) (fun (y5 : Int) =>
      if zI y5 = zI 0 then
      (some ((-2), σ))
      else (if zI (σ 0 8) = zI 0 then
      (some ((-3), σ))
      else (    gd (0 ≤ a0 ∧ a0 < ((6 : Nat) : Int)) (
      bV (
      if zI (σ 23 a0.toNat) = zI 0 then
      (    bV (f_X12_layMore n a0 σ) (fun (σ12 : Mem) =>
      some σ12))
      else (some σ)) (fun (σ9 : Mem) =>
      nm (σ9 24 a0.toNat) (fun (x13 : Int) =>
      if zI x13 < zI 100000000 then
      (if zI a1 = zI 0 then
      (some (x13, σ9))
      else (if zI a1 = zI 1 then
      (some (σ9 25 a0.toNat, σ9))
      else (if zI a1 = zI 2 then
      (some (σ9 26 a0.toNat, σ9))
      else (some (σ9 27 a0.toNat, σ9)))))
      else (some ((-5), σ9))))))))))
def f_X12_near_L35 (n : Nat) (x2_ : Int) : Nat → Int → Mem → Option (Mem)
  | 0, _, _ => none
  | k + 1, x3_, σ =>
      if zI (σ 0 25) ≤ zI x3_ then
      (some σ)
      else (    gd (0 ≤ ((6 * x2_) + x3_) ∧ ((6 * x2_) + x3_) < ((18 : Nat) : Int)) (
      gd (0 ≤ x3_ ∧ x3_ < ((12 : Nat) : Int)) (
      nm (st σ 18 x3_.toNat (σ 7 ((6 * x2_) + x3_).toNat)) (fun (σ4 : Mem) =>
      nm (x3_ + 1) (fun (x5 : Int) =>
      f_X12_near_L35 n x2_ k x5 σ4)))))
def f_X12_near (n : Nat) (a0 : Int) (a1 : Int) (σ : Mem) : Option (Int × Mem) :=
      bV (f_X12_isExample a0 σ) (fun (y2 : Int) =>
      if zI y2 = zI 0 then
      (some ((-1), σ))
      else (    bV (f_X12_isExample a1 σ) (fun (y5 : Int) =>
      if zI y5 = zI 0 then
      (some ((-1), σ))
      else (    bV (f_X12_take n a0 σ) (fun (σ8 : Mem) =>
      gd (0 ≤ a1 ∧ a1 < ((3 : Nat) : Int)) (
      nm (st σ8 0 25 (σ8 6 a1.toNat)) (fun (σ10 : Mem) =>
      bV (f_X12_near_L35 n a1 n 0 σ10) (fun (σ11 : Mem) =>
      bV (f_X12_layRows n σ11) (fun (σ13 : Mem) =>
      gd (0 ≤ (0 : Int) ∧ (0 : Int) < ((91 : Nat) : Int)) (
      some (σ13 20 (0 : Int).toNat, σ13)))))))))))
def f_X12_nothing_L13 (n : Nat) (σ : Mem) : Nat → Int → Int → Option (Int)
  | 0, _, _ => none
  | k + 1, x1_, x2_ =>
      if zI 6 ≤ zI x2_ then
      (some x1_)
      else (    gd (0 ≤ (49 * x2_) ∧ (49 * x2_) < ((294 : Nat) : Int)) (
      bV (
      if zI (σ 10 (49 * x2_).toNat) < zI 100000000 then
      (some 0)
      else (some (iShl 1 x2_))) (fun (v3 : Int) =>
      nm (iOr x1_ v3) (fun (x5 : Int) =>
      nm (x2_ + 1) (fun (x6 : Int) =>
      f_X12_nothing_L13 n σ k x5 x6)))))
def f_X12_nothing (n : Nat) (σ : Mem) : Option (Int × Mem) :=
      nm (st σ 0 12 0) (fun (σ1 : Mem) =>
      bV (f_X12_layMends n σ1) (fun (σ3 : Mem) =>
      bV (f_X12_nothing_L13 n σ3 n 0 0) (fun (x4 : Int) =>
      some (x4, σ3))))
def f_X12_rule (a0 : Int) (a1 : Int) (a2 : Int) (σ : Mem) : Option Int :=
      bV (f_X12_isName a0) (fun (y2 : Int) =>
      if zI y2 = zI 0 then
      (some ((-1)))
      else (    gd (0 ≤ a0 ∧ a0 < ((6 : Nat) : Int)) (
      bV (f_X12_in a1 0 ((σ 2 a0.toNat) - 1)) (fun (y6 : Int) =>
      if zI y6 = zI 0 then
      (some ((-1)))
      else (    nm ((5 * a0) + a1) (fun (x8 : Int) =>
      if zI a2 = zI ((-1)) then
      (    gd (0 ≤ x8 ∧ x8 < ((30 : Nat) : Int)) (
      some (σ 3 x8.toNat)))
      else (    gd (0 ≤ x8 ∧ x8 < ((30 : Nat) : Int)) (
      bV (f_X12_in a2 0 ((σ 3 x8.toNat) - 1)) (fun (y12 : Int) =>
      if zI y12 = zI 0 then
      (some ((-6)))
      else (    gd (0 ≤ ((4 * x8) + a2) ∧ ((4 * x8) + a2) < ((120 : Nat) : Int)) (
      some (σ 4 ((4 * x8) + a2).toNat))))))))))))
def f_X12_say (a0 : Int) (σ : Mem) : Option (Int × Mem) :=
      bV (f_X12_in a0 33 126) (fun (y2 : Int) =>
      if zI y2 = zI 0 then
      (some ((-2), σ))
      else (if zI (σ 0 0) = zI 60 then
      (some ((-4), σ))
      else (    gd (0 ≤ (σ 0 0) ∧ (σ 0 0) < ((60 : Nat) : Int)) (
      nm (st σ 1 (σ 0 0).toNat a0) (fun (σ6 : Mem) =>
      nm (st σ6 0 0 ((σ6 0 0) + 1)) (fun (σ7 : Mem) =>
      some (σ7 0 0, σ7)))))))
def f_X12_text (n : Nat) (a0 : Int) (σ : Mem) : Option (Int × Mem) :=
      bL1 (f_X12_layText n σ) (fun (y3 : Int) (σ2 : Mem) =>
      if zI 0 ≤ zI y3 then
      (    nm ((49 * (σ2 0 5)) + (σ2 0 6)) (fun (x5 : Int) =>
      if zI a0 = zI ((-1)) then
      (    gd (0 ≤ x5 ∧ x5 < ((294 : Nat) : Int)) (
      some (σ2 11 x5.toNat, σ2)))
      else (    gd (0 ≤ x5 ∧ x5 < ((294 : Nat) : Int)) (
      bV (f_X12_in a0 0 ((σ2 11 x5.toNat) - 1)) (fun (y9 : Int) =>
      if zI y9 = zI 0 then
      (some ((-6), σ2))
      else (some (iAnd (iShr (σ2 12 x5.toNat) (2 * (((σ2 11 x5.toNat) - 1) - a0))) 3, σ2)))))))
      else (some (y3, σ2)))
def f_X12_told_L4 (n : Nat) (x1_ : Int) (σ : Mem) : Nat → Int → Int → Option (Int)
  | 0, _, _ => none
  | k + 1, x2_, x3_ =>
      if zI 6 ≤ zI x3_ then
      (some x2_)
      else (    gd (0 ≤ x3_ ∧ x3_ < ((6 : Nat) : Int)) (
      bV (
      if zI (σ 2 x3_.toNat) ≤ zI 0 then
      (some 0)
      else (some (iShl 1 x3_))) (fun (v3 : Int) =>
      nm (iOr x2_ v3) (fun (x5 : Int) =>
      nm (x3_ + 1) (fun (x6 : Int) =>
      f_X12_told_L4 n x1_ σ k x5 x6)))))
def f_X12_told (n : Nat) (a0 : Int) (σ : Mem) : Option Int :=
      bV (f_X12_told_L4 n a0 σ n 0 0) (fun (x1 : Int) =>
      bV (f_X12_in a0 10 15) (fun (y3 : Int) =>
      if zI y3 = zI 0 then
      (if zI a0 = zI 0 then
      (some (σ 0 0))
      else (if zI a0 = zI 1 then
      (some x1)
      else (if zI a0 = zI 2 then
      (some (σ 0 5))
      else (if zI a0 = zI 3 then
      (some (σ 0 6))
      else (if zI a0 = zI 4 then
      (some (σ 0 8))
      else (    bV (f_X12_in a0 5 7) (fun (y11 : Int) =>
      if zI y11 = zI 0 then
      (some ((-2)))
      else (    gd (0 ≤ (a0 - 5) ∧ (a0 - 5) < ((3 : Nat) : Int)) (
      some (σ 8 (a0 - 5).toNat))))))))))
      else (    gd (0 ≤ (a0 - 10) ∧ (a0 - 10) < ((6 : Nat) : Int)) (
      some (σ 2 (a0 - 10).toNat)))))
def f_X12_total (n : Nat) (σ : Mem) : Option (Int × Mem) :=
      bL1 (f_X12_totalOf n σ) (fun (y3 : Int) (σ2 : Mem) =>
      if zI y3 < zI 100000000 then
      (some (y3, σ2))
      else (some ((-5), σ2)))
def f_X12_ways (n : Nat) (σ : Mem) : Option (Int × Mem) :=
      bL1 (f_X12_layText n σ) (fun (y3 : Int) (σ2 : Mem) =>
      if zI 0 ≤ zI y3 then
      (    bV (f_X12_layTextRows n σ2) (fun (σ6 : Mem) =>
      gd (0 ≤ (0 : Int) ∧ (0 : Int) < ((91 : Nat) : Int)) (
      nm (σ6 22 (0 : Int).toNat) (fun (x8 : Int) =>
      if zI (lCmp x8 1000000) ≤ zI 0 then
      (some (l2i x8, σ6))
      else (some (1000000, σ6))))))
      else (some (y3, σ2)))
def f_X12_wipe (σ : Mem) : Option (Int × Mem) :=
      nm (σ 0 0) (fun (x1 : Int) =>
      nm (st σ 0 0 0) (fun (σ2 : Mem) =>
      some (x1, σ2)))
def f_X12_word_L17 (n : Nat) (σ : Mem) : Nat → Int → Int → Option (Int)
  | 0, _, _ => none
  | k + 1, x1_, x2_ =>
      if zI (σ 0 0) ≤ zI x2_ then
      (some x1_)
      else (bV (
      if zI x1_ = zI 0 then
      (some 0)
      else (    gd (0 ≤ x2_ ∧ x2_ < ((60 : Nat) : Int)) (
      bV (f_X12_in (σ 1 x2_.toNat) 97 100) (fun (y6 : Int) =>
      if zI y6 = zI 0 then
      (some 0)
      else (some 1))))) (fun (t2 : Nat) =>
      if t2 = 0 then
      (    nm (x2_ + 1) (fun (x8 : Int) =>
      f_X12_word_L17 n σ k 0 x8))
      else (    nm (x2_ + 1) (fun (x9 : Int) =>
      f_X12_word_L17 n σ k 1 x9))))
def f_X12_word_L74 (n : Nat) : Nat → Int → Mem → Option (Mem)
  | 0, _, _ => none
  | k + 1, x2_, σ =>
      if zI (σ 0 0) ≤ zI x2_ then
      (some σ)
      else (    gd (0 ≤ x2_ ∧ x2_ < ((60 : Nat) : Int)) (
      gd (0 ≤ x2_ ∧ x2_ < ((6 : Nat) : Int)) (
      nm (st σ 5 x2_.toNat ((σ 1 x2_.toNat) - 97)) (fun (σ4 : Mem) =>
      nm (x2_ + 1) (fun (x5 : Int) =>
      f_X12_word_L74 n k x5 σ4)))))
def f_X12_word (n : Nat) (σ : Mem) : Option (Int × Mem) :=
      bV (
      if zI 6 < zI (σ 0 0) then
      (some 0)
      else (some 1)) (fun (v1 : Int) =>
      bV (f_X12_word_L17 n σ n v1 0) (fun (x3 : Int) =>
      if zI x3 = zI 0 then
      (some ((-5), σ))
      else (    nm (st σ 0 6 (σ 0 0)) (fun (σ5 : Mem) =>
      bV (f_X12_word_L74 n n 0 σ5) (fun (σ6 : Mem) =>
      nm (st σ6 0 0 0) (fun (σ7 : Mem) =>
      some (σ7 0 6, σ7)))))))
