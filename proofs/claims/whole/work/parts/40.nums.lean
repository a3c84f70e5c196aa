/-! layer 2, numbers: the machine's operations on small whole numbers (the first rows are pasted from kit/laws) -/
theorem s_l : ∀ n, n < 32 → ((nI n &&& 31).toBitVec.smod 32).toNat = n := by decide +kernel
theorem s_u : ∀ n, n < 32 → (((nI n).toUInt32 &&& Int32.toUInt32 31).toBitVec % 32).toNat = n := by decide +kernel
theorem wb_tb (n : Nat) : (lN n).toBitVec = BitVec.ofNat 64 n := rfl
theorem wb_inj {a b : Int64} (h : a.toBitVec = b.toBitVec) : a = b := Int64.toBitVec_inj.mp h
theorem wb_tn {n : Nat} (h : n < 2 ^ 64) : (lN n).toBitVec.toNat = n := by rw [wb_tb, BitVec.toNat_ofNat, Nat.mod_eq_of_lt h]
theorem wb_c : ∀ k, k < 64 → ((nI k).toInt64 &&& 63) = lN k := by decide +kernel
theorem wb_sm : ∀ k, k < 64 → (BitVec.ofNat 64 k).smod 64 = BitVec.ofNat 64 k := by decide +kernel
theorem wb_lt2 {a b : Nat} (h : a < b) : 2 ^ a < 2 ^ b := Nat.pow_lt_pow_right (by decide) h
theorem wb_shl (n : Nat) {k : Nat} (hk : k < 64) : lN n <<< ((nI k).toInt64 &&& 63) = lN (n * 2 ^ k) := by
  rw [wb_c k hk]
  apply wb_inj
  rw [Int64.toBitVec_shiftLeft, wb_tb, wb_tb, wb_tb, wb_sm k hk]
  apply BitVec.eq_of_toNat_eq
  rw [BitVec.shiftLeft_eq', BitVec.toNat_shiftLeft, BitVec.toNat_ofNat, BitVec.toNat_ofNat, BitVec.toNat_ofNat, Nat.mod_eq_of_lt (show k < 2 ^ 64 by omega), Nat.shiftLeft_eq, Nat.mul_mod, Nat.mod_mod, ← Nat.mul_mod]
theorem wb_and {a b : Nat} (ha : a < 2 ^ 64) (hb : b < 2 ^ 64) : lN a &&& lN b = lN (a &&& b) := by
  apply wb_inj
  rw [Int64.toBitVec_and, wb_tb, wb_tb, wb_tb]
  apply BitVec.eq_of_toNat_eq
  rw [BitVec.toNat_and, BitVec.toNat_ofNat, BitVec.toNat_ofNat, BitVec.toNat_ofNat, Nat.mod_eq_of_lt ha, Nat.mod_eq_of_lt hb, Nat.mod_eq_of_lt (Nat.and_lt_two_pow _ hb)]
theorem wb_or {a b : Nat} (ha : a < 2 ^ 64) (hb : b < 2 ^ 64) : lN a ||| lN b = lN (a ||| b) := by
  apply wb_inj
  rw [Int64.toBitVec_or, wb_tb, wb_tb, wb_tb]
  apply BitVec.eq_of_toNat_eq
  rw [BitVec.toNat_or, BitVec.toNat_ofNat, BitVec.toNat_ofNat, BitVec.toNat_ofNat, Nat.mod_eq_of_lt ha, Nat.mod_eq_of_lt hb, Nat.mod_eq_of_lt (Nat.or_lt_two_pow ha hb)]
theorem wb_mask {n k : Nat} (hn : n < 2 ^ 64) (hk : k < 64) : lN n &&& lN (2 ^ k - 1) = lN (n % 2 ^ k) := by
  rw [wb_and hn (by have := wb_lt2 hk; omega), Nat.and_two_pow_sub_one_eq_mod]
theorem u_tn {n : Nat} (h : n < 2 ^ 64) : (UInt64.ofNat n).toNat = n := Nat.mod_eq_of_lt h
theorem g_or {k p a b : Nat} (hp : 2 ^ k = p) (ha : a < p) (h : b * p + a < 2 ^ 64) : lN (b * p) ||| lN a = lN (b * p + a) := by
  subst hp
  have h1 : b * 2 ^ k ||| a = b * 2 ^ k + a := by rw [← Nat.shiftLeft_eq, Nat.shiftLeft_add_eq_or_of_lt ha]
  have h3 : UInt64.ofNat (b * 2 ^ k) ||| UInt64.ofNat a = UInt64.ofNat (b * 2 ^ k + a) := UInt64.toNat_inj.mp (by rw [UInt64.toNat_or, u_tn (by omega), u_tn (by omega), u_tn h, h1])
  have h2 := congrArg UInt64.toInt64 h3
  exact h2
theorem pf_lI {a : Nat} (h : a < 2 ^ 63) : (lN a).toInt = (a : Int) := lg_ofNat_toInt h
theorem fa_and (a b : Nat) : nI a &&& nI b = nI (a &&& b) := by
  apply Int32.toBitVec_inj.1
  show BitVec.ofNat 32 a &&& BitVec.ofNat 32 b = BitVec.ofNat 32 (a &&& b)
  apply BitVec.eq_of_getLsbD_eq
  intro i hi
  simp [hi]
theorem fa_or (a b : Nat) : nI a ||| nI b = nI (a ||| b) := by
  apply Int32.toBitVec_inj.1
  show BitVec.ofNat 32 a ||| BitVec.ofNat 32 b = BitVec.ofNat 32 (a ||| b)
  apply BitVec.eq_of_getLsbD_eq
  intro i hi
  simp [hi]
theorem zI_n (n : Nat) : zI (n : Int) = nI n := Int32.ofInt_eq_ofNat
theorem zL_n (n : Nat) : zL (n : Int) = lN n := Int64.ofInt_eq_ofNat
theorem zI_ltI {a b : Int} (h1 : -2147483648 ≤ a) (h2 : a < 2147483648) (h3 : -2147483648 ≤ b) (h4 : b < 2147483648) : (zI a < zI b) ↔ a < b := by
  rw [Int32.lt_iff_toInt_lt, zI_to h1 h2, zI_to h3 h4]
theorem zI_leI {a b : Int} (h1 : -2147483648 ≤ a) (h2 : a < 2147483648) (h3 : -2147483648 ≤ b) (h4 : b < 2147483648) : (zI a ≤ zI b) ↔ a ≤ b := by
  rw [Int32.le_iff_toInt_le, zI_to h1 h2, zI_to h3 h4]
theorem zI_eqI {a b : Int} (h1 : -2147483648 ≤ a) (h2 : a < 2147483648) (h3 : -2147483648 ≤ b) (h4 : b < 2147483648) : (zI a = zI b) ↔ a = b := by
  rw [← Int32.toInt_inj, zI_to h1 h2, zI_to h3 h4]
theorem iMax_z {a b : Int} (h1 : -2147483648 ≤ a) (h2 : a < 2147483648) (h3 : -2147483648 ≤ b) (h4 : b < 2147483648) : iMax a b = max a b := by
  unfold iMax
  have e1 := zI_ltI h1 h2 h3 h4
  by_cases q : zI a < zI b
  · rw [if_pos q]; have := e1.mp q; omega
  · rw [if_neg q]; have : ¬ a < b := fun z => q (e1.mpr z)
    omega
theorem iMin_z {a b : Int} (h1 : -2147483648 ≤ a) (h2 : a < 2147483648) (h3 : -2147483648 ≤ b) (h4 : b < 2147483648) : iMin a b = min a b := by
  unfold iMin
  have e1 := zI_ltI h3 h4 h1 h2
  by_cases q : zI b < zI a
  · rw [if_pos q]; have := e1.mp q; omega
  · rw [if_neg q]; have : ¬ b < a := fun z => q (e1.mpr z)
    omega
theorem iAnd_n (a b : Nat) (h : a < 2147483648) : iAnd (a : Int) (b : Int) = ((a &&& b : Nat) : Int) := by
  unfold iAnd
  rw [zI_n, zI_n, fa_and, nI_toInt (Nat.lt_of_le_of_lt Nat.and_le_left h)]
theorem iOr_n (a b : Nat) (h : a < 2147483648) (h2 : b < 2147483648) : iOr (a : Int) (b : Int) = ((a ||| b : Nat) : Int) := by
  unfold iOr
  rw [zI_n, zI_n, fa_or, nI_toInt (Nat.or_lt_two_pow (n := 31) h h2)]
theorem iShl_n (a k : Nat) (hk : k < 32) (h : a * 2 ^ k < 2147483648) : iShl (a : Int) (k : Int) = ((a * 2 ^ k : Nat) : Int) := by
  unfold iShl
  rw [zI_n, zI_n, pk_shlN _ k (s_l k hk) (by omega), nI_toInt h]
theorem iShr_n (a k : Nat) (hk : k < 32) (h : a < 2147483648) : iShr (a : Int) (k : Int) = ((a / 2 ^ k : Nat) : Int) := by
  unfold iShr
  rw [zI_n, zI_n, pk_shrN h _ k (s_l k hk), nI_toInt (Nat.lt_of_le_of_lt (Nat.div_le_self _ _) h)]
theorem i2l_n (a : Nat) (h : a < 2147483648) : i2l (a : Int) = (a : Int) := by
  unfold i2l
  rw [zI_n, nI_l h, lN_toInt h]
theorem l2i_n (a : Nat) (h : a < 2147483648) : l2i (a : Int) = (a : Int) := by
  unfold l2i
  rw [zL_n, lN_i, nI_toInt h]
theorem lN_to {a : Nat} (h : a < 9223372036854775808) : (lN a).toInt = (a : Int) := pf_lI h
theorem lShl_n (a k : Nat) (hk : k < 64) (h : a * 2 ^ k < 9223372036854775808) : lShl (a : Int) (k : Int) = ((a * 2 ^ k : Nat) : Int) := by
  unfold lShl
  rw [zL_n, zI_n, wb_shl a hk, lN_to h]
theorem lShr_n (a k : Nat) (hk : k < 64) (h : a < 9223372036854775808) : lShr (a : Int) (k : Int) = ((a / 2 ^ k : Nat) : Int) := by
  unfold lShr
  have hd : ((((zI (k : Int)).toInt64 &&& 63) : Int64).toBitVec.smod 64).toNat = k := by
    rw [zI_n, wb_c k hk, wb_tb, wb_sm k hk, BitVec.toNat_ofNat, Nat.mod_eq_of_lt (by omega)]
  have e : ∀ (x D : Int64), (x >>> D).toInt = x.toInt >>> (D.toBitVec.smod 64).toNat := fun x D => BitVec.toInt_sshiftRight ..
  rw [e, hd, zL_n, lN_to h, Int.shiftRight_eq_div_pow]
  rfl
theorem lAnd_low (a k m : Nat) (hk : k < 63) (hm : 2 ^ k - 1 = m) (h : a < 9223372036854775808) : lAnd (a : Int) (m : Int) = ((a % 2 ^ k : Nat) : Int) := by
  subst hm
  unfold lAnd
  rw [zL_n, zL_n, wb_mask (by omega) (by omega), lN_to (Nat.lt_of_le_of_lt (Nat.mod_le _ _) h)]
theorem and_high (a : Nat) (h : a < 2 ^ 64) : a &&& (2 ^ 64 - 2 ^ 24) = a / 2 ^ 24 * 2 ^ 24 := by
  apply Nat.eq_of_testBit_eq
  intro i
  have e : 2 ^ 64 - 2 ^ 24 = (2 ^ 40 - 1) <<< 24 := by decide
  have e2 : a / 2 ^ 24 * 2 ^ 24 = (a >>> 24) <<< 24 := by rw [Nat.shiftLeft_eq, Nat.shiftRight_eq_div_pow]
  rw [Nat.testBit_and, e, e2, Nat.testBit_shiftLeft, Nat.testBit_shiftLeft, Nat.testBit_shiftRight, Nat.testBit_two_pow_sub_one]
  by_cases h1 : 24 ≤ i
  · by_cases h2 : i < 64
    · simp [h1, show i - 24 < 40 by omega, show 24 + (i - 24) = i by omega]
    · have h3 : a.testBit i = false := Nat.testBit_lt_two_pow (Nat.lt_of_lt_of_le h (Nat.pow_le_pow_right (by decide) (by omega)))
      simp [h1, show 24 + (i - 24) = i by omega, h3]
  · simp [h1]
theorem lAnd_high (a : Nat) (h : a < 9223372036854775808) : lAnd (a : Int) (-16777216) = ((a / 16777216 * 16777216 : Nat) : Int) := by
  unfold lAnd
  have e : zL (-16777216) = lN (2 ^ 64 - 2 ^ 24) := by decide
  rw [e, zL_n, wb_and (by omega) (by decide), and_high a (by omega)]
  have : a / 2 ^ 24 * 2 ^ 24 ≤ a := Nat.div_mul_le_self _ _
  rw [lN_to (by omega)]
theorem lOr_n {b a k p : Nat} (hp : 2 ^ k = p) (ha : a < p) (h : b * p + a < 9223372036854775808) : lOr ((b * p : Nat) : Int) (a : Int) = ((b * p + a : Nat) : Int) := by
  unfold lOr
  rw [zL_n, zL_n, g_or hp ha (by omega), lN_to h]
theorem lCmp_z {a b : Int} (h1 : -9223372036854775808 ≤ a) (h2 : a < 9223372036854775808) (h3 : -9223372036854775808 ≤ b) (h4 : b < 9223372036854775808) : lCmp a b = if b < a then 1 else if a = b then 0 else -1 := by
  unfold lCmp lg_cmp
  have e1 : (zL b < zL a) ↔ b < a := by rw [Int64.lt_iff_toInt_lt, zL_to h1 h2, zL_to h3 h4]
  have e2 : (zL a = zL b) ↔ a = b := by rw [← Int64.toInt_inj, zL_to h1 h2, zL_to h3 h4]
  by_cases q : b < a
  · rw [if_pos (show zL a > zL b from e1.mpr q), if_pos q]; decide
  · rw [if_neg (show ¬ zL a > zL b from fun z => q (e1.mp z)), if_neg q]
    by_cases q2 : a = b
    · rw [if_pos (e2.mpr q2), if_pos q2]; decide
    · rw [if_neg (fun z => q2 (e2.mp z)), if_neg q2]; decide
theorem lMin_z {a b : Int} (h1 : -9223372036854775808 ≤ a) (h2 : a < 9223372036854775808) (h3 : -9223372036854775808 ≤ b) (h4 : b < 9223372036854775808) : lMin a b = min a b := by
  unfold lMin
  have e1 : (zL b < zL a) ↔ b < a := by rw [Int64.lt_iff_toInt_lt, zL_to h1 h2, zL_to h3 h4]
  by_cases q : zL b < zL a
  · rw [if_pos q]; have := e1.mp q; omega
  · rw [if_neg q]; have : ¬ b < a := fun z => q (e1.mpr z)
    omega
/-- what a comparison of longs says against 0 -/
theorem lCmp_eq {a b : Int} (h1 : -9223372036854775808 ≤ a) (h2 : a < 9223372036854775808) (h3 : -9223372036854775808 ≤ b) (h4 : b < 9223372036854775808) : (zI (lCmp a b) = zI 0) ↔ a = b := by
  rw [lCmp_z h1 h2 h3 h4]
  by_cases q : b < a
  · rw [if_pos q]; exact ⟨fun z => absurd z (by decide), fun z => absurd z (by omega)⟩
  · rw [if_neg q]
    by_cases q2 : a = b
    · rw [if_pos q2]; exact ⟨fun _ => q2, fun _ => rfl⟩
    · rw [if_neg q2]; exact ⟨fun z => absurd z (by decide), fun z => absurd z q2⟩
theorem lCmp_le {a b : Int} (h1 : -9223372036854775808 ≤ a) (h2 : a < 9223372036854775808) (h3 : -9223372036854775808 ≤ b) (h4 : b < 9223372036854775808) : (zI (lCmp a b) ≤ zI 0) ↔ a ≤ b := by
  rw [lCmp_z h1 h2 h3 h4]
  by_cases q : b < a
  · rw [if_pos q]; exact ⟨fun z => absurd z (by decide), fun z => absurd z (by omega)⟩
  · rw [if_neg q]
    by_cases q2 : a = b
    · rw [if_pos q2]; exact ⟨fun _ => by omega, fun _ => by decide⟩
    · rw [if_neg q2]; exact ⟨fun _ => by omega, fun _ => by decide⟩
theorem lCmp_ge {a b : Int} (h1 : -9223372036854775808 ≤ a) (h2 : a < 9223372036854775808) (h3 : -9223372036854775808 ≤ b) (h4 : b < 9223372036854775808) : (zI 0 ≤ zI (lCmp a b)) ↔ b ≤ a := by
  rw [lCmp_z h1 h2 h3 h4]
  by_cases q : b < a
  · rw [if_pos q]; exact ⟨fun _ => by omega, fun _ => by decide⟩
  · rw [if_neg q]
    by_cases q2 : a = b
    · rw [if_pos q2]; exact ⟨fun _ => by omega, fun _ => by decide⟩
    · rw [if_neg q2]; exact ⟨fun z => absurd z (by decide), fun _ => by omega⟩
theorem lCmp_gt {a b : Int} (h1 : -9223372036854775808 ≤ a) (h2 : a < 9223372036854775808) (h3 : -9223372036854775808 ≤ b) (h4 : b < 9223372036854775808) : (zI 0 < zI (lCmp a b)) ↔ b < a := by
  rw [lCmp_z h1 h2 h3 h4]
  by_cases q : b < a
  · rw [if_pos q]; exact ⟨fun _ => q, fun _ => by decide⟩
  · rw [if_neg q]
    by_cases q2 : a = b
    · rw [if_pos q2]; exact ⟨fun z => absurd z (by decide), fun z => absurd z q⟩
    · rw [if_neg q2]; exact ⟨fun z => absurd z (by decide), fun z => absurd z q⟩
theorem gd_pos {β : Type} {c : Prop} [Decidable c] {k : Option β} (h : c) : gd c k = k := if_pos h
theorem bV_ok {α β : Type} {o : Option α} {g : α → Option β} {a : α} (h : o = some a) : bV o g = g a := by rw [h]; rfl
theorem bL1_ok {A B β : Type} {o : Option (A × B)} {g : A → B → Option β} {a : A} {b : B} (h : o = some (a, b)) : bL1 o g = g a b := by rw [h]; rfl
/-- bits of a small number -/
theorem bit_1 (x k : Nat) (hx : x < 2147483648) (hk : k < 31) : iAnd (iShr (x : Int) (k : Int)) 1 = (((x / 2 ^ k) % 2 : Nat) : Int) := by
  rw [iShr_n x k (by omega) hx, show (1 : Int) = ((1 : Nat) : Int) from rfl, iAnd_n _ _ (Nat.lt_of_le_of_lt (Nat.div_le_self _ _) hx), Nat.and_one_is_mod]
theorem bit_test (x k : Nat) (hx : x < 2147483648) (hk : k < 31) : (zI (iAnd (iShr (x : Int) (k : Int)) 1) = zI 0) ↔ x.testBit k = false := by
  rw [bit_1 x k hx hk, zI_eqI (by omega) (by omega) (by omega) (by omega), Nat.testBit_eq_decide_div_mod_eq]
  have := Nat.mod_two_eq_zero_or_one (x / 2 ^ k)
  constructor
  · intro h
    have h2 : x / 2 ^ k % 2 = 0 := by omega
    simp [h2]
  · intro h
    rcases this with q | q
    · omega
    · simp [q] at h
theorem bV_s {α β : Type} {a : α} {g : α → Option β} : bV (some a) g = g a := rfl
theorem bL1_s {A B β : Type} {a : A} {b : B} {g : A → B → Option β} : bL1 (some (a, b)) g = g a b := rfl
theorem bL2_s {A B C β : Type} {a : A} {b : B} {c : C} {g : A → B → C → Option β} : bL2 (some (a, b, c)) g = g a b c := rfl
theorem bL3_s {A B C D β : Type} {a : A} {b : B} {c : C} {d : D} {g : A → B → C → D → Option β} : bL3 (some (a, b, c, d)) g = g a b c d := rfl
theorem bL4_s {A B C D E β : Type} {a : A} {b : B} {c : C} {d : D} {e : E} {g : A → B → C → D → E → Option β} : bL4 (some (a, b, c, d, e)) g = g a b c d e := rfl
theorem ifl_t {α : Type} {a b : Int} {x y : α} (h : a < b) (h1 : -2147483648 ≤ a) (h2 : b < 2147483648) : (if zI a < zI b then x else y) = x := if_pos ((zI_ltI h1 (by omega) (by omega) h2).mpr h)
theorem ifl_f {α : Type} {a b : Int} {x y : α} (h : b ≤ a) (h1 : -2147483648 ≤ b) (h2 : a < 2147483648) : (if zI a < zI b then x else y) = y := if_neg (fun z => by have := (zI_ltI (by omega) h2 h1 (by omega)).mp z; omega)
theorem ifle_t {α : Type} {a b : Int} {x y : α} (h : a ≤ b) (h1 : -2147483648 ≤ a) (h2 : b < 2147483648) : (if zI a ≤ zI b then x else y) = x := if_pos ((zI_leI h1 (by omega) (by omega) h2).mpr h)
theorem ifle_f {α : Type} {a b : Int} {x y : α} (h : b < a) (h1 : -2147483648 ≤ b) (h2 : a < 2147483648) : (if zI a ≤ zI b then x else y) = y := if_neg (fun z => by have := (zI_leI (by omega) h2 h1 (by omega)).mp z; omega)
theorem ife_t {α : Type} {a b : Int} {x y : α} (h : a = b) : (if zI a = zI b then x else y) = x := if_pos (by rw [h])
theorem ife_f {α : Type} {a b : Int} {x y : α} (h : a ≠ b) (h1 : -2147483648 ≤ a) (h2 : a < 2147483648) (h3 : -2147483648 ≤ b) (h4 : b < 2147483648) : (if zI a = zI b then x else y) = y := if_neg (fun z => h ((zI_eqI h1 h2 h3 h4).mp z))
theorem st_eq (σ : Mem) (k i : Nat) (v : Int) : st σ k i v k i = v := by simp [st]
theorem st_ne (σ : Mem) {k i j : Nat} (v : Int) (h : j ≠ i) : st σ k i v k j = σ k j := by simp [st, h]
