/-! layer 2, rows of pairs: how many of each cost, from the left and from the right -/
def sh (w : Nat) (f : Nat → Nat) : Nat → Nat := fun k => if w ≤ k then f (k - w) else 0
def cr (pc : Nat → Nat) (dr pu : Nat) (prev : Nat → Nat → Nat) : Nat → Nat → Nat
  | 0 => sh dr (prev 0)
  | j + 1 => fun k => sh dr (prev (j + 1)) k + sh pu (cr pc dr pu prev j) k + sh (pc j) (prev j) k
def c0 (pu : Nat) : Nat → Nat → Nat
  | 0 => fun k => if k = 0 then 1 else 0
  | j + 1 => sh pu (c0 pu j)
/-- how many rows of pairs of i and j letters cost k -/
def Cf (pc : Nat → Nat → Nat) (dr pu : Nat) : Nat → Nat → Nat → Nat
  | 0 => c0 pu
  | i + 1 => cr (pc i) dr pu (Cf pc dr pu i)
theorem Cf_ss {pc : Nat → Nat → Nat} {dr pu i j : Nat} : Cf pc dr pu (i + 1) (j + 1) = fun k => sh dr (Cf pc dr pu i (j + 1)) k + sh pu (Cf pc dr pu (i + 1) j) k + sh (pc i j) (Cf pc dr pu i j) k := rfl
theorem Cf_sk {pc : Nat → Nat → Nat} {dr pu i j k : Nat} : Cf pc dr pu (i + 1) (j + 1) k = sh dr (Cf pc dr pu i (j + 1)) k + sh pu (Cf pc dr pu (i + 1) j) k + sh (pc i j) (Cf pc dr pu i j) k := rfl
theorem Cf_s0 {pc : Nat → Nat → Nat} {dr pu i : Nat} : Cf pc dr pu (i + 1) 0 = sh dr (Cf pc dr pu i 0) := rfl
theorem Cf_0s {pc : Nat → Nat → Nat} {dr pu j : Nat} : Cf pc dr pu 0 (j + 1) = sh pu (Cf pc dr pu 0 j) := rfl
theorem sh_comm (a b : Nat) (f : Nat → Nat) : sh a (sh b f) = sh b (sh a f) := by
  funext k
  unfold sh
  by_cases h1 : a ≤ k
  · by_cases h2 : b ≤ k
    · rw [if_pos h1, if_pos h2]
      by_cases h3 : b ≤ k - a
      · rw [if_pos h3, if_pos (by omega), show k - a - b = k - b - a by omega]
      · rw [if_neg h3, if_neg (by omega)]
    · rw [if_pos h1, if_neg h2, if_neg (by omega)]
  · rw [if_neg h1]
    by_cases h2 : b ≤ k
    · rw [if_pos h2, if_neg (by omega)]
    · rw [if_neg h2]
theorem sh_3 (w : Nat) (f g h : Nat → Nat) (k : Nat) : sh w (fun k => f k + g k + h k) k = sh w f k + sh w g k + sh w h k := by
  unfold sh
  by_cases q : w ≤ k
  · rw [if_pos q, if_pos q, if_pos q, if_pos q]
  · rw [if_neg q, if_neg q, if_neg q, if_neg q]
/-- the pairs behind (i, j) -/
def psh (pc : Nat → Nat → Nat) (i j : Nat) : Nat → Nat → Nat := fun a b => pc (i + a) (j + b)
/-- the first pair of a row taken off -/
theorem Cf_head (pc : Nat → Nat → Nat) (dr pu : Nat) : ∀ (s d e i j : Nat), d + e ≤ s →
    (Cf (psh pc i j) dr pu (d + 1) 0 = sh dr (Cf (psh pc (i + 1) j) dr pu d 0)) ∧ (Cf (psh pc i j) dr pu 0 (e + 1) = sh pu (Cf (psh pc i (j + 1)) dr pu 0 e)) ∧
    (Cf (psh pc i j) dr pu (d + 1) (e + 1) = fun k => sh dr (Cf (psh pc (i + 1) j) dr pu d (e + 1)) k + sh pu (Cf (psh pc i (j + 1)) dr pu (d + 1) e) k + sh (pc i j) (Cf (psh pc (i + 1) (j + 1)) dr pu d e) k) := by
  have col : ∀ d i j i2 j2, Cf (psh pc i j) dr pu d 0 = Cf (psh pc i2 j2) dr pu d 0 := fun d => by
    induction d with
    | zero => intros; rfl
    | succ d ih => intro i j i2 j2; rw [Cf_s0, Cf_s0, ih i j i2 j2]
  have row : ∀ e i j i2 j2, Cf (psh pc i j) dr pu 0 e = Cf (psh pc i2 j2) dr pu 0 e := fun e => by
    induction e with
    | zero => intros; rfl
    | succ e ih => intro i j i2 j2; rw [Cf_0s, Cf_0s, ih i j i2 j2]
  have pe : ∀ i j a b, psh pc i j a b = pc (i + a) (j + b) := fun _ _ _ _ => rfl
  intro s
  induction s with
  | zero =>
    intro d e i j h
    have hd : d = 0 := by omega
    have he : e = 0 := by omega
    subst hd he
    refine ⟨by rw [Cf_s0, col 0 i j (i + 1) j], by rw [Cf_0s, row 0 i j i (j + 1)], ?_⟩
    funext k
    rw [Cf_sk]
    have e1 : Cf (psh pc i j) dr pu 0 (0 + 1) = sh pu (Cf (psh pc (i + 1) j) dr pu 0 0) := by rw [Cf_0s, row 0 i j (i + 1) j]
    have e2 : Cf (psh pc i j) dr pu (0 + 1) 0 = sh dr (Cf (psh pc i (j + 1)) dr pu 0 0) := by rw [Cf_s0, col 0 i j i (j + 1)]
    rw [e1, e2, Cf_0s, Cf_s0, pe, row 0 i j (i + 1) (j + 1), row 0 (i + 1) j (i + 1) (j + 1), row 0 i (j + 1) (i + 1) (j + 1)]
    rfl
  | succ s ih =>
    intro d e i j h
    refine ⟨by rw [Cf_s0, Cf_s0.symm.trans (by rw [Cf_s0, col d i j (i + 1) j])], by rw [Cf_0s, row e i j i (j + 1)], ?_⟩
    funext k
    rw [Cf_sk]
    cases d with
    | zero =>
      cases e with
      | zero =>
        have := (ih 0 0 i j (by omega)).2.2
        have t2 := congrFun this k
        rw [Cf_sk] at t2
        exact t2
      | succ e =>
        have h1 := (ih 0 e i j (by omega)).2.2
        have h2 : Cf (psh pc i j) dr pu 0 (e + 1 + 1) = sh pu (Cf (psh pc i (j + 1)) dr pu 0 (e + 1)) := by rw [Cf_0s, row (e + 1) i j i (j + 1)]
        have h3 := (ih 0 e i j (by omega)).2.1
        have g1 : Cf (psh pc (i + 1) j) dr pu 0 (e + 1 + 1) = sh pu (Cf (psh pc (i + 1) j) dr pu 0 (e + 1)) := Cf_0s
        have g2 : Cf (psh pc i (j + 1)) dr pu (0 + 1) (e + 1) = _ := Cf_ss
        have g3 : Cf (psh pc (i + 1) (j + 1)) dr pu 0 (e + 1) = sh pu (Cf (psh pc (i + 1) (j + 1)) dr pu 0 e) := Cf_0s
        rw [h1, h2, h3, g1, g2, g3, sh_3, sh_3, pe, pe]
        rw [sh_comm pu dr, sh_comm pu (pc i j), sh_comm dr pu, sh_comm (pc (i + 0) (j + (e + 1))) pu, show i + 0 = i by omega, show j + (e + 1) = j + 1 + e by omega, row (e + 1) (i + 1) j i (j + 1)]
        omega
    | succ d =>
      cases e with
      | zero =>
        have h1 := (ih d 0 i j (by omega)).2.2
        have h2 : Cf (psh pc i j) dr pu (d + 1 + 1) 0 = sh dr (Cf (psh pc (i + 1) j) dr pu (d + 1) 0) := by rw [Cf_s0, col (d + 1) i j (i + 1) j]
        have h3 := (ih d 0 i j (by omega)).1
        have g1 : Cf (psh pc i (j + 1)) dr pu (d + 1 + 1) 0 = sh dr (Cf (psh pc i (j + 1)) dr pu (d + 1) 0) := Cf_s0
        have g2 : Cf (psh pc (i + 1) j) dr pu (d + 1) (0 + 1) = _ := Cf_ss
        have g3 : Cf (psh pc (i + 1) (j + 1)) dr pu (d + 1) 0 = sh dr (Cf (psh pc (i + 1) (j + 1)) dr pu d 0) := Cf_s0
        rw [h1, h2, h3, g1, g2, g3, sh_3, sh_3, pe, pe]
        rw [sh_comm dr pu, sh_comm dr (pc i j), sh_comm (pc (i + (d + 1)) (j + 0)) dr, show j + 0 = j by omega, show i + (d + 1) = i + 1 + d by omega, col (d + 1) i (j + 1) (i + 1) j, sh_comm dr pu (Cf (psh pc (i + 1) j) dr pu (d + 1) 0)]
        omega
      | succ e =>
        have h1 := (ih d (e + 1) i j (by omega)).2.2
        have h2 := (ih (d + 1) e i j (by omega)).2.2
        have h3 := (ih d e i j (by omega)).2.2
        have g1 : Cf (psh pc (i + 1) j) dr pu (d + 1) (e + 1 + 1) = _ := Cf_ss
        have g2 : Cf (psh pc i (j + 1)) dr pu (d + 1 + 1) (e + 1) = _ := Cf_ss
        have g3 : Cf (psh pc (i + 1) (j + 1)) dr pu (d + 1) (e + 1) = _ := Cf_ss
        have p1 : psh pc (i + 1) j d (e + 1) = psh pc i j (d + 1) (e + 1) := by rw [pe, pe, show i + 1 + d = i + (d + 1) by omega]
        have p2 : psh pc i (j + 1) (d + 1) e = psh pc i j (d + 1) (e + 1) := by rw [pe, pe, show j + 1 + e = j + (e + 1) by omega]
        have p3 : psh pc (i + 1) (j + 1) d e = psh pc i j (d + 1) (e + 1) := by rw [pe, pe, show j + 1 + e = j + (e + 1) by omega, show i + 1 + d = i + (d + 1) by omega]
        rw [h1, h2, h3, g1, g2, g3, p1, p2, p3, sh_3, sh_3, sh_3, sh_3, sh_3, sh_3]
        generalize psh pc i j (d + 1) (e + 1) = p
        generalize pc i j = p0
        rw [sh_comm pu dr (Cf (psh pc (i + 1) j) dr pu (d + 1) (e + 1)), sh_comm p dr, sh_comm p pu, sh_comm p p0, sh_comm pu dr, sh_comm p0 dr, sh_comm p0 pu]
        omega
/-- the pairs from the right end -/
def pbk (pc : Nat → Nat → Nat) (L1 L2 : Nat) : Nat → Nat → Nat := fun a b => pc (L1 - 1 - a) (L2 - 1 - b)
theorem Cf_back (pc : Nat → Nat → Nat) (dr pu L1 L2 : Nat) : ∀ (s d e : Nat), d + e ≤ s → d ≤ L1 → e ≤ L2 → Cf (psh pc (L1 - d) (L2 - e)) dr pu d e = Cf (pbk pc L1 L2) dr pu d e := by
  intro s
  induction s with
  | zero =>
    intro d e h _ _
    have hd : d = 0 := by omega
    have he : e = 0 := by omega
    subst hd he
    rfl
  | succ s ih =>
    intro d e h h1 h2
    cases d with
    | zero =>
      cases e with
      | zero => rfl
      | succ e =>
        have hh := (Cf_head pc dr pu e 0 e (L1 - 0) (L2 - (e + 1)) (by omega)).2.1
        rw [hh, Cf_0s, show L2 - (e + 1) + 1 = L2 - e by omega, ih 0 e (by omega) h1 (by omega)]
    | succ d =>
      cases e with
      | zero =>
        have hh := (Cf_head pc dr pu d d 0 (L1 - (d + 1)) (L2 - 0) (by omega)).1
        rw [hh, Cf_s0, show L1 - (d + 1) + 1 = L1 - d by omega, ih d 0 (by omega) (by omega) h2]
      | succ e =>
        have hh := (Cf_head pc dr pu (d + e) d e (L1 - (d + 1)) (L2 - (e + 1)) (by omega)).2.2
        have a1 := ih d (e + 1) (by omega) (by omega) h2
        have a2 := ih (d + 1) e (by omega) h1 (by omega)
        have a3 := ih d e (by omega) (by omega) (by omega)
        have p1 : pbk pc L1 L2 d e = pc (L1 - (d + 1)) (L2 - (e + 1)) := by
          unfold pbk
          rw [show L1 - 1 - d = L1 - (d + 1) by omega, show L2 - 1 - e = L2 - (e + 1) by omega]
        rw [hh, Cf_ss, show L1 - (d + 1) + 1 = L1 - d by omega, show L2 - (e + 1) + 1 = L2 - e by omega, a1, a2, a3, p1]
/-- all rows of pairs: from the left as from the right -/
theorem Cf_both (pc : Nat → Nat → Nat) (dr pu L1 L2 : Nat) : Cf pc dr pu L1 L2 = Cf (pbk pc L1 L2) dr pu L1 L2 := by
  have h := Cf_back pc dr pu L1 L2 (L1 + L2) L1 L2 (Nat.le_refl _) (Nat.le_refl _) (Nat.le_refl _)
  rw [Nat.sub_self, Nat.sub_self] at h
  have e : psh pc 0 0 = pc := by
    funext a b
    unfold psh
    rw [Nat.zero_add, Nat.zero_add]
  rw [e] at h
  exact h
/-- a bound for how many there are -/
def dlr (prev : Nat → Nat) : Nat → Nat
  | 0 => prev 0
  | j + 1 => prev (j + 1) + dlr prev j + prev j
def dl : Nat → Nat → Nat
  | 0 => fun _ => 1
  | i + 1 => dlr (dl i)
theorem sh_le {w : Nat} {f : Nat → Nat} {B : Nat} (h : ∀ k, f k ≤ B) (k : Nat) : sh w f k ≤ B := by
  unfold sh
  split
  · exact h _
  · exact Nat.zero_le _
theorem Cf_le (pc : Nat → Nat → Nat) (dr pu : Nat) : ∀ (i j k : Nat), Cf pc dr pu i j k ≤ dl i j
  | 0, 0, k => by
    show (if k = 0 then 1 else 0) ≤ 1
    split <;> omega
  | 0, j + 1, k => sh_le (Cf_le pc dr pu 0 j) k
  | i + 1, 0, k => sh_le (Cf_le pc dr pu i 0) k
  | i + 1, j + 1, k => by
    have a1 := sh_le (w := dr) (Cf_le pc dr pu i (j + 1)) k
    have a2 := sh_le (w := pu) (Cf_le pc dr pu (i + 1) j) k
    have a3 := sh_le (w := pc i j) (Cf_le pc dr pu i j) k
    show sh dr (Cf pc dr pu i (j + 1)) k + sh pu (Cf pc dr pu (i + 1) j) k + sh (pc i j) (Cf pc dr pu i j) k ≤ dl i (j + 1) + dl (i + 1) j + dl i j
    omega
theorem dl_big : ∀ i, i < 7 → ∀ j, j < 13 → dl i j ≤ 369305 := by decide +kernel
theorem dl_pair : ∀ i, i < 6 → ∀ j, j < 12 → dl i j * dl (5 - i) (11 - j) ≤ 60000 := by decide +kernel
theorem dl_i (i j : Nat) : dl i j ≤ dl (i + 1) j := by
  cases j with
  | zero => exact Nat.le_refl _
  | succ j =>
    show dl i (j + 1) ≤ dl i (j + 1) + dl (i + 1) j + dl i j
    omega
theorem dl_j (i j : Nat) : dl i j ≤ dl i (j + 1) := by
  cases i with
  | zero => exact Nat.le_refl _
  | succ i =>
    show dl (i + 1) j ≤ dl i (j + 1) + dl (i + 1) j + dl i j
    omega
theorem dl_mono {i j x y : Nat} (h1 : i ≤ x) (h2 : j ≤ y) : dl i j ≤ dl x y := by
  have a : ∀ d, dl i j ≤ dl (i + d) j := fun d => by
    induction d with
    | zero => exact Nat.le_refl _
    | succ d ih => exact Nat.le_trans ih (dl_i (i + d) j)
  have b : ∀ d, dl x j ≤ dl x (j + d) := fun d => by
    induction d with
    | zero => exact Nat.le_refl _
    | succ d ih => exact Nat.le_trans ih (dl_j x (j + d))
  have a1 := a (x - i)
  have b1 := b (y - j)
  rw [show i + (x - i) = x by omega] at a1
  rw [show j + (y - j) = y by omega] at b1
  omega
