/-! spec functions over a street: FOREIGN up to a temper, what fades, what a day leaves, what may be undone -/
def fgnN (K M : Nat → Nat) (g a t : Nat) : Nat → Nat
  | 0 => 0
  | i + 1 => fgnN K M g a t i + (if i = t then 0 else upN (K a) (M (4 * a + i)) g)
theorem fgnN_le {K M : Nat → Nat} {g a t : Nat} (hM : ∀ i, M i ≤ 20) : ∀ i, fgnN K M g a t i ≤ 42 * i
  | 0 => Nat.le_refl _
  | i + 1 => by
    have h1 := fgnN_le (K := K) (g := g) (a := a) (t := t) hM i
    have h2 := upN_le (kd := K a) (g := g) (hM (4 * a + i))
    simp only [fgnN]; split <;> omega
def fadeN (K M : Nat → Nat) (a d i : Nat) : Nat → Nat := fun k => if 4 * a ≤ k ∧ k < 4 * a + i then leftN (K a) (M k) d else M k
theorem fadeN_le {K M : Nat → Nat} {a d i : Nat} (hM : ∀ i, M i ≤ 20) (k : Nat) : fadeN K M a d i k ≤ 20 := by
  have h1 := hM k
  have h2 := leftN_le (K a) (M k) d
  simp only [fadeN]; split <;> omega
theorem fadeN_0 {K M : Nat → Nat} {a d : Nat} (z : Nat) : M z = fadeN K M a d 0 z := by
  simp only [fadeN]; rw [if_neg (by omega)]
theorem fadeN_s {K M : Nat → Nat} {a d i : Nat} (z : Nat) : updN (fadeN K M a d i) (4 * a + i) (leftN (K a) (fadeN K M a d i (4 * a + i)) d) z = fadeN K M a d (i + 1) z := by
  by_cases hz : z = 4 * a + i
  · subst hz
    simp only [updN, fadeN, if_true]
    rw [if_neg (by omega), if_pos (by omega)]
  · simp only [updN, fadeN, if_neg hz]
    split <;> split <;> first | rfl | (exfalso; omega)
def dayN (K M : Nat → Nat) (an d : Nat) : Nat → Nat := fun k => if k < 4 * an then leftN (K (k / 4)) (M k) d else M k
theorem dayN_le {K M : Nat → Nat} {an d : Nat} (hM : ∀ i, M i ≤ 20) (k : Nat) : dayN K M an d k ≤ 20 := by
  have h1 := hM k
  have h2 := leftN_le (K (k / 4)) (M k) d
  simp only [dayN]; split <;> omega
theorem dayN_0 {K M : Nat → Nat} {d : Nat} (z : Nat) : M z = dayN K M 0 d z := by
  simp only [dayN]; rw [if_neg (by omega)]
theorem dayN_s {K M : Nat → Nat} {i d : Nat} (z : Nat) : fadeN K (dayN K M i d) i d 4 z = dayN K M (i + 1) d z := by
  simp only [fadeN, dayN]
  by_cases h1 : z < 4 * i
  · rw [if_neg (by omega), if_pos h1, if_pos (by omega)]
  · by_cases h2 : z < 4 * (i + 1)
    · rw [if_pos (by omega), if_neg h1, if_pos h2, show z / 4 = i by omega]
    · rw [if_neg (by omega), if_neg h1, if_neg h2]
def addMN (K M : Nat → Nat) (a t b : Nat) : Nat → Nat := updN M (4 * a + t) (min (M (4 * a + t) + moreN (K a) b) 20)
theorem updN_le {M : Nat → Nat} {i v c : Nat} (hM : ∀ k, M k ≤ c) (hv : v ≤ c) (k : Nat) : updN M i v k ≤ c := by
  have h1 := hM k
  simp only [updN]; split <;> omega
theorem addMN_le {K M : Nat → Nat} {a t b : Nat} (hM : ∀ k, M k ≤ 20) (k : Nat) : addMN K M a t b k ≤ 20 := updN_le hM (by omega) k
theorem va_cpy_le {F G : Nat → Nat} {a b n c : Nat} (hF : ∀ k, F k ≤ c) (hG : ∀ k, G k ≤ c) (k : Nat) : va_cpy F G a b n k ≤ c := by
  simp only [va_cpy]; split
  · exact hF _
  · exact hG _
def pushM (PM : Nat → Nat) (ps : Nat) (M : Nat → Nat) : Nat → Nat := if ps < 8 then va_cpy M PM 0 (ps * 16) 16 else va_cpy M (va_cpy PM PM 16 0 112) 0 112 16
def pushD (PD : Nat → Nat) (ps v : Nat) : Nat → Nat := if ps < 8 then updN PD ps v else updN (va_cpy PD PD 1 0 7) 7 v
def pushS (ps : Nat) : Nat := if ps < 8 then ps + 1 else 8
theorem pushS_le (ps : Nat) : pushS ps ≤ 8 := by unfold pushS; split <;> omega
def joinM (M : Nat → Nat) (an a b c d : Nat) : Nat → Nat := updN (updN (updN (updN M (4 * an) a) (4 * an + 1) b) (4 * an + 2) c) (4 * an + 3) d
def rowN (C : Nat → Nat) (i x y z w : Nat) : Nat → Nat := updN (updN (updN (updN C (4 * i) x) (4 * i + 1) y) (4 * i + 2) z) (4 * i + 3) w
