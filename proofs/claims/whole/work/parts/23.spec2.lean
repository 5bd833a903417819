/-! spec functions: an answer that may be none; the first that is so; bits of those that are so -/
def oI : Option Nat → Int32
  | none => -1
  | some j => nI j
noncomputable def firstN (p : Nat → Prop) : Nat → Option Nat
  | 0 => none
  | k + 1 => match firstN p k with
    | some j => some j
    | none => @ite _ (p k) (Classical.propDecidable _) (some k) none
theorem firstN_none {p : Nat → Prop} : ∀ k, (∀ j, j < k → ¬ p j) → firstN p k = none
  | 0, _ => rfl
  | k + 1, h => by
    simp only [firstN]
    rw [firstN_none k (fun j hj => h j (by omega))]
    simp [h k (by omega)]
theorem firstN_some {p : Nat → Prop} {i : Nat} (hp : p i) (h : ∀ j, j < i → ¬ p j) : ∀ k, i < k → firstN p k = some i
  | 0, hk => by omega
  | k + 1, hk => by
    simp only [firstN]
    by_cases e : i = k
    · subst e
      rw [firstN_none i h]; simp [hp]
    · rw [firstN_some hp h k (by omega)]
theorem firstN_cg {p q : Nat → Prop} : ∀ k, (∀ j, j < k → (p j ↔ q j)) → firstN p k = firstN q k
  | 0, _ => rfl
  | k + 1, h => by
    simp only [firstN]
    rw [firstN_cg k (fun j hj => h j (by omega))]
    have := h k (by omega)
    cases firstN q k with
    | some j => rfl
    | none => simp only []; rw [propext this]
theorem oI_none {p : Nat → Prop} {k : Nat} (h : ∀ j, j < k → ¬ p j) : (-1 : Int32) = oI (firstN p k) := by rw [firstN_none k h]; rfl
theorem oI_some {p : Nat → Prop} {i k : Nat} (hp : p i) (h : ∀ j, j < i → ¬ p j) (hk : i < k) : nI i = oI (firstN p k) := by rw [firstN_some hp h k hk]; rfl
theorem lt_step {p : Nat → Prop} {i : Nat} (h : ∀ j, j < i → p j) (hi : p i) : ∀ j, j < i + 1 → p j := fun j hj => by
  by_cases e : j = i
  · rw [e]; exact hi
  · exact h j (by omega)
noncomputable def bitsN (p : Nat → Prop) : Nat → Nat
  | 0 => 0
  | k + 1 => bitsN p k ||| (@ite _ (p k) (Classical.propDecidable _) (1 * 2 ^ k) 0)
theorem bitsN_cg {p q : Nat → Prop} : ∀ k, (∀ j, j < k → (p j ↔ q j)) → bitsN p k = bitsN q k
  | 0, _ => rfl
  | k + 1, h => by
    simp only [bitsN]
    rw [bitsN_cg k (fun j hj => h j (by omega))]
    rw [propext (h k (by omega))]
theorem bitsN_lt {p : Nat → Prop} : ∀ k, bitsN p k < 2 ^ k
  | 0 => by simp [bitsN]
  | k + 1 => by
    simp only [bitsN]
    apply Nat.or_lt_two_pow
    · have := bitsN_lt (p := p) k
      rw [Nat.pow_succ]; omega
    · split
      · rw [Nat.pow_succ]; have := Nat.two_pow_pos k; omega
      · exact Nat.two_pow_pos _
theorem bitsN_t {p : Nat → Prop} {k : Nat} (h : p k) : bitsN p k ||| 1 * 2 ^ k = bitsN p (k + 1) := by simp only [bitsN, if_pos h]
theorem bitsN_f {p : Nat → Prop} {k : Nat} (h : ¬ p k) : bitsN p k = bitsN p (k + 1) := by simp only [bitsN, if_neg h, Nat.or_zero]
theorem bitsN_f0 {p : Nat → Prop} {k : Nat} (h : ¬ p k) : bitsN p k ||| 0 = bitsN p (k + 1) := by simp only [bitsN, if_neg h]
/-! days ahead: a memory, an anvil's, all -/
def thenN (kd m d : Nat) : Nat → Nat
  | 0 => m
  | i + 1 => leftN kd (thenN kd m d i) (d + i)
theorem thenN_le (kd m d : Nat) : ∀ i, thenN kd m d i ≤ m
  | 0 => Nat.le_refl _
  | i + 1 => Nat.le_trans (leftN_le _ _ _) (thenN_le kd m d i)
/-- the memories behind i days, of anvil a alone -/
def fadeI (K M : Nat → Nat) (a d : Nat) : Nat → Nat → Nat
  | 0 => M
  | i + 1 => fadeN K (fadeI K M a d i) a (d + i) 4
theorem fadeI_le {K M : Nat → Nat} {a d : Nat} (hM : ∀ i, M i ≤ 20) : ∀ i k, fadeI K M a d i k ≤ 20
  | 0, k => hM k
  | i + 1, k => fadeN_le (fadeI_le hM i) k
theorem fadeI_then {K M : Nat → Nat} {a d t : Nat} (ht : t < 4) : ∀ i, fadeI K M a d i (4 * a + t) = thenN (K a) (M (4 * a + t)) d i
  | 0 => rfl
  | i + 1 => by
    simp only [fadeI, fadeN, thenN]
    rw [if_pos (by omega), fadeI_then ht i]
/-- .. of all -/
def dayI (K M : Nat → Nat) (an d : Nat) : Nat → Nat → Nat
  | 0 => M
  | i + 1 => dayN K (dayI K M an d i) an (d + i)
theorem dayI_le {K M : Nat → Nat} {an d : Nat} (hM : ∀ i, M i ≤ 20) : ∀ i k, dayI K M an d i k ≤ 20
  | 0, k => hM k
  | i + 1, k => dayN_le (dayI_le hM i) k
theorem dayI_then {K M : Nat → Nat} {an d a t : Nat} (ha : a < an) (ht : t < 4) : ∀ i, dayI K M an d i (4 * a + t) = thenN (K a) (M (4 * a + t)) d i
  | 0 => rfl
  | i + 1 => by
    simp only [dayI, dayN, thenN]
    rw [if_pos (by omega), dayI_then ha ht i, show (4 * a + t) / 4 = a by omega]
/-- FOREIGN and UP behind i days -/
def fgnT (K M : Nat → Nat) (g a t d i : Nat) : Nat := fgnN K (fun k => thenN (K a) (M k) d i) g a t 4
def upT (K M : Nat → Nat) (g a t d i : Nat) : Nat := upN (K a) (thenN (K a) (M (4 * a + t)) d i) g
theorem fgnN_cg {K K' M M' : Nat → Nat} {g a t : Nat} (hK : K a = K' a) (hM : ∀ o, o < 4 → M (4 * a + o) = M' (4 * a + o)) : ∀ i, i ≤ 4 → fgnN K M g a t i = fgnN K' M' g a t i
  | 0, _ => rfl
  | i + 1, hi => by
    simp only [fgnN]
    rw [fgnN_cg hK hM i (by omega), hK, hM i (by omega)]
theorem fgnT_fade {K M : Nat → Nat} {g a t d i : Nat} : fgnN K (fadeI K M a d i) g a t 4 = fgnT K M g a t d i := fgnN_cg rfl (fun o ho => fadeI_then ho i) 4 (by omega)
theorem fgnT_day {K M : Nat → Nat} {g an a t d i : Nat} (ha : a < an) : fgnN K (dayI K M an d i) g a t 4 = fgnT K M g a t d i := fgnN_cg rfl (fun o ho => dayI_then ha ho i) 4 (by omega)
/-- an anvil remembers nothing behind i days -/
def clrT (K M : Nat → Nat) (a d i : Nat) : Prop := thenN (K a) (M (4 * a + 0)) d i = 0 ∧ thenN (K a) (M (4 * a + 1)) d i = 0 ∧ thenN (K a) (M (4 * a + 2)) d i = 0 ∧ thenN (K a) (M (4 * a + 3)) d i = 0
noncomputable def cleanN (K M : Nat → Nat) (a d : Nat) : Option Nat := firstN (clrT K M a d) 91
def keptP (K M : Nat → Nat) (a g : Nat) : Prop := upN (K a) (M (4 * a + 0)) g = 0 ∧ upN (K a) (M (4 * a + 1)) g = 0 ∧ upN (K a) (M (4 * a + 2)) g = 0 ∧ upN (K a) (M (4 * a + 3)) g = 0
noncomputable def keepN (K M : Nat → Nat) (a : Nat) : Option Nat := firstN (keptP K M a) 10
def waitP (K M : Nat → Nat) (g a t d x w i : Nat) : Prop := fgnT K M g a t d i ≤ x ∧ w ≤ upT K M g a t d i
noncomputable def waitN (K M : Nat → Nat) (g a t d x w : Nat) : Option Nat := firstN (waitP K M g a t d x w) 31
/-- BEST among the first anvils -/
def bestN (F U : Nat → Nat) : Nat → Option Nat
  | 0 => none
  | i + 1 => match bestN F U i with
    | none => some i
    | some b => if F i < F b ∨ (F i = F b ∧ U b < U i) then some i else some b
/-- KINDS by which all NOTES of an anvil are so; memories by which all CAME are so -/
abbrev noteP (NC : Nat → Nat) (nn a kd : Nat) : Prop := ∀ i, i < nn → NC (4 * i + 0) = a → leftN kd (NC (4 * i + 1)) (NC (4 * i + 2)) = NC (4 * i + 3)
abbrev cameP (CC : Nat → Nat) (cn kd a t m : Nat) : Prop := ∀ i, i < cn → CC (4 * i + 0) = a ∧ CC (4 * i + 1) = t → upN kd m (CC (4 * i + 2)) = CC (4 * i + 3)
noncomputable def kindsN (NC : Nat → Nat) (nn a : Nat) : Nat := bitsN (noteP NC nn a) 6
noncomputable def memoN (CC : Nat → Nat) (cn kd a t : Nat) : Nat := bitsN (cameP CC cn kd a t) 21
abbrev whoseP (K M : Nat → Nat) (g a b c d o : Nat) : Prop := upN (K o) (M (4 * o + 0)) g = a ∧ upN (K o) (M (4 * o + 1)) g = b ∧ upN (K o) (M (4 * o + 2)) g = c ∧ upN (K o) (M (4 * o + 3)) g = d
noncomputable def whoseN (K M : Nat → Nat) (g an a b c d : Nat) : Nat := bitsN (whoseP K M g a b c d) an
def mixL (h : Int64) (v : Nat) : Int64 := lN 31 * h + lN v
def rowsL (C : Nat → Nat) (h : Int64) : Nat → Int64
  | 0 => h
  | i + 1 => mixL (rowsL C h i) (C i)
theorem rowsL_cg {C C' : Nat → Nat} {h : Int64} : ∀ i, (∀ j, j < i → C j = C' j) → rowsL C h i = rowsL C' h i
  | 0, _ => rfl
  | i + 1, hc => by
    simp only [rowsL]; rw [rowsL_cg i (fun j hj => hc j (by omega)), hc i (by omega)]
/-- the ANVILS' part of the digest -/
def anvL (K M : Nat → Nat) (h : Int64) : Nat → Int64
  | 0 => h
  | a + 1 => rowsL (fun t => M (4 * a + t)) (mixL (anvL K M h a) (K a)) 4
theorem anvL_cg {K K' M M' : Nat → Nat} {h : Int64} : ∀ a, (∀ j, j < a → K j = K' j) → (∀ j, j < 4 * a → M j = M' j) → anvL K M h a = anvL K' M' h a
  | 0, _, _ => rfl
  | a + 1, h1, h2 => by
    simp only [anvL]
    rw [anvL_cg a (fun j hj => h1 j (by omega)) (fun j hj => h2 j (by omega)), h1 a (by omega)]
    exact rowsL_cg 4 (fun j hj => h2 (4 * a + j) (by omega))
/-- what remains by the seed's numbers, FOREIGN in all -/
def lcgN (x : Nat) : Nat := (x * 1103515245 + 12345) % 2147483648
def strX (seed : Nat) : Nat → Nat
  | 0 => seed
  | i + 1 => lcgN (strX seed i)
theorem strX_lt {seed : Nat} (h : seed ≤ 999999) : ∀ i, strX seed i < 2147483648
  | 0 => by simp only [strX]; omega
  | i + 1 => by simp only [strX, lcgN]; omega
def strM (K M : Nat → Nat) (an d seed : Nat) : Nat → Nat → Nat
  | 0 => M
  | i + 1 =>
    let x := strX seed (i + 1)
    let M1 := strM K M an d seed i
    let a := x / 65536 % 4
    dayN K (if a < an then addMN K M1 a (x / 1048576 % 4) (x / 16777216 % 5 + 1) else M1) an (d + i)
theorem strM_le {K M : Nat → Nat} {an d seed : Nat} (hM : ∀ i, M i ≤ 20) : ∀ i k, strM K M an d seed i k ≤ 20
  | 0, k => hM k
  | i + 1, k => by
    simp only [strM]
    apply dayN_le
    intro j
    split
    · exact addMN_le (strM_le hM i) j
    · exact strM_le hM i j
def strS (K M : Nat → Nat) (g an d seed : Nat) : Nat → Nat
  | 0 => 0
  | i + 1 =>
    let x := strX seed (i + 1)
    let a := x / 65536 % 4
    strS K M g an d seed i + (if a < an then fgnN K (strM K M an d seed i) g a (x / 1048576 % 4) 4 else 0)
theorem strS_le {K M : Nat → Nat} {g an d seed : Nat} (hM : ∀ i, M i ≤ 20) : ∀ i, strS K M g an d seed i ≤ 168 * i
  | 0 => Nat.le_refl _
  | i + 1 => by
    simp only [strS]
    have h1 := strS_le (K := K) (g := g) (an := an) (d := d) (seed := seed) hM i
    have h2 := fgnN_le (K := K) (g := g) (a := strX seed (i + 1) / 65536 % 4) (t := strX seed (i + 1) / 1048576 % 4) (strM_le (K := K) (an := an) (d := d) (seed := seed) hM i) 4
    split <;> omega
/-! a day's work on all, with the DAY's end at 999 -/
def dayT (td : Nat) : Nat → Nat
  | 0 => min td 999
  | i + 1 => min (dayT td i + 1) 999
theorem dayT_le (td : Nat) : ∀ i, dayT td i ≤ 999
  | 0 => by simp only [dayT]; omega
  | i + 1 => by simp only [dayT]; omega
theorem dayT_0 (td : Nat) (h : td ≤ 999) : td = dayT td 0 := by simp only [dayT]; omega
def dayM (K M : Nat → Nat) (an td : Nat) : Nat → Nat → Nat
  | 0 => M
  | i + 1 => dayN K (dayM K M an td i) an (dayT td i)
theorem dayM_le {K M : Nat → Nat} {an td : Nat} (hM : ∀ i, M i ≤ 20) : ∀ i k, dayM K M an td i k ≤ 20
  | 0, k => hM k
  | i + 1, k => dayN_le (dayM_le hM i) k
theorem cpy_at {F G : Nat → Nat} {c j : Nat} (hj : j < c) : va_cpy F G 0 0 c j = F j := by
  simp only [va_cpy]; rw [if_pos (by omega)]; congr 1; omega
theorem clrT_c {K M K2 M2 : Nat → Nat} {a d i : Nat} (ha : a < 4) : clrT K M a d i = (fadeI (va_cpy K K2 0 0 4) (va_cpy M M2 0 0 16) a d i (4 * a + 0) = 0 ∧ fadeI (va_cpy K K2 0 0 4) (va_cpy M M2 0 0 16) a d i (4 * a + 1) = 0 ∧ fadeI (va_cpy K K2 0 0 4) (va_cpy M M2 0 0 16) a d i (4 * a + 2) = 0 ∧ fadeI (va_cpy K K2 0 0 4) (va_cpy M M2 0 0 16) a d i (4 * a + 3) = 0) := by
  unfold clrT
  rw [fadeI_then (by omega), fadeI_then (by omega), fadeI_then (by omega), fadeI_then (by omega), cpy_at ha, cpy_at (by omega), cpy_at (by omega), cpy_at (by omega), cpy_at (by omega)]
theorem waitP_c {K M K2 M2 : Nat → Nat} {g a t d x w i : Nat} (ha : a < 4) (ht : t < 4) : waitP K M g a t d x w i = (fgnN (va_cpy K K2 0 0 4) (fadeI (va_cpy K K2 0 0 4) (va_cpy M M2 0 0 16) a d i) g a t 4 ≤ x ∧ w ≤ upN (va_cpy K K2 0 0 4 a) (fadeI (va_cpy K K2 0 0 4) (va_cpy M M2 0 0 16) a d i (4 * a + t)) g) := by
  unfold waitP upT
  rw [fadeI_then ht, cpy_at ha, cpy_at (by omega), fgnT_fade]
  unfold fgnT
  rw [fgnN_cg (K := K) (K' := va_cpy K K2 0 0 4) (M := fun k => thenN (K a) (M k) d i) (M' := fun k => thenN (va_cpy K K2 0 0 4 a) (va_cpy M M2 0 0 16 k) d i) (cpy_at ha).symm (fun o ho => by show thenN _ _ _ _ = thenN _ _ _ _; rw [cpy_at ha, cpy_at (by omega)]) 4 (by omega)]
theorem bestN_1 {F U : Nat → Nat} : bestN F U 1 = some 0 := rfl
theorem bestN_s {F U : Nat → Nat} {i b : Nat} (h : bestN F U i = some b) (hc : F i < F b ∨ (F i = F b ∧ U b < U i)) : bestN F U (i + 1) = some i := by
  simp only [bestN, h, if_pos hc]
theorem bestN_k {F U : Nat → Nat} {i b : Nat} (h : bestN F U i = some b) (hc : ¬ (F i < F b ∨ (F i = F b ∧ U b < U i))) : bestN F U (i + 1) = some b := by
  simp only [bestN, h, if_neg hc]
def frT (M : Nat → Nat) (a c : Nat) : Nat := (M (4 * a + 0) + M (4 * a + 1) + M (4 * a + 2) + M (4 * a + 3)) * (10 - c)
theorem frT_le {M : Nat → Nat} {a c : Nat} (hM : ∀ i, M i ≤ 20) : frT M a c ≤ 800 := by
  have h0 := hM (4 * a + 0); have h1 := hM (4 * a + 1); have h2 := hM (4 * a + 2); have h3 := hM (4 * a + 3)
  unfold frT
  calc _ ≤ 80 * 10 := Nat.mul_le_mul (by omega) (by omega)
    _ = 800 := rfl
def digN (an td gr nn cn ps sz : Nat) (K M NC CC : Nat → Nat) (ab be : Nat) : Int64 :=
  mixL (mixL (rowsL CC (rowsL NC (anvL K M (mixL (mixL (mixL (mixL (mixL (mixL (mixL (lN 1321) an) td) gr) nn) cn) ps) sz) an) (4 * nn)) (4 * cn)) ab) be
theorem gcd_st {x y a b : Nat} (h : Nat.gcd x y = Nat.gcd a b) : Nat.gcd y (x % y) = Nat.gcd a b := by
  rw [← h, Nat.gcd_comm x y, Nat.gcd_rec y x, Nat.gcd_comm]
theorem strS_cg {K K' M M' : Nat → Nat} {g an d seed : Nat} (hK : ∀ a, a < an → K a = K' a) (hM : ∀ j, j < 4 * an → M j = M' j) : ∀ i, (∀ j, j < 4 * an → strM K M an d seed i j = strM K' M' an d seed i j) ∧ strS K M g an d seed i = strS K' M' g an d seed i
  | 0 => ⟨hM, rfl⟩
  | i + 1 => by
    obtain ⟨h1, h2⟩ := strS_cg (g := g) (d := d) (seed := seed) hK hM i
    constructor
    · intro j hj
      simp only [strM, dayN]
      rw [if_pos hj, if_pos hj, hK (j / 4) (by omega)]
      congr 1
      split
      · next ha =>
        simp only [addMN, updN]
        rw [h1 _ (by omega), hK _ ha, h1 j hj]
      · exact h1 j hj
    · simp only [strS]
      rw [h2]
      congr 1
      split
      · next ha => exact fgnN_cg (hK _ ha) (fun o ho => h1 _ (by omega)) 4 (by omega)
      · rfl
theorem strM_t {K M : Nat → Nat} {an d seed i : Nat} (ha : strX seed (i + 1) / 65536 % 4 < an) : strM K M an d seed (i + 1) = dayN K (addMN K (strM K M an d seed i) (strX seed (i + 1) / 65536 % 4) (strX seed (i + 1) / 1048576 % 4) (strX seed (i + 1) / 16777216 % 5 + 1)) an (d + i) := by
  simp only [strM]; rw [if_pos ha]
theorem strM_f {K M : Nat → Nat} {an d seed i : Nat} (ha : ¬ strX seed (i + 1) / 65536 % 4 < an) : strM K M an d seed (i + 1) = dayN K (strM K M an d seed i) an (d + i) := by
  simp only [strM]; rw [if_neg ha]
theorem strS_t {K M : Nat → Nat} {g an d seed i : Nat} (ha : strX seed (i + 1) / 65536 % 4 < an) : strS K M g an d seed (i + 1) = strS K M g an d seed i + fgnN K (strM K M an d seed i) g (strX seed (i + 1) / 65536 % 4) (strX seed (i + 1) / 1048576 % 4) 4 := by
  simp only [strS]; rw [if_pos ha]
theorem strS_f {K M : Nat → Nat} {g an d seed i : Nat} (ha : ¬ strX seed (i + 1) / 65536 % 4 < an) : strS K M g an d seed (i + 1) = strS K M g an d seed i := by
  simp only [strS]; rw [if_neg ha, Nat.add_zero]
