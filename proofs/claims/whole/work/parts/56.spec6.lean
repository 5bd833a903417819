/-! TWO: what each gets, what rests, how many, the k-th -/
def wG (K M : Nat → Nat) (g t : Nat) : Nat → Int32 := fun a => nI 20 - nI (fgnN K M g a t 4)
def gF (K M : Nat → Nat) (g t i : Nat) (F : Nat → Int32) : Nat → Int32 := fun a => if a < i then wG K M g t a else F a
theorem gF_0 {K M : Nat → Nat} {g t : Nat} {F : Nat → Int32} : F = gF K M g t 0 F := by
  funext a; simp only [gF]; rw [if_neg (by omega)]
theorem gF_s {K M : Nat → Nat} {g t i : Nat} {F : Nat → Int32} : upd (gF K M g t i F) i (nI 20 - nI (fgnN K M g i t 4)) = gF K M g t (i + 1) F := by
  funext k
  by_cases hk : k = i
  · subst hk; simp only [upd, gF, if_true]; rw [if_pos (by omega)]; rfl
  · simp only [upd, gF, if_neg hk]
    by_cases h2 : k < i
    · rw [if_pos h2, if_pos (show k < i + 1 by omega)]
    · rw [if_neg h2, if_neg (show ¬ k < i + 1 by omega)]
theorem gF_at {K M : Nat → Nat} {g t i a : Nat} {F : Nat → Int32} (h : a < i) : gF K M g t i F a = wG K M g t a := by simp only [gF]; rw [if_pos h]
def gnI (F : Nat → Int32) (own other : Nat) : Int32 := if own = other then F own / nI 2 else F own
theorem gnI_t {F : Nat → Int32} {own other : Nat} (h : own = other) : F own / nI 2 = gnI F own other := by simp only [gnI, if_pos h]
theorem gnI_f {F : Nat → Int32} {own other : Nat} (h : ¬ own = other) : F own = gnI F own other := by simp only [gnI, if_neg h]
abbrev bestG (F : Nat → Int32) (own other n : Nat) : Prop := ∀ a, a < n → gnI F a other ≤ gnI F own other
abbrev rstP (F1 F2 : Nat → Int32) (i j n : Nat) : Prop := ∀ a, a < n → gnI F1 a j ≤ gnI F1 i j ∧ gnI F2 a i ≤ gnI F2 j i
theorem rst_of {F1 F2 : Nat → Int32} {i j n : Nat} (h1 : bestG F1 i j n) (h2 : bestG F2 j i n) : rstP F1 F2 i j n := fun a ha => ⟨h1 a ha, h2 a ha⟩
theorem rst_1 {F1 F2 : Nat → Int32} {i j n : Nat} (h1 : ¬ bestG F1 i j n) : ¬ rstP F1 F2 i j n := fun q => h1 fun a ha => (q a ha).1
theorem rst_2 {F1 F2 : Nat → Int32} {i j n : Nat} (h2 : ¬ bestG F2 j i n) : ¬ rstP F1 F2 i j n := fun q => h2 fun a ha => (q a ha).2
theorem rst_0 {F1 F2 : Nat → Int32} {i j : Nat} : rstP F1 F2 i j 0 := fun k hk => absurd hk (Nat.not_lt_zero k)
theorem rst_s {F1 F2 : Nat → Int32} {i j n : Nat} (h : rstP F1 F2 i j n) (h1 : gnI F1 n j ≤ gnI F1 i j) (h2 : gnI F2 n i ≤ gnI F2 j i) : rstP F1 F2 i j (n + 1) := lt_step h ⟨h1, h2⟩
theorem rst_n {F1 F2 : Nat → Int32} {i j n : Nat} (h : ¬ rstP F1 F2 i j n) : ¬ rstP F1 F2 i j (n + 1) := fun q => h (fun k hk => q k (by omega))
theorem rst_n1 {F1 F2 : Nat → Int32} {i j n : Nat} (h : ¬ gnI F1 n j ≤ gnI F1 i j) : ¬ rstP F1 F2 i j (n + 1) := fun q => h (q n (by omega)).1
theorem rst_n2 {F1 F2 : Nat → Int32} {i j n : Nat} (h : ¬ gnI F2 n i ≤ gnI F2 j i) : ¬ rstP F1 F2 i j (n + 1) := fun q => h (q n (by omega)).2
theorem i32_nlt {a b : Int32} (h : ¬ b < a) : a ≤ b := by
  rw [Int32.lt_iff_toInt_lt] at h; rw [Int32.le_iff_toInt_le]; omega
theorem i32_nle {a b : Int32} (h : b < a) : ¬ a ≤ b := by
  rw [Int32.le_iff_toInt_le]; rw [Int32.lt_iff_toInt_lt] at h; omega
def oF : Option Nat → Int32
  | none => -5
  | some v => nI v
noncomputable def stT (P : Nat → Nat → Prop) (k i j : Nat) (s : Nat × Option Nat) : Nat × Option Nat := @ite _ (P i j) (Classical.propDecidable _) (s.1 + 1, if s.1 = k then some (4 * i + j) else s.2) s
noncomputable def rowT (P : Nat → Nat → Prop) (k i : Nat) (s : Nat × Option Nat) : Nat → Nat × Option Nat
  | 0 => s
  | j + 1 => stT P k i j (rowT P k i s j)
noncomputable def allT (P : Nat → Nat → Prop) (k an : Nat) : Nat → Nat × Option Nat
  | 0 => (0, none)
  | i + 1 => rowT P k i (allT P k an i) an
theorem rowT_t {P : Nat → Nat → Prop} {k i j : Nat} {s : Nat × Option Nat} (h : P i j) : rowT P k i s (j + 1) = ((rowT P k i s j).1 + 1, if (rowT P k i s j).1 = k then some (4 * i + j) else (rowT P k i s j).2) := by
  simp only [rowT, stT, if_pos h]
theorem rowT_f {P : Nat → Nat → Prop} {k i j : Nat} {s : Nat × Option Nat} (h : ¬ P i j) : rowT P k i s (j + 1) = rowT P k i s j := by
  simp only [rowT, stT, if_neg h]
theorem rT_t1 {P : Nat → Nat → Prop} {k i j : Nat} {s : Nat × Option Nat} (h : P i j) (e : (rowT P k i s j).1 = k) : nI (4 * i + j) = oF (rowT P k i s (j + 1)).2 := by
  rw [rowT_t h]; simp only [if_pos e]; rfl
theorem rT_t2 {P : Nat → Nat → Prop} {k i j : Nat} {s : Nat × Option Nat} (h : P i j) (e : ¬ (rowT P k i s j).1 = k) : oF (rowT P k i s j).2 = oF (rowT P k i s (j + 1)).2 := by
  rw [rowT_t h]; simp only [if_neg e]
theorem rT_n {P : Nat → Nat → Prop} {k i j : Nat} {s : Nat × Option Nat} (h : P i j) : (rowT P k i s j).1 + 1 = (rowT P k i s (j + 1)).1 := by rw [rowT_t h]
theorem rT_f1 {P : Nat → Nat → Prop} {k i j : Nat} {s : Nat × Option Nat} (h : ¬ P i j) : (rowT P k i s j).1 = (rowT P k i s (j + 1)).1 := by rw [rowT_f h]
theorem rT_f2 {P : Nat → Nat → Prop} {k i j : Nat} {s : Nat × Option Nat} (h : ¬ P i j) : oF (rowT P k i s j).2 = oF (rowT P k i s (j + 1)).2 := by rw [rowT_f h]
theorem rowT_le {P : Nat → Nat → Prop} {k i : Nat} {s : Nat × Option Nat} : ∀ j, (rowT P k i s j).1 ≤ s.1 + j
  | 0 => Nat.le_refl _
  | j + 1 => by
    have := rowT_le (P := P) (k := k) (i := i) (s := s) j
    by_cases h : P i j
    · rw [rowT_t h]; simp only []; omega
    · rw [rowT_f h]; omega
theorem allT_le {P : Nat → Nat → Prop} {k an : Nat} (han : an ≤ 4) : ∀ i, (allT P k an i).1 ≤ 4 * i
  | 0 => Nat.le_refl _
  | i + 1 => by
    have h1 := allT_le (P := P) (k := k) han i
    have h2 := rowT_le (P := P) (k := k) (i := i) (s := allT P k an i) an
    simp only [allT]; omega
theorem rowT_st {P : Nat → Nat → Prop} {k i j : Nat} {s : Nat × Option Nat} (h : k < (rowT P k i s j).1) : ∀ m, (rowT P k i s (j + m)).2 = (rowT P k i s j).2 ∧ k < (rowT P k i s (j + m)).1
  | 0 => ⟨rfl, h⟩
  | m + 1 => by
    obtain ⟨h1, h2⟩ := rowT_st h m
    rw [← Nat.add_assoc]
    by_cases hp : P i (j + m)
    · rw [rowT_t hp, if_neg (by omega)]; exact ⟨h1, by simp only []; omega⟩
    · rw [rowT_f hp]; exact ⟨h1, h2⟩
theorem allT_st {P : Nat → Nat → Prop} {k an i : Nat} (h : k < (allT P k an i).1) : ∀ m, (allT P k an (i + m)).2 = (allT P k an i).2 ∧ k < (allT P k an (i + m)).1
  | 0 => ⟨rfl, h⟩
  | m + 1 => by
    obtain ⟨h1, h2⟩ := allT_st h m
    have q := rowT_st (P := P) (k := k) (i := i + m) (j := 0) (s := allT P k an (i + m)) h2 an
    rw [Nat.zero_add] at q
    exact ⟨q.1.trans h1, q.2⟩
theorem allT_ret {P : Nat → Nat → Prop} {k an i j : Nat} (hi : i < an) (hj : j < an) (h : P i j) (e : (rowT P k i (allT P k an i) j).1 = k) : nI (4 * i + j) = oF (allT P k an an).2 := by
  have h1 : k < (rowT P k i (allT P k an i) (j + 1)).1 := by rw [← rT_n h]; omega
  have h2 := rowT_st h1 (an - (j + 1))
  rw [show j + 1 + (an - (j + 1)) = an by omega] at h2
  have h3 := allT_st (P := P) (k := k) (an := an) (i := i + 1) h2.2 (an - (i + 1))
  rw [show i + 1 + (an - (i + 1)) = an by omega] at h3
  rw [h3.1, show (allT P k an (i + 1)).2 = (rowT P k i (allT P k an i) an).2 from rfl, h2.1]
  exact rT_t1 h e
theorem rowT_cg {P P' : Nat → Nat → Prop} {k i an : Nat} {s : Nat × Option Nat} (h : ∀ j, j < an → (P i j ↔ P' i j)) : ∀ j, j ≤ an → rowT P k i s j = rowT P' k i s j
  | 0, _ => rfl
  | j + 1, hj => by
    simp only [rowT, stT]
    rw [rowT_cg h j (by omega), propext (h j (by omega))]
theorem allT_cg {P P' : Nat → Nat → Prop} {k an : Nat} (h : ∀ i j, i < an → j < an → (P i j ↔ P' i j)) : ∀ i, i ≤ an → allT P k an i = allT P' k an i
  | 0, _ => rfl
  | i + 1, hi => by
    simp only [allT]
    rw [allT_cg h i (by omega)]
    exact rowT_cg (fun j hj => h i j (by omega) hj) an (Nat.le_refl _)
theorem gnI_cg {F F' : Nat → Int32} {own other : Nat} (h : F own = F' own) : gnI F own other = gnI F' own other := by unfold gnI; rw [h]
theorem rst_cg {F1 F2 G1 G2 : Nat → Int32} {i j n : Nat} (hi : i < n) (hj : j < n) (h1 : ∀ a, a < n → F1 a = G1 a) (h2 : ∀ a, a < n → F2 a = G2 a) : rstP F1 F2 i j n ↔ rstP G1 G2 i j n := by
  constructor
  · intro q a ha
    have z := q a ha
    rw [gnI_cg (h1 a ha), gnI_cg (h1 i hi), gnI_cg (h2 a ha), gnI_cg (h2 j hj)] at z
    exact z
  · intro q a ha
    have z := q a ha
    rw [← gnI_cg (h1 a ha), ← gnI_cg (h1 i hi), ← gnI_cg (h2 a ha), ← gnI_cg (h2 j hj)] at z
    exact z
