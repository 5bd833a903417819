/-! the reference's street of the parse -/
theorem posT_lt {F : Nat → Nat} {n i : Nat} (h : posT F n i < n) : posT F n i < posT F n (i + 1) := by
  rw [posT_s h]
  have a := endF_le (F := F) h
  have b := skipF_le (F := F) (n := n) (p := endF F n (posT F n i)) a.2.1
  omega
theorem posT_up {F : Nat → Nat} {n i : Nat} : posT F n i ≤ posT F n (i + 1) := by
  by_cases h : posT F n i < n
  · exact Nat.le_of_lt (posT_lt h)
  · have a := posT_le (F := F) (n := n) i
    simp only [posT]; rw [if_neg h, skipF_end (Nat.le_refl n)]; exact a
theorem posT_mono {F : Nat → Nat} {n i : Nat} : ∀ m, posT F n i ≤ posT F n (i + m)
  | 0 => Nat.le_refl _
  | m + 1 => Nat.le_trans (posT_mono m) (posT_up (i := i + m))
def wrkQ (A : Nat → Nat) (x y z : Nat) : Nat → Nat := updN A (4 + 4 * x + y) (min (A (4 + 4 * x + y) + moreN (A (22 + x)) z) 20)
def dyQ (A : Nat → Nat) (i : Nat) : Nat → Nat := fun k => if 4 ≤ k ∧ k < 4 + i then leftN (A (22 + (k - 4) / 4)) (A k) (A 20) else A k
theorem dyQ_0 {A : Nat → Nat} (z : Nat) : A z = dyQ A 0 z := by simp only [dyQ]; rw [if_neg (by omega)]
theorem dyQ_o {A : Nat → Nat} {i k : Nat} (h : k < 4 ∨ 4 + i ≤ k) : dyQ A i k = A k := by simp only [dyQ]; rw [if_neg (by omega)]
theorem dyQ_s {A : Nat → Nat} {i : Nat} (hi : i < 16) (z : Nat) : updN (dyQ A i) (4 + i) (leftN (dyQ A i (22 + i / 4)) (dyQ A i (4 + i)) (dyQ A i 20)) z = dyQ A (i + 1) z := by
  rw [dyQ_o (k := 22 + i / 4) (by omega), dyQ_o (k := 4 + i) (by omega), dyQ_o (k := 20) (by omega)]
  by_cases hz : z = 4 + i
  · subst hz; simp only [updN, dyQ, if_true]; rw [if_pos (by omega), show (4 + i - 4) / 4 = i / 4 by omega]
  · simp only [updN, dyQ, if_neg hz]; (repeat' split) <;> first | rfl | (exfalso; omega)
def dayQ (A : Nat → Nat) : Nat → Nat := updN (dyQ A (4 * A 0)) 20 (A 20 + 1)
/-- the reference's row of the street that is read -/
def relA (A : Nat → Nat) (an td hand : Nat) (K M : Nat → Nat) : Prop :=
  A 0 = an ∧ A 20 = td ∧ A 21 = hand ∧ (∀ z, z < an → A (22 + z) = K z) ∧ (∀ z, z < 4 * an → A (4 + z) = M z) ∧ (∀ z, z < 4 → A (22 + z) ≤ 5) ∧ (∀ z, z < 16 → A (4 + z) ≤ 20) ∧ (A 1 = 0 ∧ A 2 = 0 ∧ A 3 = 0) ∧ ∀ z, 26 ≤ z → z < 74 → A z = 0
theorem relA_b {A K M : Nat → Nat} {g : Nat} : relA (beginQ A g) 0 0 g K M := by
  have e : ∀ z, z < 74 → ¬ z = 21 → beginQ A g z = 0 := fun z h1 h2 => by simp only [beginQ, updN, begF]; rw [if_neg h2, if_pos h1]
  exact ⟨e 0 (by omega) (by omega), e 20 (by omega) (by omega), by simp [beginQ, updN], fun z hz => by omega, fun z hz => by omega, fun z hz => by rw [e _ (by omega) (by omega)]; omega, fun z hz => by rw [e _ (by omega) (by omega)]; omega, ⟨e 1 (by omega) (by omega), e 2 (by omega) (by omega), e 3 (by omega) (by omega)⟩, fun z h1 h2 => e z h2 (by omega)⟩
theorem relA_a {A K M : Nat → Nat} {an td g x a b c d : Nat} (h : relA A an td g K M) (h4 : an < 4) (hx : x ≤ 5) (ha : a ≤ 20) (hb : b ≤ 20) (hc : c ≤ 20) (hd : d ≤ 20) : relA (layQ A x a b c d) (an + 1) td g (updN K an x) (joinM M an a b c d) := by
  obtain ⟨h0, h1, h2, h3, h5, h6, h7, ⟨h8, h9, h10⟩, h11⟩ := h
  subst h0
  refine ⟨?_, ?_, ?_, fun z hz => ?_, fun z hz => ?_, fun z hz => ?_, fun z hz => ?_, ⟨?_, ?_, ?_⟩, fun z q1 q2 => ?_⟩
  · simp [layQ, updN]
  · simp only [layQ, updN]; rw [if_neg (by omega), if_neg (by omega), if_neg (by omega), if_neg (by omega), if_neg (by omega), if_neg (by omega)]; exact h1
  · simp only [layQ, updN]; rw [if_neg (by omega), if_neg (by omega), if_neg (by omega), if_neg (by omega), if_neg (by omega), if_neg (by omega)]; exact h2
  · simp only [layQ, updN]
    rw [if_neg (by omega), if_neg (by omega), if_neg (by omega), if_neg (by omega), if_neg (by omega)]
    by_cases e : z = A 0
    · rw [if_pos (by omega), if_pos e]
    · rw [if_neg (by omega), if_neg e]; exact h3 z (by omega)
  · simp only [layQ, joinM, updN]
    rw [if_neg (by omega)]
    by_cases e3 : z = 4 * A 0 + 3
    · rw [if_pos (by omega), if_pos e3]
    · rw [if_neg (by omega), if_neg e3]
      by_cases e2 : z = 4 * A 0 + 2
      · rw [if_pos (by omega), if_pos e2]
      · rw [if_neg (by omega), if_neg e2]
        by_cases e1 : z = 4 * A 0 + 1
        · rw [if_pos (by omega), if_pos e1]
        · rw [if_neg (by omega), if_neg e1]
          by_cases e0 : z = 4 * A 0
          · rw [if_pos (by omega), if_pos e0]
          · rw [if_neg (by omega), if_neg (by omega), if_neg e0]; exact h5 z (by omega)
  · simp only [layQ, updN]
    have := h6 z hz
    (repeat' split) <;> omega
  · simp only [layQ, updN]
    have := h7 z hz
    (repeat' split) <;> omega
  · simp only [layQ, updN]; rw [if_neg (by omega), if_neg (by omega), if_neg (by omega), if_neg (by omega), if_neg (by omega), if_neg (by omega)]; exact h8
  · simp only [layQ, updN]; rw [if_neg (by omega), if_neg (by omega), if_neg (by omega), if_neg (by omega), if_neg (by omega), if_neg (by omega)]; exact h9
  · simp only [layQ, updN]; rw [if_neg (by omega), if_neg (by omega), if_neg (by omega), if_neg (by omega), if_neg (by omega), if_neg (by omega)]; exact h10
  · simp only [layQ, updN]; rw [if_neg (by omega), if_neg (by omega), if_neg (by omega), if_neg (by omega), if_neg (by omega), if_neg (by omega)]; exact h11 z q1 q2
theorem relA_w {A K M : Nat → Nat} {an td g x y b : Nat} (h : relA A an td g K M) (h4 : an ≤ 4) (hx : x < an) (hy : y < 4) : relA (wrkQ A x y b) an td g K (addMN K M x y b) := by
  obtain ⟨h0, h1, h2, h3, h5, h6, h7, ⟨h8, h9, h10⟩, h11⟩ := h
  have a1 := h3 x hx
  have a2 := h5 (4 * x + y) (by omega)
  rw [show 4 + (4 * x + y) = 4 + 4 * x + y by omega] at a2
  refine ⟨?_, ?_, ?_, fun z hz => ?_, fun z hz => ?_, fun z hz => ?_, fun z hz => ?_, ⟨?_, ?_, ?_⟩, fun z q1 q2 => ?_⟩
  · simp only [wrkQ, updN]; rw [if_neg (by omega)]; exact h0
  · simp only [wrkQ, updN]; rw [if_neg (by omega)]; exact h1
  · simp only [wrkQ, updN]; rw [if_neg (by omega)]; exact h2
  · simp only [wrkQ, updN]; rw [if_neg (by omega)]; exact h3 z hz
  · simp only [wrkQ, addMN, updN]
    by_cases e : z = 4 * x + y
    · rw [if_pos (by omega), if_pos e, a1, a2]
    · rw [if_neg (by omega), if_neg e]; exact h5 z hz
  · simp only [wrkQ, updN]; rw [if_neg (by omega)]; exact h6 z hz
  · simp only [wrkQ, updN]; have := h7 z hz; split <;> omega
  · simp only [wrkQ, updN]; rw [if_neg (by omega)]; exact h8
  · simp only [wrkQ, updN]; rw [if_neg (by omega)]; exact h9
  · simp only [wrkQ, updN]; rw [if_neg (by omega)]; exact h10
  · simp only [wrkQ, updN]; rw [if_neg (by omega)]; exact h11 z q1 q2
theorem relA_d {A K M : Nat → Nat} {an td g : Nat} (h : relA A an td g K M) (h4 : an ≤ 4) : relA (dayQ A) an (td + 1) g K (dayN K M an td) := by
  obtain ⟨h0, h1, h2, h3, h5, h6, h7, ⟨h8, h9, h10⟩, h11⟩ := h
  unfold dayQ
  refine ⟨?_, ?_, ?_, fun z hz => ?_, fun z hz => ?_, fun z hz => ?_, fun z hz => ?_, ⟨?_, ?_, ?_⟩, fun z q1 q2 => ?_⟩
  · simp only [updN]; rw [if_neg (by omega), dyQ_o (by omega)]; exact h0
  · simp only [updN, if_true]; rw [h1]
  · simp only [updN]; rw [if_neg (by omega), dyQ_o (by omega)]; exact h2
  · simp only [updN]; rw [if_neg (by omega), dyQ_o (by omega)]; exact h3 z hz
  · simp only [updN]; rw [if_neg (by omega)]
    simp only [dyQ, dayN]
    rw [if_pos (by omega), if_pos hz, show (4 + z - 4) / 4 = z / 4 by omega, h3 (z / 4) (by omega), h5 z hz, h1]
  · simp only [updN]; rw [if_neg (by omega), dyQ_o (by omega)]; exact h6 z hz
  · simp only [updN]; rw [if_neg (by omega)]
    have := h7 z hz
    simp only [dyQ]; split
    · have := leftN_le (A (22 + (4 + z - 4) / 4)) (A (4 + z)) (A 20); omega
    · exact this
  · simp only [updN]; rw [if_neg (by omega), dyQ_o (by omega)]; exact h8
  · simp only [updN]; rw [if_neg (by omega), dyQ_o (by omega)]; exact h9
  · simp only [updN]; rw [if_neg (by omega), dyQ_o (by omega)]; exact h10
  · simp only [updN]; rw [if_neg (by omega), dyQ_o (by omega)]; exact h11 z q1 q2
theorem flt8 {s : Nat → Nat} {g : Nat × Option pS} {J j x : Nat} (h : g = (J, none)) (hG : g = (j, none)) (hx : x = s J) : (-10 : Int32) - nI x = (-10) - nI (s j) := by
  rw [hx, (Prod.mk.inj (h.symm.trans hG)).1]
