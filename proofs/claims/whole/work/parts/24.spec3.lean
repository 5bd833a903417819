/-! the reference's arrays as the same words: kinds and memories out of its one row; what its copying loops leave -/
def KQ (Q : Nat → Nat) : Nat → Nat := fun a => Q (22 + a)
def MV (Q : Nat → Nat) : Nat → Nat := fun k => Q (4 + k)
def begF (F : Nat → Nat) (i : Nat) : Nat → Nat := fun k => if k < i then 0 else F k
theorem begF_0 {F : Nat → Nat} (z : Nat) : F z = begF F 0 z := by simp only [begF]; rw [if_neg (by omega)]
theorem begF_s {F : Nat → Nat} {i : Nat} (z : Nat) : updN (begF F i) i 0 z = begF F (i + 1) z := by
  simp only [updN, begF]; (repeat' split) <;> first | rfl | (exfalso; omega)
def beginQ (F : Nat → Nat) (g : Nat) : Nat → Nat := updN (begF F 74) 21 g
def layQ (F : Nat → Nat) (kd a b c d : Nat) : Nat → Nat := updN (updN (updN (updN (updN (updN F (22 + F 0) kd) (4 + 4 * F 0) a) (4 + 4 * F 0 + 1) b) (4 + 4 * F 0 + 2) c) (4 + 4 * F 0 + 3) d) 0 (F 0 + 1)
def handM (Q MM : Nat → Nat) (i : Nat) : Nat → Nat := fun k => if k < i then Q (4 + k) else MM k
theorem handM_0 {Q MM : Nat → Nat} (z : Nat) : MM z = handM Q MM 0 z := by simp only [handM]; rw [if_neg (by omega)]
theorem handM_s {Q MM : Nat → Nat} {i : Nat} (z : Nat) : updN (handM Q MM i) i (Q (4 + i)) z = handM Q MM (i + 1) z := by
  by_cases hz : z = i
  · subst hz; simp only [updN, handM, if_true]; rw [if_pos (by omega)]
  · simp only [updN, handM, if_neg hz]; (repeat' split) <;> first | rfl | (exfalso; omega)
theorem handM_at {Q MM : Nat → Nat} {i k : Nat} (h : k < i) : handM Q MM i k = MV Q k := by simp only [handM, MV]; rw [if_pos h]
theorem handM_le {Q MM : Nat → Nat} (hQ : ∀ k, k < 16 → Q (4 + k) ≤ 20) (hM : ∀ k, MM k ≤ 20) (k : Nat) : handM Q MM 16 k ≤ 20 := by
  simp only [handM]; split
  · exact hQ k (by assumption)
  · exact hM k
def dayP (K M : Nat → Nat) (i d : Nat) : Nat → Nat := fun k => if k < i then leftN (K (k / 4)) (M k) d else M k
theorem dayP_0 {K M : Nat → Nat} {d : Nat} (z : Nat) : M z = dayP K M 0 d z := by simp only [dayP]; rw [if_neg (by omega)]
theorem dayP_at {K M : Nat → Nat} {i d : Nat} : dayP K M i d i = M i := by simp only [dayP]; rw [if_neg (by omega)]
theorem dayP_s {K M : Nat → Nat} {i d : Nat} (z : Nat) : updN (dayP K M i d) i (leftN (K (i / 4)) (dayP K M i d i) d) z = dayP K M (i + 1) d z := by
  rw [dayP_at]
  by_cases hz : z = i
  · subst hz; simp only [updN, dayP, if_true]; rw [if_pos (by omega)]
  · simp only [updN, dayP, if_neg hz]; (repeat' split) <;> first | rfl | (exfalso; omega)
def shQ (Q : Nat → Nat) (i : Nat) : Nat → Nat := fun k => if 74 ≤ k ∧ k < 74 + i then Q (k + 18) else Q k
theorem shQ_0 {Q : Nat → Nat} (z : Nat) : Q z = shQ Q 0 z := by simp only [shQ]; rw [if_neg (by omega)]
theorem shQ_s {Q : Nat → Nat} {i : Nat} (z : Nat) : updN (shQ Q i) (74 + i) (shQ Q i (92 + i)) z = shQ Q (i + 1) z := by
  have e : shQ Q i (92 + i) = Q (92 + i) := by simp only [shQ]; rw [if_neg (by omega)]
  rw [e]
  by_cases hz : z = 74 + i
  · subst hz; simp only [updN, shQ, if_true]; rw [if_pos (by omega)]; congr 1; omega
  · simp only [updN, shQ, if_neg hz]; (repeat' split) <;> first | rfl | (exfalso; omega)
def keepA (Q : Nat → Nat) : Nat → Nat := if Q 3 = 8 then updN (shQ Q 126) 3 7 else Q
def psQ (Q : Nat → Nat) (i : Nat) : Nat → Nat := fun k => if 74 + 18 * Q 3 ≤ k ∧ k < 74 + 18 * Q 3 + i then Q (4 + (k - (74 + 18 * Q 3))) else Q k
theorem psQ_0 {Q : Nat → Nat} (z : Nat) : Q z = psQ Q 0 z := by simp only [psQ]; rw [if_neg (by omega)]
theorem psQ_lo {Q : Nat → Nat} {i k : Nat} (h : k < 74) : psQ Q i k = Q k := by simp only [psQ]; rw [if_neg (by omega)]
theorem psQ_s {Q : Nat → Nat} {i : Nat} (hi : i < 18) (z : Nat) : updN (psQ Q i) (74 + 18 * psQ Q i 3 + i) (psQ Q i (4 + i)) z = psQ Q (i + 1) z := by
  rw [psQ_lo (k := 3) (by omega), psQ_lo (k := 4 + i) (by omega)]
  by_cases hz : z = 74 + 18 * Q 3 + i
  · subst hz; simp only [updN, psQ, if_true]; rw [if_pos (by omega)]; congr 1; omega
  · simp only [updN, psQ, if_neg hz]; (repeat' split) <;> first | rfl | (exfalso; omega)
def keepQ (Q : Nat → Nat) : Nat → Nat := updN (psQ (keepA Q) 18) 3 (keepA Q 3 + 1)
theorem keepA_lo {Q : Nat → Nat} {k : Nat} (h : k < 74) (h3 : k ≠ 3) : keepA Q k = Q k := by
  simp only [keepA]; split
  · simp only [updN, if_neg h3, shQ]; rw [if_neg (by omega)]
  · rfl
theorem keepA_3 {Q : Nat → Nat} (h : Q 3 ≤ 8) : keepA Q 3 ≤ 7 := by
  simp only [keepA]; split
  · simp [updN]
  · omega
theorem keepQ_lo {Q : Nat → Nat} {k : Nat} (h : k < 74) (h3 : k ≠ 3) : keepQ Q k = Q k := by
  simp only [keepQ, updN, if_neg h3]; rw [psQ_lo h, keepA_lo h h3]
theorem keepQ_K {Q : Nat → Nat} {a : Nat} (h : a < 4) : KQ (keepQ Q) a = KQ Q a := keepQ_lo (by omega) (by omega)
def laynQ (Q MM : Nat → Nat) (i : Nat) : Nat → Nat := fun k => if 4 ≤ k ∧ k < 4 + i then MM (k - 4) else Q k
theorem laynQ_0 {Q MM : Nat → Nat} (z : Nat) : Q z = laynQ Q MM 0 z := by simp only [laynQ]; rw [if_neg (by omega)]
theorem laynQ_s {Q MM : Nat → Nat} {i : Nat} (z : Nat) : updN (laynQ Q MM i) (4 + i) (MM i) z = laynQ Q MM (i + 1) z := by
  by_cases hz : z = 4 + i
  · subst hz; simp only [updN, laynQ, if_true]; rw [if_pos (by omega)]; congr 1; omega
  · simp only [updN, laynQ, if_neg hz]; (repeat' split) <;> first | rfl | (exfalso; omega)
def unQ (Q : Nat → Nat) (i : Nat) : Nat → Nat := fun k => if 4 ≤ k ∧ k < 4 + i then Q (74 + 18 * (Q 3 - 1) + (k - 4)) else if k = 3 then Q 3 - 1 else Q k
theorem unQ_0 {Q : Nat → Nat} (z : Nat) : updN Q 3 (Q 3 - 1) z = unQ Q 0 z := by
  simp only [unQ, updN]; rw [if_neg (show ¬ (4 ≤ z ∧ z < 4 + 0) by omega)]
theorem unQ_3 {Q : Nat → Nat} {i : Nat} : unQ Q i 3 = Q 3 - 1 := by simp only [unQ]; rw [if_neg (by omega)]; simp
theorem unQ_hi {Q : Nat → Nat} {i k : Nat} (hi : i ≤ 18) (h : 22 ≤ k) : unQ Q i k = Q k := by simp only [unQ]; rw [if_neg (by omega), if_neg (by omega)]
theorem unQ_s {Q : Nat → Nat} {i : Nat} (hi : i < 18) (z : Nat) : updN (unQ Q i) (4 + i) (unQ Q i (74 + 18 * unQ Q i 3 + i)) z = unQ Q (i + 1) z := by
  rw [unQ_3, unQ_hi (by omega) (by omega)]
  by_cases hz : z = 4 + i
  · subst hz; simp only [updN, unQ, if_true]; rw [if_pos (by omega)]; congr 1; omega
  · simp only [updN, unQ, if_neg hz]; (repeat' split) <;> first | rfl | (exfalso; omega)
def sumM (M : Nat → Nat) (a : Nat) : Nat := M (4 * a + 0) + M (4 * a + 1) + M (4 * a + 2) + M (4 * a + 3)
theorem jx_Mgtm {x : Nat} (hx : x < 2 ^ 31) (e : Int64) (he : e = -1) : 0 < lg_cmp (lN x) e ↔ 0 ≤ x := by
  rw [jx_cgt, Int64.lt_iff_toInt_lt, lN_toInt hx, he, show ((-1 : Int64)).toInt = -1 by decide]; omega
theorem jx_slt {a b : Nat} (ha : a < 2 ^ 30) (hb : b < 2 ^ 30) : nI a - nI b < 0 ↔ a < b := by
  rw [Int32.lt_iff_toInt_lt, pk_sub_toInt ha hb, Int32.toInt_zero]; omega
theorem jx_seq {a b : Nat} (ha : a < 2 ^ 30) (hb : b < 2 ^ 30) : nI a - nI b = 0 ↔ a = b := by
  constructor
  · intro q
    have z := congrArg Int32.toInt q
    rw [pk_sub_toInt ha hb, Int32.toInt_zero] at z; omega
  · intro q; rw [q]; exact Int32.sub_self _
theorem sumM_le {M : Nat → Nat} {a : Nat} (hM : ∀ i, M i ≤ 20) : sumM M a ≤ 80 := by
  have h0 := hM (4 * a + 0); have h1 := hM (4 * a + 1); have h2 := hM (4 * a + 2); have h3 := hM (4 * a + 3)
  unfold sumM; omega
theorem clrT_d {K M : Nat → Nat} {an a d i : Nat} (ha : a < an) : clrT K M a d i ↔ sumM (dayI K M an d i) a = 0 := by
  unfold clrT sumM
  rw [dayI_then ha (by omega), dayI_then ha (by omega), dayI_then ha (by omega), dayI_then ha (by omega)]
  omega
theorem waitP_d {K M : Nat → Nat} {g an a t d x w i : Nat} (ha : a < an) (ht : t < 4) : waitP K M g a t d x w i ↔ (fgnN K (dayI K M an d i) g a t 4 ≤ x ∧ w ≤ upN (K a) (dayI K M an d i (4 * a + t)) g) := by
  unfold waitP upT
  rw [dayI_then ha ht, fgnT_day ha]
def rowQ (Q : Nat → Nat) (b c x y z w : Nat) : Nat → Nat := updN (updN (updN (updN (updN Q (b + 4 * Q c) x) (b + 4 * Q c + 1) y) (b + 4 * Q c + 2) z) (b + 4 * Q c + 3) w) c (Q c + 1)
theorem rowQ_c {Q : Nat → Nat} {b c x y z w : Nat} (h : c < b) : updN (updN (updN (updN Q (b + 4 * Q c) x) (b + 4 * Q c + 1) y) (b + 4 * Q c + 2) z) (b + 4 * Q c + 3) w c = Q c := by
  simp only [updN]
  rw [if_neg (by omega), if_neg (by omega), if_neg (by omega), if_neg (by omega)]
abbrev noteR (Q : Nat → Nat) (a kd j : Nat) : Prop := ∀ k, k < j → Q (26 + 4 * k) = a → leftN kd (Q (26 + 4 * k + 1)) (Q (26 + 4 * k + 2)) = Q (26 + 4 * k + 3)
abbrev cameR (Q : Nat → Nat) (a t m j : Nat) : Prop := ∀ k, k < j → (Q (50 + 4 * k) = a ∧ Q (50 + 4 * k + 1) = t) → upN (KQ Q a) m (Q (50 + 4 * k + 2)) = Q (50 + 4 * k + 3)
theorem noteR_n {Q : Nat → Nat} {a kd j : Nat} (h : ¬ noteR Q a kd j) : ¬ noteR Q a kd (j + 1) := fun q => h (fun k hk => q k (by omega))
theorem noteR_s {Q : Nat → Nat} {a kd j : Nat} (h : noteR Q a kd j) (hj : Q (26 + 4 * j) = a → leftN kd (Q (26 + 4 * j + 1)) (Q (26 + 4 * j + 2)) = Q (26 + 4 * j + 3)) : noteR Q a kd (j + 1) := lt_step h hj
theorem noteR_f {Q : Nat → Nat} {a kd j : Nat} (hj : ¬ (Q (26 + 4 * j) = a → leftN kd (Q (26 + 4 * j + 1)) (Q (26 + 4 * j + 2)) = Q (26 + 4 * j + 3))) : ¬ noteR Q a kd (j + 1) := fun q => hj (q j (by omega))
theorem cameR_n {Q : Nat → Nat} {a t m j : Nat} (h : ¬ cameR Q a t m j) : ¬ cameR Q a t m (j + 1) := fun q => h (fun k hk => q k (by omega))
theorem cameR_s {Q : Nat → Nat} {a t m j : Nat} (h : cameR Q a t m j) (hj : (Q (50 + 4 * j) = a ∧ Q (50 + 4 * j + 1) = t) → upN (KQ Q a) m (Q (50 + 4 * j + 2)) = Q (50 + 4 * j + 3)) : cameR Q a t m (j + 1) := lt_step h hj
theorem cameR_f {Q : Nat → Nat} {a t m j : Nat} (hj : ¬ ((Q (50 + 4 * j) = a ∧ Q (50 + 4 * j + 1) = t) → upN (KQ Q a) m (Q (50 + 4 * j + 2)) = Q (50 + 4 * j + 3))) : ¬ cameR Q a t m (j + 1) := fun q => hj (q j (by omega))
def imgK (KP Q : Nat → Nat) (b i : Nat) : Nat → Nat := fun k => if b ≤ k ∧ k < b + i then Q (k - b) else KP k
theorem imgK_0 {KP Q : Nat → Nat} {b : Nat} (z : Nat) : KP z = imgK KP Q b 0 z := by simp only [imgK]; rw [if_neg (by omega)]
theorem imgK_s {KP Q : Nat → Nat} {b i : Nat} (z : Nat) : updN (imgK KP Q b i) (b + i) (Q i) z = imgK KP Q b (i + 1) z := by
  by_cases hz : z = b + i
  · subst hz; simp only [updN, imgK, if_true]; rw [if_pos (by omega)]; congr 1; omega
  · simp only [updN, imgK, if_neg hz]; (repeat' split) <;> first | rfl | (exfalso; omega)
def frQ (KP Q : Nat → Nat) (b i : Nat) : Nat → Nat := fun k => if k < i then KP (b + k) else Q k
theorem frQ_0 {KP Q : Nat → Nat} {b : Nat} (z : Nat) : Q z = frQ KP Q b 0 z := by simp only [frQ]; rw [if_neg (by omega)]
theorem frQ_s {KP Q : Nat → Nat} {b i : Nat} (z : Nat) : updN (frQ KP Q b i) i (KP (b + i)) z = frQ KP Q b (i + 1) z := by
  by_cases hz : z = i
  · subst hz; simp only [updN, frQ, if_true]; rw [if_pos (by omega)]
  · simp only [updN, frQ, if_neg hz]; (repeat' split) <;> first | rfl | (exfalso; omega)
