theorem goR_c {k v : Nat → Nat} : ∀ f c (s : pS) (c' : Nat) (S : pS), goR k v f c s = (c', some S) → c' ≤ c + f
  | 0, c, s, c', S, h => by simp [goR] at h
  | f + 1, c, s, c', S, h => by
    by_cases h0 : k s.1 = 0
    · rw [goR_0 h0] at h; cases h; omega
    · by_cases h1 : itmOK k v s.2.1 s.1
      · by_cases h2 : k (itmJ k v s.2.1 s.1 + 1) = 6
        · rw [goR_s h0 h1 h2] at h
          have := goR_c f (c + 1) _ c' S h
          omega
        · rw [goR_p h0 h1 h2] at h; cases h
      · rw [goR_j h0 h1] at h; cases h
theorem rdG_c {k v : Nat → Nat} {c : Nat} {S : pS} (h : rdG k v = (c, some S)) : c ≤ 160 := by
  by_cases h0 : k 0 = 1
  · by_cases h1 : k 1 = 5 ∧ v 1 ≤ 9
    · by_cases h2 : k 2 = 6
      · rw [rd_3 h0 h1 h2] at h; have := goR_c 159 1 _ c S h; omega
      · rw [rd_2 h0 h1 h2] at h; cases h
    · rw [rd_1 h0 h1] at h; cases h
  · rw [rd_0 h0] at h; cases h
theorem fneg {x : Nat} (h : x ≤ 150) : (-10 : Int32) - nI x < 0 := by
  rw [Int32.lt_iff_toInt_lt, show (-10 : Int32) = -(nI 10) by decide +kernel, Int32.toInt_zero]
  have e : -(nI 10) - nI x = -(nI (10 + x)) := by rw [← nI_add]; simp [Int32.sub_eq_add_neg, Int32.neg_add]
  rw [e, Int32.toInt_neg, nI_toInt (by omega)]
  rw [Int.bmod_def]; omega
/-! the reference's tokens, against the stream -/
def lenQ (F : Nat → Nat) (n q : Nat) : Nat := if q < n then endF F n q - q else 0
def tok0 (c : Nat) : Nat := if fam c = 2 then 1 else if fam c = 1 then 2 else if c = 59 then 3 else 4
def tokR (F : Nat → Nat) (n q : Nat) : Nat := if q < n then (if fam (F q) = 1 ∧ 2 < endF F n q - q then 4 else tok0 (F q)) else 0
theorem tok0_s {c : Nat} (h : 97 ≤ c ∧ c ≤ 122) : 1 = tok0 c := by
  unfold tok0 fam; rw [if_pos (by rw [if_neg (by omega), if_pos h])]
theorem tok0_f {c : Nat} (h : 48 ≤ c ∧ c ≤ 57) : 2 = tok0 c := by
  have e : fam c = 1 := by unfold fam; rw [if_pos h]
  unfold tok0; rw [if_neg (by omega), if_pos e]
theorem fam_0 {c : Nat} (h1 : ¬ (97 ≤ c ∧ c ≤ 122)) (h2 : ¬ (48 ≤ c ∧ c ≤ 57)) : fam c = 0 := by unfold fam; rw [if_neg h2, if_neg h1]
theorem tok0_p {c : Nat} (h : c = 59) : 3 = tok0 c := by subst h; decide
theorem tok0_x {c : Nat} (h1 : ¬ (97 ≤ c ∧ c ≤ 122)) (h2 : ¬ (48 ≤ c ∧ c ≤ 57)) (h : ¬ c = 59) : 4 = tok0 c := by
  unfold tok0; rw [if_neg (by rw [fam_0 h1 h2]; omega), if_neg (by rw [fam_0 h1 h2]; omega), if_neg h]
theorem tok0_1 {c : Nat} : tok0 c = 1 ↔ fam c = 2 := by unfold tok0; (repeat' split) <;> omega
theorem tok0_2 {c : Nat} : tok0 c = 2 ↔ fam c = 1 := by unfold tok0; (repeat' split) <;> omega
theorem tok0_le {c : Nat} : 1 ≤ tok0 c ∧ tok0 c ≤ 4 := by unfold tok0; (repeat' split) <;> omega
theorem fam_2 {c : Nat} : fam c = 2 ↔ (97 ≤ c ∧ c ≤ 122) := by unfold fam; (repeat' split) <;> omega
theorem fam_1i {c : Nat} : fam c = 1 ↔ (48 ≤ c ∧ c ≤ 57) := by unfold fam; (repeat' split) <;> omega
theorem fam_le {c : Nat} : fam c ≤ 2 := by unfold fam; (repeat' split) <;> omega
/-- where the run of the reference stands -/
def runQ (F : Nat → Nat) (n q l g : Nat) : Prop := (g = 1 ∧ tok0 (F q) < 3 ∧ endF F n q = runG F (fam (F q)) (n - (q + l)) (q + l)) ∨ (g = 0 ∧ endF F n q = q + l)
theorem runQ_0 {F : Nat → Nat} {n q : Nat} (h : tok0 (F q) < 3) : runQ F n q 1 1 := by
  have := tok0_1 (c := F q)
  have := tok0_2 (c := F q)
  have := tok0_le (c := F q)
  refine .inl ⟨rfl, h, ?_⟩
  unfold endF; rw [if_neg (by omega)]
theorem runQ_x {F : Nat → Nat} {n q : Nat} (h : ¬ tok0 (F q) < 3) : runQ F n q 1 0 := by
  have := tok0_1 (c := F q)
  have := tok0_2 (c := F q)
  have := fam_le (c := F q)
  refine .inr ⟨rfl, ?_⟩
  unfold endF; rw [if_pos (by omega)]
theorem runQ_s {F : Nat → Nat} {n q l : Nat} (h : runQ F n q l 1) (hl : q + l < n) (hf : fam (F (q + l)) = fam (F q)) : runQ F n q (l + 1) 1 := by
  rcases h with ⟨_, h1, h2⟩ | ⟨h, _⟩
  · exact .inl ⟨rfl, h1, by rw [h2, runG_s hl hf, Nat.add_assoc]⟩
  · omega
theorem runQ_n {F : Nat → Nat} {n q l : Nat} (h : runQ F n q l 1) (hf : ¬ fam (F (q + l)) = fam (F q)) : runQ F n q l 0 := by
  rcases h with ⟨_, h1, h2⟩ | ⟨h, _⟩
  · exact .inr ⟨rfl, by rw [h2, runG_n hf]⟩
  · omega
theorem runQ_e0 {F : Nat → Nat} {n q l : Nat} (h : runQ F n q l 0) : endF F n q = q + l := by
  rcases h with ⟨h, _⟩ | ⟨_, h⟩
  · omega
  · exact h
theorem runQ_e1 {F : Nat → Nat} {n q l g : Nat} (h : runQ F n q l g) (hl : n ≤ q + l) : endF F n q = q + l := by
  rcases h with ⟨_, _, h⟩ | ⟨_, h⟩
  · rw [h, runG_e hl]
  · exact h
/-- the reference at the i-th token -/
def stQ (F : Nat → Nat) (n i ta tl tk va : Nat) : Prop := ta = posT F n i ∧ tl = lenQ F n ta ∧ tk = tokR F n ta ∧ (tk = 2 → va = vT F n i) ∧ tk ≤ 4 ∧ ta + tl ≤ n
theorem stQ_of {F : Nat → Nat} {n i q va : Nat} (hq : q = posT F n i) (hv : tokR F n q = 2 → va = valN F q (endF F n q)) : stQ F n i q (lenQ F n q) (tokR F n q) va := by
  refine ⟨hq, rfl, rfl, fun h => ?_, ?_, ?_⟩
  · rw [hv h, vT, hq]
  · have := tok0_le (c := F q); unfold tokR; (repeat' split) <;> omega
  · have l := posT_le (F := F) (n := n) i
    unfold lenQ; split
    · next h => have := endF_le (F := F) h; omega
    · omega
theorem stQ_next {F : Nat → Nat} {n i ta tl tk va : Nat} (h : stQ F n i ta tl tk va) : skipF F n (ta + tl) = posT F n (i + 1) := by
  obtain ⟨h1, h2, -⟩ := h
  have l := posT_le (F := F) (n := n) i
  simp only [posT]
  rw [h2, h1]
  unfold lenQ
  by_cases q : posT F n i < n
  · rw [if_pos q, if_pos q]
    have := endF_le (F := F) q
    rw [show posT F n i + (endF F n (posT F n i) - posT F n i) = endF F n (posT F n i) by omega]
  · rw [if_neg q, if_neg q, show posT F n i + 0 = n by omega]
theorem tk_0 {F : Nat → Nat} {n i ta tl tk va : Nat} (h : stQ F n i ta tl tk va) : tk = 0 ↔ kT F n i = 0 := by
  obtain ⟨h1, h2, h3, -⟩ := h
  have a := kT_pos (F := F) (n := n) (i := i)
  have b := tok0_le (c := F ta)
  rw [h3, tokR]
  by_cases q : ta < n
  · rw [if_pos q]; rw [h1] at q
    have := a.mpr q
    split <;> omega
  · rw [if_neg q]; rw [h1] at q
    exact ⟨fun _ => kT_0 q, fun _ => rfl⟩
theorem sortN_6 {F : Nat → Nat} {q e : Nat} : sortN F q e = 6 ↔ F q = 59 := by
  have := wordN_le (F := F) (q := q) (e := e)
  have f1 := fam_1i (c := F q)
  have f2 := fam_2 (c := F q)
  unfold sortN; (repeat' split) <;> omega
theorem tk_2 {F : Nat → Nat} {n i ta tl tk va : Nat} (h : stQ F n i ta tl tk va) : tk = 2 ↔ kT F n i = 5 := by
  obtain ⟨h1, h2, h3, -⟩ := h
  rw [h3, tokR]
  by_cases q : ta < n
  · rw [if_pos q]
    have t2 := tok0_2 (c := F ta)
    rw [h1] at q t2 ⊢
    rw [kT_s q, sortN_5]
    split <;> omega
  · rw [if_neg q]; rw [h1] at q; rw [kT_0 q]; omega
theorem tk_3 {F : Nat → Nat} {n i ta tl tk va : Nat} (h : stQ F n i ta tl tk va) : tk = 3 ↔ kT F n i = 6 := by
  obtain ⟨h1, h2, h3, -⟩ := h
  rw [h3, tokR]
  by_cases q : ta < n
  · rw [if_pos q]
    have f1 := fam_1i (c := F ta)
    have f2 := fam_2 (c := F ta)
    have t3 : tok0 (F ta) = 3 ↔ F ta = 59 := by unfold tok0; (repeat' split) <;> omega
    rw [h1] at q t3 f1 f2 ⊢
    rw [kT_s q, sortN_6]
    split <;> omega
  · rw [if_neg q]; rw [h1] at q; rw [kT_0 q]; omega
/-- a word, spelled -/
theorem wordN_w {F : Nat → Nat} {w q e : Nat} (hw : w < 4) : wordN F q e = w + 1 ↔ isWP F w q e := by
  have l0 : jlen.getD 0 0 = 6 := by decide
  have l1 : jlen.getD 1 0 = 5 := by decide
  have l2 : jlen.getD 2 0 = 4 := by decide
  have l3 : jlen.getD 3 0 = 3 := by decide
  have x : ∀ a b, a < 4 → b < 4 → isWP F a q e → isWP F b q e → a = b := by
    intro a b ha hb h1 h2
    have z := h1.1.symm.trans h2.1
    rcases (show a = 0 ∨ a = 1 ∨ a = 2 ∨ a = 3 by omega) with rfl | rfl | rfl | rfl <;> rcases (show b = 0 ∨ b = 1 ∨ b = 2 ∨ b = 3 by omega) with rfl | rfl | rfl | rfl <;> first | rfl | (exfalso; omega)
  unfold wordN
  constructor
  · intro h
    by_cases a0 : isWP F 0 q e
    · rw [if_pos a0] at h; rw [show w = 0 by omega]; exact a0
    · rw [if_neg a0] at h
      by_cases a1 : isWP F 1 q e
      · rw [if_pos a1] at h; rw [show w = 1 by omega]; exact a1
      · rw [if_neg a1] at h
        by_cases a2 : isWP F 2 q e
        · rw [if_pos a2] at h; rw [show w = 2 by omega]; exact a2
        · rw [if_neg a2] at h
          by_cases a3 : isWP F 3 q e
          · rw [if_pos a3] at h; rw [show w = 3 by omega]; exact a3
          · rw [if_neg a3] at h; omega
  · intro h
    by_cases a0 : isWP F 0 q e
    · rw [if_pos a0]; have := x 0 w (by omega) hw a0 h; omega
    · rw [if_neg a0]
      by_cases a1 : isWP F 1 q e
      · rw [if_pos a1]; have := x 1 w (by omega) hw a1 h; omega
      · rw [if_neg a1]
        by_cases a2 : isWP F 2 q e
        · rw [if_pos a2]; have := x 2 w (by omega) hw a2 h; omega
        · rw [if_neg a2]
          by_cases a3 : isWP F 3 q e
          · rw [if_pos a3]; have := x 3 w (by omega) hw a3 h; omega
          · exfalso
            rcases (show w = 0 ∨ w = 1 ∨ w = 2 ∨ w = 3 by omega) with rfl | rfl | rfl | rfl <;> contradiction
theorem tk_w {F : Nat → Nat} {n i ta tl tk va w : Nat} (hw : w < 4) (h : stQ F n i ta tl tk va) : (tk = 1 ∧ tl = jlen.getD w 0 ∧ ∀ z, z < jlen.getD w 0 → F (ta + z) = wch w z) ↔ kT F n i = w + 1 := by
  obtain ⟨h1, h2, h3, -⟩ := h
  rw [h3, h2, tokR, lenQ]
  by_cases q : ta < n
  · rw [if_pos q, if_pos q]
    have t1 := tok0_1 (c := F ta)
    have f1 := fam_1i (c := F ta)
    have f2 := fam_2 (c := F ta)
    have ww := wordN_w (F := F) (w := w) (q := ta) (e := endF F n ta) hw
    rw [h1] at q t1 f1 f2 ww ⊢
    rw [kT_s q]
    unfold sortN
    constructor
    · intro ⟨z1, z2, z3⟩
      have e1 : ¬ (fam (F (posT F n i)) = 1 ∧ 2 < endF F n (posT F n i) - posT F n i) := fun z => by rw [if_pos z] at z1; omega
      rw [if_neg e1] at z1
      have e2 := t1.mp z1
      rw [if_neg (by omega), if_pos e2]
      exact ww.mpr ⟨z2, z3⟩
    · intro z
      by_cases g1 : fam (F (posT F n i)) = 1
      · rw [if_pos g1] at z; split at z <;> omega
      · rw [if_neg g1] at z
        by_cases g2 : fam (F (posT F n i)) = 2
        · rw [if_pos g2] at z
          have := ww.mp z
          exact ⟨by rw [if_neg (fun y => g1 y.1)]; exact t1.mpr g2, this.1, this.2⟩
        · rw [if_neg g2] at z; split at z <;> omega
  · rw [if_neg q, if_neg q]; rw [h1] at q; rw [kT_0 q]
    constructor
    · intro z; omega
    · intro z; omega
theorem lva {F : Nat → Nat} {n q l va : Nat} (hq : q < n) (he : endF F n q = q + l) (hl : 1 ≤ l) (h1 : l = 1 → fam (F q) = 1 → va = F q - 48) (h2 : l = 2 → fam (F q) = 1 → va = 10 * (F q - 48) + (F (q + 1) - 48)) : tokR F n q = 2 → va = valN F q (endF F n q) := by
  intro z
  rw [tokR, if_pos hq] at z
  split at z
  · omega
  · next g =>
    have f := tok0_2.mp z
    rw [he] at g ⊢
    unfold valN
    by_cases e : l = 1
    · subst e
      rw [if_neg (by omega), show q + 1 - 1 = q by omega]; exact h1 rfl f
    · have e2 : l = 2 := by omega
      subst e2
      rw [if_pos (by omega), show q + 2 - 1 = q + 1 by omega]; exact h2 rfl f
theorem runQ_3 {F : Nat → Nat} {n q l : Nat} (h : runQ F n q l 1) : tok0 (F q) < 3 := by
  rcases h with ⟨_, h, _⟩ | ⟨h, _⟩
  · exact h
  · omega
theorem stQ_nx {F : Nat → Nat} {n i ta tl tk va v1 : Nat} (h : stQ F n i ta tl tk va) (hv : tokR F n (skipF F n (ta + tl)) = 2 → v1 = valN F (skipF F n (ta + tl)) (endF F n (skipF F n (ta + tl)))) : stQ F n (i + 1) (skipF F n (ta + tl)) (lenQ F n (skipF F n (ta + tl))) (tokR F n (skipF F n (ta + tl))) v1 := stQ_of (stQ_next h) hv
theorem spw_0 {F : Nat → Nat} {n i ta tl tk va : Nat} (h : stQ F n i ta tl tk va) : kT F n i = 1 ↔ (tk = 1 ∧ tl = 6 ∧ F (ta + 0) = 115 ∧ F (ta + 1) = 116 ∧ F (ta + 2) = 114 ∧ F (ta + 3) = 101 ∧ F (ta + 4) = 101 ∧ F (ta + 5) = 116) := by
  have w := tk_w (w := 0) (by omega) h
  rw [show jlen.getD 0 0 = 6 by decide] at w
  rw [← w]
  constructor
  · intro ⟨a, b, c⟩; exact ⟨a, b, c 0 (by omega), c 1 (by omega), c 2 (by omega), c 3 (by omega), c 4 (by omega), c 5 (by omega)⟩
  · intro ⟨a, b, c0, c1, c2, c3, c4, c5⟩
    refine ⟨a, b, fun z hz => ?_⟩
    rcases (show z = 0 ∨ z = 1 ∨ z = 2 ∨ z = 3 ∨ z = 4 ∨ z = 5 by omega) with rfl | rfl | rfl | rfl | rfl | rfl
    · exact c0
    · exact c1
    · exact c2
    · exact c3
    · exact c4
    · exact c5
theorem spw_1 {F : Nat → Nat} {n i ta tl tk va : Nat} (h : stQ F n i ta tl tk va) : kT F n i = 2 ↔ (tk = 1 ∧ tl = 5 ∧ F (ta + 0) = 97 ∧ F (ta + 1) = 110 ∧ F (ta + 2) = 118 ∧ F (ta + 3) = 105 ∧ F (ta + 4) = 108) := by
  have w := tk_w (w := 1) (by omega) h
  rw [show jlen.getD 1 0 = 5 by decide] at w
  rw [← w]
  constructor
  · intro ⟨a, b, c⟩; exact ⟨a, b, c 0 (by omega), c 1 (by omega), c 2 (by omega), c 3 (by omega), c 4 (by omega)⟩
  · intro ⟨a, b, c0, c1, c2, c3, c4⟩
    refine ⟨a, b, fun z hz => ?_⟩
    rcases (show z = 0 ∨ z = 1 ∨ z = 2 ∨ z = 3 ∨ z = 4 by omega) with rfl | rfl | rfl | rfl | rfl
    · exact c0
    · exact c1
    · exact c2
    · exact c3
    · exact c4
theorem spw_2 {F : Nat → Nat} {n i ta tl tk va : Nat} (h : stQ F n i ta tl tk va) : kT F n i = 3 ↔ (tk = 1 ∧ tl = 4 ∧ F (ta + 0) = 119 ∧ F (ta + 1) = 111 ∧ F (ta + 2) = 114 ∧ F (ta + 3) = 107) := by
  have w := tk_w (w := 2) (by omega) h
  rw [show jlen.getD 2 0 = 4 by decide] at w
  rw [← w]
  constructor
  · intro ⟨a, b, c⟩; exact ⟨a, b, c 0 (by omega), c 1 (by omega), c 2 (by omega), c 3 (by omega)⟩
  · intro ⟨a, b, c0, c1, c2, c3⟩
    refine ⟨a, b, fun z hz => ?_⟩
    rcases (show z = 0 ∨ z = 1 ∨ z = 2 ∨ z = 3 by omega) with rfl | rfl | rfl | rfl
    · exact c0
    · exact c1
    · exact c2
    · exact c3
theorem spw_3 {F : Nat → Nat} {n i ta tl tk va : Nat} (h : stQ F n i ta tl tk va) : kT F n i = 4 ↔ (tk = 1 ∧ tl = 3 ∧ F (ta + 0) = 100 ∧ F (ta + 1) = 97 ∧ F (ta + 2) = 121) := by
  have w := tk_w (w := 3) (by omega) h
  rw [show jlen.getD 3 0 = 3 by decide] at w
  rw [← w]
  constructor
  · intro ⟨a, b, c⟩; exact ⟨a, b, c 0 (by omega), c 1 (by omega), c 2 (by omega)⟩
  · intro ⟨a, b, c0, c1, c2⟩
    refine ⟨a, b, fun z hz => ?_⟩
    rcases (show z = 0 ∨ z = 1 ∨ z = 2 by omega) with rfl | rfl | rfl
    · exact c0
    · exact c1
    · exact c2
