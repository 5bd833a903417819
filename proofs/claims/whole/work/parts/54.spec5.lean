/-! LOOK, the reference's loop -/
abbrev lkW (F i j w : Nat) (MB : Nat → Nat) : Prop := (i % 10 < 3 ∧ w = mostM F (i / 10) (i % 10) j ∧ ∀ v, v < 21 → MB v = cntA F (i / 10) (i % 10) v j) ∨ (3 ≤ i % 10 ∧ w = 1000000)
theorem lkw_0 {F i w : Nat} {MB : Nat → Nat} (h : (i % 10 < 3 ∧ w = 0) ∨ (3 ≤ i % 10 ∧ w = 1000000)) (hz : ∀ v, v < 21 → MB v = 0) : lkW F i 0 w MB := by
  rcases h with ⟨a, b⟩ | q
  · exact .inl ⟨a, b, hz⟩
  · exact .inr q
theorem lkw_n {F i j w : Nat} {MB : Nat → Nat} (c1 : i % 10 < 3) (c2 : w = mostM F (i / 10) (i % 10) j) (c3 : ∀ v, v < 21 → MB v = cntA F (i / 10) (i % 10) v j) (h : ¬ bitP F j) : lkW F i (j + 1) w MB := by
  refine .inl ⟨c1, ?_, fun v hv => ?_⟩
  · simp only [mostM]; rw [if_neg h]; exact c2
  · simp only [cntA]; rw [if_neg (fun q => h q.1), c3 v hv, Nat.add_zero]
theorem lkw_c {F i j : Nat} {MB : Nat → Nat} (c3 : ∀ v, v < 21 → MB v = cntA F (i / 10) (i % 10) v j) (h : bitP F j) (v : Nat) (hv : v < 21) : updN MB (leftN j (i / 10) (i % 10)) (MB (leftN j (i / 10) (i % 10)) + 1) v = cntA F (i / 10) (i % 10) v (j + 1) := by
  simp only [updN, cntA]
  by_cases e : v = leftN j (i / 10) (i % 10)
  · rw [if_pos e, if_pos ⟨h, e.symm⟩, ← e, c3 v hv]
  · rw [if_neg e, if_neg (fun q => e q.2.symm), c3 v hv, Nat.add_zero]
theorem lkw_t1 {F i j w : Nat} {MB : Nat → Nat} (hL : leftN j (i / 10) (i % 10) < 21) (c1 : i % 10 < 3) (c2 : w = mostM F (i / 10) (i % 10) j) (c3 : ∀ v, v < 21 → MB v = cntA F (i / 10) (i % 10) v j) (h : bitP F j)
    (hw : updN MB (leftN j (i / 10) (i % 10)) (MB (leftN j (i / 10) (i % 10)) + 1) (leftN j (i / 10) (i % 10)) ≤ w) : lkW F i (j + 1) w (updN MB (leftN j (i / 10) (i % 10)) (MB (leftN j (i / 10) (i % 10)) + 1)) := by
  refine .inl ⟨c1, ?_, lkw_c c3 h⟩
  rw [lkw_c c3 h _ hL] at hw
  simp only [mostM]; rw [if_pos h, ← c2, Nat.max_eq_left hw]
theorem lkw_t2 {F i j w : Nat} {MB : Nat → Nat} (hL : leftN j (i / 10) (i % 10) < 21) (c1 : i % 10 < 3) (c2 : w = mostM F (i / 10) (i % 10) j) (c3 : ∀ v, v < 21 → MB v = cntA F (i / 10) (i % 10) v j) (h : bitP F j)
    (hw : ¬ updN MB (leftN j (i / 10) (i % 10)) (MB (leftN j (i / 10) (i % 10)) + 1) (leftN j (i / 10) (i % 10)) ≤ w) : lkW F i (j + 1) (updN MB (leftN j (i / 10) (i % 10)) (MB (leftN j (i / 10) (i % 10)) + 1) (leftN j (i / 10) (i % 10))) (updN MB (leftN j (i / 10) (i % 10)) (MB (leftN j (i / 10) (i % 10)) + 1)) := by
  refine .inl ⟨c1, ?_, lkw_c c3 h⟩
  rw [lkw_c c3 h _ hL] at hw ⊢
  simp only [mostM]; rw [if_pos h, ← c2, Nat.max_eq_right (by omega)]
theorem lkR_t {F i j w : Nat} (hi : 10 ≤ i) (c1 : i % 10 < 3) (c2 : w = mostM F (i / 10) (i % 10) j) (hj : j = 6) (h : ¬ (lkG 1000000 F (i - 10)).2 ≤ w) : lkG 1000000 F (i + 1 - 10) = (some i, w) := by
  subst hj
  rw [mostM_A] at c2
  rw [show i + 1 - 10 = (i - 10) + 1 by omega]
  simp only [lkG]
  rw [show 10 + (i - 10) = i by omega, ← c2, if_pos ⟨c1, by omega⟩]
theorem lkR_f {F i j w : Nat} (hi : 10 ≤ i) (c2 : w = mostM F (i / 10) (i % 10) j) (hj : j = 6) (h : (lkG 1000000 F (i - 10)).2 ≤ w) : lkG 1000000 F (i + 1 - 10) = lkG 1000000 F (i - 10) := by
  subst hj
  rw [mostM_A] at c2
  rw [show i + 1 - 10 = (i - 10) + 1 by omega]
  simp only [lkG]
  rw [show 10 + (i - 10) = i by omega, ← c2, if_neg (fun q => by omega)]
theorem lkR_n {F i : Nat} (hi : 10 ≤ i) (c1 : 3 ≤ i % 10) : lkG 1000000 F (i + 1 - 10) = lkG 1000000 F (i - 10) := by
  rw [show i + 1 - 10 = (i - 10) + 1 by omega]
  simp only [lkG]
  rw [show 10 + (i - 10) = i by omega, if_neg (fun q => by omega)]
theorem lkG_j1 {fit : Nat} : (-1 : Int32) = oI (lkG 1000000 fit (10 - 10)).1 := rfl
theorem lkG_j2 {fit : Nat} : 1000000 = (lkG 1000000 fit (10 - 10)).2 := rfl
