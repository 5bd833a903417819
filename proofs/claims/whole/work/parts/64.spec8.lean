/-! THE TEXT: families, runs, TOKENS -/
def fam (c : Nat) : Nat := if 48 ≤ c ∧ c ≤ 57 then 1 else if 97 ≤ c ∧ c ≤ 122 then 2 else 0
def skipG (F : Nat → Nat) : Nat → Nat → Nat
  | 0, p => p
  | f + 1, p => if F p = 32 then skipG F f (p + 1) else p
def skipF (F : Nat → Nat) (n p : Nat) : Nat := skipG F (n - p) p
theorem skipF_sp {F : Nat → Nat} {n p : Nat} (hp : p < n) (h : F p = 32) : skipF F n p = skipF F n (p + 1) := by
  unfold skipF
  rw [show n - p = n - (p + 1) + 1 by omega]
  simp only [skipG]; rw [if_pos h]
theorem skipF_no {F : Nat → Nat} {n p : Nat} (h : ¬ F p = 32) : skipF F n p = p := by
  unfold skipF
  cases n - p with
  | zero => rfl
  | succ f => simp only [skipG]; rw [if_neg h]
theorem skipF_end {F : Nat → Nat} {n p : Nat} (h : n ≤ p) : skipF F n p = p := by
  unfold skipF; rw [show n - p = 0 by omega]; rfl
theorem skipG_le {F : Nat → Nat} : ∀ f p, p ≤ skipG F f p ∧ skipG F f p ≤ p + f ∧ (skipG F f p < p + f → ¬ F (skipG F f p) = 32)
  | 0, p => ⟨Nat.le_refl _, Nat.le_refl _, fun q => by simp only [skipG] at q; omega⟩
  | f + 1, p => by
    simp only [skipG]; split
    · have ⟨h1, h2, h3⟩ := skipG_le (F := F) f (p + 1); exact ⟨by omega, by omega, fun q => h3 (by omega)⟩
    · next h => exact ⟨Nat.le_refl _, by omega, fun _ => h⟩
theorem skipF_le {F : Nat → Nat} {n p : Nat} (hp : p ≤ n) : p ≤ skipF F n p ∧ skipF F n p ≤ n ∧ (skipF F n p < n → ¬ F (skipF F n p) = 32) := by
  have ⟨h1, h2, h3⟩ := skipG_le (F := F) (n - p) p
  unfold skipF
  exact ⟨h1, by omega, fun q => h3 (by omega)⟩
def runG (F : Nat → Nat) (c : Nat) : Nat → Nat → Nat
  | 0, p => p
  | f + 1, p => if fam (F p) = c then runG F c f (p + 1) else p
theorem runG_le {F : Nat → Nat} {c : Nat} : ∀ f p, p ≤ runG F c f p ∧ runG F c f p ≤ p + f ∧ ∀ z, p ≤ z → z < runG F c f p → fam (F z) = c
  | 0, p => ⟨Nat.le_refl _, Nat.le_refl _, fun z h1 h2 => by simp only [runG] at h2; omega⟩
  | f + 1, p => by
    simp only [runG]; split
    · next h =>
      have ⟨h1, h2, h3⟩ := runG_le (F := F) (c := c) f (p + 1)
      refine ⟨by omega, by omega, fun z q1 q2 => ?_⟩
      by_cases e : z = p
      · rw [e]; exact h
      · exact h3 z (by omega) q2
    · exact ⟨Nat.le_refl _, by omega, fun z q1 q2 => by omega⟩
theorem runG_s {F : Nat → Nat} {c n e : Nat} (he : e < n) (h : fam (F e) = c) : runG F c (n - e) e = runG F c (n - (e + 1)) (e + 1) := by
  rw [show n - e = n - (e + 1) + 1 by omega]
  simp only [runG]; rw [if_pos h]
theorem runG_n {F : Nat → Nat} {c n e : Nat} (h : ¬ fam (F e) = c) : runG F c (n - e) e = e := by
  cases n - e with
  | zero => rfl
  | succ f => simp only [runG]; rw [if_neg h]
theorem runG_e {F : Nat → Nat} {c n e : Nat} (h : n ≤ e) : runG F c (n - e) e = e := by rw [show n - e = 0 by omega]; rfl
def endF (F : Nat → Nat) (n q : Nat) : Nat := if fam (F q) = 0 then q + 1 else runG F (fam (F q)) (n - (q + 1)) (q + 1)
theorem endF_le {F : Nat → Nat} {n q : Nat} (hq : q < n) : q < endF F n q ∧ endF F n q ≤ n ∧ (¬ fam (F q) = 0 → ∀ z, q ≤ z → z < endF F n q → fam (F z) = fam (F q)) := by
  unfold endF; split
  · next h => exact ⟨by omega, by omega, fun w => absurd h w⟩
  · have ⟨h1, h2, h3⟩ := runG_le (F := F) (c := fam (F q)) (n - (q + 1)) (q + 1)
    refine ⟨by omega, by omega, fun _ z q1 q2 => ?_⟩
    by_cases e : z = q
    · rw [e]
    · exact h3 z (by omega) q2
abbrev isWP (F : Nat → Nat) (w q e : Nat) : Prop := e - q = jlen.getD w 0 ∧ ∀ z, z < jlen.getD w 0 → F (q + z) = wch w z
def wordN (F : Nat → Nat) (q e : Nat) : Nat := if isWP F 0 q e then 1 else if isWP F 1 q e then 2 else if isWP F 2 q e then 3 else if isWP F 3 q e then 4 else 7
def sortN (F : Nat → Nat) (q e : Nat) : Nat := if fam (F q) = 1 then (if e - q ≤ 2 then 5 else 7) else if fam (F q) = 2 then wordN F q e else if F q = 59 then 6 else 7
theorem wordN_le {F : Nat → Nat} {q e : Nat} : 1 ≤ wordN F q e ∧ wordN F q e ≤ 7 ∧ ¬ wordN F q e = 5 ∧ ¬ wordN F q e = 6 := by unfold wordN; (repeat' split) <;> omega
theorem sortN_le {F : Nat → Nat} {q e : Nat} : 1 ≤ sortN F q e ∧ sortN F q e ≤ 7 := by
  have := wordN_le (F := F) (q := q) (e := e)
  unfold sortN; (repeat' split) <;> omega
theorem sortN_5 {F : Nat → Nat} {q e : Nat} : sortN F q e = 5 ↔ (fam (F q) = 1 ∧ e - q ≤ 2) := by
  have := wordN_le (F := F) (q := q) (e := e)
  unfold sortN; (repeat' split) <;> omega
def valI (F : Nat → Nat) (q e : Nat) : Int32 := if e - q = 2 then nI 10 * (nI (F q) - nI 48) + (nI (F (e - 1)) - nI 48) else nI (F (e - 1)) - nI 48
def valN (F : Nat → Nat) (q e : Nat) : Nat := if e - q = 2 then 10 * (F q - 48) + (F (e - 1) - 48) else F (e - 1) - 48
theorem fam_1 {c : Nat} (h : fam c = 1) : 48 ≤ c ∧ c ≤ 57 := by
  unfold fam at h; (repeat' split at h) <;> omega
theorem nI_subL {a b : Nat} (h : b ≤ a) : nI a - nI b = nI (a - b) := by
  rw [Int32.sub_eq_iff_eq_add, nI_add, Nat.sub_add_cancel h]
theorem valI_N {F : Nat → Nat} {n q : Nat} (hq : q < n) (h : fam (F q) = 1) : valI F q (endF F n q) = nI (valN F q (endF F n q)) := by
  have ⟨h1, h2, h3⟩ := endF_le (F := F) (n := n) hq
  have a := fam_1 h
  have b := fam_1 ((h3 (by omega) (endF F n q - 1) (by omega) (by omega)).trans h)
  unfold valI valN; split
  · rw [nI_subL a.1, nI_subL b.1, pk_mul, nI_add]
  · rw [nI_subL b.1]
theorem valN_le {F : Nat → Nat} {n q : Nat} (hq : q < n) (h : fam (F q) = 1) : valN F q (endF F n q) ≤ 99 := by
  have ⟨h1, h2, h3⟩ := endF_le (F := F) (n := n) hq
  have a := fam_1 h
  have b := fam_1 ((h3 (by omega) (endF F n q - 1) (by omega) (by omega)).trans h)
  unfold valN; split <;> omega
def posT (F : Nat → Nat) (n : Nat) : Nat → Nat
  | 0 => skipF F n 0
  | i + 1 => skipF F n (if posT F n i < n then endF F n (posT F n i) else n)
def kT (F : Nat → Nat) (n i : Nat) : Nat := if posT F n i < n then sortN F (posT F n i) (endF F n (posT F n i)) else 0
def vT (F : Nat → Nat) (n i : Nat) : Nat := valN F (posT F n i) (endF F n (posT F n i))
theorem posT_le {F : Nat → Nat} {n : Nat} : ∀ i, posT F n i ≤ n
  | 0 => (skipF_le (Nat.zero_le n)).2.1
  | i + 1 => by
    simp only [posT]; split
    · next h => exact (skipF_le (endF_le h).2.1).2.1
    · exact (skipF_le (Nat.le_refl n)).2.1
theorem posT_s {F : Nat → Nat} {n i : Nat} (h : posT F n i < n) : posT F n (i + 1) = skipF F n (endF F n (posT F n i)) := by
  simp only [posT]; rw [if_pos h]
theorem kT_0 {F : Nat → Nat} {n i : Nat} (h : ¬ posT F n i < n) : kT F n i = 0 := if_neg h
theorem kT_s {F : Nat → Nat} {n i : Nat} (h : posT F n i < n) : kT F n i = sortN F (posT F n i) (endF F n (posT F n i)) := if_pos h
theorem kT_le {F : Nat → Nat} {n i : Nat} : kT F n i ≤ 7 := by
  unfold kT; split
  · exact sortN_le.2
  · omega
theorem kT_pos {F : Nat → Nat} {n i : Nat} : ¬ kT F n i = 0 ↔ posT F n i < n := by
  constructor
  · intro h
    by_cases q : posT F n i < n
    · exact q
    · exact absurd (kT_0 q) h
  · intro h; rw [kT_s h]; have := sortN_le (F := F) (q := posT F n i) (e := endF F n (posT F n i)); omega
theorem vT_le {F : Nat → Nat} {n i : Nat} (h : kT F n i = 5) : vT F n i ≤ 99 := by
  have hp : posT F n i < n := kT_pos.mp (by omega)
  rw [kT_s hp] at h
  exact valN_le hp (sortN_5.mp h).1
/-- what the scan has of the first TOKENS -/
def tokA (F : Nat → Nat) (n t : Nat) (SO ST : Nat → Nat) (VA : Nat → Int32) : Prop := ∀ z, z < t → SO z = kT F n z ∧ ST z = posT F n z ∧ posT F n z < n ∧ (kT F n z = 5 → VA z = nI (vT F n z))
theorem tokA_0 {F : Nat → Nat} {n : Nat} {SO ST : Nat → Nat} {VA : Nat → Int32} : tokA F n 0 SO ST VA := fun z h => absurd h (Nat.not_lt_zero z)
theorem tokA_s {F : Nat → Nat} {n t q : Nat} {SO ST : Nat → Nat} {VA : Nat → Int32} (h : tokA F n t SO ST VA) (hq : q < n) (hp : posT F n t = q) : tokA F n (t + 1) (updN SO t (sortN F q (endF F n q))) (updN ST t q) (upd VA t (valI F q (endF F n q))) := by
  intro z hz
  by_cases e : z = t
  · subst e
    simp only [updN, upd, if_true]
    rw [kT_s (by omega), hp]
    refine ⟨rfl, rfl, hq, fun q5 => ?_⟩
    rw [valI_N hq (sortN_5.mp q5).1, vT, hp]
  · simp only [updN, upd, if_neg e]; exact h z (by omega)
def tokB (F : Nat → Nat) (n t : Nat) (SO ST : Nat → Nat) (VA : Nat → Int32) : Prop := tokA F n t SO ST VA ∧ SO t = 0 ∧ ST t = n ∧ posT F n t = n ∧ t ≤ n
theorem tokB_of {F : Nat → Nat} {n t : Nat} {SO ST : Nat → Nat} {VA : Nat → Int32} {x : Int32} (h : tokA F n t SO ST VA) (hp : posT F n t = n) (ht : t ≤ n) : tokB F n t (updN SO t 0) (updN ST t n) (upd VA t x) := by
  refine ⟨fun z hz => ?_, by simp [updN], by simp [updN], hp, ht⟩
  simp only [updN, upd, if_neg (show ¬ z = t by omega)]; exact h z hz
/-- .. as the parse takes it: sorts, starts, values of the TOKENS up to the last -/
def strm (k s v : Nat → Nat) (t : Nat) (SO ST : Nat → Nat) (VA : Nat → Int32) : Prop := (∀ z, z ≤ t → SO z = k z ∧ ST z = s z ∧ (k z = 5 → VA z = nI (v z) ∧ v z ≤ 99) ∧ k z ≤ 7) ∧ (∀ z, z < t → ¬ k z = 0) ∧ k t = 0
theorem strm_of {F : Nat → Nat} {n t : Nat} {SO ST : Nat → Nat} {VA : Nat → Int32} (h : tokB F n t SO ST VA) : strm (kT F n) (posT F n) (vT F n) t SO ST VA := by
  obtain ⟨h1, h2, h3, h4, h5⟩ := h
  have h0 : kT F n t = 0 := kT_0 (by omega)
  refine ⟨fun z hz => ?_, fun z hz => kT_pos.mpr (h1 z hz).2.2.1, h0⟩
  by_cases e : z = t
  · subst e
    exact ⟨by rw [h2, h0], by rw [h3, h4], fun q => by omega, kT_le⟩
  · have q := h1 z (by omega)
    exact ⟨q.1, q.2.1, fun q5 => ⟨q.2.2.2 q5, vT_le q5⟩, kT_le⟩
/-! the parse, over a stream of TOKENS: k sorts, v values -/
abbrev okn (k v : Nat → Nat) (i hi : Nat) : Prop := k i = 5 ∧ v i ≤ hi
abbrev anvOK (k v : Nat → Nat) (i : Nat) : Prop := okn k v (i + 1) 5 ∧ okn k v (i + 1 + 1) 20 ∧ okn k v (i + 1 + 1 + 1) 20 ∧ okn k v (i + 1 + 1 + 1 + 1) 20 ∧ okn k v (i + 1 + 1 + 1 + 1 + 1) 20
def anvJ (k v : Nat → Nat) (i : Nat) : Nat := if ¬ okn k v (i + 1) 5 then i + 1 else if ¬ okn k v (i + 1 + 1) 20 then i + 1 + 1 else if ¬ okn k v (i + 1 + 1 + 1) 20 then i + 1 + 1 + 1 else if ¬ okn k v (i + 1 + 1 + 1 + 1) 20 then i + 1 + 1 + 1 + 1 else i + 1 + 1 + 1 + 1 + 1
abbrev wrkOK (k v : Nat → Nat) (an i : Nat) : Prop := (k (i + 1) = 5 ∧ v (i + 1) < an) ∧ okn k v (i + 1 + 1) 3 ∧ (okn k v (i + 1 + 1 + 1) 5 ∧ 1 ≤ v (i + 1 + 1 + 1))
def wrkJ (k v : Nat → Nat) (an i : Nat) : Nat := if ¬ (k (i + 1) = 5 ∧ v (i + 1) < an) then i + 1 else if ¬ okn k v (i + 1 + 1) 3 then i + 1 + 1 else i + 1 + 1 + 1
abbrev pS : Type := Nat × Nat × Nat × (Nat → Nat) × (Nat → Nat)
/-- an ITEM at i: whether it is one, its last token or the FAULT's -/
abbrev itmOK (k v : Nat → Nat) (an i : Nat) : Prop := (k i = 2 ∧ an < 4 ∧ anvOK k v i) ∨ (k i = 3 ∧ wrkOK k v an i) ∨ k i = 4
def itmJ (k v : Nat → Nat) (an i : Nat) : Nat := if k i = 2 then (if an < 4 then anvJ k v i else i) else if k i = 3 then wrkJ k v an i else i
def stpS (k v : Nat → Nat) (s : pS) : pS :=
  if k s.1 = 2 then (s.1 + 1 + 1 + 1 + 1 + 1 + 1 + 1, s.2.1 + 1, s.2.2.1, updN s.2.2.2.1 s.2.1 (v (s.1 + 1)), joinM s.2.2.2.2 s.2.1 (v (s.1 + 1 + 1)) (v (s.1 + 1 + 1 + 1)) (v (s.1 + 1 + 1 + 1 + 1)) (v (s.1 + 1 + 1 + 1 + 1 + 1)))
  else if k s.1 = 3 then (s.1 + 1 + 1 + 1 + 1 + 1, s.2.1, s.2.2.1, s.2.2.2.1, addMN s.2.2.2.1 s.2.2.2.2 (v (s.1 + 1)) (v (s.1 + 1 + 1)) (v (s.1 + 1 + 1 + 1)))
  else (s.1 + 1 + 1, s.2.1, s.2.2.1 + 1, s.2.2.2.1, dayN s.2.2.2.1 s.2.2.2.2 s.2.1 s.2.2.1)
def goR (k v : Nat → Nat) : Nat → Nat → pS → Nat × Option pS
  | 0, c, _ => (c, none)
  | f + 1, c, s => if k s.1 = 0 then (c, some s) else if itmOK k v s.2.1 s.1 then (if k (itmJ k v s.2.1 s.1 + 1) = 6 then goR k v f (c + 1) (stpS k v s) else (itmJ k v s.2.1 s.1 + 1, none)) else (itmJ k v s.2.1 s.1, none)
def rdG (k v : Nat → Nat) : Nat × Option pS := if k 0 = 1 then (if k 1 = 5 ∧ v 1 ≤ 9 then (if k 2 = 6 then goR k v 159 1 (3, 0, 0, fun _ => 0, fun _ => 0) else (2, none)) else (1, none)) else (0, none)
def outI (s : Nat → Nat) (g : Nat × Option pS) : Int32 := match g.2 with
  | none => -10 - nI (s g.1)
  | some _ => nI g.1
theorem goR_0 {k v : Nat → Nat} {f c : Nat} {s : pS} (h : k s.1 = 0) : goR k v (f + 1) c s = (c, some s) := by simp only [goR]; rw [if_pos h]
theorem goR_j {k v : Nat → Nat} {f c : Nat} {s : pS} (h : ¬ k s.1 = 0) (h1 : ¬ itmOK k v s.2.1 s.1) : goR k v (f + 1) c s = (itmJ k v s.2.1 s.1, none) := by simp only [goR]; rw [if_neg h, if_neg h1]
theorem goR_p {k v : Nat → Nat} {f c : Nat} {s : pS} (h : ¬ k s.1 = 0) (h1 : itmOK k v s.2.1 s.1) (h2 : ¬ k (itmJ k v s.2.1 s.1 + 1) = 6) : goR k v (f + 1) c s = (itmJ k v s.2.1 s.1 + 1, none) := by simp only [goR]; rw [if_neg h, if_pos h1, if_neg h2]
theorem goR_s {k v : Nat → Nat} {f c : Nat} {s : pS} (h : ¬ k s.1 = 0) (h1 : itmOK k v s.2.1 s.1) (h2 : k (itmJ k v s.2.1 s.1 + 1) = 6) : goR k v (f + 1) c s = goR k v f (c + 1) (stpS k v s) := by simp only [goR]; rw [if_neg h, if_pos h1, if_pos h2]
theorem itm2 {k v : Nat → Nat} {an i : Nat} (h : k i = 2) : (an < 4 → (itmOK k v an i ↔ anvOK k v i)) ∧ (¬ an < 4 → ¬ itmOK k v an i) ∧ itmJ k v an i = (if an < 4 then anvJ k v i else i) := by
  refine ⟨fun h4 => ⟨fun q => ?_, fun q => .inl ⟨h, h4, q⟩⟩, fun h4 q => ?_, by unfold itmJ; rw [if_pos h]⟩
  · rcases q with ⟨_, _, q⟩ | ⟨q, _⟩ | q
    · exact q
    · omega
    · omega
  · rcases q with ⟨_, q, _⟩ | ⟨q, _⟩ | q <;> omega
theorem itm3 {k v : Nat → Nat} {an i : Nat} (h : k i = 3) : (itmOK k v an i ↔ wrkOK k v an i) ∧ itmJ k v an i = wrkJ k v an i := by
  refine ⟨⟨fun q => ?_, fun q => .inr (.inl ⟨h, q⟩)⟩, by unfold itmJ; rw [if_neg (by omega), if_pos h]⟩
  rcases q with ⟨q, _⟩ | ⟨_, q⟩ | q
  · omega
  · exact q
  · omega
theorem itm4 {k v : Nat → Nat} {an i : Nat} (h : k i = 4) : itmOK k v an i ∧ itmJ k v an i = i := ⟨.inr (.inr h), by unfold itmJ; rw [if_neg (by omega), if_neg (by omega)]⟩
theorem itm0 {k v : Nat → Nat} {an i : Nat} (h : ¬ k i = 2 ∧ ¬ k i = 3 ∧ ¬ k i = 4) : ¬ itmOK k v an i ∧ itmJ k v an i = i := by
  refine ⟨fun q => ?_, by unfold itmJ; rw [if_neg h.1, if_neg h.2.1]⟩
  rcases q with ⟨q, _⟩ | ⟨q, _⟩ | q <;> omega
theorem anvJ_ok {k v : Nat → Nat} {i : Nat} (h : anvOK k v i) : anvJ k v i = i + 1 + 1 + 1 + 1 + 1 := by
  obtain ⟨h1, h2, h3, h4, h5⟩ := h
  unfold anvJ; rw [if_neg (fun q => q h1), if_neg (fun q => q h2), if_neg (fun q => q h3), if_neg (fun q => q h4)]
theorem wrkJ_ok {k v : Nat → Nat} {an i : Nat} (h : wrkOK k v an i) : wrkJ k v an i = i + 1 + 1 + 1 := by
  obtain ⟨h1, h2, h3⟩ := h
  unfold wrkJ; rw [if_neg (fun q => q h1), if_neg (fun q => q h2)]
theorem posT_n {F : Nat → Nat} {n t p : Nat} (hp : p < n) (h : skipF F n p = posT F n t) (h32 : ¬ F p = 32) : posT F n (t + 1) = skipF F n (endF F n p) := by
  rw [skipF_no h32] at h
  rw [posT_s (by omega), ← h]
