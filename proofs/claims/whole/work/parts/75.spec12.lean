/-! both sides' states against each other: a street and the reference's row -/
def BS (K M NC CC PM PD PG : Nat → Nat) : Prop := (∀ z, K z ≤ 5) ∧ (∀ z, M z ≤ 20) ∧ (∀ z, NC z ≤ 99) ∧ (∀ z, CC z ≤ 50) ∧ (∀ z, PM z ≤ 20) ∧ (∀ z, PD z ≤ 999) ∧ (∀ z, PG z ≤ 9)
def QB (Q : Nat → Nat) : Prop := (∀ z, z < 4 → KQ Q z ≤ 5) ∧ (∀ z, z < 16 → Q (4 + z) ≤ 20) ∧ (∀ z, z < 24 → Q (26 + z) ≤ 99) ∧ (∀ z, z < 24 → Q (50 + z) ≤ 50) ∧ (∀ i, i < 8 → (∀ z, z < 16 → Q (74 + 18 * i + z) ≤ 20) ∧ Q (90 + 18 * i) ≤ 999 ∧ Q (91 + 18 * i) ≤ 9)
def RS (an td gr : Nat) (K M : Nat → Nat) (nn : Nat) (NC : Nat → Nat) (cn : Nat) (CC : Nat → Nat) (ps : Nat) (PM PD PG Q : Nat → Nat) : Prop :=
  (an = Q 0 ∧ td = Q 20 ∧ gr = Q 21 ∧ nn = Q 1 ∧ cn = Q 2 ∧ ps = Q 3) ∧ (an ≤ 4 ∧ td ≤ 999 ∧ gr ≤ 9 ∧ nn ≤ 6 ∧ cn ≤ 6 ∧ ps ≤ 8) ∧
  (∀ z, z < an → K z = Q (22 + z)) ∧ (∀ z, z < 4 * an → M z = Q (4 + z)) ∧ (∀ z, z < 4 * nn → NC z = Q (26 + z)) ∧ (∀ z, z < 4 * cn → CC z = Q (50 + z)) ∧
  (∀ i, i < ps → (∀ z, z < 4 * an → PM (16 * i + z) = Q (74 + 18 * i + z)) ∧ PD i = Q (90 + 18 * i) ∧ PG i = Q (91 + 18 * i)) ∧ BS K M NC CC PM PD PG ∧ QB Q
theorem BS_cpy {K M NC CC PM PD PG K' M' NC' CC' PM' PD' PG' : Nat → Nat} (h : BS K M NC CC PM PD PG) (g : BS K' M' NC' CC' PM' PD' PG') : BS (va_cpy K K' 0 0 4) (va_cpy M M' 0 0 16) (va_cpy NC NC' 0 0 24) (va_cpy CC CC' 0 0 24) (va_cpy PM PM' 0 0 128) (va_cpy PD PD' 0 0 8) (va_cpy PG PG' 0 0 8) :=
  ⟨va_cpy_le h.1 g.1, va_cpy_le h.2.1 g.2.1, va_cpy_le h.2.2.1 g.2.2.1, va_cpy_le h.2.2.2.1 g.2.2.2.1, va_cpy_le h.2.2.2.2.1 g.2.2.2.2.1, va_cpy_le h.2.2.2.2.2.1 g.2.2.2.2.2.1, va_cpy_le h.2.2.2.2.2.2 g.2.2.2.2.2.2⟩
theorem QB_ext {Q Q' : Nat → Nat} (h : QB Q) (e : ∀ z, z < 218 → Q' z = Q z) : QB Q' := by
  obtain ⟨h1, h2, h3, h4, h5⟩ := h
  exact ⟨fun z hz => by show Q' (22 + z) ≤ 5; rw [e _ (by omega)]; exact h1 z hz, fun z hz => by rw [e _ (by omega)]; exact h2 z hz, fun z hz => by rw [e _ (by omega)]; exact h3 z hz, fun z hz => by rw [e _ (by omega)]; exact h4 z hz, fun i hi => ⟨fun z hz => by rw [e _ (by omega)]; exact (h5 i hi).1 z hz, by rw [e _ (by omega)]; exact (h5 i hi).2.1, by rw [e _ (by omega)]; exact (h5 i hi).2.2⟩⟩
theorem RS_cpy {an td gr nn cn ps : Nat} {K M NC CC PM PD PG Q K' M' NC' CC' PM' PD' PG' Q' : Nat → Nat} (h : RS an td gr K M nn NC cn CC ps PM PD PG Q) (g : BS K' M' NC' CC' PM' PD' PG') (e : ∀ z, z < 218 → Q' z = Q z) : RS an td gr (va_cpy K K' 0 0 4) (va_cpy M M' 0 0 16) nn (va_cpy NC NC' 0 0 24) cn (va_cpy CC CC' 0 0 24) ps (va_cpy PM PM' 0 0 128) (va_cpy PD PD' 0 0 8) (va_cpy PG PG' 0 0 8) Q' := by
  obtain ⟨⟨a1, a2, a3, a4, a5, a6⟩, ⟨b1, b2, b3, b4, b5, b6⟩, c1, c2, c3, c4, c5, c6, c7⟩ := h
  refine ⟨⟨by rw [e _ (by omega)]; exact a1, by rw [e _ (by omega)]; exact a2, by rw [e _ (by omega)]; exact a3, by rw [e _ (by omega)]; exact a4, by rw [e _ (by omega)]; exact a5, by rw [e _ (by omega)]; exact a6⟩, ⟨b1, b2, b3, b4, b5, b6⟩, ?_, ?_, ?_, ?_, ?_, BS_cpy c6 g, QB_ext c7 e⟩
  · intro z hz; rw [cpy_at (by omega), e _ (by omega)]; exact c1 z hz
  · intro z hz; rw [cpy_at (by omega), e _ (by omega)]; exact c2 z hz
  · intro z hz; rw [cpy_at (by omega), e _ (by omega)]; exact c3 z hz
  · intro z hz; rw [cpy_at (by omega), e _ (by omega)]; exact c4 z hz
  · intro i hi
    have q := c5 i hi
    refine ⟨fun z hz => ?_, ?_, ?_⟩
    · rw [cpy_at (by omega), e _ (by omega)]; exact q.1 z hz
    · rw [cpy_at (by omega), e _ (by omega)]; exact q.2.1
    · rw [cpy_at (by omega), e _ (by omega)]; exact q.2.2
theorem RS_begin {an td gr nn cn ps g : Nat} {K M NC CC PM PD PG Q : Nat → Nat} (h : RS an td gr K M nn NC cn CC ps PM PD PG Q) (hg : g ≤ 9) : RS 0 0 g K M 0 NC 0 CC 0 PM PD PG (beginQ Q g) := by
  obtain ⟨-, -, -, -, -, -, -, c6, ⟨q1, q2, q3, q4, q5⟩⟩ := h
  have e : ∀ z, z < 74 → ¬ z = 21 → beginQ Q g z = 0 := fun z h1 h2 => by simp only [beginQ, updN, begF]; rw [if_neg h2, if_pos h1]
  have e2 : ∀ z, 74 ≤ z → beginQ Q g z = Q z := fun z h1 => by simp only [beginQ, updN, begF]; rw [if_neg (by omega), if_neg (by omega)]
  refine ⟨⟨(e 0 (by omega) (by omega)).symm, (e 20 (by omega) (by omega)).symm, by simp [beginQ, updN], (e 1 (by omega) (by omega)).symm, (e 2 (by omega) (by omega)).symm, (e 3 (by omega) (by omega)).symm⟩, ⟨by omega, by omega, hg, by omega, by omega, by omega⟩, fun z hz => by omega, fun z hz => by omega, fun z hz => by omega, fun z hz => by omega, fun i hi => by omega, c6, ?_⟩
  exact ⟨fun z hz => by show beginQ Q g (22 + z) ≤ 5; rw [e _ (by omega) (by omega)]; omega, fun z hz => by rw [e _ (by omega) (by omega)]; omega, fun z hz => by rw [e _ (by omega) (by omega)]; omega, fun z hz => by rw [e _ (by omega) (by omega)]; omega, fun i hi => ⟨fun z hz => by rw [e2 _ (by omega)]; exact (q5 i hi).1 z hz, by rw [e2 _ (by omega)]; exact (q5 i hi).2.1, by rw [e2 _ (by omega)]; exact (q5 i hi).2.2⟩⟩
/-- what changes memories, the DAY, the hand and how much may be undone alone -/
theorem RS_mod {an td gr nn cn ps td' gr' ps' : Nat} {K M M' NC CC PM PD PG Q Q' : Nat → Nat} (h : RS an td gr K M nn NC cn CC ps PM PD PG Q) (hM : ∀ z, M' z ≤ 20) (e : ∀ z, z < 218 → (z < 3 ∨ 22 ≤ z) → Q' z = Q z) (hp : ps' = Q' 3) (hp2 : ps' ≤ ps) (ht : td' = Q' 20) (ht9 : td' ≤ 999) (hg : gr' = Q' 21) (hg9 : gr' ≤ 9) (hm : ∀ z, z < 4 * an → M' z = Q' (4 + z)) (hq : ∀ z, z < 16 → Q' (4 + z) ≤ 20) : RS an td' gr' K M' nn NC cn CC ps' PM PD PG Q' := by
  obtain ⟨⟨a1, a2, a3, a4, a5, a6⟩, ⟨b1, b2, b3, b4, b5, b6⟩, c1, c2, c3, c4, c5, ⟨s1, s2, s3⟩, ⟨q1, q2, q3, q4, q5⟩⟩ := h
  refine ⟨⟨by rw [e _ (by omega) (by omega)]; exact a1, ht, hg, by rw [e _ (by omega) (by omega)]; exact a4, by rw [e _ (by omega) (by omega)]; exact a5, hp⟩, ⟨b1, ht9, hg9, b4, b5, by omega⟩, ?_, hm, ?_, ?_, ?_, ⟨s1, hM, s3⟩, ?_⟩
  · intro z hz; rw [e _ (by omega) (by omega)]; exact c1 z hz
  · intro z hz; rw [e _ (by omega) (by omega)]; exact c3 z hz
  · intro z hz; rw [e _ (by omega) (by omega)]; exact c4 z hz
  · intro i hi
    have q := c5 i (by omega)
    exact ⟨fun z hz => by rw [e _ (by omega) (by omega)]; exact q.1 z hz, by rw [e _ (by omega) (by omega)]; exact q.2.1, by rw [e _ (by omega) (by omega)]; exact q.2.2⟩
  · exact ⟨fun z hz => by show Q' (22 + z) ≤ 5; rw [e _ (by omega) (by omega)]; exact q1 z hz, hq, fun z hz => by rw [e _ (by omega) (by omega)]; exact q3 z hz, fun z hz => by rw [e _ (by omega) (by omega)]; exact q4 z hz, fun i hi => ⟨fun z hz => by rw [e _ (by omega) (by omega)]; exact (q5 i hi).1 z hz, by rw [e _ (by omega) (by omega)]; exact (q5 i hi).2.1, by rw [e _ (by omega) (by omega)]; exact (q5 i hi).2.2⟩⟩
theorem RS_anvil {an td gr nn cn ps x a b c d : Nat} {K M NC CC PM PD PG Q : Nat → Nat} (h : RS an td gr K M nn NC cn CC ps PM PD PG Q) (h4 : an < 4) (hx : x ≤ 5) (ha : a ≤ 20) (hb : b ≤ 20) (hc : c ≤ 20) (hd : d ≤ 20) : RS (an + 1) td gr (updN K an x) (joinM M an a b c d) nn NC cn CC 0 PM PD PG (updN (layQ Q x a b c d) 3 0) := by
  obtain ⟨⟨a1, a2, a3, a4, a5, a6⟩, ⟨b1, b2, b3, b4, b5, b6⟩, c1, c2, c3, c4, c5, ⟨s1, s2, s3⟩, ⟨q1, q2, q3, q4, q5⟩⟩ := h
  subst a1
  have hi : ∀ z, 26 ≤ z → updN (layQ Q x a b c d) 3 0 z = Q z := fun z hz => by
    simp only [layQ, updN]; rw [if_neg (by omega), if_neg (by omega), if_neg (by omega), if_neg (by omega), if_neg (by omega), if_neg (by omega), if_neg (by omega)]
  have hl : ∀ z, z < 22 → 20 ≤ z → updN (layQ Q x a b c d) 3 0 z = Q z := fun z h1 h2 => by
    simp only [layQ, updN]; rw [if_neg (by omega), if_neg (by omega), if_neg (by omega), if_neg (by omega), if_neg (by omega), if_neg (by omega), if_neg (by omega)]
  have h12 : ∀ z, z = 1 ∨ z = 2 → updN (layQ Q x a b c d) 3 0 z = Q z := fun z h1 => by
    simp only [layQ, updN]; rw [if_neg (by omega), if_neg (by omega), if_neg (by omega), if_neg (by omega), if_neg (by omega), if_neg (by omega), if_neg (by omega)]
  have h0 : updN (layQ Q x a b c d) 3 0 0 = Q 0 + 1 := by simp [layQ, updN]
  have hK : ∀ z, z < 4 → updN (layQ Q x a b c d) 3 0 (22 + z) = if z = Q 0 then x else Q (22 + z) := fun z hz => by
    simp only [layQ, updN]; rw [if_neg (by omega), if_neg (by omega), if_neg (by omega), if_neg (by omega), if_neg (by omega), if_neg (by omega)]
    by_cases e : z = Q 0
    · rw [if_pos (by omega), if_pos e]
    · rw [if_neg (by omega), if_neg e]
  have hM : ∀ z, z < 16 → updN (layQ Q x a b c d) 3 0 (4 + z) = joinM (MV Q) (Q 0) a b c d z := fun z hz => by
    simp only [layQ, joinM, updN, MV]
    rw [if_neg (by omega), if_neg (by omega)]
    by_cases e3 : z = 4 * Q 0 + 3
    · rw [if_pos (by omega), if_pos e3]
    · rw [if_neg (by omega), if_neg e3]
      by_cases e2 : z = 4 * Q 0 + 2
      · rw [if_pos (by omega), if_pos e2]
      · rw [if_neg (by omega), if_neg e2]
        by_cases e1 : z = 4 * Q 0 + 1
        · rw [if_pos (by omega), if_pos e1]
        · rw [if_neg (by omega), if_neg e1]
          by_cases e0 : z = 4 * Q 0
          · rw [if_pos (by omega), if_pos e0]
          · rw [if_neg (by omega), if_neg (by omega), if_neg e0]
  refine ⟨⟨h0.symm, by rw [hl _ (by omega) (by omega)]; exact a2, by rw [hl _ (by omega) (by omega)]; exact a3, by rw [h12 _ (by omega)]; exact a4, by rw [h12 _ (by omega)]; exact a5, by simp [updN]⟩, ⟨by omega, b2, b3, b4, b5, by omega⟩, ?_, ?_, ?_, ?_, fun i hi => by omega, ⟨updN_le s1 hx, joinM_l s2 ha hb hc hd, s3⟩, ?_⟩
  · intro z hz; rw [hK z (by omega)]; simp only [updN]
    by_cases e : z = Q 0
    · rw [if_pos e, if_pos e]
    · rw [if_neg e, if_neg e]; exact c1 z (by omega)
  · intro z hz; rw [hM z (by omega)]
    exact join_rel c2 z hz
  · intro z hz; rw [hi _ (by omega)]; exact c3 z hz
  · intro z hz; rw [hi _ (by omega)]; exact c4 z hz
  · refine ⟨fun z hz => ?_, fun z hz => ?_, fun z hz => by rw [hi _ (by omega)]; exact q3 z hz, fun z hz => by rw [hi _ (by omega)]; exact q4 z hz, fun i hi' => ⟨fun z hz => by rw [hi _ (by omega)]; exact (q5 i hi').1 z hz, by rw [hi _ (by omega)]; exact (q5 i hi').2.1, by rw [hi _ (by omega)]; exact (q5 i hi').2.2⟩⟩
    · show updN (layQ Q x a b c d) 3 0 (22 + z) ≤ 5
      rw [hK z hz]; split
      · exact hx
      · exact q1 z hz
    · rw [hM z hz]; simp only [joinM, updN, MV]
      have := q2 z hz
      (repeat' split) <;> omega
