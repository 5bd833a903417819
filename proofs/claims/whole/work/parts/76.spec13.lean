/-! what may be undone, notes, what came, images, what is read -/
theorem psQ_hi {Q : Nat → Nat} {i k : Nat} (h : ¬ (74 + 18 * Q 3 ≤ k ∧ k < 74 + 18 * Q 3 + i)) : psQ Q i k = Q k := by simp only [psQ]; rw [if_neg h]
theorem RS_keep {an td gr nn cn ps : Nat} {K M NC CC PM PD PG Q : Nat → Nat} (h : RS an td gr K M nn NC cn CC ps PM PD PG Q) : RS an td gr K M nn NC cn CC (pushS ps) (pushM PM ps M) (pushD PD ps td) (pushD PG ps gr) (keepQ Q) := by
  obtain ⟨⟨a1, a2, a3, a4, a5, a6⟩, ⟨b1, b2, b3, b4, b5, b6⟩, c1, c2, c3, c4, c5, ⟨s1, s2, s3, s4, s5, s6, s7⟩, ⟨q1, q2, q3, q4, q5⟩⟩ := h
  have lo : ∀ z, z < 74 → ¬ z = 3 → keepQ Q z = Q z := fun z h1 h2 => keepQ_lo h1 h2
  have k3 : keepQ Q 3 = keepA Q 3 + 1 := by simp [keepQ, updN]
  have hs : pushS ps = keepQ Q 3 := by
    rw [k3]; unfold pushS keepA
    by_cases e : ps < 8
    · rw [if_pos e, if_neg (by omega), a6]
    · rw [if_neg e, if_pos (by omega)]; simp [updN]
  have bM : ∀ z, pushM PM ps M z ≤ 20 := by
    intro z; unfold pushM; split
    · exact va_cpy_le s2 s5 z
    · exact va_cpy_le s2 (va_cpy_le s5 s5) z
  have bD : ∀ z, pushD PD ps td z ≤ 999 := by
    intro z; unfold pushD; split
    · exact updN_le s6 b2 z
    · exact updN_le (va_cpy_le s6 s6) b2 z
  have bG : ∀ z, pushD PG ps gr z ≤ 9 := by
    intro z; unfold pushD; split
    · exact updN_le s7 b3 z
    · exact updN_le (va_cpy_le s7 s7) b3 z
  -- the row, place by place
  have kA : keepA Q 3 = if ps < 8 then ps else 7 := by
    unfold keepA
    by_cases e : ps < 8
    · rw [if_neg (by omega), if_pos e, a6]
    · rw [if_pos (by omega), if_neg e]; simp [updN]
  have kp : ∀ i z, i < 8 → z < 18 → keepQ Q (74 + 18 * i + z) = if i = keepA Q 3 then Q (4 + z) else if ps < 8 then Q (74 + 18 * i + z) else if i < 7 then Q (74 + 18 * (i + 1) + z) else Q (74 + 18 * i + z) := by
    intro i z hi hz
    simp only [keepQ, updN]
    rw [if_neg (by omega)]
    by_cases e : i = keepA Q 3
    · rw [if_pos e]
      simp only [psQ]; rw [if_pos (by omega), show 4 + (74 + 18 * i + z - (74 + 18 * keepA Q 3)) = 4 + z by omega, keepA_lo (by omega) (by omega)]
    · rw [if_neg e, psQ_hi (by omega)]
      unfold keepA
      by_cases e8 : ps < 8
      · rw [if_neg (by omega), if_pos e8]
      · rw [if_pos (by omega), if_neg e8]
        simp only [updN]; rw [if_neg (by omega)]
        simp only [shQ]
        by_cases e7 : i < 7
        · rw [if_pos (by omega), if_pos e7, show 74 + 18 * i + z + 18 = 74 + 18 * (i + 1) + z by omega]
        · rw [if_neg (by omega), if_neg e7]
  refine ⟨⟨by rw [lo _ (by omega) (by omega)]; exact a1, by rw [lo _ (by omega) (by omega)]; exact a2, by rw [lo _ (by omega) (by omega)]; exact a3, by rw [lo _ (by omega) (by omega)]; exact a4, by rw [lo _ (by omega) (by omega)]; exact a5, hs⟩, ⟨b1, b2, b3, b4, b5, pushS_le ps⟩, ?_, ?_, ?_, ?_, ?_, ⟨s1, s2, s3, s4, bM, bD, bG⟩, ?_⟩
  · intro z hz; rw [lo _ (by omega) (by omega)]; exact c1 z hz
  · intro z hz; rw [lo _ (by omega) (by omega)]; exact c2 z hz
  · intro z hz; rw [lo _ (by omega) (by omega)]; exact c3 z hz
  · intro z hz; rw [lo _ (by omega) (by omega)]; exact c4 z hz
  · intro i hi
    have hi8 : i < 8 := Nat.lt_of_lt_of_le hi (pushS_le ps)
    have e0 := kp i 16 hi8 (by omega)
    have e1 := kp i 17 hi8 (by omega)
    rw [show 74 + 18 * i + 16 = 90 + 18 * i by omega, show 74 + 18 * (i + 1) + 16 = 90 + 18 * (i + 1) by omega] at e0
    rw [show 74 + 18 * i + 17 = 91 + 18 * i by omega, show 74 + 18 * (i + 1) + 17 = 91 + 18 * (i + 1) by omega] at e1
    unfold pushS at hi
    by_cases e8 : ps < 8
    · rw [if_pos e8] at hi kA
      by_cases ei : i = ps
      · refine ⟨fun z hz => ?_, ?_, ?_⟩
        · rw [kp i z hi8 (by omega), if_pos (by omega)]
          unfold pushM; rw [if_pos e8]; simp only [va_cpy]; rw [if_pos (by omega), show 0 + (16 * i + z - ps * 16) = z by omega]; exact c2 z hz
        · rw [e0, if_pos (by omega)]; unfold pushD; rw [if_pos e8]; simp only [updN]; rw [if_pos ei]; exact a2
        · rw [e1, if_pos (by omega)]; unfold pushD; rw [if_pos e8]; simp only [updN]; rw [if_pos ei]; exact a3
      · have q := c5 i (by omega)
        refine ⟨fun z hz => ?_, ?_, ?_⟩
        · rw [kp i z hi8 (by omega), if_neg (by omega), if_pos e8]
          unfold pushM; rw [if_pos e8]; simp only [va_cpy]; rw [if_neg (by omega)]; exact q.1 z hz
        · rw [e0, if_neg (by omega), if_pos e8]; unfold pushD; rw [if_pos e8]; simp only [updN]; rw [if_neg ei]; exact q.2.1
        · rw [e1, if_neg (by omega), if_pos e8]; unfold pushD; rw [if_pos e8]; simp only [updN]; rw [if_neg ei]; exact q.2.2
    · rw [if_neg e8] at hi kA
      by_cases ei : i = 7
      · refine ⟨fun z hz => ?_, ?_, ?_⟩
        · rw [kp i z hi8 (by omega), if_pos (by omega)]
          unfold pushM; rw [if_neg e8]; simp only [va_cpy]; rw [if_pos (by omega), show 0 + (16 * i + z - 112) = z by omega]; exact c2 z hz
        · rw [e0, if_pos (by omega)]; unfold pushD; rw [if_neg e8]; simp only [updN]; rw [if_pos ei]; exact a2
        · rw [e1, if_pos (by omega)]; unfold pushD; rw [if_neg e8]; simp only [updN]; rw [if_pos ei]; exact a3
      · have q := c5 (i + 1) (by omega)
        refine ⟨fun z hz => ?_, ?_, ?_⟩
        · rw [kp i z hi8 (by omega), if_neg (by omega), if_neg e8, if_pos (by omega)]
          unfold pushM; rw [if_neg e8]; simp only [va_cpy]; rw [if_neg (by omega), if_pos (by omega), show 16 + (16 * i + z - 0) = 16 * (i + 1) + z by omega]; exact q.1 z hz
        · rw [e0, if_neg (by omega), if_neg e8, if_pos (by omega)]; unfold pushD; rw [if_neg e8]; simp only [updN, va_cpy]; rw [if_neg ei, if_pos (by omega), show 1 + (i - 0) = i + 1 by omega]; exact q.2.1
        · rw [e1, if_neg (by omega), if_neg e8, if_pos (by omega)]; unfold pushD; rw [if_neg e8]; simp only [updN, va_cpy]; rw [if_neg ei, if_pos (by omega), show 1 + (i - 0) = i + 1 by omega]; exact q.2.2
  · refine ⟨fun z hz => by show keepQ Q (22 + z) ≤ 5; rw [lo _ (by omega) (by omega)]; exact q1 z hz, fun z hz => by rw [lo _ (by omega) (by omega)]; exact q2 z hz, fun z hz => by rw [lo _ (by omega) (by omega)]; exact q3 z hz, fun z hz => by rw [lo _ (by omega) (by omega)]; exact q4 z hz, fun i hi => ?_⟩
    have e0 := kp i 16 hi (by omega)
    have e1 := kp i 17 hi (by omega)
    rw [show 74 + 18 * i + 16 = 90 + 18 * i by omega, show 74 + 18 * (i + 1) + 16 = 90 + 18 * (i + 1) by omega] at e0
    rw [show 74 + 18 * i + 17 = 91 + 18 * i by omega, show 74 + 18 * (i + 1) + 17 = 91 + 18 * (i + 1) by omega] at e1
    refine ⟨fun z hz => ?_, ?_, ?_⟩
    · rw [kp i z hi (by omega)]
      have x0 := q2 z hz
      have x1 := (q5 i hi).1 z hz
      split
      · exact x0
      · split
        · exact x1
        · split
          · exact (q5 (i + 1) (by omega)).1 z hz
          · exact x1
    · rw [e0]; split
      · show Q 20 ≤ 999; omega
      · split
        · exact (q5 i hi).2.1
        · split
          · exact (q5 (i + 1) (by omega)).2.1
          · exact (q5 i hi).2.1
    · rw [e1]; split
      · show Q 21 ≤ 9; omega
      · split
        · exact (q5 i hi).2.2
        · split
          · exact (q5 (i + 1) (by omega)).2.2
          · exact (q5 i hi).2.2
theorem RS_undo {an td gr nn cn ps : Nat} {K M NC CC PM PD PG Q : Nat → Nat} (h : RS an td gr K M nn NC cn CC ps PM PD PG Q) (h0 : 0 < ps) : RS an (PD (ps - 1)) (PG (ps - 1)) K (va_cpy PM M ((ps - 1) * 16) 0 16) nn NC cn CC (ps - 1) PM PD PG (unQ Q 18) := by
  have g := h
  obtain ⟨⟨a1, a2, a3, a4, a5, a6⟩, ⟨b1, b2, b3, b4, b5, b6⟩, c1, c2, c3, c4, c5, ⟨s1, s2, s3, s4, s5, s6, s7⟩, ⟨q1, q2, q3, q4, q5⟩⟩ := h
  have q := c5 (ps - 1) (by omega)
  have w : ∀ z, z < 18 → unQ Q 18 (4 + z) = Q (74 + 18 * (ps - 1) + z) := fun z hz => by
    simp only [unQ]; rw [if_pos (by omega), ← a6, show 4 + z - 4 = z by omega]
  have w20 := w 16 (by omega)
  have w21 := w 17 (by omega)
  refine RS_mod g (va_cpy_le s5 s2) (fun z h1 h2 => ?_) (by rw [unQ_3, a6]) (by omega) ?_ (s6 _) ?_ (s7 _) (fun z hz => ?_) (fun z hz => ?_)
  · simp only [unQ]; rw [if_neg (by omega), if_neg (by omega)]
  · rw [show (20 : Nat) = 4 + 16 by omega, w20, show 74 + 18 * (ps - 1) + 16 = 90 + 18 * (ps - 1) by omega]; exact q.2.1
  · rw [show (21 : Nat) = 4 + 17 by omega, w21, show 74 + 18 * (ps - 1) + 17 = 91 + 18 * (ps - 1) by omega]; exact q.2.2
  · rw [w z (by omega), ← q.1 z hz]; simp only [va_cpy]; rw [if_pos (by omega)]; congr 1; omega
  · rw [w z (by omega)]; exact (q5 (ps - 1) (by omega)).1 z hz
theorem rowN_rel {C : Nat → Nat} {b nn x y z w : Nat} {Q : Nat → Nat} (h : ∀ i, i < 4 * nn → C i = Q (b + i)) (i : Nat) (hi : i < 4 * (nn + 1)) : rowN C nn x y z w i = updN (updN (updN (updN Q (b + 4 * nn) x) (b + 4 * nn + 1) y) (b + 4 * nn + 2) z) (b + 4 * nn + 3) w (b + i) := by
  simp only [rowN, updN]
  by_cases e3 : i = 4 * nn + 3
  · rw [if_pos e3, if_pos (by omega)]
  · rw [if_neg e3, if_neg (show ¬ b + i = b + 4 * nn + 3 by omega)]
    by_cases e2 : i = 4 * nn + 2
    · rw [if_pos e2, if_pos (by omega)]
    · rw [if_neg e2, if_neg (show ¬ b + i = b + 4 * nn + 2 by omega)]
      by_cases e1 : i = 4 * nn + 1
      · rw [if_pos e1, if_pos (by omega)]
      · rw [if_neg e1, if_neg (show ¬ b + i = b + 4 * nn + 1 by omega)]
        by_cases e0 : i = 4 * nn
        · rw [if_pos e0, if_pos (by omega)]
        · rw [if_neg e0, if_neg (by omega)]; exact h i (by omega)
theorem rowQ_o {Q : Nat → Nat} {b c x y z w k : Nat} (h : ¬ k = c) (h2 : k < b + 4 * Q c ∨ b + 4 * Q c + 4 ≤ k) : rowQ Q b c x y z w k = Q k := by
  simp only [rowQ, updN]
  rw [if_neg h, if_neg (by omega), if_neg (by omega), if_neg (by omega), if_neg (by omega)]
theorem rowQ_cnt {Q : Nat → Nat} {b c x y z w : Nat} : rowQ Q b c x y z w c = Q c + 1 := by simp [rowQ, updN]
theorem rowQ_i {Q : Nat → Nat} {b c x y z w k : Nat} (h : ¬ k = c) : rowQ Q b c x y z w k = updN (updN (updN (updN Q (b + 4 * Q c) x) (b + 4 * Q c + 1) y) (b + 4 * Q c + 2) z) (b + 4 * Q c + 3) w k := by
  simp only [rowQ]; rw [show updN (updN (updN (updN (updN Q (b + 4 * Q c) x) (b + 4 * Q c + 1) y) (b + 4 * Q c + 2) z) (b + 4 * Q c + 3) w) c (Q c + 1) k = updN (updN (updN (updN Q (b + 4 * Q c) x) (b + 4 * Q c + 1) y) (b + 4 * Q c + 2) z) (b + 4 * Q c + 3) w k from if_neg h]
theorem rowQ_le {Q : Nat → Nat} {b c x y z w k B : Nat} (h : ¬ k = c) (hQ : Q k ≤ B) (hx : x ≤ B) (hy : y ≤ B) (hz : z ≤ B) (hw : w ≤ B) : rowQ Q b c x y z w k ≤ B := by
  rw [rowQ_i h]; simp only [updN]; (repeat' split) <;> assumption
theorem rowN_le {C : Nat → Nat} {i x y z w B : Nat} (hC : ∀ k, C k ≤ B) (hx : x ≤ B) (hy : y ≤ B) (hz : z ≤ B) (hw : w ≤ B) (k : Nat) : rowN C i x y z w k ≤ B := by
  have := hC k
  simp only [rowN, updN]; (repeat' split) <;> assumption
theorem RS_note {an td gr nn cn ps x y z w : Nat} {K M NC CC PM PD PG Q : Nat → Nat} (h : RS an td gr K M nn NC cn CC ps PM PD PG Q) (h6 : nn < 6) (hx : x ≤ 99) (hy : y ≤ 99) (hz : z ≤ 99) (hw : w ≤ 99) : RS an td gr K M (nn + 1) (rowN NC nn x y z w) cn CC ps PM PD PG (rowQ Q 26 1 x y z w) := by
  obtain ⟨⟨a1, a2, a3, a4, a5, a6⟩, ⟨b1, b2, b3, b4, b5, b6⟩, c1, c2, c3, c4, c5, ⟨s1, s2, s3, s4⟩, ⟨q1, q2, q3, q4, q5⟩⟩ := h
  have lo : ∀ k, k < 26 → ¬ k = 1 → rowQ Q 26 1 x y z w k = Q k := fun k h1 h2 => rowQ_o h2 (by omega)
  have hi : ∀ k, 50 ≤ k → rowQ Q 26 1 x y z w k = Q k := fun k h1 => rowQ_o (by omega) (by omega)
  refine ⟨⟨by rw [lo _ (by omega) (by omega)]; exact a1, by rw [lo _ (by omega) (by omega)]; exact a2, by rw [lo _ (by omega) (by omega)]; exact a3, by rw [rowQ_cnt, a4], by rw [lo _ (by omega) (by omega)]; exact a5, by rw [lo _ (by omega) (by omega)]; exact a6⟩, ⟨b1, b2, b3, by omega, b5, b6⟩, ?_, ?_, ?_, ?_, ?_, ⟨s1, s2, rowN_le s3 hx hy hz hw, s4⟩, ?_⟩
  · intro k hk; rw [lo _ (by omega) (by omega)]; exact c1 k hk
  · intro k hk; rw [lo _ (by omega) (by omega)]; exact c2 k hk
  · intro k hk; rw [rowQ_i (by omega), ← a4]; exact rowN_rel c3 k hk
  · intro k hk; rw [hi _ (by omega)]; exact c4 k hk
  · intro i hi'
    have q := c5 i hi'
    exact ⟨fun k hk => by rw [hi _ (by omega)]; exact q.1 k hk, by rw [hi _ (by omega)]; exact q.2.1, by rw [hi _ (by omega)]; exact q.2.2⟩
  · exact ⟨fun k hk => by show rowQ Q 26 1 x y z w (22 + k) ≤ 5; rw [lo _ (by omega) (by omega)]; exact q1 k hk, fun k hk => by rw [lo _ (by omega) (by omega)]; exact q2 k hk, fun k hk => rowQ_le (by omega) (q3 k hk) hx hy hz hw, fun k hk => by rw [hi _ (by omega)]; exact q4 k hk, fun i hi' => ⟨fun k hk => by rw [hi _ (by omega)]; exact (q5 i hi').1 k hk, by rw [hi _ (by omega)]; exact (q5 i hi').2.1, by rw [hi _ (by omega)]; exact (q5 i hi').2.2⟩⟩
theorem RS_came {an td gr nn cn ps x y z w : Nat} {K M NC CC PM PD PG Q : Nat → Nat} (h : RS an td gr K M nn NC cn CC ps PM PD PG Q) (h6 : cn < 6) (hx : x ≤ 50) (hy : y ≤ 50) (hz : z ≤ 50) (hw : w ≤ 50) : RS an td gr K M nn NC (cn + 1) (rowN CC cn x y z w) ps PM PD PG (rowQ Q 50 2 x y z w) := by
  obtain ⟨⟨a1, a2, a3, a4, a5, a6⟩, ⟨b1, b2, b3, b4, b5, b6⟩, c1, c2, c3, c4, c5, ⟨s1, s2, s3, s4, s5⟩, ⟨q1, q2, q3, q4, q5⟩⟩ := h
  have lo : ∀ k, k < 50 → ¬ k = 2 → rowQ Q 50 2 x y z w k = Q k := fun k h1 h2 => rowQ_o h2 (by omega)
  have hi : ∀ k, 74 ≤ k → rowQ Q 50 2 x y z w k = Q k := fun k h1 => rowQ_o (by omega) (by omega)
  refine ⟨⟨by rw [lo _ (by omega) (by omega)]; exact a1, by rw [lo _ (by omega) (by omega)]; exact a2, by rw [lo _ (by omega) (by omega)]; exact a3, by rw [lo _ (by omega) (by omega)]; exact a4, by rw [rowQ_cnt, a5], by rw [lo _ (by omega) (by omega)]; exact a6⟩, ⟨b1, b2, b3, b4, by omega, b6⟩, ?_, ?_, ?_, ?_, ?_, ⟨s1, s2, s3, rowN_le s4 hx hy hz hw, s5⟩, ?_⟩
  · intro k hk; rw [lo _ (by omega) (by omega)]; exact c1 k hk
  · intro k hk; rw [lo _ (by omega) (by omega)]; exact c2 k hk
  · intro k hk; rw [lo _ (by omega) (by omega)]; exact c3 k hk
  · intro k hk; rw [rowQ_i (by omega), ← a5]; exact rowN_rel c4 k hk
  · intro i hi'
    have q := c5 i hi'
    exact ⟨fun k hk => by rw [hi _ (by omega)]; exact q.1 k hk, by rw [hi _ (by omega)]; exact q.2.1, by rw [hi _ (by omega)]; exact q.2.2⟩
  · exact ⟨fun k hk => by show rowQ Q 50 2 x y z w (22 + k) ≤ 5; rw [lo _ (by omega) (by omega)]; exact q1 k hk, fun k hk => by rw [lo _ (by omega) (by omega)]; exact q2 k hk, fun k hk => by rw [lo _ (by omega) (by omega)]; exact q3 k hk, fun k hk => rowQ_le (by omega) (q4 k hk) hx hy hz hw, fun i hi' => ⟨fun k hk => by rw [hi _ (by omega)]; exact (q5 i hi').1 k hk, by rw [hi _ (by omega)]; exact (q5 i hi').2.1, by rw [hi _ (by omega)]; exact (q5 i hi').2.2⟩⟩
theorem RS_forget {an td gr nn cn ps nn' cn' c : Nat} {K M NC CC PM PD PG Q : Nat → Nat} (h : RS an td gr K M nn NC cn CC ps PM PD PG Q) (hc : (c = 1 ∧ nn' = 0 ∧ cn' = cn) ∨ (c = 2 ∧ nn' = nn ∧ cn' = 0)) : RS an td gr K M nn' NC cn' CC ps PM PD PG (updN Q c 0) := by
  obtain ⟨⟨a1, a2, a3, a4, a5, a6⟩, ⟨b1, b2, b3, b4, b5, b6⟩, c1, c2, c3, c4, c5, s, ⟨q1, q2, q3, q4, q5⟩⟩ := h
  have o : ∀ k, ¬ k = c → updN Q c 0 k = Q k := fun k hk => by simp only [updN]; rw [if_neg hk]
  have oc : updN Q c 0 c = 0 := by simp [updN]
  refine ⟨⟨by rw [o _ (by omega)]; exact a1, by rw [o _ (by omega)]; exact a2, by rw [o _ (by omega)]; exact a3, ?_, ?_, by rw [o _ (by omega)]; exact a6⟩, ⟨b1, b2, b3, by omega, by omega, b6⟩, ?_, ?_, ?_, ?_, ?_, s, ?_⟩
  · rcases hc with ⟨e, e1, e2⟩ | ⟨e, e1, e2⟩
    · rw [← e, oc]; exact e1
    · rw [o _ (by omega), e1]; exact a4
  · rcases hc with ⟨e, e1, e2⟩ | ⟨e, e1, e2⟩
    · rw [o _ (by omega), e2]; exact a5
    · rw [← e, oc]; exact e2
  · intro k hk; rw [o _ (by omega)]; exact c1 k hk
  · intro k hk; rw [o _ (by omega)]; exact c2 k hk
  · intro k hk; rw [o _ (by omega)]; exact c3 k (by omega)
  · intro k hk; rw [o _ (by omega)]; exact c4 k (by omega)
  · intro i hi'
    have q := c5 i hi'
    exact ⟨fun k hk => by rw [o _ (by omega)]; exact q.1 k hk, by rw [o _ (by omega)]; exact q.2.1, by rw [o _ (by omega)]; exact q.2.2⟩
  · exact ⟨fun k hk => by show updN Q c 0 (22 + k) ≤ 5; rw [o _ (by omega)]; exact q1 k hk, fun k hk => by rw [o _ (by omega)]; exact q2 k hk, fun k hk => by rw [o _ (by omega)]; exact q3 k hk, fun k hk => by rw [o _ (by omega)]; exact q4 k hk, fun i hi' => ⟨fun k hk => by rw [o _ (by omega)]; exact (q5 i hi').1 k hk, by rw [o _ (by omega)]; exact (q5 i hi').2.1, by rw [o _ (by omega)]; exact (q5 i hi').2.2⟩⟩
/-- what is read: the row that the parse left, in both -/
theorem RS_read {an td gr nn cn ps an1 td1 gr1 : Nat} {K M NC CC PM PD PG Q K1 M1 NC2 CC2 PM2 PD2 PG2 A : Nat → Nat} {S : pS} (h : RS an td gr K M nn NC cn CC ps PM PD PG Q) (g : BS K1 M1 NC2 CC2 PM2 PD2 PG2) (hr : relS an1 td1 K1 M1 S) (hA : relA A S.2.1 S.2.2.1 gr1 S.2.2.2.1 S.2.2.2.2) (h4 : an1 ≤ 4) (h9 : td1 ≤ 999) (hg : gr1 ≤ 9) : RS an1 td1 gr1 (va_cpy K1 K 0 0 4) (va_cpy M1 M 0 0 16) 0 (va_cpy NC2 NC 0 0 24) 0 (va_cpy CC2 CC 0 0 24) 0 (va_cpy PM2 PM 0 0 128) (va_cpy PD2 PD 0 0 8) (va_cpy PG2 PG 0 0 8) (frQ A Q 0 74) := by
  obtain ⟨-, -, -, -, -, -, -, s, ⟨q1, q2, q3, q4, q5⟩⟩ := h
  obtain ⟨r1, r2, r3, r4⟩ := hr
  obtain ⟨A0, A1, A2, A3, A4, A5, A6, ⟨A7, A8, A9⟩, A10⟩ := hA
  have lo : ∀ z, z < 74 → frQ A Q 0 74 z = A z := fun z hz => by simp only [frQ]; rw [if_pos hz, Nat.zero_add]
  have hi : ∀ z, 74 ≤ z → frQ A Q 0 74 z = Q z := fun z hz => by simp only [frQ]; rw [if_neg (by omega)]
  refine ⟨⟨by rw [lo _ (by omega), A0]; exact r1, by rw [lo _ (by omega), A1]; exact r2, by rw [lo _ (by omega), A2], by rw [lo _ (by omega), A7], by rw [lo _ (by omega), A8], by rw [lo _ (by omega), A9]⟩, ⟨h4, h9, hg, by omega, by omega, by omega⟩, ?_, ?_, fun z hz => by omega, fun z hz => by omega, fun i hi => by omega, BS_cpy g s, ?_⟩
  · intro z hz; rw [cpy_at (by omega), lo _ (by omega), A3 z (by omega)]; exact r3 z hz
  · intro z hz; rw [cpy_at (by omega), lo _ (by omega), A4 z (by omega)]; exact r4 z hz
  · exact ⟨fun z hz => by show frQ A Q 0 74 (22 + z) ≤ 5; rw [lo _ (by omega)]; exact A5 z hz, fun z hz => by rw [lo _ (by omega)]; exact A6 z hz, fun z hz => by rw [lo _ (by omega), A10 _ (by omega) (by omega)]; omega, fun z hz => by rw [lo _ (by omega), A10 _ (by omega) (by omega)]; omega, fun i hi' => ⟨fun z hz => by rw [hi _ (by omega)]; exact (q5 i hi').1 z hz, by rw [hi _ (by omega)]; exact (q5 i hi').2.1, by rw [hi _ (by omega)]; exact (q5 i hi').2.2⟩⟩
