/-! images -/
theorem RS_ext {an td gr nn cn ps : Nat} {K M NC CC PM PD PG Q Q' : Nat → Nat} (h : RS an td gr K M nn NC cn CC ps PM PD PG Q) (e : ∀ z, z < 218 → Q' z = Q z) : RS an td gr K M nn NC cn CC ps PM PD PG Q' := by
  obtain ⟨⟨a1, a2, a3, a4, a5, a6⟩, ⟨b1, b2, b3, b4, b5, b6⟩, c1, c2, c3, c4, c5, c6, c7⟩ := h
  refine ⟨⟨by rw [e _ (by omega)]; exact a1, by rw [e _ (by omega)]; exact a2, by rw [e _ (by omega)]; exact a3, by rw [e _ (by omega)]; exact a4, by rw [e _ (by omega)]; exact a5, by rw [e _ (by omega)]; exact a6⟩, ⟨b1, b2, b3, b4, b5, b6⟩, ?_, ?_, ?_, ?_, ?_, c6, QB_ext c7 e⟩
  · intro z hz; rw [e _ (by omega)]; exact c1 z hz
  · intro z hz; rw [e _ (by omega)]; exact c2 z hz
  · intro z hz; rw [e _ (by omega)]; exact c3 z hz
  · intro z hz; rw [e _ (by omega)]; exact c4 z hz
  · intro i hi
    have q := c5 i hi
    exact ⟨fun z hz => by rw [e _ (by omega)]; exact q.1 z hz, by rw [e _ (by omega)]; exact q.2.1, by rw [e _ (by omega)]; exact q.2.2⟩
theorem BS_0 : BS (fun _ => 0) (fun _ => 0) (fun _ => 0) (fun _ => 0) (fun _ => 0) (fun _ => 0) (fun _ => 0) := ⟨fun _ => Nat.zero_le _, fun _ => Nat.zero_le _, fun _ => Nat.zero_le _, fun _ => Nat.zero_le _, fun _ => Nat.zero_le _, fun _ => Nat.zero_le _, fun _ => Nat.zero_le _⟩
theorem IG1_k {E : jE} {h h' : Nat → va_E} {n n' ik : Nat} {oo : Option Nat} {Qk Qk' : Nat → Nat} (q : IG1 E h n oo ik Qk) (hn : n ≤ n') (e : ∀ p, oo = some (E.1 + p) → 50 ≤ p → p + 11 ≤ n → ∀ i, p ≤ i → i < p + 11 → h' i = h i) (eq : ∀ z, z < 218 → Qk' z = Qk z) : IG1 E h' n' oo ik Qk' := by
  rcases q with q | ⟨o, q1, q2, q3, q4, an, td, gr, K, M, nn, NC, cn, CC, ps, PM, PD, PG, q5, q6⟩
  · exact .inl q
  · exact .inr ⟨o, q1, q2, q3, by omega, an, td, gr, K, M, nn, NC, cn, CC, ps, PM, PD, PG, StA_h q5 (e o q1 q3 q4), RS_ext q6 eq⟩
theorem IG1_n {E : jE} {h : Nat → va_E} {n ik p : Nat} {oo : Option Nat} {Qk : Nat → Nat} (q : IG1 E h n oo ik Qk) (e : oo = some (E.1 + p)) : p + 11 ≤ n := by
  rcases q with ⟨q, _⟩ | ⟨o, q1, q2, q3, q4, _⟩
  · rw [q] at e; cases e
  · rw [q1] at e; have := Option.some.inj e; omega
theorem up_eq {IM : Nat → Option Nat} {k : Nat} {x : Option Nat} : va_up IM k x k = x := by simp [va_up]
theorem up_ne {IM : Nat → Option Nat} {k j : Nat} {x : Option Nat} (h : j ≠ k) : va_up IM k x j = IM j := by simp [va_up, h]
theorem updN_eq {F : Nat → Nat} {k x : Nat} : updN F k x k = x := by simp [updN]
theorem updN_ne {F : Nat → Nat} {k j x : Nat} (h : j ≠ k) : updN F k x j = F j := by simp [updN, h]
