/-! what holds between two calls -/
def RC (ab be bd no fu xa xb : Nat) (RF : Nat → Nat) : Prop := ab = xa ∧ be = xb ∧ ab < 2 ^ 31 ∧ be < 2 ^ 31 ∧ bd = RF 0 ∧ no = RF 1 ∧ fu = RF 2
def RT (sz : Nat) (TX : Nat → Nat) (bn : Nat) (BY : Nat → Nat) : Prop := sz = bn ∧ sz ≤ 150 ∧ ∀ z, z < sz → TX z = BY z ∧ BY z ≤ 127
def StA (E : jE) (h : Nat → va_E) (o an td gr : Nat) (K M : Nat → Nat) (nn : Nat) (NC : Nat → Nat) (cn : Nat) (CC : Nat → Nat) (ps : Nat) (PM PD PG : Nat → Nat) : Prop := h o = .inr (5, [.ref (E.1 + (o + 1)), .ref (E.1 + (o + 2)), .ref (E.1 + (o + 3)), .ref (E.1 + (o + 5)), .ref (E.1 + (o + 7)), .int (nI an), .int (nI td), .int (nI gr)]) ∧ h (o + 1) = cI E 4 (nF K) ∧ h (o + 2) = cI E 16 (nF M) ∧ h (o + 3) = .inr (3, [.ref (E.1 + (o + 4)), .int (nI nn)]) ∧ h (o + 4) = cI E 24 (nF NC) ∧ h (o + 5) = .inr (3, [.ref (E.1 + (o + 6)), .int (nI cn)]) ∧ h (o + 6) = cI E 24 (nF CC) ∧ h (o + 7) = .inr (1, [.ref (E.1 + (o + 8)), .ref (E.1 + (o + 9)), .ref (E.1 + (o + 10)), .int (nI ps)]) ∧ h (o + 8) = cI E 128 (nF PM) ∧ h (o + 9) = cI E 8 (nF PD) ∧ h (o + 10) = cI E 8 (nF PG)
def IG1 (E : jE) (h : Nat → va_E) (n : Nat) (oo : Option Nat) (ik : Nat) (Qk : Nat → Nat) : Prop := (oo = none ∧ ik = 0) ∨ (∃ o : Nat, oo = some (E.1 + o) ∧ ik = 1 ∧ 50 ≤ o ∧ o + 11 ≤ n ∧ ∃ (an : Nat) (td : Nat) (gr : Nat) (K : Nat → Nat) (M : Nat → Nat) (nn : Nat) (NC : Nat → Nat) (cn : Nat) (CC : Nat → Nat) (ps : Nat) (PM : Nat → Nat) (PD : Nat → Nat) (PG : Nat → Nat), StA E h o an td gr K M nn NC cn CC ps PM PD PG ∧ RS an td gr K M nn NC cn CC ps PM PD PG Qk)
def IG (E : jE) (h : Nat → va_E) (n : Nat) (IM : Nat → Option Nat) (KP IK : Nat → Nat) : Prop := IG1 E h n (IM 0) (IK 0) (fun z => KP (0 + z)) ∧ IG1 E h n (IM 1) (IK 1) (fun z => KP (218 + z)) ∧ ∀ o p : Nat, IM 0 = some (E.1 + o) → IM 1 = some (E.1 + p) → o + 11 ≤ p ∨ p + 11 ≤ o
def Inv (E : jE) (h : Nat → va_E) (n : Nat) : Prop := ∀ XX : Prop, (∀ (ab : Nat) (be : Nat) (bd : Nat) (no : Nat) (fu : Nat) (an : Nat) (td : Nat) (gr : Nat) (K : Nat → Nat) (M : Nat → Nat) (nn : Nat) (NC : Nat → Nat) (cn : Nat) (CC : Nat → Nat) (ps : Nat) (PM : Nat → Nat) (PD : Nat → Nat) (PG : Nat → Nat) (an2 : Nat) (td2 : Nat) (gr2 : Nat) (K2 : Nat → Nat) (M2 : Nat → Nat) (nn2 : Nat) (NC2 : Nat → Nat) (cn2 : Nat) (CC2 : Nat → Nat) (ps2 : Nat) (PM2 : Nat → Nat) (PD2 : Nat → Nat) (PG2 : Nat → Nat) (IM : Nat → Option Nat) (sz : Nat) (tk : Nat) (cu : Nat) (TX : Nat → Nat) (SO : Nat → Nat) (ST : Nat → Nat) (VL : Nat → Int32) (NU : Nat → Nat) (lz : Nat) (lb : Nat) (le : Nat) (T : Nat → Nat) (W : Nat → Nat) (C : Nat → Nat) (ka : Nat) (F1 : Nat → Int32) (F2 : Nat → Int32) (LV : Nat → Int32) (xa : Nat) (xb : Nat) (dt : Nat) (mo : Nat) (bn : Nat) (ta : Nat) (tl : Nat) (tq : Nat) (va : Nat) (Q : Nat → Nat) (KP : Nat → Nat) (IK : Nat → Nat) (RF : Nat → Nat) (MM : Nat → Nat) (TE : Nat → Nat) (BE : Nat → Nat) (MB : Nat → Nat) (BY : Nat → Nat) (AN : Nat → Nat) (VA : Nat → Nat), 50 ≤ n → h 0 = .inr (6, [.ref (E.1 + 1), .ref (E.1 + 12), .ref (E.1 + 23), .ref (E.1 + 24), .ref (E.1 + 30), .ref (E.1 + 34), .ref (E.1 + 37), .int (nI ab), .int (nI be), .int (nI bd), .int (nI no), .int (nI fu)]) → h 1 = .inr (5, [.ref (E.1 + 2), .ref (E.1 + 3), .ref (E.1 + 4), .ref (E.1 + 6), .ref (E.1 + 8), .int (nI an), .int (nI td), .int (nI gr)]) → h 2 = cI E 4 (nF K) → h 3 = cI E 16 (nF M) → h 4 = .inr (3, [.ref (E.1 + 5), .int (nI nn)]) → h 5 = cI E 24 (nF NC) → h 6 = .inr (3, [.ref (E.1 + 7), .int (nI cn)]) → h 7 = cI E 24 (nF CC) → h 8 = .inr (1, [.ref (E.1 + 9), .ref (E.1 + 10), .ref (E.1 + 11), .int (nI ps)]) → h 9 = cI E 128 (nF PM) → h 10 = cI E 8 (nF PD) → h 11 = cI E 8 (nF PG) → h 12 = .inr (5, [.ref (E.1 + 13), .ref (E.1 + 14), .ref (E.1 + 15), .ref (E.1 + 17), .ref (E.1 + 19), .int (nI an2), .int (nI td2), .int (nI gr2)]) → h 13 = cI E 4 (nF K2) → h 14 = cI E 16 (nF M2) → h 15 = .inr (3, [.ref (E.1 + 16), .int (nI nn2)]) → h 16 = cI E 24 (nF NC2) → h 17 = .inr (3, [.ref (E.1 + 18), .int (nI cn2)]) → h 18 = cI E 24 (nF CC2) → h 19 = .inr (1, [.ref (E.1 + 20), .ref (E.1 + 21), .ref (E.1 + 22), .int (nI ps2)]) → h 20 = cI E 128 (nF PM2) → h 21 = cI E 8 (nF PD2) → h 22 = cI E 8 (nF PG2) → h 23 = cO E 2 IM → h 24 = .inr (4, [.ref (E.1 + 25), .ref (E.1 + 26), .ref (E.1 + 27), .ref (E.1 + 28), .ref (E.1 + 29), .int (nI sz), .int (nI tk), .int (nI cu)]) → h 25 = cB E 150 (nF TX) → h 26 = cI E 151 (nF SO) → h 27 = cI E 151 (nF ST) → h 28 = cI E 151 VL → h 29 = cI E 5 (nF NU) → h 30 = .inr (2, [.ref (E.1 + 31), .ref (E.1 + 32), .ref (E.1 + 33), .int (nI lz), .int (nI lb), .int (nI le)]) → h 31 = cI E 4 (nF T) → h 32 = cI E 4 (nF W) → h 33 = cI E 4 (nF C) → h 34 = .inr (0, [.ref (E.1 + 35), .ref (E.1 + 36), .int (nI ka)]) → h 35 = cI E 4 F1 → h 36 = cI E 4 F2 → h 37 = cI E 6 LV → h 38 = .inr (7, [.ref (E.1 + 39), .ref (E.1 + 40), .ref (E.1 + 41), .ref (E.1 + 42), .long (lN xa), .long (lN xb), .ref (E.1 + 43), .int (nI dt), .ref (E.1 + 44), .ref (E.1 + 45), .int (nI mo), .ref (E.1 + 46), .ref (E.1 + 47), .int (nI bn), .int (nI ta), .int (nI tl), .int (nI tq), .int (nI va), .ref (E.1 + 48), .ref (E.1 + 49)]) → h 39 = cI E 218 (nF Q) → h 40 = cI E 436 (nF KP) → h 41 = cZ E 2 (nF IK) → h 42 = cI E 3 (nF RF) → h 43 = cI E 16 (nF MM) → h 44 = cI E 4 (nF TE) → h 45 = cI E 4 (nF BE) → h 46 = cI E 21 (nF MB) → h 47 = cI E 150 (nF BY) → h 48 = cI E 74 (nF AN) → h 49 = cI E 5 (nF VA) → RC ab be bd no fu xa xb RF → RS an td gr K M nn NC cn CC ps PM PD PG Q → BS K2 M2 NC2 CC2 PM2 PD2 PG2 → RT sz TX bn BY → (∀ z, MM z ≤ 20) → IG E h n IM KP IK → XX) → XX
def simI (E : jE) (M8 : jM) (d8 : jD) (as8 : List Value) : jPost := fun v h1 n1 => ∃ (y : Int32) (fs : List Value), v = some (.int y) ∧ h1 38 = .inr (7, fs) ∧ 38 < n1 ∧ jC E M8 d8 (.ref (E.1 + 38) :: as8) h1 n1 (fun v2 h2 n2 => v2 = some (.int y) ∧ Inv E h2 n2)
def simL (E : jE) (M8 : jM) (d8 : jD) (as8 : List Value) : jPost := fun v h1 n1 => ∃ (y : Int64) (fs : List Value), v = some (.long y) ∧ h1 38 = .inr (7, fs) ∧ 38 < n1 ∧ jC E M8 d8 (.ref (E.1 + 38) :: as8) h1 n1 (fun v2 h2 n2 => v2 = some (.long y) ∧ Inv E h2 n2)
theorem hne {i k : Nat} (hk : k < 50) (hi : 50 ≤ i) : i ≠ k := by omega
theorem RC_bad {ab be bd no fu xa xb : Nat} {RF : Nat → Nat} (h : RC ab be bd no fu xa xb RF) : RC ab be (bd + 1) no fu xa xb (updN RF 0 (RF 0 + 1)) := by
  obtain ⟨h1, h2, h3, h4, h5, h6, h7⟩ := h
  exact ⟨h1, h2, h3, h4, by simp [updN, h5], by simp [updN, h6], by simp [updN, h7]⟩
theorem RC_no {ab be bd no fu xa xb : Nat} {RF : Nat → Nat} (h : RC ab be bd no fu xa xb RF) : RC ab be bd (no + 1) fu xa xb (updN RF 1 (RF 1 + 1)) := by
  obtain ⟨h1, h2, h3, h4, h5, h6, h7⟩ := h
  exact ⟨h1, h2, h3, h4, by simp [updN, h5], by simp [updN, h6], by simp [updN, h7]⟩
theorem RC_full {ab be bd no fu xa xb : Nat} {RF : Nat → Nat} (h : RC ab be bd no fu xa xb RF) : RC ab be bd no (fu + 1) xa xb (updN RF 2 (RF 2 + 1)) := by
  obtain ⟨h1, h2, h3, h4, h5, h6, h7⟩ := h
  exact ⟨h1, h2, h3, h4, by simp [updN, h5], by simp [updN, h6], by simp [updN, h7]⟩
theorem RT_type {sz bn x : Nat} {TX BY : Nat → Nat} (h : RT sz TX bn BY) (hs : sz < 150) (hx : x ≤ 127) : RT (sz + 1) (updN TX sz x) (bn + 1) (updN BY bn x) := by
  obtain ⟨rfl, h2, h3⟩ := h
  refine ⟨rfl, by omega, fun z hz => ?_⟩
  simp only [updN]
  by_cases e : z = sz
  · rw [if_pos e, if_pos e]; exact ⟨rfl, hx⟩
  · rw [if_neg e, if_neg e]; exact h3 z (by omega)
theorem RT_clear {TX BY : Nat → Nat} : RT 0 TX 0 BY := ⟨rfl, by omega, fun z hz => absurd hz (Nat.not_lt_zero z)⟩
theorem StA_h {E : jE} {h h' : Nat → va_E} {o an td gr nn cn ps : Nat} {K M NC CC PM PD PG : Nat → Nat} (q : StA E h o an td gr K M nn NC cn CC ps PM PD PG) (e : ∀ i, o ≤ i → i < o + 11 → h' i = h i) : StA E h' o an td gr K M nn NC cn CC ps PM PD PG := by
  obtain ⟨q0, q1, q2, q3, q4, q5, q6, q7, q8, q9, q10⟩ := q
  exact ⟨(e _ (by omega) (by omega)).trans q0, (e _ (by omega) (by omega)).trans q1, (e _ (by omega) (by omega)).trans q2, (e _ (by omega) (by omega)).trans q3, (e _ (by omega) (by omega)).trans q4, (e _ (by omega) (by omega)).trans q5, (e _ (by omega) (by omega)).trans q6, (e _ (by omega) (by omega)).trans q7, (e _ (by omega) (by omega)).trans q8, (e _ (by omega) (by omega)).trans q9, (e _ (by omega) (by omega)).trans q10⟩
theorem IG1_h {E : jE} {h h' : Nat → va_E} {n ik : Nat} {oo : Option Nat} {Qk : Nat → Nat} (q : IG1 E h n oo ik Qk) (e : ∀ i, 50 ≤ i → h' i = h i) : IG1 E h' n oo ik Qk := by
  rcases q with q | ⟨o, q1, q2, q3, q4, an, td, gr, K, M, nn, NC, cn, CC, ps, PM, PD, PG, q5, q6⟩
  · exact .inl q
  · exact .inr ⟨o, q1, q2, q3, q4, an, td, gr, K, M, nn, NC, cn, CC, ps, PM, PD, PG, StA_h q5 (fun i h1 _ => e i (by omega)), q6⟩
theorem IG_h {E : jE} {h h' : Nat → va_E} {n : Nat} {IM : Nat → Option Nat} {KP IK : Nat → Nat} (q : IG E h n IM KP IK) (e : ∀ i, 50 ≤ i → h' i = h i) : IG E h' n IM KP IK := ⟨IG1_h q.1 e, IG1_h q.2.1 e, q.2.2⟩
theorem RC_frost {ab be bd no fu xa xb f g : Nat} {RF : Nat → Nat} (h : RC ab be bd no fu xa xb RF) (hf : f ≤ 800) (e : f = g) : RC (f / Nat.gcd f 10) (10 / Nat.gcd f 10) bd no fu (g / Nat.gcd g 10) (10 / Nat.gcd g 10) RF := by
  subst e
  exact ⟨rfl, rfl, Nat.lt_of_le_of_lt (Nat.div_le_self _ _) (by omega), Nat.lt_of_le_of_lt (Nat.div_le_self _ _) (by omega), h.2.2.2.2⟩
def oW.mk (K T M : Nat → Nat) (an g bl : Nat) : oW := (K, T, M, an, g, bl)
theorem ord_all {x bl i an : Nat} : (¬ x ≤ 4444) ∨ (x ≤ 4444 ∧ ¬ okW x) ∨ (okW x ∧ ¬ ((1 ≤ bl ∧ bl ≤ 5) ∧ (i < 2 ^ 31 ∨ i = 4294967295))) ∨ (okW x ∧ ((1 ≤ bl ∧ bl ≤ 5) ∧ (i < 2 ^ 31 ∨ i = 4294967295)) ∧ an = 0) ∨ (okW x ∧ ((1 ≤ bl ∧ bl ≤ 5) ∧ i = 4294967295) ∧ 1 ≤ an) ∨ (okW x ∧ ((1 ≤ bl ∧ bl ≤ 5) ∧ i < 2 ^ 31) ∧ 1 ≤ an) := by
  by_cases h1 : x ≤ 4444
  · by_cases h2 : okW x
    · by_cases h3 : (1 ≤ bl ∧ bl ≤ 5) ∧ (i < 2 ^ 31 ∨ i = 4294967295)
      · by_cases h4 : an = 0
        · exact .inr (.inr (.inr (.inl ⟨h2, h3, h4⟩)))
        · rcases h3 with ⟨h3, h5 | h5⟩
          · exact .inr (.inr (.inr (.inr (.inr ⟨h2, ⟨h3, h5⟩, by omega⟩))))
          · exact .inr (.inr (.inr (.inr (.inl ⟨h2, ⟨h3, h5⟩, by omega⟩))))
      · exact .inr (.inr (.inl ⟨h2, h3⟩))
    · exact .inr (.inl ⟨h1, h2⟩)
  · exact .inl h1
theorem rd_all {g : Nat × Option pS} : (∃ c S, g = (c, some S)) ∨ (∃ j, g = (j, none)) := by
  obtain ⟨c, o⟩ := g
  cases o with
  | none => exact .inr ⟨c, rfl⟩
  | some S => exact .inl ⟨c, S, rfl⟩
