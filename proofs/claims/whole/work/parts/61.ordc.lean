set_option maxHeartbeats 1000000 in
set_option maxRecDepth 100000 in
theorem ctX7_orders_big {E : jE} {h : Nat → va_E} {n : Nat} (x : Nat) (bl : Nat) (i : Nat) (lz : Nat) (lb : Nat) (le : Nat) (T : Nat → Nat) (ab : Nat) (be : Nat) (bd : Nat) (no : Nat) (fu : Nat) (H0 : h 0 = .inr (6, [.ref (E.1 + 1), .ref (E.1 + 12), .ref (E.1 + 23), .ref (E.1 + 24), .ref (E.1 + 30), .ref (E.1 + 34), .ref (E.1 + 37), .int (nI ab), .int (nI be), .int (nI bd), .int (nI no), .int (nI fu)])) (H1 : h 30 = .inr (2, [.ref (E.1 + 31), .ref (E.1 + 32), .ref (E.1 + 33), .int (nI lz), .int (nI lb), .int (nI le)])) (H2 : h 31 = cI E 4 (nF T)) (hn : 38 ≤ n) (h32x : x < 2 ^ 32) (h32bl : bl < 2 ^ 32) (h32i : i < 2 ^ 32) (hbad : ¬ x ≤ 4444) : jC E mX7_orders (14, 0, 0) [.ref (E.1 + 0), .int (nI x), .int (nI bl), .int (nI i)] h n (fun v h' n' => v = some (.int (-10)) ∧ n' = n ∧ ∃ (T1 : Nat → Nat) (ps1 : Nat), h' = (hset (hset (hset h 30 (.inr (2, [.ref (E.1 + 31), .ref (E.1 + 32), .ref (E.1 + 33), .int (nI ps1), .int (nI lb), .int (nI le)]))) 31 (cI E 4 (nF T1))) 0 (.inr (6, [.ref (E.1 + 1), .ref (E.1 + 12), .ref (E.1 + 23), .ref (E.1 + 24), .ref (E.1 + 30), .ref (E.1 + 34), .ref (E.1 + 37), .int (nI ab), .int (nI be), .int (nI (bd + 1)), .int (nI no), .int (nI fu)])))) := by
  refine J.of (L := [(0, .ref (E.1 + 0)), (1, .int (nI x)), (2, .int (nI bl)), (3, .int (nI i))]) rfl (by decide +kernel) (Nat.le_of_ble_eq_true rfl) ?_
  obtain ⟨PP, hPP⟩ : ∃ PP : jPost, PP = (fun v h' n' => v = some (.int (-10)) ∧ n' = n ∧ ∃ (T1 : Nat → Nat) (ps1 : Nat), h' = (hset (hset (hset h 30 (.inr (2, [.ref (E.1 + 31), .ref (E.1 + 32), .ref (E.1 + 33), .int (nI ps1), .int (nI lb), .int (nI le)]))) 31 (cI E 4 (nF T1))) 0 (.inr (6, [.ref (E.1 + 1), .ref (E.1 + 12), .ref (E.1 + 23), .ref (E.1 + 24), .ref (E.1 + 30), .ref (E.1 + 34), .ref (E.1 + 37), .int (nI ab), .int (nI be), .int (nI (bd + 1)), .int (nI no), .int (nI fu)])))) := ⟨_, rfl⟩
  rw [← hPP]
  refine J_aload_n dX7_orders_0 rfl ?_
  refine J_get 4 dX7_orders_1 jk7 (Nat.le_of_ble_eq_true rfl) jfRX7_33 H0 (by omega) rfl ?_
  refine J_iload_n dX7_orders_4 rfl ?_
  refine J_callV (M' := mX3_tell) (d' := (1, 0, 0)) (rest := []) dX7_orders_5 jmX3_tell jlRX7_166 (ctX3_tell_big x lz lb le T H1 H2 (by omega) (by first | assumption | omega) (by first | assumption | omega)) H1 (by omega) jk3.1 rfl rfl (Nat.le_of_ble_eq_true rfl) (Nat.le_of_ble_eq_true rfl) (by constructor <;> decide +kernel) (fun v9 h9 n9 q9 => ?_)
  obtain ⟨rfl, hn9, T1_1, ps1_2, rfl⟩ := q9
  replace hn9 := hn9.symm
  subst hn9
  refine J.stk (st' := [.int (nI 0)]) rfl ?_
  refine J_if_eqN (tgt := 23) dX7_orders_8 (by decide) (by omega) (fun _ => ?_) (fun z => absurd z (by decide))
  refine J_aload_n dX7_orders_23 rfl ?_
  refine J_callVr (M' := mX7_refuseTenBelow) (d' := (2, 0, 0)) (rest := []) dX7_orders_24 jmX7_refuseTenBelow jlRX7_169 (ctX7_refuseTenBelow ab be bd no fu ((hset_ne (by omega)).trans ((hset_ne (by omega)).trans H0)) (by omega) ) ((hset_ne (by omega)).trans ((hset_ne (by omega)).trans H0)) (by omega) jk7.1 rfl rfl (Nat.le_of_ble_eq_true rfl) (Nat.le_of_ble_eq_true rfl) ⟨Nat.le_refl _, Nat.le_refl _⟩ ?_
  exact J_iret dX7_orders_27 rfl ⟨Nat.le_refl _, Nat.le_refl _⟩ (by rw [hPP]; exact ⟨rfl, rfl, T1_1, ps1_2, rfl⟩)

set_option maxHeartbeats 1000000 in
set_option maxRecDepth 100000 in
theorem ctX7_orders_tell {E : jE} {h : Nat → va_E} {n : Nat} (x : Nat) (bl : Nat) (i : Nat) (lz : Nat) (lb : Nat) (le : Nat) (T : Nat → Nat) (ab : Nat) (be : Nat) (bd : Nat) (no : Nat) (fu : Nat) (H0 : h 0 = .inr (6, [.ref (E.1 + 1), .ref (E.1 + 12), .ref (E.1 + 23), .ref (E.1 + 24), .ref (E.1 + 30), .ref (E.1 + 34), .ref (E.1 + 37), .int (nI ab), .int (nI be), .int (nI bd), .int (nI no), .int (nI fu)])) (H1 : h 30 = .inr (2, [.ref (E.1 + 31), .ref (E.1 + 32), .ref (E.1 + 33), .int (nI lz), .int (nI lb), .int (nI le)])) (H2 : h 31 = cI E 4 (nF T)) (hn : 38 ≤ n) (h32bl : bl < 2 ^ 32) (h32i : i < 2 ^ 32) (hx : x ≤ 4444) (hbad : ¬ okW x) : jC E mX7_orders (14, 0, 0) [.ref (E.1 + 0), .int (nI x), .int (nI bl), .int (nI i)] h n (fun v h' n' => v = some (.int (-10)) ∧ n' = n ∧ ∃ (T1 : Nat → Nat) (ps1 : Nat), h' = (hset (hset (hset h 30 (.inr (2, [.ref (E.1 + 31), .ref (E.1 + 32), .ref (E.1 + 33), .int (nI ps1), .int (nI lb), .int (nI le)]))) 31 (cI E 4 (nF T1))) 0 (.inr (6, [.ref (E.1 + 1), .ref (E.1 + 12), .ref (E.1 + 23), .ref (E.1 + 24), .ref (E.1 + 30), .ref (E.1 + 34), .ref (E.1 + 37), .int (nI ab), .int (nI be), .int (nI (bd + 1)), .int (nI no), .int (nI fu)])))) := by
  refine J.of (L := [(0, .ref (E.1 + 0)), (1, .int (nI x)), (2, .int (nI bl)), (3, .int (nI i))]) rfl (by decide +kernel) (Nat.le_of_ble_eq_true rfl) ?_
  obtain ⟨PP, hPP⟩ : ∃ PP : jPost, PP = (fun v h' n' => v = some (.int (-10)) ∧ n' = n ∧ ∃ (T1 : Nat → Nat) (ps1 : Nat), h' = (hset (hset (hset h 30 (.inr (2, [.ref (E.1 + 31), .ref (E.1 + 32), .ref (E.1 + 33), .int (nI ps1), .int (nI lb), .int (nI le)]))) 31 (cI E 4 (nF T1))) 0 (.inr (6, [.ref (E.1 + 1), .ref (E.1 + 12), .ref (E.1 + 23), .ref (E.1 + 24), .ref (E.1 + 30), .ref (E.1 + 34), .ref (E.1 + 37), .int (nI ab), .int (nI be), .int (nI (bd + 1)), .int (nI no), .int (nI fu)])))) := ⟨_, rfl⟩
  rw [← hPP]
  refine J_aload_n dX7_orders_0 rfl ?_
  refine J_get 4 dX7_orders_1 jk7 (Nat.le_of_ble_eq_true rfl) jfRX7_33 H0 (by omega) rfl ?_
  refine J_iload_n dX7_orders_4 rfl ?_
  refine J_callV (M' := mX3_tell) (d' := (1, 0, 0)) (rest := []) dX7_orders_5 jmX3_tell jlRX7_166 (ctX3_tell_bad x lz lb le T H1 H2 (by omega) (by first | assumption | omega) (by first | assumption | omega)) H1 (by omega) jk3.1 rfl rfl (Nat.le_of_ble_eq_true rfl) (Nat.le_of_ble_eq_true rfl) (by constructor <;> decide +kernel) (fun v9 h9 n9 q9 => ?_)
  obtain ⟨rfl, hn9, T1_1, ps1_2, rfl⟩ := q9
  replace hn9 := hn9.symm
  subst hn9
  refine J.stk (st' := [.int (nI 0)]) rfl ?_
  refine J_if_eqN (tgt := 23) dX7_orders_8 (by decide) (by omega) (fun _ => ?_) (fun z => absurd z (by decide))
  refine J_aload_n dX7_orders_23 rfl ?_
  refine J_callVr (M' := mX7_refuseTenBelow) (d' := (2, 0, 0)) (rest := []) dX7_orders_24 jmX7_refuseTenBelow jlRX7_169 (ctX7_refuseTenBelow ab be bd no fu ((hset_ne (by omega)).trans ((hset_ne (by omega)).trans H0)) (by omega) ) ((hset_ne (by omega)).trans ((hset_ne (by omega)).trans H0)) (by omega) jk7.1 rfl rfl (Nat.le_of_ble_eq_true rfl) (Nat.le_of_ble_eq_true rfl) ⟨Nat.le_refl _, Nat.le_refl _⟩ ?_
  exact J_iret dX7_orders_27 rfl ⟨Nat.le_refl _, Nat.le_refl _⟩ (by rw [hPP]; exact ⟨rfl, rfl, T1_1, ps1_2, rfl⟩)

set_option maxHeartbeats 1000000 in
set_option maxRecDepth 100000 in
theorem ctX7_orders_bad {E : jE} {h : Nat → va_E} {n : Nat} (x : Nat) (bl : Nat) (i : Nat) (lz : Nat) (lb : Nat) (le : Nat) (T : Nat → Nat) (ab : Nat) (be : Nat) (bd : Nat) (no : Nat) (fu : Nat) (H0 : h 0 = .inr (6, [.ref (E.1 + 1), .ref (E.1 + 12), .ref (E.1 + 23), .ref (E.1 + 24), .ref (E.1 + 30), .ref (E.1 + 34), .ref (E.1 + 37), .int (nI ab), .int (nI be), .int (nI bd), .int (nI no), .int (nI fu)])) (H1 : h 30 = .inr (2, [.ref (E.1 + 31), .ref (E.1 + 32), .ref (E.1 + 33), .int (nI lz), .int (nI lb), .int (nI le)])) (H2 : h 31 = cI E 4 (nF T)) (hn : 38 ≤ n) (h32bl : bl < 2 ^ 32) (h32i : i < 2 ^ 32) (hok : okW x) (hbad : ¬ ((1 ≤ bl ∧ bl ≤ 5) ∧ (i < 2 ^ 31 ∨ i = 4294967295))) : jC E mX7_orders (14, 0, 0) [.ref (E.1 + 0), .int (nI x), .int (nI bl), .int (nI i)] h n (fun v h' n' => v = some (.int (-10)) ∧ n' = n ∧ ∃ (T1 : Nat → Nat) (ps1 : Nat), h' = (hset (hset (hset h 30 (.inr (2, [.ref (E.1 + 31), .ref (E.1 + 32), .ref (E.1 + 33), .int (nI ps1), .int (nI lb), .int (nI le)]))) 31 (cI E 4 (nF T1))) 0 (.inr (6, [.ref (E.1 + 1), .ref (E.1 + 12), .ref (E.1 + 23), .ref (E.1 + 24), .ref (E.1 + 30), .ref (E.1 + 34), .ref (E.1 + 37), .int (nI ab), .int (nI be), .int (nI (bd + 1)), .int (nI no), .int (nI fu)])))) := by
  refine J.of (L := [(0, .ref (E.1 + 0)), (1, .int (nI x)), (2, .int (nI bl)), (3, .int (nI i))]) rfl (by decide +kernel) (Nat.le_of_ble_eq_true rfl) ?_
  obtain ⟨PP, hPP⟩ : ∃ PP : jPost, PP = (fun v h' n' => v = some (.int (-10)) ∧ n' = n ∧ ∃ (T1 : Nat → Nat) (ps1 : Nat), h' = (hset (hset (hset h 30 (.inr (2, [.ref (E.1 + 31), .ref (E.1 + 32), .ref (E.1 + 33), .int (nI ps1), .int (nI lb), .int (nI le)]))) 31 (cI E 4 (nF T1))) 0 (.inr (6, [.ref (E.1 + 1), .ref (E.1 + 12), .ref (E.1 + 23), .ref (E.1 + 24), .ref (E.1 + 30), .ref (E.1 + 34), .ref (E.1 + 37), .int (nI ab), .int (nI be), .int (nI (bd + 1)), .int (nI no), .int (nI fu)])))) := ⟨_, rfl⟩
  rw [← hPP]
  refine J_aload_n dX7_orders_0 rfl ?_
  refine J_get 4 dX7_orders_1 jk7 (Nat.le_of_ble_eq_true rfl) jfRX7_33 H0 (by omega) rfl ?_
  refine J_iload_n dX7_orders_4 rfl ?_
  refine J_callV (M' := mX3_tell) (d' := (1, 0, 0)) (rest := []) dX7_orders_5 jmX3_tell jlRX7_166 (ctX3_tell x lz lb le T H1 H2 (by omega) (by first | assumption | omega)) H1 (by omega) jk3.1 rfl rfl (Nat.le_of_ble_eq_true rfl) (Nat.le_of_ble_eq_true rfl) (by constructor <;> decide +kernel) (fun v9 h9 n9 q9 => ?_)
  obtain ⟨rfl, hn9, T1_1, rfl, hT_2⟩ := q9
  replace hn9 := hn9.symm
  subst hn9
  refine J.stk (st' := [.int (nI 1)]) rfl ?_
  refine J_if_eqN (tgt := 23) dX7_orders_8 (by decide) (by omega) (fun z => absurd z (by decide)) (fun _ => ?_)
  refine J_iload_n dX7_orders_11 rfl ?_
  refine J_callSr (M' := mX7_isBlows) (d' := (2, 0, 0)) (rest := []) dX7_orders_12 jmX7_isBlows jlRX7_102 (ctX7_isBlows bl   (by first | assumption | omega)) rfl rfl (Nat.le_of_ble_eq_true rfl) (Nat.le_of_ble_eq_true rfl) ⟨Nat.le_refl _, Nat.le_refl _⟩ ?_
  refine J_if_eqB (tgt := 23) dX7_orders_15 (by decide) (fun c4 => ?_) (fun c4 => ?_)
  · skip
    refine J_aload_n dX7_orders_23 rfl ?_
    refine J_callVr (M' := mX7_refuseTenBelow) (d' := (2, 0, 0)) (rest := []) dX7_orders_24 jmX7_refuseTenBelow jlRX7_169 (ctX7_refuseTenBelow ab be bd no fu ((hset_ne (by omega)).trans ((hset_ne (by omega)).trans H0)) (by omega) ) ((hset_ne (by omega)).trans ((hset_ne (by omega)).trans H0)) (by omega) jk7.1 rfl rfl (Nat.le_of_ble_eq_true rfl) (Nat.le_of_ble_eq_true rfl) ⟨Nat.le_refl _, Nat.le_refl _⟩ ?_
    exact J_iret dX7_orders_27 rfl ⟨Nat.le_refl _, Nat.le_refl _⟩ (by rw [hPP]; exact ⟨rfl, rfl, T1_1, (ndig x), rfl⟩)
  · skip
    refine J_iload_n dX7_orders_18 rfl ?_
    refine J_iconst (v := (-1)) dX7_orders_19 (by decide +kernel) ?_
    refine J_icmp_geV (tgt := 28) dX7_orders_20 (by decide) (by omega) (fun c5 => (by exfalso; omega)) (fun c5 => ?_)
    refine J_aload_n dX7_orders_23 rfl ?_
    refine J_callVr (M' := mX7_refuseTenBelow) (d' := (2, 0, 0)) (rest := []) dX7_orders_24 jmX7_refuseTenBelow jlRX7_169 (ctX7_refuseTenBelow ab be bd no fu ((hset_ne (by omega)).trans ((hset_ne (by omega)).trans H0)) (by omega) ) ((hset_ne (by omega)).trans ((hset_ne (by omega)).trans H0)) (by omega) jk7.1 rfl rfl (Nat.le_of_ble_eq_true rfl) (Nat.le_of_ble_eq_true rfl) ⟨Nat.le_refl _, Nat.le_refl _⟩ ?_
    exact J_iret dX7_orders_27 rfl ⟨Nat.le_refl _, Nat.le_refl _⟩ (by rw [hPP]; exact ⟨rfl, rfl, T1_1, (ndig x), rfl⟩)

set_option maxHeartbeats 1000000 in
set_option maxRecDepth 100000 in
theorem ctX7_orders_0 {E : jE} {h : Nat → va_E} {n : Nat} (x : Nat) (bl : Nat) (i : Nat) (lz : Nat) (lb : Nat) (le : Nat) (T : Nat → Nat) (an : Nat) (td : Nat) (gr : Nat) (ab : Nat) (be : Nat) (bd : Nat) (no : Nat) (fu : Nat) (H0 : h 0 = .inr (6, [.ref (E.1 + 1), .ref (E.1 + 12), .ref (E.1 + 23), .ref (E.1 + 24), .ref (E.1 + 30), .ref (E.1 + 34), .ref (E.1 + 37), .int (nI ab), .int (nI be), .int (nI bd), .int (nI no), .int (nI fu)])) (H1 : h 30 = .inr (2, [.ref (E.1 + 31), .ref (E.1 + 32), .ref (E.1 + 33), .int (nI lz), .int (nI lb), .int (nI le)])) (H2 : h 31 = cI E 4 (nF T)) (H3 : h 1 = .inr (5, [.ref (E.1 + 2), .ref (E.1 + 3), .ref (E.1 + 4), .ref (E.1 + 6), .ref (E.1 + 8), .int (nI an), .int (nI td), .int (nI gr)])) (hn : 38 ≤ n) (hok : okW x) (hb1 : 1 ≤ bl) (hb5 : bl ≤ 5) (h32i : i < 2 ^ 32) (hi : i < 2 ^ 31 ∨ i = 4294967295) (han : an = 0) : jC E mX7_orders (14, 0, 0) [.ref (E.1 + 0), .int (nI x), .int (nI bl), .int (nI i)] h n (fun v h' n' => v = some (.int (-1)) ∧ n' = n ∧ ∃ (T1 : Nat → Nat), h' = (hset (hset h 30 (.inr (2, [.ref (E.1 + 31), .ref (E.1 + 32), .ref (E.1 + 33), .int (nI (ndig x)), .int (nI lb), .int (nI le)]))) 31 (cI E 4 (nF T1)))) := by
  refine J.of (L := [(0, .ref (E.1 + 0)), (1, .int (nI x)), (2, .int (nI bl)), (3, .int (nI i))]) rfl (by decide +kernel) (Nat.le_of_ble_eq_true rfl) ?_
  obtain ⟨PP, hPP⟩ : ∃ PP : jPost, PP = (fun v h' n' => v = some (.int (-1)) ∧ n' = n ∧ ∃ (T1 : Nat → Nat), h' = (hset (hset h 30 (.inr (2, [.ref (E.1 + 31), .ref (E.1 + 32), .ref (E.1 + 33), .int (nI (ndig x)), .int (nI lb), .int (nI le)]))) 31 (cI E 4 (nF T1)))) := ⟨_, rfl⟩
  rw [← hPP]
  refine J_aload_n dX7_orders_0 rfl ?_
  refine J_get 4 dX7_orders_1 jk7 (Nat.le_of_ble_eq_true rfl) jfRX7_33 H0 (by omega) rfl ?_
  refine J_iload_n dX7_orders_4 rfl ?_
  refine J_callV (M' := mX3_tell) (d' := (1, 0, 0)) (rest := []) dX7_orders_5 jmX3_tell jlRX7_166 (ctX3_tell x lz lb le T H1 H2 (by omega) (by first | assumption | omega)) H1 (by omega) jk3.1 rfl rfl (Nat.le_of_ble_eq_true rfl) (Nat.le_of_ble_eq_true rfl) (by constructor <;> decide +kernel) (fun v9 h9 n9 q9 => ?_)
  obtain ⟨rfl, hn9, T1_1, rfl, hT_2⟩ := q9
  replace hn9 := hn9.symm
  subst hn9
  refine J.stk (st' := [.int (nI 1)]) rfl ?_
  refine J_if_eqN (tgt := 23) dX7_orders_8 (by decide) (by omega) (fun z => absurd z (by decide)) (fun _ => ?_)
  refine J_iload_n dX7_orders_11 rfl ?_
  refine J_callSr (M' := mX7_isBlows) (d' := (2, 0, 0)) (rest := []) dX7_orders_12 jmX7_isBlows jlRX7_102 (ctX7_isBlows bl   (by first | assumption | omega)) rfl rfl (Nat.le_of_ble_eq_true rfl) (Nat.le_of_ble_eq_true rfl) ⟨Nat.le_refl _, Nat.le_refl _⟩ ?_
  refine J_if_eqB (tgt := 23) dX7_orders_15 (by decide) (fun c4 => (by exfalso; omega)) (fun c4 => ?_)
  refine J_iload_n dX7_orders_18 rfl ?_
  refine J_iconst (v := (-1)) dX7_orders_19 (by decide +kernel) ?_
  refine J_icmp_geV (tgt := 28) dX7_orders_20 (by decide) (by omega) (fun c5 => ?_) (fun c5 => (by exfalso; omega))
  refine J_aload_n dX7_orders_28 rfl ?_
  refine J_get 0 dX7_orders_29 jk7 (Nat.le_of_ble_eq_true rfl) jfRX7_10 ((hset_ne (by omega)).trans ((hset_ne (by omega)).trans H0)) (by omega) rfl ?_
  refine J_get 5 dX7_orders_32 jk6 (Nat.le_of_ble_eq_true rfl) jfRX7_63 ((hset_ne (by omega)).trans ((hset_ne (by omega)).trans H3)) (by omega) rfl ?_
  refine J_if_neN (tgt := 40) dX7_orders_35 (by decide) (by omega) (fun c6 => (by exfalso; omega)) (fun c6 => ?_)
  refine J_iconst (v := (-1)) dX7_orders_38 (by decide +kernel) ?_
  exact J_iret dX7_orders_39 rfl ⟨Nat.le_refl _, Nat.le_refl _⟩ (by rw [hPP]; exact ⟨rfl, rfl, T1_1, rfl⟩)

set_option maxHeartbeats 1000000 in
set_option maxRecDepth 100000 in
theorem ctX7_orders_n {E : jE} {h : Nat → va_E} {n : Nat} (w : oW) (x : Nat) (bl : Nat) (i : Nat) (lz : Nat) (lb : Nat) (le : Nat) (T : Nat → Nat) (W : Nat → Nat) (C : Nat → Nat) (an : Nat) (td : Nat) (gr : Nat) (K : Nat → Nat) (M : Nat → Nat) (an2 : Nat) (td2 : Nat) (gr2 : Nat) (K2 : Nat → Nat) (M2 : Nat → Nat) (ab : Nat) (be : Nat) (bd : Nat) (no : Nat) (fu : Nat) (H0 : h 0 = .inr (6, [.ref (E.1 + 1), .ref (E.1 + 12), .ref (E.1 + 23), .ref (E.1 + 24), .ref (E.1 + 30), .ref (E.1 + 34), .ref (E.1 + 37), .int (nI ab), .int (nI be), .int (nI bd), .int (nI no), .int (nI fu)])) (H1 : h 1 = .inr (5, [.ref (E.1 + 2), .ref (E.1 + 3), .ref (E.1 + 4), .ref (E.1 + 6), .ref (E.1 + 8), .int (nI an), .int (nI td), .int (nI gr)])) (H2 : h 2 = cI E 4 (nF K)) (H3 : h 3 = cI E 16 (nF M)) (H4 : h 30 = .inr (2, [.ref (E.1 + 31), .ref (E.1 + 32), .ref (E.1 + 33), .int (nI lz), .int (nI lb), .int (nI le)])) (H5 : h 31 = cI E 4 (nF T)) (H6 : h 32 = cI E 4 (nF W)) (H7 : h 33 = cI E 4 (nF C)) (H8 : h 12 = .inr (5, [.ref (E.1 + 13), .ref (E.1 + 14), .ref (E.1 + 15), .ref (E.1 + 17), .ref (E.1 + 19), .int (nI an2), .int (nI td2), .int (nI gr2)])) (H9 : h 13 = cI E 4 (nF K2)) (H10 : h 14 = cI E 16 (nF M2)) (hn : 38 ≤ n) (hK : ∀ zz, K zz ≤ 5) (hM : ∀ zz, M zz ≤ 20) (hg : gr ≤ 9) (hn4 : an ≤ 4) (hK2 : ∀ zz, K2 zz ≤ 5) (hM2 : ∀ zz, M2 zz ≤ 20) (hok : okW x) (hb1 : 1 ≤ bl) (hb5 : bl ≤ 5) (h32i : i < 2 ^ 32) (hi : i = 4294967295) (han : 1 ≤ an) (hw1 : w.an = an ∧ w.g = gr ∧ w.bl = bl) (hwK : ∀ zz, zz < an → K zz = w.K zz) (hwT : ∀ zz, zz < ndig x → figT x zz = w.T zz) (hwM : ∀ zz, zz < 4 * an → M zz = w.M zz) (hwL : ∀ zz, w.M zz ≤ 20) : jC E mX7_orders (14, 0, 0) [.ref (E.1 + 0), .int (nI x), .int (nI bl), .int (nI i)] h n (fun v h' n' => v = some (.int (nI ((dfsO w (ndig x) 0 0 (1000, 0)).1))) ∧ n' = n ∧ ∃ (T1 : Nat → Nat) (W1 : Nat → Nat) (C1 : Nat → Nat), h' = (hset (hset (hset (hset (hset (hset (hset h 13 (cI E 4 (nF (va_cpy K K2 0 0 4)))) 14 (cI E 16 (nF (va_cpy M M2 0 0 16)))) 12 (.inr (5, [.ref (E.1 + 13), .ref (E.1 + 14), .ref (E.1 + 15), .ref (E.1 + 17), .ref (E.1 + 19), .int (nI an), .int (nI td), .int (nI gr)]))) 30 (.inr (2, [.ref (E.1 + 31), .ref (E.1 + 32), .ref (E.1 + 33), .int (nI (ndig x)), .int (nI bl), .int (nI ((dfsO w (ndig x) 0 0 (1000, 0)).1))]))) 31 (cI E 4 (nF T1))) 32 (cI E 4 (nF W1))) 33 (cI E 4 (nF C1)))) := by
  refine J.of (L := [(0, .ref (E.1 + 0)), (1, .int (nI x)), (2, .int (nI bl)), (3, .int (nI i))]) rfl (by decide +kernel) (Nat.le_of_ble_eq_true rfl) ?_
  obtain ⟨PP, hPP⟩ : ∃ PP : jPost, PP = (fun v h' n' => v = some (.int (nI ((dfsO w (ndig x) 0 0 (1000, 0)).1))) ∧ n' = n ∧ ∃ (T1 : Nat → Nat) (W1 : Nat → Nat) (C1 : Nat → Nat), h' = (hset (hset (hset (hset (hset (hset (hset h 13 (cI E 4 (nF (va_cpy K K2 0 0 4)))) 14 (cI E 16 (nF (va_cpy M M2 0 0 16)))) 12 (.inr (5, [.ref (E.1 + 13), .ref (E.1 + 14), .ref (E.1 + 15), .ref (E.1 + 17), .ref (E.1 + 19), .int (nI an), .int (nI td), .int (nI gr)]))) 30 (.inr (2, [.ref (E.1 + 31), .ref (E.1 + 32), .ref (E.1 + 33), .int (nI (ndig x)), .int (nI bl), .int (nI ((dfsO w (ndig x) 0 0 (1000, 0)).1))]))) 31 (cI E 4 (nF T1))) 32 (cI E 4 (nF W1))) 33 (cI E 4 (nF C1)))) := ⟨_, rfl⟩
  rw [← hPP]
  refine J_aload_n dX7_orders_0 rfl ?_
  refine J_get 4 dX7_orders_1 jk7 (Nat.le_of_ble_eq_true rfl) jfRX7_33 H0 (by omega) rfl ?_
  refine J_iload_n dX7_orders_4 rfl ?_
  refine J_callV (M' := mX3_tell) (d' := (1, 0, 0)) (rest := []) dX7_orders_5 jmX3_tell jlRX7_166 (ctX3_tell x lz lb le T H4 H5 (by omega) (by first | assumption | omega)) H4 (by omega) jk3.1 rfl rfl (Nat.le_of_ble_eq_true rfl) (Nat.le_of_ble_eq_true rfl) (by constructor <;> decide +kernel) (fun v9 h9 n9 q9 => ?_)
  obtain ⟨rfl, hn9, T1_1, rfl, hT_2⟩ := q9
  replace hn9 := hn9.symm
  subst hn9
  refine J.stk (st' := [.int (nI 1)]) rfl ?_
  have hT := hT_2
  have nd := ndig_le x
  refine J_if_eqN (tgt := 23) dX7_orders_8 (by decide) (by omega) (fun z => absurd z (by decide)) (fun _ => ?_)
  refine J_iload_n dX7_orders_11 rfl ?_
  refine J_callSr (M' := mX7_isBlows) (d' := (2, 0, 0)) (rest := []) dX7_orders_12 jmX7_isBlows jlRX7_102 (ctX7_isBlows bl   (by first | assumption | omega)) rfl rfl (Nat.le_of_ble_eq_true rfl) (Nat.le_of_ble_eq_true rfl) ⟨Nat.le_refl _, Nat.le_refl _⟩ ?_
  refine J_if_eqB (tgt := 23) dX7_orders_15 (by decide) (fun c4 => (by exfalso; omega)) (fun c4 => ?_)
  refine J_iload_n dX7_orders_18 rfl ?_
  refine J_iconst (v := (-1)) dX7_orders_19 (by decide +kernel) ?_
  refine J_icmp_geV (tgt := 28) dX7_orders_20 (by decide) (by omega) (fun c5 => ?_) (fun c5 => (by exfalso; omega))
  refine J_aload_n dX7_orders_28 rfl ?_
  refine J_get 0 dX7_orders_29 jk7 (Nat.le_of_ble_eq_true rfl) jfRX7_10 ((hset_ne (by omega)).trans ((hset_ne (by omega)).trans H0)) (by omega) rfl ?_
  refine J_get 5 dX7_orders_32 jk6 (Nat.le_of_ble_eq_true rfl) jfRX7_63 ((hset_ne (by omega)).trans ((hset_ne (by omega)).trans H1)) (by omega) rfl ?_
  refine J_if_neN (tgt := 40) dX7_orders_35 (by decide) (by omega) (fun c6 => ?_) (fun c6 => (by exfalso; omega))
  refine J_aload_n dX7_orders_40 rfl ?_
  refine J_get 1 dX7_orders_41 jk7 (Nat.le_of_ble_eq_true rfl) jfRX7_16 ((hset_ne (by omega)).trans ((hset_ne (by omega)).trans H0)) (by omega) rfl ?_
  refine J_aload_n dX7_orders_44 rfl ?_
  refine J_get 0 dX7_orders_45 jk7 (Nat.le_of_ble_eq_true rfl) jfRX7_10 ((hset_ne (by omega)).trans ((hset_ne (by omega)).trans H0)) (by omega) rfl ?_
  have hK3 : ∀ i, va_cpy K K2 0 0 4 i ≤ 5 := va_cpy_le hK hK2
  have hM3 : ∀ i, va_cpy M M2 0 0 16 i ≤ 20 := va_cpy_le hM hM2
  refine J_callVn (M' := mX6_takeAnvils) (d' := (1, 0, 0)) (rest := []) dX7_orders_48 jmX6_takeAnvils jlRX7_150 (ctX6_takeAnvils 12 1 an2 td2 gr2 K2 M2 an td gr K M ((hset_ne (by omega)).trans ((hset_ne (by omega)).trans H8)) ((hset_ne (by omega)).trans ((hset_ne (by omega)).trans H9)) ((hset_ne (by omega)).trans ((hset_ne (by omega)).trans H10)) ((hset_ne (by omega)).trans ((hset_ne (by omega)).trans H1)) ((hset_ne (by omega)).trans ((hset_ne (by omega)).trans H2)) ((hset_ne (by omega)).trans ((hset_ne (by omega)).trans H3)) (by omega) (by first | assumption | omega)) ((hset_ne (by omega)).trans ((hset_ne (by omega)).trans H8)) (by omega) jk6.1 rfl rfl (Nat.le_of_ble_eq_true rfl) (Nat.le_of_ble_eq_true rfl) ⟨Nat.le_refl _, Nat.le_refl _⟩ ?_
  refine J_aload_n dX7_orders_51 rfl ?_
  refine J_get 4 dX7_orders_52 jk7 (Nat.le_of_ble_eq_true rfl) jfRX7_33 ((hset_ne (by omega)).trans ((hset_ne (by omega)).trans ((hset_ne (by omega)).trans ((hset_ne (by omega)).trans ((hset_ne (by omega)).trans H0))))) (by omega) rfl ?_
  refine J_aload_n dX7_orders_55 rfl ?_
  refine J_get 1 dX7_orders_56 jk7 (Nat.le_of_ble_eq_true rfl) jfRX7_16 ((hset_ne (by omega)).trans ((hset_ne (by omega)).trans ((hset_ne (by omega)).trans ((hset_ne (by omega)).trans ((hset_ne (by omega)).trans H0))))) (by omega) rfl ?_
  refine J_iload_n dX7_orders_59 rfl ?_
  refine J_callV (M' := mX3_search) (d' := (13, 0, 0)) (rest := []) dX7_orders_60 jmX3_search jlRX7_173 (ctX3_search w bl (ndig x) lb le an td gr T1_1 W C (va_cpy K K2 0 0 4) (va_cpy M M2 0 0 16) ((hset_ne (by omega)).trans ((hset_ne (by omega)).trans ((hset_ne (by omega)).trans ((hset_ne (by omega)).trans hset_eq)))) ((hset_ne (by omega)).trans ((hset_ne (by omega)).trans ((hset_ne (by omega)).trans hset_eq))) ((hset_ne (by omega)).trans ((hset_ne (by omega)).trans ((hset_ne (by omega)).trans ((hset_ne (by omega)).trans ((hset_ne (by omega)).trans H6))))) ((hset_ne (by omega)).trans ((hset_ne (by omega)).trans ((hset_ne (by omega)).trans ((hset_ne (by omega)).trans ((hset_ne (by omega)).trans H7))))) hset_eq ((hset_ne (by omega)).trans ((hset_ne (by omega)).trans hset_eq)) ((hset_ne (by omega)).trans hset_eq) (by omega) (by omega) (by first | assumption | omega) (by exact hK3) (by exact hM3) (by first | assumption | omega) (by exact oH_of hw1 hn4 hwK hwT hT (fun zz hz => figT_lt hok hz)) (by intro zz hz; rw [cpy_at (by omega)]; exact hwM zz hz)) ((hset_ne (by omega)).trans ((hset_ne (by omega)).trans ((hset_ne (by omega)).trans ((hset_ne (by omega)).trans hset_eq)))) (by omega) jk3.1 rfl rfl (Nat.le_of_ble_eq_true rfl) (Nat.le_of_ble_eq_true rfl) (by constructor <;> decide +kernel) (fun v9 h9 n9 q9 => ?_)
  obtain ⟨rfl, hn9, W1_7, C1_8, rfl, hC1_9⟩ := q9
  replace hn9 := hn9.symm
  subst hn9
  refine J.cast (hset_cg (hset_cg ((hset_cg ((hset_comm (by omega)).trans (hset_cg hset_hset rfl)) rfl).trans ((hset_comm (by omega)).trans (hset_cg ((hset_comm (by omega)).trans (hset_cg ((hset_comm (by omega)).trans (hset_cg ((hset_comm (by omega)).trans (hset_cg hset_hset rfl)) rfl)) rfl)) rfl))) rfl) rfl) ?_
  refine J.stk (st' := []) rfl ?_
  have hC3 := hC1_9
  refine J_iload_n dX7_orders_63 rfl ?_
  refine J_iconst (v := (-1)) dX7_orders_64 (by decide +kernel) ?_
  refine J_icmp_neV (tgt := 76) dX7_orders_65 (by decide) (by omega) (fun c10 => (by exfalso; omega)) (fun c10 => ?_)
  refine J_aload_n dX7_orders_68 rfl ?_
  refine J_get 4 dX7_orders_69 jk7 (Nat.le_of_ble_eq_true rfl) jfRX7_33 ((hset_ne (by omega)).trans ((hset_ne (by omega)).trans ((hset_ne (by omega)).trans ((hset_ne (by omega)).trans ((hset_ne (by omega)).trans ((hset_ne (by omega)).trans ((hset_ne (by omega)).trans H0))))))) (by omega) rfl ?_
  refine J_get 5 dX7_orders_72 jk3 (Nat.le_of_ble_eq_true rfl) jfRX7_177 ((hset_ne (by omega)).trans ((hset_ne (by omega)).trans ((hset_ne (by omega)).trans ((hset_ne (by omega)).trans ((hset_ne (by omega)).trans ((hset_ne (by omega)).trans hset_eq)))))) (by omega) rfl ?_
  exact J_iret dX7_orders_75 rfl ⟨Nat.le_refl _, Nat.le_refl _⟩ (by rw [hPP]; exact ⟨rfl, rfl, T1_1, W1_7, C1_8, ((show (hset (hset (hset (hset (hset (hset (hset h 30 (.inr (2, [.ref (E.1 + 31), .ref (E.1 + 32), .ref (E.1 + 33), .int (nI (ndig x)), .int (nI bl), .int (nI ((dfsO w (ndig x) 0 0 (1000, 0)).1))]))) 31 (cI E 4 (nF T1_1))) 13 (cI E 4 (nF (va_cpy K K2 0 0 4)))) 14 (cI E 16 (nF (va_cpy M M2 0 0 16)))) 12 (.inr (5, [.ref (E.1 + 13), .ref (E.1 + 14), .ref (E.1 + 15), .ref (E.1 + 17), .ref (E.1 + 19), .int (nI an), .int (nI td), .int (nI gr)]))) 32 (cI E 4 (nF W1_7))) 33 (cI E 4 (nF C1_8))) = (hset (hset (hset (hset (hset (hset (hset h 13 (cI E 4 (nF (va_cpy K K2 0 0 4)))) 14 (cI E 16 (nF (va_cpy M M2 0 0 16)))) 12 (.inr (5, [.ref (E.1 + 13), .ref (E.1 + 14), .ref (E.1 + 15), .ref (E.1 + 17), .ref (E.1 + 19), .int (nI an), .int (nI td), .int (nI gr)]))) 30 (.inr (2, [.ref (E.1 + 31), .ref (E.1 + 32), .ref (E.1 + 33), .int (nI (ndig x)), .int (nI bl), .int (nI ((dfsO w (ndig x) 0 0 (1000, 0)).1))]))) 31 (cI E 4 (nF T1_1))) 32 (cI E 4 (nF W1_7))) 33 (cI E 4 (nF C1_8))) by funext z; simp only [hset]; (repeat' split) <;> first | rfl | (exfalso; omega) | (subst_vars; first | exact rfl)).trans (hset_cg (hset_cg (hset_cg (hset_cg (hset_cg (hset_cg (hset_cg rfl rfl) rfl) rfl) rfl) rfl) rfl) rfl))⟩)

set_option maxHeartbeats 1000000 in
set_option maxRecDepth 100000 in
theorem ctX7_orders_k {E : jE} {h : Nat → va_E} {n : Nat} (w : oW) (x : Nat) (bl : Nat) (i : Nat) (lz : Nat) (lb : Nat) (le : Nat) (T : Nat → Nat) (W : Nat → Nat) (C : Nat → Nat) (an : Nat) (td : Nat) (gr : Nat) (K : Nat → Nat) (M : Nat → Nat) (an2 : Nat) (td2 : Nat) (gr2 : Nat) (K2 : Nat → Nat) (M2 : Nat → Nat) (ab : Nat) (be : Nat) (bd : Nat) (no : Nat) (fu : Nat) (H0 : h 0 = .inr (6, [.ref (E.1 + 1), .ref (E.1 + 12), .ref (E.1 + 23), .ref (E.1 + 24), .ref (E.1 + 30), .ref (E.1 + 34), .ref (E.1 + 37), .int (nI ab), .int (nI be), .int (nI bd), .int (nI no), .int (nI fu)])) (H1 : h 1 = .inr (5, [.ref (E.1 + 2), .ref (E.1 + 3), .ref (E.1 + 4), .ref (E.1 + 6), .ref (E.1 + 8), .int (nI an), .int (nI td), .int (nI gr)])) (H2 : h 2 = cI E 4 (nF K)) (H3 : h 3 = cI E 16 (nF M)) (H4 : h 30 = .inr (2, [.ref (E.1 + 31), .ref (E.1 + 32), .ref (E.1 + 33), .int (nI lz), .int (nI lb), .int (nI le)])) (H5 : h 31 = cI E 4 (nF T)) (H6 : h 32 = cI E 4 (nF W)) (H7 : h 33 = cI E 4 (nF C)) (H8 : h 12 = .inr (5, [.ref (E.1 + 13), .ref (E.1 + 14), .ref (E.1 + 15), .ref (E.1 + 17), .ref (E.1 + 19), .int (nI an2), .int (nI td2), .int (nI gr2)])) (H9 : h 13 = cI E 4 (nF K2)) (H10 : h 14 = cI E 16 (nF M2)) (hn : 38 ≤ n) (hK : ∀ zz, K zz ≤ 5) (hM : ∀ zz, M zz ≤ 20) (hg : gr ≤ 9) (hn4 : an ≤ 4) (hK2 : ∀ zz, K2 zz ≤ 5) (hM2 : ∀ zz, M2 zz ≤ 20) (hok : okW x) (hb1 : 1 ≤ bl) (hb5 : bl ≤ 5) (h32i : i < 2 ^ 32) (hi : i < 2 ^ 31) (han : 1 ≤ an) (hw1 : w.an = an ∧ w.g = gr ∧ w.bl = bl) (hwK : ∀ zz, zz < an → K zz = w.K zz) (hwT : ∀ zz, zz < ndig x → figT x zz = w.T zz) (hwM : ∀ zz, zz < 4 * an → M zz = w.M zz) (hwL : ∀ zz, w.M zz ≤ 20) : jC E mX7_orders (14, 0, 0) [.ref (E.1 + 0), .int (nI x), .int (nI bl), .int (nI i)] h n (fun v h' n' => v = some (.int (ordI w (ndig x) i)) ∧ n' = n ∧ ∃ (T1 : Nat → Nat) (W1 : Nat → Nat) (C1 : Nat → Nat), h' = (hset (hset (hset (hset (hset (hset (hset h 13 (cI E 4 (nF (va_cpy K K2 0 0 4)))) 14 (cI E 16 (nF (va_cpy M M2 0 0 16)))) 12 (.inr (5, [.ref (E.1 + 13), .ref (E.1 + 14), .ref (E.1 + 15), .ref (E.1 + 17), .ref (E.1 + 19), .int (nI an), .int (nI td), .int (nI gr)]))) 30 (.inr (2, [.ref (E.1 + 31), .ref (E.1 + 32), .ref (E.1 + 33), .int (nI (ndig x)), .int (nI bl), .int (nI ((dfsO w (ndig x) 0 0 (1000, 0)).1))]))) 31 (cI E 4 (nF T1))) 32 (cI E 4 (nF W1))) 33 (cI E 4 (nF C1)))) := by
  refine J.of (L := [(0, .ref (E.1 + 0)), (1, .int (nI x)), (2, .int (nI bl)), (3, .int (nI i))]) rfl (by decide +kernel) (Nat.le_of_ble_eq_true rfl) ?_
  obtain ⟨PP, hPP⟩ : ∃ PP : jPost, PP = (fun v h' n' => v = some (.int (ordI w (ndig x) i)) ∧ n' = n ∧ ∃ (T1 : Nat → Nat) (W1 : Nat → Nat) (C1 : Nat → Nat), h' = (hset (hset (hset (hset (hset (hset (hset h 13 (cI E 4 (nF (va_cpy K K2 0 0 4)))) 14 (cI E 16 (nF (va_cpy M M2 0 0 16)))) 12 (.inr (5, [.ref (E.1 + 13), .ref (E.1 + 14), .ref (E.1 + 15), .ref (E.1 + 17), .ref (E.1 + 19), .int (nI an), .int (nI td), .int (nI gr)]))) 30 (.inr (2, [.ref (E.1 + 31), .ref (E.1 + 32), .ref (E.1 + 33), .int (nI (ndig x)), .int (nI bl), .int (nI ((dfsO w (ndig x) 0 0 (1000, 0)).1))]))) 31 (cI E 4 (nF T1))) 32 (cI E 4 (nF W1))) 33 (cI E 4 (nF C1)))) := ⟨_, rfl⟩
  rw [← hPP]
  refine J_aload_n dX7_orders_0 rfl ?_
  refine J_get 4 dX7_orders_1 jk7 (Nat.le_of_ble_eq_true rfl) jfRX7_33 H0 (by omega) rfl ?_
  refine J_iload_n dX7_orders_4 rfl ?_
  refine J_callV (M' := mX3_tell) (d' := (1, 0, 0)) (rest := []) dX7_orders_5 jmX3_tell jlRX7_166 (ctX3_tell x lz lb le T H4 H5 (by omega) (by first | assumption | omega)) H4 (by omega) jk3.1 rfl rfl (Nat.le_of_ble_eq_true rfl) (Nat.le_of_ble_eq_true rfl) (by constructor <;> decide +kernel) (fun v9 h9 n9 q9 => ?_)
  obtain ⟨rfl, hn9, T1_1, rfl, hT_2⟩ := q9
  replace hn9 := hn9.symm
  subst hn9
  refine J.stk (st' := [.int (nI 1)]) rfl ?_
  have hT := hT_2
  have nd := ndig_le x
  refine J_if_eqN (tgt := 23) dX7_orders_8 (by decide) (by omega) (fun z => absurd z (by decide)) (fun _ => ?_)
  refine J_iload_n dX7_orders_11 rfl ?_
  refine J_callSr (M' := mX7_isBlows) (d' := (2, 0, 0)) (rest := []) dX7_orders_12 jmX7_isBlows jlRX7_102 (ctX7_isBlows bl   (by first | assumption | omega)) rfl rfl (Nat.le_of_ble_eq_true rfl) (Nat.le_of_ble_eq_true rfl) ⟨Nat.le_refl _, Nat.le_refl _⟩ ?_
  refine J_if_eqB (tgt := 23) dX7_orders_15 (by decide) (fun c4 => (by exfalso; omega)) (fun c4 => ?_)
  refine J_iload_n dX7_orders_18 rfl ?_
  refine J_iconst (v := (-1)) dX7_orders_19 (by decide +kernel) ?_
  refine J_icmp_geV (tgt := 28) dX7_orders_20 (by decide) (by omega) (fun c5 => ?_) (fun c5 => (by exfalso; omega))
  refine J_aload_n dX7_orders_28 rfl ?_
  refine J_get 0 dX7_orders_29 jk7 (Nat.le_of_ble_eq_true rfl) jfRX7_10 ((hset_ne (by omega)).trans ((hset_ne (by omega)).trans H0)) (by omega) rfl ?_
  refine J_get 5 dX7_orders_32 jk6 (Nat.le_of_ble_eq_true rfl) jfRX7_63 ((hset_ne (by omega)).trans ((hset_ne (by omega)).trans H1)) (by omega) rfl ?_
  refine J_if_neN (tgt := 40) dX7_orders_35 (by decide) (by omega) (fun c6 => ?_) (fun c6 => (by exfalso; omega))
  refine J_aload_n dX7_orders_40 rfl ?_
  refine J_get 1 dX7_orders_41 jk7 (Nat.le_of_ble_eq_true rfl) jfRX7_16 ((hset_ne (by omega)).trans ((hset_ne (by omega)).trans H0)) (by omega) rfl ?_
  refine J_aload_n dX7_orders_44 rfl ?_
  refine J_get 0 dX7_orders_45 jk7 (Nat.le_of_ble_eq_true rfl) jfRX7_10 ((hset_ne (by omega)).trans ((hset_ne (by omega)).trans H0)) (by omega) rfl ?_
  have hK3 : ∀ i, va_cpy K K2 0 0 4 i ≤ 5 := va_cpy_le hK hK2
  have hM3 : ∀ i, va_cpy M M2 0 0 16 i ≤ 20 := va_cpy_le hM hM2
  refine J_callVn (M' := mX6_takeAnvils) (d' := (1, 0, 0)) (rest := []) dX7_orders_48 jmX6_takeAnvils jlRX7_150 (ctX6_takeAnvils 12 1 an2 td2 gr2 K2 M2 an td gr K M ((hset_ne (by omega)).trans ((hset_ne (by omega)).trans H8)) ((hset_ne (by omega)).trans ((hset_ne (by omega)).trans H9)) ((hset_ne (by omega)).trans ((hset_ne (by omega)).trans H10)) ((hset_ne (by omega)).trans ((hset_ne (by omega)).trans H1)) ((hset_ne (by omega)).trans ((hset_ne (by omega)).trans H2)) ((hset_ne (by omega)).trans ((hset_ne (by omega)).trans H3)) (by omega) (by first | assumption | omega)) ((hset_ne (by omega)).trans ((hset_ne (by omega)).trans H8)) (by omega) jk6.1 rfl rfl (Nat.le_of_ble_eq_true rfl) (Nat.le_of_ble_eq_true rfl) ⟨Nat.le_refl _, Nat.le_refl _⟩ ?_
  refine J_aload_n dX7_orders_51 rfl ?_
  refine J_get 4 dX7_orders_52 jk7 (Nat.le_of_ble_eq_true rfl) jfRX7_33 ((hset_ne (by omega)).trans ((hset_ne (by omega)).trans ((hset_ne (by omega)).trans ((hset_ne (by omega)).trans ((hset_ne (by omega)).trans H0))))) (by omega) rfl ?_
  refine J_aload_n dX7_orders_55 rfl ?_
  refine J_get 1 dX7_orders_56 jk7 (Nat.le_of_ble_eq_true rfl) jfRX7_16 ((hset_ne (by omega)).trans ((hset_ne (by omega)).trans ((hset_ne (by omega)).trans ((hset_ne (by omega)).trans ((hset_ne (by omega)).trans H0))))) (by omega) rfl ?_
  refine J_iload_n dX7_orders_59 rfl ?_
  refine J_callV (M' := mX3_search) (d' := (13, 0, 0)) (rest := []) dX7_orders_60 jmX3_search jlRX7_173 (ctX3_search w bl (ndig x) lb le an td gr T1_1 W C (va_cpy K K2 0 0 4) (va_cpy M M2 0 0 16) ((hset_ne (by omega)).trans ((hset_ne (by omega)).trans ((hset_ne (by omega)).trans ((hset_ne (by omega)).trans hset_eq)))) ((hset_ne (by omega)).trans ((hset_ne (by omega)).trans ((hset_ne (by omega)).trans hset_eq))) ((hset_ne (by omega)).trans ((hset_ne (by omega)).trans ((hset_ne (by omega)).trans ((hset_ne (by omega)).trans ((hset_ne (by omega)).trans H6))))) ((hset_ne (by omega)).trans ((hset_ne (by omega)).trans ((hset_ne (by omega)).trans ((hset_ne (by omega)).trans ((hset_ne (by omega)).trans H7))))) hset_eq ((hset_ne (by omega)).trans ((hset_ne (by omega)).trans hset_eq)) ((hset_ne (by omega)).trans hset_eq) (by omega) (by omega) (by first | assumption | omega) (by exact hK3) (by exact hM3) (by first | assumption | omega) (by exact oH_of hw1 hn4 hwK hwT hT (fun zz hz => figT_lt hok hz)) (by intro zz hz; rw [cpy_at (by omega)]; exact hwM zz hz)) ((hset_ne (by omega)).trans ((hset_ne (by omega)).trans ((hset_ne (by omega)).trans ((hset_ne (by omega)).trans hset_eq)))) (by omega) jk3.1 rfl rfl (Nat.le_of_ble_eq_true rfl) (Nat.le_of_ble_eq_true rfl) (by constructor <;> decide +kernel) (fun v9 h9 n9 q9 => ?_)
  obtain ⟨rfl, hn9, W1_7, C1_8, rfl, hC1_9⟩ := q9
  replace hn9 := hn9.symm
  subst hn9
  refine J.cast (hset_cg (hset_cg ((hset_cg ((hset_comm (by omega)).trans (hset_cg hset_hset rfl)) rfl).trans ((hset_comm (by omega)).trans (hset_cg ((hset_comm (by omega)).trans (hset_cg ((hset_comm (by omega)).trans (hset_cg ((hset_comm (by omega)).trans (hset_cg hset_hset rfl)) rfl)) rfl)) rfl))) rfl) rfl) ?_
  refine J.stk (st' := []) rfl ?_
  have hC3 := hC1_9
  refine J_iload_n dX7_orders_63 rfl ?_
  refine J_iconst (v := (-1)) dX7_orders_64 (by decide +kernel) ?_
  refine J_icmp_neV (tgt := 76) dX7_orders_65 (by decide) (by omega) (fun c10 => ?_) (fun c10 => (by exfalso; omega))
  have sp11 : (ndig x = 0) ∨ (1 ≤ ndig x) := by omega
  rcases sp11 with sp11 | sp11
  · skip
    refine J_iload_n dX7_orders_76 rfl ?_
    refine J_iconst (v := nI 0) dX7_orders_77 (by decide +kernel) ?_
    refine J_aload_n dX7_orders_78 rfl ?_
    refine J_get 4 dX7_orders_79 jk7 (Nat.le_of_ble_eq_true rfl) jfRX7_33 ((hset_ne (by omega)).trans ((hset_ne (by omega)).trans ((hset_ne (by omega)).trans ((hset_ne (by omega)).trans ((hset_ne (by omega)).trans ((hset_ne (by omega)).trans ((hset_ne (by omega)).trans H0))))))) (by omega) rfl ?_
    refine J_get 3 dX7_orders_82 jk3 (Nat.le_of_ble_eq_true rfl) jfRX7_180 ((hset_ne (by omega)).trans ((hset_ne (by omega)).trans ((hset_ne (by omega)).trans ((hset_ne (by omega)).trans ((hset_ne (by omega)).trans ((hset_ne (by omega)).trans hset_eq)))))) (by omega) rfl ?_
    refine J_iconst (v := nI 1) dX7_orders_85 (by decide +kernel) ?_
    refine J_isub dX7_orders_86 ?_
    refine J_callSr (M' := mX7_isWithin) (d' := (1, 0, 0)) (rest := []) dX7_orders_87 jmX7_isWithin jlRX7_70 (ctX7_isWithin_neg i ((nI (ndig x)) - (nI 1))   (by first | assumption | omega) (by rw [show ndig x = 0 by omega]; decide +kernel)) rfl rfl (Nat.le_of_ble_eq_true rfl) (Nat.le_of_ble_eq_true rfl) ⟨Nat.le_refl _, Nat.le_refl _⟩ ?_
    refine J_if_eqN (tgt := 105) dX7_orders_90 (by decide) (by omega) (fun _ => ?_) (fun z => absurd z (by decide))
    refine J_bipush (v := (-5)) dX7_orders_105 (by decide +kernel) ?_
    exact J_iret dX7_orders_107 rfl ⟨Nat.le_refl _, Nat.le_refl _⟩ (by rw [hPP]; exact ⟨(congrArg some (jv_I (by first | exact ordI_f (by omega) | (refine ordI_t (by omega) ?_; exact hC3 (Nat.lt_of_le_of_lt (dfsO_lt (by omega) (by omega) hwL) (by simp only [PS]; omega)) i (by omega))))), rfl, T1_1, W1_7, C1_8, ((show (hset (hset (hset (hset (hset (hset (hset h 30 (.inr (2, [.ref (E.1 + 31), .ref (E.1 + 32), .ref (E.1 + 33), .int (nI (ndig x)), .int (nI bl), .int (nI ((dfsO w (ndig x) 0 0 (1000, 0)).1))]))) 31 (cI E 4 (nF T1_1))) 13 (cI E 4 (nF (va_cpy K K2 0 0 4)))) 14 (cI E 16 (nF (va_cpy M M2 0 0 16)))) 12 (.inr (5, [.ref (E.1 + 13), .ref (E.1 + 14), .ref (E.1 + 15), .ref (E.1 + 17), .ref (E.1 + 19), .int (nI an), .int (nI td), .int (nI gr)]))) 32 (cI E 4 (nF W1_7))) 33 (cI E 4 (nF C1_8))) = (hset (hset (hset (hset (hset (hset (hset h 13 (cI E 4 (nF (va_cpy K K2 0 0 4)))) 14 (cI E 16 (nF (va_cpy M M2 0 0 16)))) 12 (.inr (5, [.ref (E.1 + 13), .ref (E.1 + 14), .ref (E.1 + 15), .ref (E.1 + 17), .ref (E.1 + 19), .int (nI an), .int (nI td), .int (nI gr)]))) 30 (.inr (2, [.ref (E.1 + 31), .ref (E.1 + 32), .ref (E.1 + 33), .int (nI (ndig x)), .int (nI bl), .int (nI ((dfsO w (ndig x) 0 0 (1000, 0)).1))]))) 31 (cI E 4 (nF T1_1))) 32 (cI E 4 (nF W1_7))) 33 (cI E 4 (nF C1_8))) by funext z; simp only [hset]; (repeat' split) <;> first | rfl | (exfalso; omega) | (subst_vars; first | exact rfl)).trans (hset_cg (hset_cg (hset_cg (hset_cg (hset_cg (hset_cg (hset_cg rfl rfl) rfl) rfl) rfl) rfl) rfl) rfl))⟩)
  · skip
    refine J_iload_n dX7_orders_76 rfl ?_
    refine J_iconst (v := nI 0) dX7_orders_77 (by decide +kernel) ?_
    refine J_aload_n dX7_orders_78 rfl ?_
    refine J_get 4 dX7_orders_79 jk7 (Nat.le_of_ble_eq_true rfl) jfRX7_33 ((hset_ne (by omega)).trans ((hset_ne (by omega)).trans ((hset_ne (by omega)).trans ((hset_ne (by omega)).trans ((hset_ne (by omega)).trans ((hset_ne (by omega)).trans ((hset_ne (by omega)).trans H0))))))) (by omega) rfl ?_
    refine J_get 3 dX7_orders_82 jk3 (Nat.le_of_ble_eq_true rfl) jfRX7_180 ((hset_ne (by omega)).trans ((hset_ne (by omega)).trans ((hset_ne (by omega)).trans ((hset_ne (by omega)).trans ((hset_ne (by omega)).trans ((hset_ne (by omega)).trans hset_eq)))))) (by omega) rfl ?_
    refine J_iconst (v := nI 1) dX7_orders_85 (by decide +kernel) ?_
    refine J_isubN dX7_orders_86 (by omega) ?_
    refine J_callSr (M' := mX7_isWithin) (d' := (1, 0, 0)) (rest := []) dX7_orders_87 jmX7_isWithin jlRX7_70 (ctX7_isWithin i 0 ((ndig x) - 1)   (by first | assumption | omega) (by first | assumption | omega) (by first | assumption | omega)) rfl rfl (Nat.le_of_ble_eq_true rfl) (Nat.le_of_ble_eq_true rfl) ⟨Nat.le_refl _, Nat.le_refl _⟩ ?_
    refine J_if_eqB (tgt := 105) dX7_orders_90 (by decide) (fun c13 => ?_) (fun c13 => ?_)
    · skip
      refine J_bipush (v := (-5)) dX7_orders_105 (by decide +kernel) ?_
      exact J_iret dX7_orders_107 rfl ⟨Nat.le_refl _, Nat.le_refl _⟩ (by rw [hPP]; exact ⟨(congrArg some (jv_I (by first | exact ordI_f (by omega) | (refine ordI_t (by omega) ?_; exact hC3 (Nat.lt_of_le_of_lt (dfsO_lt (by omega) (by omega) hwL) (by simp only [PS]; omega)) i (by omega))))), rfl, T1_1, W1_7, C1_8, ((show (hset (hset (hset (hset (hset (hset (hset h 30 (.inr (2, [.ref (E.1 + 31), .ref (E.1 + 32), .ref (E.1 + 33), .int (nI (ndig x)), .int (nI bl), .int (nI ((dfsO w (ndig x) 0 0 (1000, 0)).1))]))) 31 (cI E 4 (nF T1_1))) 13 (cI E 4 (nF (va_cpy K K2 0 0 4)))) 14 (cI E 16 (nF (va_cpy M M2 0 0 16)))) 12 (.inr (5, [.ref (E.1 + 13), .ref (E.1 + 14), .ref (E.1 + 15), .ref (E.1 + 17), .ref (E.1 + 19), .int (nI an), .int (nI td), .int (nI gr)]))) 32 (cI E 4 (nF W1_7))) 33 (cI E 4 (nF C1_8))) = (hset (hset (hset (hset (hset (hset (hset h 13 (cI E 4 (nF (va_cpy K K2 0 0 4)))) 14 (cI E 16 (nF (va_cpy M M2 0 0 16)))) 12 (.inr (5, [.ref (E.1 + 13), .ref (E.1 + 14), .ref (E.1 + 15), .ref (E.1 + 17), .ref (E.1 + 19), .int (nI an), .int (nI td), .int (nI gr)]))) 30 (.inr (2, [.ref (E.1 + 31), .ref (E.1 + 32), .ref (E.1 + 33), .int (nI (ndig x)), .int (nI bl), .int (nI ((dfsO w (ndig x) 0 0 (1000, 0)).1))]))) 31 (cI E 4 (nF T1_1))) 32 (cI E 4 (nF W1_7))) 33 (cI E 4 (nF C1_8))) by funext z; simp only [hset]; (repeat' split) <;> first | rfl | (exfalso; omega) | (subst_vars; first | exact rfl)).trans (hset_cg (hset_cg (hset_cg (hset_cg (hset_cg (hset_cg (hset_cg rfl rfl) rfl) rfl) rfl) rfl) rfl) rfl))⟩)
    · skip
      refine J_aload_n dX7_orders_93 rfl ?_
      refine J_get 4 dX7_orders_94 jk7 (Nat.le_of_ble_eq_true rfl) jfRX7_33 ((hset_ne (by omega)).trans ((hset_ne (by omega)).trans ((hset_ne (by omega)).trans ((hset_ne (by omega)).trans ((hset_ne (by omega)).trans ((hset_ne (by omega)).trans ((hset_ne (by omega)).trans H0))))))) (by omega) rfl ?_
      refine J_get 2 dX7_orders_97 jk3 (Nat.le_of_ble_eq_true rfl) jfRX7_181 ((hset_ne (by omega)).trans ((hset_ne (by omega)).trans ((hset_ne (by omega)).trans ((hset_ne (by omega)).trans ((hset_ne (by omega)).trans ((hset_ne (by omega)).trans hset_eq)))))) (by omega) rfl ?_
      refine J_iload_n dX7_orders_100 rfl ?_
      refine J_ialdN (i := i) dX7_orders_101 hset_eq (by omega) (by omega) (by omega) ?_
      refine J_goto (tgt := 107) dX7_orders_102 (by decide) ?_
      exact J_iret dX7_orders_107 rfl ⟨Nat.le_refl _, Nat.le_refl _⟩ (by rw [hPP]; exact ⟨(congrArg some (jv_I (a := nI (C1_8 i)) (by first | exact ordI_f (by omega) | (refine ordI_t (by omega) ?_; exact hC3 (Nat.lt_of_le_of_lt (dfsO_lt (by omega) (by omega) hwL) (by simp only [PS]; omega)) i (by omega))))), rfl, T1_1, W1_7, C1_8, ((show (hset (hset (hset (hset (hset (hset (hset h 30 (.inr (2, [.ref (E.1 + 31), .ref (E.1 + 32), .ref (E.1 + 33), .int (nI (ndig x)), .int (nI bl), .int (nI ((dfsO w (ndig x) 0 0 (1000, 0)).1))]))) 31 (cI E 4 (nF T1_1))) 13 (cI E 4 (nF (va_cpy K K2 0 0 4)))) 14 (cI E 16 (nF (va_cpy M M2 0 0 16)))) 12 (.inr (5, [.ref (E.1 + 13), .ref (E.1 + 14), .ref (E.1 + 15), .ref (E.1 + 17), .ref (E.1 + 19), .int (nI an), .int (nI td), .int (nI gr)]))) 32 (cI E 4 (nF W1_7))) 33 (cI E 4 (nF C1_8))) = (hset (hset (hset (hset (hset (hset (hset h 13 (cI E 4 (nF (va_cpy K K2 0 0 4)))) 14 (cI E 16 (nF (va_cpy M M2 0 0 16)))) 12 (.inr (5, [.ref (E.1 + 13), .ref (E.1 + 14), .ref (E.1 + 15), .ref (E.1 + 17), .ref (E.1 + 19), .int (nI an), .int (nI td), .int (nI gr)]))) 30 (.inr (2, [.ref (E.1 + 31), .ref (E.1 + 32), .ref (E.1 + 33), .int (nI (ndig x)), .int (nI bl), .int (nI ((dfsO w (ndig x) 0 0 (1000, 0)).1))]))) 31 (cI E 4 (nF T1_1))) 32 (cI E 4 (nF W1_7))) 33 (cI E 4 (nF C1_8))) by funext z; simp only [hset]; (repeat' split) <;> first | rfl | (exfalso; omega) | (subst_vars; first | exact rfl)).trans (hset_cg (hset_cg (hset_cg (hset_cg (hset_cg (hset_cg (hset_cg rfl rfl) rfl) rfl) rfl) rfl) rfl) rfl))⟩)
