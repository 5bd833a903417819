set_option maxHeartbeats 1000000 in
set_option maxRecDepth 100000 in
theorem ctX7_isWithin {E : jE} {h : Nat → va_E} {n : Nat} (v : Nat) (lo : Nat) (hi : Nat) (hv : v < 2 ^ 32) (hl : lo < 2 ^ 31) (hh : hi < 2 ^ 31) : jC E mX7_isWithin (1, 0, 0) [.int (nI v), .int (nI lo), .int (nI hi)] h n (jR (some (.int (jb (lo ≤ v ∧ v ≤ hi)))) h n) := by
  refine J.of (L := [(0, .int (nI v)), (1, .int (nI lo)), (2, .int (nI hi))]) rfl (by decide +kernel) (Nat.le_of_ble_eq_true rfl) ?_
  obtain ⟨PP, hPP⟩ : ∃ PP : jPost, PP = (jR (some (.int (jb (lo ≤ v ∧ v ≤ hi)))) h n) := ⟨_, rfl⟩
  rw [← hPP]
  refine J_iload_n dX7_isWithin_0 rfl ?_
  refine J_iload_n dX7_isWithin_1 rfl ?_
  refine J_icmp_ltW (tgt := 14) dX7_isWithin_2 (by decide) (by omega) (by omega) (fun c1 => ?_) (fun c1 => ?_)
  · skip
    refine J_iconst (v := nI 0) dX7_isWithin_14 (by decide +kernel) ?_
    exact J_zret dX7_isWithin_15 rfl rfl ⟨Nat.le_refl _, Nat.le_refl _⟩ (by rw [hPP]; exact ⟨(congrArg some (Option.some.inj (jret_B0 (by omega)))), rfl, rfl⟩)
  · skip
    refine J_iload_n dX7_isWithin_5 rfl ?_
    refine J_iload_n dX7_isWithin_6 rfl ?_
    refine J_icmp_gtW (tgt := 14) dX7_isWithin_7 (by decide) (by omega) (by omega) (fun c2 => ?_) (fun c2 => ?_)
    · skip
      refine J_iconst (v := nI 0) dX7_isWithin_14 (by decide +kernel) ?_
      exact J_zret dX7_isWithin_15 rfl rfl ⟨Nat.le_refl _, Nat.le_refl _⟩ (by rw [hPP]; exact ⟨(congrArg some (Option.some.inj (jret_B0 (by omega)))), rfl, rfl⟩)
    · skip
      refine J_iconst (v := nI 1) dX7_isWithin_10 (by decide +kernel) ?_
      refine J_goto (tgt := 15) dX7_isWithin_11 (by decide) ?_
      exact J_zret dX7_isWithin_15 rfl rfl ⟨Nat.le_refl _, Nat.le_refl _⟩ (by rw [hPP]; exact ⟨(congrArg some (Option.some.inj (jret_B1 (by omega)))), rfl, rfl⟩)

set_option maxHeartbeats 1000000 in
set_option maxRecDepth 100000 in
theorem ctX7_isTemper {E : jE} {h : Nat → va_E} {n : Nat} (v : Nat) (hv : v < 2 ^ 32) : jC E mX7_isTemper (2, 0, 0) [.int (nI v)] h n (jR (some (.int (jb (v ≤ 3)))) h n) := by
  refine J.of (L := [(0, .int (nI v))]) rfl (by decide +kernel) (Nat.le_of_ble_eq_true rfl) ?_
  obtain ⟨PP, hPP⟩ : ∃ PP : jPost, PP = (jR (some (.int (jb (v ≤ 3)))) h n) := ⟨_, rfl⟩
  rw [← hPP]
  refine J_iload_n dX7_isTemper_0 rfl ?_
  refine J_iconst (v := nI 0) dX7_isTemper_1 (by decide +kernel) ?_
  refine J_iconst (v := nI 3) dX7_isTemper_2 (by decide +kernel) ?_
  refine J_callSr (M' := mX7_isWithin) (d' := (1, 0, 0)) (rest := []) dX7_isTemper_3 jmX7_isWithin jlRX7_70 (ctX7_isWithin v 0 3   (by first | assumption | omega) (by first | assumption | omega) (by first | assumption | omega)) rfl rfl (Nat.le_of_ble_eq_true rfl) (Nat.le_of_ble_eq_true rfl) ⟨Nat.le_refl _, Nat.le_refl _⟩ ?_
  exact J_zret dX7_isTemper_6 rfl jb_nar ⟨Nat.le_refl _, Nat.le_refl _⟩ (by rw [hPP]; exact ⟨(congrArg some (jv_I (jb_cg (by omega)))), rfl, rfl⟩)

set_option maxHeartbeats 1000000 in
set_option maxRecDepth 100000 in
theorem ctX7_isMemory {E : jE} {h : Nat → va_E} {n : Nat} (v : Nat) (hv : v < 2 ^ 32) : jC E mX7_isMemory (2, 0, 0) [.int (nI v)] h n (jR (some (.int (jb (v ≤ 20)))) h n) := by
  refine J.of (L := [(0, .int (nI v))]) rfl (by decide +kernel) (Nat.le_of_ble_eq_true rfl) ?_
  obtain ⟨PP, hPP⟩ : ∃ PP : jPost, PP = (jR (some (.int (jb (v ≤ 20)))) h n) := ⟨_, rfl⟩
  rw [← hPP]
  refine J_iload_n dX7_isMemory_0 rfl ?_
  refine J_iconst (v := nI 0) dX7_isMemory_1 (by decide +kernel) ?_
  refine J_bipush (v := nI 20) dX7_isMemory_2 (by decide +kernel) ?_
  refine J_callSr (M' := mX7_isWithin) (d' := (1, 0, 0)) (rest := []) dX7_isMemory_4 jmX7_isWithin jlRX7_70 (ctX7_isWithin v 0 20   (by first | assumption | omega) (by first | assumption | omega) (by first | assumption | omega)) rfl rfl (Nat.le_of_ble_eq_true rfl) (Nat.le_of_ble_eq_true rfl) ⟨Nat.le_refl _, Nat.le_refl _⟩ ?_
  exact J_zret dX7_isMemory_7 rfl jb_nar ⟨Nat.le_refl _, Nat.le_refl _⟩ (by rw [hPP]; exact ⟨(congrArg some (jv_I (jb_cg (by omega)))), rfl, rfl⟩)

set_option maxHeartbeats 1000000 in
set_option maxRecDepth 100000 in
theorem ctX7_isHand {E : jE} {h : Nat → va_E} {n : Nat} (v : Nat) (hv : v < 2 ^ 32) : jC E mX7_isHand (2, 0, 0) [.int (nI v)] h n (jR (some (.int (jb (v ≤ 9)))) h n) := by
  refine J.of (L := [(0, .int (nI v))]) rfl (by decide +kernel) (Nat.le_of_ble_eq_true rfl) ?_
  obtain ⟨PP, hPP⟩ : ∃ PP : jPost, PP = (jR (some (.int (jb (v ≤ 9)))) h n) := ⟨_, rfl⟩
  rw [← hPP]
  refine J_iload_n dX7_isHand_0 rfl ?_
  refine J_iconst (v := nI 0) dX7_isHand_1 (by decide +kernel) ?_
  refine J_bipush (v := nI 9) dX7_isHand_2 (by decide +kernel) ?_
  refine J_callSr (M' := mX7_isWithin) (d' := (1, 0, 0)) (rest := []) dX7_isHand_4 jmX7_isWithin jlRX7_70 (ctX7_isWithin v 0 9   (by first | assumption | omega) (by first | assumption | omega) (by first | assumption | omega)) rfl rfl (Nat.le_of_ble_eq_true rfl) (Nat.le_of_ble_eq_true rfl) ⟨Nat.le_refl _, Nat.le_refl _⟩ ?_
  exact J_zret dX7_isHand_7 rfl jb_nar ⟨Nat.le_refl _, Nat.le_refl _⟩ (by rw [hPP]; exact ⟨(congrArg some (jv_I (jb_cg (by omega)))), rfl, rfl⟩)

set_option maxHeartbeats 1000000 in
set_option maxRecDepth 100000 in
theorem ctX7_isBlows {E : jE} {h : Nat → va_E} {n : Nat} (v : Nat) (hv : v < 2 ^ 32) : jC E mX7_isBlows (2, 0, 0) [.int (nI v)] h n (jR (some (.int (jb (1 ≤ v ∧ v ≤ 5)))) h n) := by
  refine J.of (L := [(0, .int (nI v))]) rfl (by decide +kernel) (Nat.le_of_ble_eq_true rfl) ?_
  obtain ⟨PP, hPP⟩ : ∃ PP : jPost, PP = (jR (some (.int (jb (1 ≤ v ∧ v ≤ 5)))) h n) := ⟨_, rfl⟩
  rw [← hPP]
  refine J_iload_n dX7_isBlows_0 rfl ?_
  refine J_iconst (v := nI 1) dX7_isBlows_1 (by decide +kernel) ?_
  refine J_iconst (v := nI 5) dX7_isBlows_2 (by decide +kernel) ?_
  refine J_callSr (M' := mX7_isWithin) (d' := (1, 0, 0)) (rest := []) dX7_isBlows_3 jmX7_isWithin jlRX7_70 (ctX7_isWithin v 1 5   (by first | assumption | omega) (by first | assumption | omega) (by first | assumption | omega)) rfl rfl (Nat.le_of_ble_eq_true rfl) (Nat.le_of_ble_eq_true rfl) ⟨Nat.le_refl _, Nat.le_refl _⟩ ?_
  exact J_zret dX7_isBlows_6 rfl jb_nar ⟨Nat.le_refl _, Nat.le_refl _⟩ (by rw [hPP]; exact ⟨rfl, rfl, rfl⟩)

set_option maxHeartbeats 1000000 in
set_option maxRecDepth 100000 in
theorem ctX7_isUp {E : jE} {h : Nat → va_E} {n : Nat} (v : Nat) (hv : v < 2 ^ 32) : jC E mX7_isUp (2, 0, 0) [.int (nI v)] h n (jR (some (.int (jb (v ≤ 50)))) h n) := by
  refine J.of (L := [(0, .int (nI v))]) rfl (by decide +kernel) (Nat.le_of_ble_eq_true rfl) ?_
  obtain ⟨PP, hPP⟩ : ∃ PP : jPost, PP = (jR (some (.int (jb (v ≤ 50)))) h n) := ⟨_, rfl⟩
  rw [← hPP]
  refine J_iload_n dX7_isUp_0 rfl ?_
  refine J_iconst (v := nI 0) dX7_isUp_1 (by decide +kernel) ?_
  refine J_bipush (v := nI 50) dX7_isUp_2 (by decide +kernel) ?_
  refine J_callSr (M' := mX7_isWithin) (d' := (1, 0, 0)) (rest := []) dX7_isUp_4 jmX7_isWithin jlRX7_70 (ctX7_isWithin v 0 50   (by first | assumption | omega) (by first | assumption | omega) (by first | assumption | omega)) rfl rfl (Nat.le_of_ble_eq_true rfl) (Nat.le_of_ble_eq_true rfl) ⟨Nat.le_refl _, Nat.le_refl _⟩ ?_
  exact J_zret dX7_isUp_7 rfl jb_nar ⟨Nat.le_refl _, Nat.le_refl _⟩ (by rw [hPP]; exact ⟨(congrArg some (jv_I (jb_cg (by omega)))), rfl, rfl⟩)

set_option maxHeartbeats 1000000 in
set_option maxRecDepth 100000 in
theorem ctX7_isPlace {E : jE} {h : Nat → va_E} {n : Nat} (a : Nat) (t : Nat) (an : Nat) (td : Nat) (gr : Nat) (ab : Nat) (be : Nat) (bd : Nat) (no : Nat) (fu : Nat) (H0 : h 0 = .inr (6, [.ref (E.1 + 1), .ref (E.1 + 12), .ref (E.1 + 23), .ref (E.1 + 24), .ref (E.1 + 30), .ref (E.1 + 34), .ref (E.1 + 37), .int (nI ab), .int (nI be), .int (nI bd), .int (nI no), .int (nI fu)])) (H1 : h 1 = .inr (5, [.ref (E.1 + 2), .ref (E.1 + 3), .ref (E.1 + 4), .ref (E.1 + 6), .ref (E.1 + 8), .int (nI an), .int (nI td), .int (nI gr)])) (hn : 38 ≤ n) (ha : a < 2 ^ 32) (ht : t < 2 ^ 32) (hn4 : an ≤ 4) : jC E mX7_isPlace (3, 0, 0) [.ref (E.1 + 0), .int (nI a), .int (nI t)] h n (jR (some (.int (jb (a < an ∧ t ≤ 3)))) h n) := by
  refine J.of (L := [(0, .ref (E.1 + 0)), (1, .int (nI a)), (2, .int (nI t))]) rfl (by decide +kernel) (Nat.le_of_ble_eq_true rfl) ?_
  obtain ⟨PP, hPP⟩ : ∃ PP : jPost, PP = (jR (some (.int (jb (a < an ∧ t ≤ 3)))) h n) := ⟨_, rfl⟩
  rw [← hPP]
  refine J_aload_n dX7_isPlace_0 rfl ?_
  refine J_get 0 dX7_isPlace_1 jk7 (Nat.le_of_ble_eq_true rfl) jfRX7_10 H0 (by omega) rfl ?_
  refine J_iload_n dX7_isPlace_4 rfl ?_
  refine J_callVr (M' := mX6_has) (d' := (1, 0, 0)) (rest := []) dX7_isPlace_5 jmX6_has jlRX7_133 (ctX6_has 1 a an td gr H1 (by omega) (by first | assumption | omega) (by first | assumption | omega)) H1 (by omega) jk6.1 rfl rfl (Nat.le_of_ble_eq_true rfl) (Nat.le_of_ble_eq_true rfl) ⟨Nat.le_refl _, Nat.le_refl _⟩ ?_
  refine J_if_eqB (tgt := 22) dX7_isPlace_8 (by decide) (fun c1 => ?_) (fun c1 => ?_)
  · skip
    refine J_iconst (v := nI 0) dX7_isPlace_22 (by decide +kernel) ?_
    exact J_zret dX7_isPlace_23 rfl rfl ⟨Nat.le_refl _, Nat.le_refl _⟩ (by rw [hPP]; exact ⟨(congrArg some (Option.some.inj (jret_B0 (by omega)))), rfl, rfl⟩)
  · skip
    refine J_iload_n dX7_isPlace_11 rfl ?_
    refine J_callSr (M' := mX7_isTemper) (d' := (2, 0, 0)) (rest := []) dX7_isPlace_12 jmX7_isTemper jlRX7_163 (ctX7_isTemper t   (by first | assumption | omega)) rfl rfl (Nat.le_of_ble_eq_true rfl) (Nat.le_of_ble_eq_true rfl) ⟨Nat.le_refl _, Nat.le_refl _⟩ ?_
    refine J_if_eqB (tgt := 22) dX7_isPlace_15 (by decide) (fun c2 => ?_) (fun c2 => ?_)
    · skip
      refine J_iconst (v := nI 0) dX7_isPlace_22 (by decide +kernel) ?_
      exact J_zret dX7_isPlace_23 rfl rfl ⟨Nat.le_refl _, Nat.le_refl _⟩ (by rw [hPP]; exact ⟨(congrArg some (Option.some.inj (jret_B0 (by omega)))), rfl, rfl⟩)
    · skip
      refine J_iconst (v := nI 1) dX7_isPlace_18 (by decide +kernel) ?_
      refine J_goto (tgt := 23) dX7_isPlace_19 (by decide) ?_
      exact J_zret dX7_isPlace_23 rfl rfl ⟨Nat.le_refl _, Nat.le_refl _⟩ (by rw [hPP]; exact ⟨(congrArg some (Option.some.inj (jret_B1 (by omega)))), rfl, rfl⟩)

set_option maxHeartbeats 1000000 in
set_option maxRecDepth 100000 in
theorem ctX7_refuse2 {E : jE} {h : Nat → va_E} {n : Nat} (ab : Nat) (be : Nat) (bd : Nat) (no : Nat) (fu : Nat) (H0 : h 0 = .inr (6, [.ref (E.1 + 1), .ref (E.1 + 12), .ref (E.1 + 23), .ref (E.1 + 24), .ref (E.1 + 30), .ref (E.1 + 34), .ref (E.1 + 37), .int (nI ab), .int (nI be), .int (nI bd), .int (nI no), .int (nI fu)])) (hn : 38 ≤ n) : jC E mX7_refuse (1, 0, 0) [.ref (E.1 + 0), .int (-2)] h n (jR (some (.int (-2))) (hset h 0 (.inr (6, [.ref (E.1 + 1), .ref (E.1 + 12), .ref (E.1 + 23), .ref (E.1 + 24), .ref (E.1 + 30), .ref (E.1 + 34), .ref (E.1 + 37), .int (nI ab), .int (nI be), .int (nI (bd + 1)), .int (nI no), .int (nI fu)]))) n) := by
  refine J.of (L := [(0, .ref (E.1 + 0)), (1, .int (-2))]) rfl (by decide +kernel) (Nat.le_of_ble_eq_true rfl) ?_
  obtain ⟨PP, hPP⟩ : ∃ PP : jPost, PP = (jR (some (.int (-2))) (hset h 0 (.inr (6, [.ref (E.1 + 1), .ref (E.1 + 12), .ref (E.1 + 23), .ref (E.1 + 24), .ref (E.1 + 30), .ref (E.1 + 34), .ref (E.1 + 37), .int (nI ab), .int (nI be), .int (nI (bd + 1)), .int (nI no), .int (nI fu)]))) n) := ⟨_, rfl⟩
  rw [← hPP]
  refine J_iload_n dX7_refuse_0 rfl ?_
  refine J_lookup (tgt := 28) dX7_refuse_1 (by decide +kernel) (off := 27) (by decide +kernel) (by decide) ?_
  refine J_aload_n dX7_refuse_28 rfl ?_
  refine J_dup dX7_refuse_29 rfl ?_
  refine J_get 9 dX7_refuse_30 jk7 (Nat.le_of_ble_eq_true rfl) jfRX7_239 H0 (by omega) rfl ?_
  refine J_iconst (v := nI 1) dX7_refuse_33 (by decide +kernel) ?_
  refine J_iaddN dX7_refuse_34 ?_
  refine J_put 9 dX7_refuse_35 jk7 (Nat.le_of_ble_eq_true rfl) jfRX7_239 H0 (by omega) rfl rfl rfl (Nat.le_of_ble_eq_true rfl) ?_
  refine J.cast (h' := (hset h 0 (.inr (6, [.ref (E.1 + 1), .ref (E.1 + 12), .ref (E.1 + 23), .ref (E.1 + 24), .ref (E.1 + 30), .ref (E.1 + 34), .ref (E.1 + 37), .int (nI ab), .int (nI be), .int (nI (bd + 1)), .int (nI no), .int (nI fu)])))) rfl ?_
  refine J_goto (tgt := 64) dX7_refuse_38 (by decide) ?_
  refine J_iload_n dX7_refuse_64 rfl ?_
  exact J_iret dX7_refuse_65 rfl ⟨Nat.le_refl _, Nat.le_refl _⟩ (by rw [hPP]; exact ⟨rfl, rfl, rfl⟩)

set_option maxHeartbeats 1000000 in
set_option maxRecDepth 100000 in
theorem ctX7_refuse3 {E : jE} {h : Nat → va_E} {n : Nat} (ab : Nat) (be : Nat) (bd : Nat) (no : Nat) (fu : Nat) (H0 : h 0 = .inr (6, [.ref (E.1 + 1), .ref (E.1 + 12), .ref (E.1 + 23), .ref (E.1 + 24), .ref (E.1 + 30), .ref (E.1 + 34), .ref (E.1 + 37), .int (nI ab), .int (nI be), .int (nI bd), .int (nI no), .int (nI fu)])) (hn : 38 ≤ n) : jC E mX7_refuse (1, 0, 0) [.ref (E.1 + 0), .int (-3)] h n (jR (some (.int (-3))) (hset h 0 (.inr (6, [.ref (E.1 + 1), .ref (E.1 + 12), .ref (E.1 + 23), .ref (E.1 + 24), .ref (E.1 + 30), .ref (E.1 + 34), .ref (E.1 + 37), .int (nI ab), .int (nI be), .int (nI bd), .int (nI (no + 1)), .int (nI fu)]))) n) := by
  refine J.of (L := [(0, .ref (E.1 + 0)), (1, .int (-3))]) rfl (by decide +kernel) (Nat.le_of_ble_eq_true rfl) ?_
  obtain ⟨PP, hPP⟩ : ∃ PP : jPost, PP = (jR (some (.int (-3))) (hset h 0 (.inr (6, [.ref (E.1 + 1), .ref (E.1 + 12), .ref (E.1 + 23), .ref (E.1 + 24), .ref (E.1 + 30), .ref (E.1 + 34), .ref (E.1 + 37), .int (nI ab), .int (nI be), .int (nI bd), .int (nI (no + 1)), .int (nI fu)]))) n) := ⟨_, rfl⟩
  rw [← hPP]
  refine J_iload_n dX7_refuse_0 rfl ?_
  refine J_lookup (tgt := 41) dX7_refuse_1 (by decide +kernel) (off := 40) (by decide +kernel) (by decide) ?_
  refine J_aload_n dX7_refuse_41 rfl ?_
  refine J_dup dX7_refuse_42 rfl ?_
  refine J_get 10 dX7_refuse_43 jk7 (Nat.le_of_ble_eq_true rfl) jfRX7_242 H0 (by omega) rfl ?_
  refine J_iconst (v := nI 1) dX7_refuse_46 (by decide +kernel) ?_
  refine J_iaddN dX7_refuse_47 ?_
  refine J_put 10 dX7_refuse_48 jk7 (Nat.le_of_ble_eq_true rfl) jfRX7_242 H0 (by omega) rfl rfl rfl (Nat.le_of_ble_eq_true rfl) ?_
  refine J.cast (h' := (hset h 0 (.inr (6, [.ref (E.1 + 1), .ref (E.1 + 12), .ref (E.1 + 23), .ref (E.1 + 24), .ref (E.1 + 30), .ref (E.1 + 34), .ref (E.1 + 37), .int (nI ab), .int (nI be), .int (nI bd), .int (nI (no + 1)), .int (nI fu)])))) rfl ?_
  refine J_goto (tgt := 64) dX7_refuse_51 (by decide) ?_
  refine J_iload_n dX7_refuse_64 rfl ?_
  exact J_iret dX7_refuse_65 rfl ⟨Nat.le_refl _, Nat.le_refl _⟩ (by rw [hPP]; exact ⟨rfl, rfl, rfl⟩)

set_option maxHeartbeats 1000000 in
set_option maxRecDepth 100000 in
theorem ctX7_refuse4 {E : jE} {h : Nat → va_E} {n : Nat} (ab : Nat) (be : Nat) (bd : Nat) (no : Nat) (fu : Nat) (H0 : h 0 = .inr (6, [.ref (E.1 + 1), .ref (E.1 + 12), .ref (E.1 + 23), .ref (E.1 + 24), .ref (E.1 + 30), .ref (E.1 + 34), .ref (E.1 + 37), .int (nI ab), .int (nI be), .int (nI bd), .int (nI no), .int (nI fu)])) (hn : 38 ≤ n) : jC E mX7_refuse (1, 0, 0) [.ref (E.1 + 0), .int (-4)] h n (jR (some (.int (-4))) (hset h 0 (.inr (6, [.ref (E.1 + 1), .ref (E.1 + 12), .ref (E.1 + 23), .ref (E.1 + 24), .ref (E.1 + 30), .ref (E.1 + 34), .ref (E.1 + 37), .int (nI ab), .int (nI be), .int (nI bd), .int (nI no), .int (nI (fu + 1))]))) n) := by
  refine J.of (L := [(0, .ref (E.1 + 0)), (1, .int (-4))]) rfl (by decide +kernel) (Nat.le_of_ble_eq_true rfl) ?_
  obtain ⟨PP, hPP⟩ : ∃ PP : jPost, PP = (jR (some (.int (-4))) (hset h 0 (.inr (6, [.ref (E.1 + 1), .ref (E.1 + 12), .ref (E.1 + 23), .ref (E.1 + 24), .ref (E.1 + 30), .ref (E.1 + 34), .ref (E.1 + 37), .int (nI ab), .int (nI be), .int (nI bd), .int (nI no), .int (nI (fu + 1))]))) n) := ⟨_, rfl⟩
  rw [← hPP]
  refine J_iload_n dX7_refuse_0 rfl ?_
  refine J_lookup (tgt := 54) dX7_refuse_1 (by decide +kernel) (off := 53) (by decide +kernel) (by decide) ?_
  refine J_aload_n dX7_refuse_54 rfl ?_
  refine J_dup dX7_refuse_55 rfl ?_
  refine J_get 11 dX7_refuse_56 jk7 (Nat.le_of_ble_eq_true rfl) jfRX7_245 H0 (by omega) rfl ?_
  refine J_iconst (v := nI 1) dX7_refuse_59 (by decide +kernel) ?_
  refine J_iaddN dX7_refuse_60 ?_
  refine J_put 11 dX7_refuse_61 jk7 (Nat.le_of_ble_eq_true rfl) jfRX7_245 H0 (by omega) rfl rfl rfl (Nat.le_of_ble_eq_true rfl) ?_
  refine J.cast (h' := (hset h 0 (.inr (6, [.ref (E.1 + 1), .ref (E.1 + 12), .ref (E.1 + 23), .ref (E.1 + 24), .ref (E.1 + 30), .ref (E.1 + 34), .ref (E.1 + 37), .int (nI ab), .int (nI be), .int (nI bd), .int (nI no), .int (nI (fu + 1))])))) rfl ?_
  refine J_iload_n dX7_refuse_64 rfl ?_
  exact J_iret dX7_refuse_65 rfl ⟨Nat.le_refl _, Nat.le_refl _⟩ (by rw [hPP]; exact ⟨rfl, rfl, rfl⟩)

set_option maxHeartbeats 1000000 in
set_option maxRecDepth 100000 in
theorem ctX7_refuseTenBelow {E : jE} {h : Nat → va_E} {n : Nat} (ab : Nat) (be : Nat) (bd : Nat) (no : Nat) (fu : Nat) (H0 : h 0 = .inr (6, [.ref (E.1 + 1), .ref (E.1 + 12), .ref (E.1 + 23), .ref (E.1 + 24), .ref (E.1 + 30), .ref (E.1 + 34), .ref (E.1 + 37), .int (nI ab), .int (nI be), .int (nI bd), .int (nI no), .int (nI fu)])) (hn : 38 ≤ n) : jC E mX7_refuseTenBelow (2, 0, 0) [.ref (E.1 + 0)] h n (jR (some (.int (-10))) (hset h 0 (.inr (6, [.ref (E.1 + 1), .ref (E.1 + 12), .ref (E.1 + 23), .ref (E.1 + 24), .ref (E.1 + 30), .ref (E.1 + 34), .ref (E.1 + 37), .int (nI ab), .int (nI be), .int (nI (bd + 1)), .int (nI no), .int (nI fu)]))) n) := by
  refine J.of (L := [(0, .ref (E.1 + 0))]) rfl (by decide +kernel) (Nat.le_of_ble_eq_true rfl) ?_
  obtain ⟨PP, hPP⟩ : ∃ PP : jPost, PP = (jR (some (.int (-10))) (hset h 0 (.inr (6, [.ref (E.1 + 1), .ref (E.1 + 12), .ref (E.1 + 23), .ref (E.1 + 24), .ref (E.1 + 30), .ref (E.1 + 34), .ref (E.1 + 37), .int (nI ab), .int (nI be), .int (nI (bd + 1)), .int (nI no), .int (nI fu)]))) n) := ⟨_, rfl⟩
  rw [← hPP]
  refine J_aload_n dX7_refuseTenBelow_0 rfl ?_
  refine J_bipush (v := (-2)) dX7_refuseTenBelow_1 (by decide +kernel) ?_
  refine J_callVr (M' := mX7_refuse) (d' := (1, 0, 0)) (rest := []) dX7_refuseTenBelow_3 jmX7_refuse jlRX7_59 (ctX7_refuse2 ab be bd no fu H0 (by omega) ) H0 (by omega) jk7.1 rfl rfl (Nat.le_of_ble_eq_true rfl) (Nat.le_of_ble_eq_true rfl) ⟨Nat.le_refl _, Nat.le_refl _⟩ ?_
  refine J_pop dX7_refuseTenBelow_6 rfl ?_
  refine J_bipush (v := (-10)) dX7_refuseTenBelow_7 (by decide +kernel) ?_
  exact J_iret dX7_refuseTenBelow_9 rfl ⟨Nat.le_refl _, Nat.le_refl _⟩ (by rw [hPP]; exact ⟨rfl, rfl, rfl⟩)

set_option maxHeartbeats 1000000 in
set_option maxRecDepth 100000 in
theorem ctX7_street_bad {E : jE} {h : Nat → va_E} {n : Nat} (x : Nat) (ab : Nat) (be : Nat) (bd : Nat) (no : Nat) (fu : Nat) (H0 : h 0 = .inr (6, [.ref (E.1 + 1), .ref (E.1 + 12), .ref (E.1 + 23), .ref (E.1 + 24), .ref (E.1 + 30), .ref (E.1 + 34), .ref (E.1 + 37), .int (nI ab), .int (nI be), .int (nI bd), .int (nI no), .int (nI fu)])) (hn : 38 ≤ n) (h32x : x < 2 ^ 32) (hbad : ¬ x ≤ 9) : jC E mX7_street (3, 0, 0) [.ref (E.1 + 0), .int (nI x)] h n (jR (some (.int (-2))) (hset h 0 (.inr (6, [.ref (E.1 + 1), .ref (E.1 + 12), .ref (E.1 + 23), .ref (E.1 + 24), .ref (E.1 + 30), .ref (E.1 + 34), .ref (E.1 + 37), .int (nI ab), .int (nI be), .int (nI (bd + 1)), .int (nI no), .int (nI fu)]))) n) := by
  refine J.of (L := [(0, .ref (E.1 + 0)), (1, .int (nI x))]) rfl (by decide +kernel) (Nat.le_of_ble_eq_true rfl) ?_
  obtain ⟨PP, hPP⟩ : ∃ PP : jPost, PP = (jR (some (.int (-2))) (hset h 0 (.inr (6, [.ref (E.1 + 1), .ref (E.1 + 12), .ref (E.1 + 23), .ref (E.1 + 24), .ref (E.1 + 30), .ref (E.1 + 34), .ref (E.1 + 37), .int (nI ab), .int (nI be), .int (nI (bd + 1)), .int (nI no), .int (nI fu)]))) n) := ⟨_, rfl⟩
  rw [← hPP]
  refine J_iload_n dX7_street_0 rfl ?_
  refine J_callSr (M' := mX7_isHand) (d' := (2, 0, 0)) (rest := []) dX7_street_1 jmX7_isHand jlRX7_55 (ctX7_isHand x   (by first | assumption | omega)) rfl rfl (Nat.le_of_ble_eq_true rfl) (Nat.le_of_ble_eq_true rfl) ⟨Nat.le_refl _, Nat.le_refl _⟩ ?_
  refine J_if_neB (tgt := 14) dX7_street_4 (by decide) (fun c1 => (by exfalso; omega)) (fun c1 => ?_)
  refine J_aload_n dX7_street_7 rfl ?_
  refine J_bipush (v := (-2)) dX7_street_8 (by decide +kernel) ?_
  refine J_callVr (M' := mX7_refuse) (d' := (1, 0, 0)) (rest := []) dX7_street_10 jmX7_refuse jlRX7_59 (ctX7_refuse2 ab be bd no fu H0 (by omega) ) H0 (by omega) jk7.1 rfl rfl (Nat.le_of_ble_eq_true rfl) (Nat.le_of_ble_eq_true rfl) ⟨Nat.le_refl _, Nat.le_refl _⟩ ?_
  exact J_iret dX7_street_13 rfl ⟨Nat.le_refl _, Nat.le_refl _⟩ (by rw [hPP]; exact ⟨rfl, rfl, rfl⟩)

set_option maxHeartbeats 1000000 in
set_option maxRecDepth 100000 in
theorem ctX7_street {E : jE} {h : Nat → va_E} {n : Nat} (x : Nat) (an : Nat) (td : Nat) (gr : Nat) (nn : Nat) (cn : Nat) (ps : Nat) (ab : Nat) (be : Nat) (bd : Nat) (no : Nat) (fu : Nat) (H0 : h 0 = .inr (6, [.ref (E.1 + 1), .ref (E.1 + 12), .ref (E.1 + 23), .ref (E.1 + 24), .ref (E.1 + 30), .ref (E.1 + 34), .ref (E.1 + 37), .int (nI ab), .int (nI be), .int (nI bd), .int (nI no), .int (nI fu)])) (H1 : h 1 = .inr (5, [.ref (E.1 + 2), .ref (E.1 + 3), .ref (E.1 + 4), .ref (E.1 + 6), .ref (E.1 + 8), .int (nI an), .int (nI td), .int (nI gr)])) (H2 : h 4 = .inr (3, [.ref (E.1 + 5), .int (nI nn)])) (H3 : h 6 = .inr (3, [.ref (E.1 + 7), .int (nI cn)])) (H4 : h 8 = .inr (1, [.ref (E.1 + 9), .ref (E.1 + 10), .ref (E.1 + 11), .int (nI ps)])) (hn : 38 ≤ n) (hx : x ≤ 9) : jC E mX7_street (3, 0, 0) [.ref (E.1 + 0), .int (nI x)] h n (jR (some (.int (nI an))) (hset (hset (hset (hset h 1 (.inr (5, [.ref (E.1 + 2), .ref (E.1 + 3), .ref (E.1 + 4), .ref (E.1 + 6), .ref (E.1 + 8), .int (nI 0), .int (nI 0), .int (nI x)]))) 4 (.inr (3, [.ref (E.1 + 5), .int (nI 0)]))) 6 (.inr (3, [.ref (E.1 + 7), .int (nI 0)]))) 8 (.inr (1, [.ref (E.1 + 9), .ref (E.1 + 10), .ref (E.1 + 11), .int (nI 0)]))) n) := by
  refine J.of (L := [(0, .ref (E.1 + 0)), (1, .int (nI x))]) rfl (by decide +kernel) (Nat.le_of_ble_eq_true rfl) ?_
  obtain ⟨PP, hPP⟩ : ∃ PP : jPost, PP = (jR (some (.int (nI an))) (hset (hset (hset (hset h 1 (.inr (5, [.ref (E.1 + 2), .ref (E.1 + 3), .ref (E.1 + 4), .ref (E.1 + 6), .ref (E.1 + 8), .int (nI 0), .int (nI 0), .int (nI x)]))) 4 (.inr (3, [.ref (E.1 + 5), .int (nI 0)]))) 6 (.inr (3, [.ref (E.1 + 7), .int (nI 0)]))) 8 (.inr (1, [.ref (E.1 + 9), .ref (E.1 + 10), .ref (E.1 + 11), .int (nI 0)]))) n) := ⟨_, rfl⟩
  rw [← hPP]
  refine J_iload_n dX7_street_0 rfl ?_
  refine J_callSr (M' := mX7_isHand) (d' := (2, 0, 0)) (rest := []) dX7_street_1 jmX7_isHand jlRX7_55 (ctX7_isHand x   (by first | assumption | omega)) rfl rfl (Nat.le_of_ble_eq_true rfl) (Nat.le_of_ble_eq_true rfl) ⟨Nat.le_refl _, Nat.le_refl _⟩ ?_
  refine J_if_neB (tgt := 14) dX7_street_4 (by decide) (fun c1 => ?_) (fun c1 => (by exfalso; omega))
  refine J_aload_n dX7_street_14 rfl ?_
  refine J_get 0 dX7_street_15 jk7 (Nat.le_of_ble_eq_true rfl) jfRX7_10 H0 (by omega) rfl ?_
  refine J_get 5 dX7_street_18 jk6 (Nat.le_of_ble_eq_true rfl) jfRX7_63 H1 (by omega) rfl ?_
  refine J_istore_n dX7_street_21 (Nat.le_of_ble_eq_true rfl) (L' := [(2, .int (nI an)), (0, .ref (E.1 + 0)), (1, .int (nI x))]) rfl ?_
  refine J_aload_n dX7_street_22 rfl ?_
  refine J_get 0 dX7_street_23 jk7 (Nat.le_of_ble_eq_true rfl) jfRX7_10 H0 (by omega) rfl ?_
  refine J_iload_n dX7_street_26 rfl ?_
  refine J_callVn (M' := mX6_begin) (d' := (1, 0, 0)) (rest := []) dX7_street_27 jmX6_begin jlRX7_66 (ctX6_begin 1 x an td gr nn cn ps H1 H2 H3 H4 (by omega) ) H1 (by omega) jk6.1 rfl rfl (Nat.le_of_ble_eq_true rfl) (Nat.le_of_ble_eq_true rfl) ⟨Nat.le_refl _, Nat.le_refl _⟩ ?_
  refine J_iload_n dX7_street_30 rfl ?_
  exact J_iret dX7_street_31 rfl ⟨Nat.le_refl _, Nat.le_refl _⟩ (by rw [hPP]; exact ⟨rfl, rfl, rfl⟩)

set_option maxHeartbeats 1000000 in
set_option maxRecDepth 100000 in
theorem ctX7_anvil_bad {E : jE} {h : Nat → va_E} {n : Nat} (x : Nat) (y0 : Nat) (y1 : Nat) (y2 : Nat) (y3 : Nat) (ab : Nat) (be : Nat) (bd : Nat) (no : Nat) (fu : Nat) (H0 : h 0 = .inr (6, [.ref (E.1 + 1), .ref (E.1 + 12), .ref (E.1 + 23), .ref (E.1 + 24), .ref (E.1 + 30), .ref (E.1 + 34), .ref (E.1 + 37), .int (nI ab), .int (nI be), .int (nI bd), .int (nI no), .int (nI fu)])) (hn : 38 ≤ n) (h32x : x < 2 ^ 32) (h32y0 : y0 < 2 ^ 32) (h32y1 : y1 < 2 ^ 32) (h32y2 : y2 < 2 ^ 32) (h32y3 : y3 < 2 ^ 32) (hbad : ¬ (x ≤ 5 ∧ y0 ≤ 20 ∧ y1 ≤ 20 ∧ y2 ≤ 20 ∧ y3 ≤ 20)) : jC E mX7_anvil (3, 0, 0) [.ref (E.1 + 0), .int (nI x), .int (nI y0), .int (nI y1), .int (nI y2), .int (nI y3)] h n (jR (some (.int (-2))) (hset h 0 (.inr (6, [.ref (E.1 + 1), .ref (E.1 + 12), .ref (E.1 + 23), .ref (E.1 + 24), .ref (E.1 + 30), .ref (E.1 + 34), .ref (E.1 + 37), .int (nI ab), .int (nI be), .int (nI (bd + 1)), .int (nI no), .int (nI fu)]))) n) := by
  refine J.of (L := [(0, .ref (E.1 + 0)), (1, .int (nI x)), (2, .int (nI y0)), (3, .int (nI y1)), (4, .int (nI y2)), (5, .int (nI y3))]) rfl (by decide +kernel) (Nat.le_of_ble_eq_true rfl) ?_
  obtain ⟨PP, hPP⟩ : ∃ PP : jPost, PP = (jR (some (.int (-2))) (hset h 0 (.inr (6, [.ref (E.1 + 1), .ref (E.1 + 12), .ref (E.1 + 23), .ref (E.1 + 24), .ref (E.1 + 30), .ref (E.1 + 34), .ref (E.1 + 37), .int (nI ab), .int (nI be), .int (nI (bd + 1)), .int (nI no), .int (nI fu)]))) n) := ⟨_, rfl⟩
  rw [← hPP]
  refine J_iload_n dX7_anvil_0 rfl ?_
  refine J_iconst (v := nI 0) dX7_anvil_1 (by decide +kernel) ?_
  refine J_iconst (v := nI 5) dX7_anvil_2 (by decide +kernel) ?_
  refine J_callSr (M' := mX7_isWithin) (d' := (1, 0, 0)) (rest := []) dX7_anvil_3 jmX7_isWithin jlRX7_70 (ctX7_isWithin x 0 5   (by first | assumption | omega) (by first | assumption | omega) (by first | assumption | omega)) rfl rfl (Nat.le_of_ble_eq_true rfl) (Nat.le_of_ble_eq_true rfl) ⟨Nat.le_refl _, Nat.le_refl _⟩ ?_
  refine J_if_eqB (tgt := 39) dX7_anvil_6 (by decide) (fun c1 => ?_) (fun c1 => ?_)
  · skip
    refine J_aload_n dX7_anvil_39 rfl ?_
    refine J_bipush (v := (-2)) dX7_anvil_40 (by decide +kernel) ?_
    refine J_callVr (M' := mX7_refuse) (d' := (1, 0, 0)) (rest := []) dX7_anvil_42 jmX7_refuse jlRX7_59 (ctX7_refuse2 ab be bd no fu H0 (by omega) ) H0 (by omega) jk7.1 rfl rfl (Nat.le_of_ble_eq_true rfl) (Nat.le_of_ble_eq_true rfl) ⟨Nat.le_refl _, Nat.le_refl _⟩ ?_
    exact J_iret dX7_anvil_45 rfl ⟨Nat.le_refl _, Nat.le_refl _⟩ (by rw [hPP]; exact ⟨rfl, rfl, rfl⟩)
  · skip
    refine J_iload_n dX7_anvil_9 rfl ?_
    refine J_callSr (M' := mX7_isMemory) (d' := (2, 0, 0)) (rest := []) dX7_anvil_10 jmX7_isMemory jlRX7_74 (ctX7_isMemory y0   (by first | assumption | omega)) rfl rfl (Nat.le_of_ble_eq_true rfl) (Nat.le_of_ble_eq_true rfl) ⟨Nat.le_refl _, Nat.le_refl _⟩ ?_
    refine J_if_eqB (tgt := 39) dX7_anvil_13 (by decide) (fun c2 => ?_) (fun c2 => ?_)
    · skip
      refine J_aload_n dX7_anvil_39 rfl ?_
      refine J_bipush (v := (-2)) dX7_anvil_40 (by decide +kernel) ?_
      refine J_callVr (M' := mX7_refuse) (d' := (1, 0, 0)) (rest := []) dX7_anvil_42 jmX7_refuse jlRX7_59 (ctX7_refuse2 ab be bd no fu H0 (by omega) ) H0 (by omega) jk7.1 rfl rfl (Nat.le_of_ble_eq_true rfl) (Nat.le_of_ble_eq_true rfl) ⟨Nat.le_refl _, Nat.le_refl _⟩ ?_
      exact J_iret dX7_anvil_45 rfl ⟨Nat.le_refl _, Nat.le_refl _⟩ (by rw [hPP]; exact ⟨rfl, rfl, rfl⟩)
    · skip
      refine J_iload_n dX7_anvil_16 rfl ?_
      refine J_callSr (M' := mX7_isMemory) (d' := (2, 0, 0)) (rest := []) dX7_anvil_17 jmX7_isMemory jlRX7_74 (ctX7_isMemory y1   (by first | assumption | omega)) rfl rfl (Nat.le_of_ble_eq_true rfl) (Nat.le_of_ble_eq_true rfl) ⟨Nat.le_refl _, Nat.le_refl _⟩ ?_
      refine J_if_eqB (tgt := 39) dX7_anvil_20 (by decide) (fun c3 => ?_) (fun c3 => ?_)
      · skip
        refine J_aload_n dX7_anvil_39 rfl ?_
        refine J_bipush (v := (-2)) dX7_anvil_40 (by decide +kernel) ?_
        refine J_callVr (M' := mX7_refuse) (d' := (1, 0, 0)) (rest := []) dX7_anvil_42 jmX7_refuse jlRX7_59 (ctX7_refuse2 ab be bd no fu H0 (by omega) ) H0 (by omega) jk7.1 rfl rfl (Nat.le_of_ble_eq_true rfl) (Nat.le_of_ble_eq_true rfl) ⟨Nat.le_refl _, Nat.le_refl _⟩ ?_
        exact J_iret dX7_anvil_45 rfl ⟨Nat.le_refl _, Nat.le_refl _⟩ (by rw [hPP]; exact ⟨rfl, rfl, rfl⟩)
      · skip
        refine J_iload dX7_anvil_23 rfl ?_
        refine J_callSr (M' := mX7_isMemory) (d' := (2, 0, 0)) (rest := []) dX7_anvil_25 jmX7_isMemory jlRX7_74 (ctX7_isMemory y2   (by first | assumption | omega)) rfl rfl (Nat.le_of_ble_eq_true rfl) (Nat.le_of_ble_eq_true rfl) ⟨Nat.le_refl _, Nat.le_refl _⟩ ?_
        refine J_if_eqB (tgt := 39) dX7_anvil_28 (by decide) (fun c4 => ?_) (fun c4 => ?_)
        · skip
          refine J_aload_n dX7_anvil_39 rfl ?_
          refine J_bipush (v := (-2)) dX7_anvil_40 (by decide +kernel) ?_
          refine J_callVr (M' := mX7_refuse) (d' := (1, 0, 0)) (rest := []) dX7_anvil_42 jmX7_refuse jlRX7_59 (ctX7_refuse2 ab be bd no fu H0 (by omega) ) H0 (by omega) jk7.1 rfl rfl (Nat.le_of_ble_eq_true rfl) (Nat.le_of_ble_eq_true rfl) ⟨Nat.le_refl _, Nat.le_refl _⟩ ?_
          exact J_iret dX7_anvil_45 rfl ⟨Nat.le_refl _, Nat.le_refl _⟩ (by rw [hPP]; exact ⟨rfl, rfl, rfl⟩)
        · skip
          refine J_iload dX7_anvil_31 rfl ?_
          refine J_callSr (M' := mX7_isMemory) (d' := (2, 0, 0)) (rest := []) dX7_anvil_33 jmX7_isMemory jlRX7_74 (ctX7_isMemory y3   (by first | assumption | omega)) rfl rfl (Nat.le_of_ble_eq_true rfl) (Nat.le_of_ble_eq_true rfl) ⟨Nat.le_refl _, Nat.le_refl _⟩ ?_
          refine J_if_neB (tgt := 46) dX7_anvil_36 (by decide) (fun c5 => (by exfalso; omega)) (fun c5 => ?_)
          refine J_aload_n dX7_anvil_39 rfl ?_
          refine J_bipush (v := (-2)) dX7_anvil_40 (by decide +kernel) ?_
          refine J_callVr (M' := mX7_refuse) (d' := (1, 0, 0)) (rest := []) dX7_anvil_42 jmX7_refuse jlRX7_59 (ctX7_refuse2 ab be bd no fu H0 (by omega) ) H0 (by omega) jk7.1 rfl rfl (Nat.le_of_ble_eq_true rfl) (Nat.le_of_ble_eq_true rfl) ⟨Nat.le_refl _, Nat.le_refl _⟩ ?_
          exact J_iret dX7_anvil_45 rfl ⟨Nat.le_refl _, Nat.le_refl _⟩ (by rw [hPP]; exact ⟨rfl, rfl, rfl⟩)

set_option maxHeartbeats 1000000 in
set_option maxRecDepth 100000 in
theorem ctX7_anvil_full {E : jE} {h : Nat → va_E} {n : Nat} (x : Nat) (y0 : Nat) (y1 : Nat) (y2 : Nat) (y3 : Nat) (an : Nat) (td : Nat) (gr : Nat) (K : Nat → Nat) (M : Nat → Nat) (ps : Nat) (ab : Nat) (be : Nat) (bd : Nat) (no : Nat) (fu : Nat) (H0 : h 0 = .inr (6, [.ref (E.1 + 1), .ref (E.1 + 12), .ref (E.1 + 23), .ref (E.1 + 24), .ref (E.1 + 30), .ref (E.1 + 34), .ref (E.1 + 37), .int (nI ab), .int (nI be), .int (nI bd), .int (nI no), .int (nI fu)])) (H1 : h 1 = .inr (5, [.ref (E.1 + 2), .ref (E.1 + 3), .ref (E.1 + 4), .ref (E.1 + 6), .ref (E.1 + 8), .int (nI an), .int (nI td), .int (nI gr)])) (H2 : h 2 = cI E 4 (nF K)) (H3 : h 3 = cI E 16 (nF M)) (H4 : h 8 = .inr (1, [.ref (E.1 + 9), .ref (E.1 + 10), .ref (E.1 + 11), .int (nI ps)])) (hn : 38 ≤ n) (hx : x ≤ 5) (h0 : y0 ≤ 20) (h1 : y1 ≤ 20) (h2 : y2 ≤ 20) (h3 : y3 ≤ 20) (han : an = 4) : jC E mX7_anvil (3, 0, 0) [.ref (E.1 + 0), .int (nI x), .int (nI y0), .int (nI y1), .int (nI y2), .int (nI y3)] h n (jR (some (.int (-4))) (hset h 0 (.inr (6, [.ref (E.1 + 1), .ref (E.1 + 12), .ref (E.1 + 23), .ref (E.1 + 24), .ref (E.1 + 30), .ref (E.1 + 34), .ref (E.1 + 37), .int (nI ab), .int (nI be), .int (nI bd), .int (nI no), .int (nI (fu + 1))]))) n) := by
  refine J.of (L := [(0, .ref (E.1 + 0)), (1, .int (nI x)), (2, .int (nI y0)), (3, .int (nI y1)), (4, .int (nI y2)), (5, .int (nI y3))]) rfl (by decide +kernel) (Nat.le_of_ble_eq_true rfl) ?_
  obtain ⟨PP, hPP⟩ : ∃ PP : jPost, PP = (jR (some (.int (-4))) (hset h 0 (.inr (6, [.ref (E.1 + 1), .ref (E.1 + 12), .ref (E.1 + 23), .ref (E.1 + 24), .ref (E.1 + 30), .ref (E.1 + 34), .ref (E.1 + 37), .int (nI ab), .int (nI be), .int (nI bd), .int (nI no), .int (nI (fu + 1))]))) n) := ⟨_, rfl⟩
  rw [← hPP]
  refine J_iload_n dX7_anvil_0 rfl ?_
  refine J_iconst (v := nI 0) dX7_anvil_1 (by decide +kernel) ?_
  refine J_iconst (v := nI 5) dX7_anvil_2 (by decide +kernel) ?_
  refine J_callSr (M' := mX7_isWithin) (d' := (1, 0, 0)) (rest := []) dX7_anvil_3 jmX7_isWithin jlRX7_70 (ctX7_isWithin x 0 5   (by first | assumption | omega) (by first | assumption | omega) (by first | assumption | omega)) rfl rfl (Nat.le_of_ble_eq_true rfl) (Nat.le_of_ble_eq_true rfl) ⟨Nat.le_refl _, Nat.le_refl _⟩ ?_
  refine J_if_eqB (tgt := 39) dX7_anvil_6 (by decide) (fun c1 => (by exfalso; omega)) (fun c1 => ?_)
  refine J_iload_n dX7_anvil_9 rfl ?_
  refine J_callSr (M' := mX7_isMemory) (d' := (2, 0, 0)) (rest := []) dX7_anvil_10 jmX7_isMemory jlRX7_74 (ctX7_isMemory y0   (by first | assumption | omega)) rfl rfl (Nat.le_of_ble_eq_true rfl) (Nat.le_of_ble_eq_true rfl) ⟨Nat.le_refl _, Nat.le_refl _⟩ ?_
  refine J_if_eqB (tgt := 39) dX7_anvil_13 (by decide) (fun c2 => (by exfalso; omega)) (fun c2 => ?_)
  refine J_iload_n dX7_anvil_16 rfl ?_
  refine J_callSr (M' := mX7_isMemory) (d' := (2, 0, 0)) (rest := []) dX7_anvil_17 jmX7_isMemory jlRX7_74 (ctX7_isMemory y1   (by first | assumption | omega)) rfl rfl (Nat.le_of_ble_eq_true rfl) (Nat.le_of_ble_eq_true rfl) ⟨Nat.le_refl _, Nat.le_refl _⟩ ?_
  refine J_if_eqB (tgt := 39) dX7_anvil_20 (by decide) (fun c3 => (by exfalso; omega)) (fun c3 => ?_)
  refine J_iload dX7_anvil_23 rfl ?_
  refine J_callSr (M' := mX7_isMemory) (d' := (2, 0, 0)) (rest := []) dX7_anvil_25 jmX7_isMemory jlRX7_74 (ctX7_isMemory y2   (by first | assumption | omega)) rfl rfl (Nat.le_of_ble_eq_true rfl) (Nat.le_of_ble_eq_true rfl) ⟨Nat.le_refl _, Nat.le_refl _⟩ ?_
  refine J_if_eqB (tgt := 39) dX7_anvil_28 (by decide) (fun c4 => (by exfalso; omega)) (fun c4 => ?_)
  refine J_iload dX7_anvil_31 rfl ?_
  refine J_callSr (M' := mX7_isMemory) (d' := (2, 0, 0)) (rest := []) dX7_anvil_33 jmX7_isMemory jlRX7_74 (ctX7_isMemory y3   (by first | assumption | omega)) rfl rfl (Nat.le_of_ble_eq_true rfl) (Nat.le_of_ble_eq_true rfl) ⟨Nat.le_refl _, Nat.le_refl _⟩ ?_
  refine J_if_neB (tgt := 46) dX7_anvil_36 (by decide) (fun c5 => ?_) (fun c5 => (by exfalso; omega))
  refine J_aload_n dX7_anvil_46 rfl ?_
  refine J_get 0 dX7_anvil_47 jk7 (Nat.le_of_ble_eq_true rfl) jfRX7_10 H0 (by omega) rfl ?_
  refine J_get 5 dX7_anvil_50 jk6 (Nat.le_of_ble_eq_true rfl) jfRX7_63 H1 (by omega) rfl ?_
  refine J_iconst (v := nI 4) dX7_anvil_53 (by decide +kernel) ?_
  refine J_icmp_ltN (tgt := 64) dX7_anvil_54 (by decide) (by omega) (by omega) (fun c6 => (by exfalso; omega)) (fun c6 => ?_)
  refine J_aload_n dX7_anvil_57 rfl ?_
  refine J_bipush (v := (-4)) dX7_anvil_58 (by decide +kernel) ?_
  refine J_callVr (M' := mX7_refuse) (d' := (1, 0, 0)) (rest := []) dX7_anvil_60 jmX7_refuse jlRX7_59 (ctX7_refuse4 ab be bd no fu H0 (by omega) ) H0 (by omega) jk7.1 rfl rfl (Nat.le_of_ble_eq_true rfl) (Nat.le_of_ble_eq_true rfl) ⟨Nat.le_refl _, Nat.le_refl _⟩ ?_
  exact J_iret dX7_anvil_63 rfl ⟨Nat.le_refl _, Nat.le_refl _⟩ (by rw [hPP]; exact ⟨rfl, rfl, rfl⟩)

set_option maxHeartbeats 1000000 in
set_option maxRecDepth 100000 in
theorem ctX7_anvil {E : jE} {h : Nat → va_E} {n : Nat} (x : Nat) (y0 : Nat) (y1 : Nat) (y2 : Nat) (y3 : Nat) (an : Nat) (td : Nat) (gr : Nat) (K : Nat → Nat) (M : Nat → Nat) (ps : Nat) (ab : Nat) (be : Nat) (bd : Nat) (no : Nat) (fu : Nat) (H0 : h 0 = .inr (6, [.ref (E.1 + 1), .ref (E.1 + 12), .ref (E.1 + 23), .ref (E.1 + 24), .ref (E.1 + 30), .ref (E.1 + 34), .ref (E.1 + 37), .int (nI ab), .int (nI be), .int (nI bd), .int (nI no), .int (nI fu)])) (H1 : h 1 = .inr (5, [.ref (E.1 + 2), .ref (E.1 + 3), .ref (E.1 + 4), .ref (E.1 + 6), .ref (E.1 + 8), .int (nI an), .int (nI td), .int (nI gr)])) (H2 : h 2 = cI E 4 (nF K)) (H3 : h 3 = cI E 16 (nF M)) (H4 : h 8 = .inr (1, [.ref (E.1 + 9), .ref (E.1 + 10), .ref (E.1 + 11), .int (nI ps)])) (hn : 38 ≤ n) (hx : x ≤ 5) (h0 : y0 ≤ 20) (h1 : y1 ≤ 20) (h2 : y2 ≤ 20) (h3 : y3 ≤ 20) (han : an < 4) : jC E mX7_anvil (3, 0, 0) [.ref (E.1 + 0), .int (nI x), .int (nI y0), .int (nI y1), .int (nI y2), .int (nI y3)] h n (jR (some (.int (nI an))) (hset (hset (hset (hset h 1 (.inr (5, [.ref (E.1 + 2), .ref (E.1 + 3), .ref (E.1 + 4), .ref (E.1 + 6), .ref (E.1 + 8), .int (nI (an + 1)), .int (nI td), .int (nI gr)]))) (1 + 1) (cI E 4 (nF (updN K an x)))) (1 + 2) (cI E 16 (nF (joinM M an y0 y1 y2 y3)))) 8 (.inr (1, [.ref (E.1 + 9), .ref (E.1 + 10), .ref (E.1 + 11), .int (nI 0)]))) n) := by
  refine J.of (L := [(0, .ref (E.1 + 0)), (1, .int (nI x)), (2, .int (nI y0)), (3, .int (nI y1)), (4, .int (nI y2)), (5, .int (nI y3))]) rfl (by decide +kernel) (Nat.le_of_ble_eq_true rfl) ?_
  obtain ⟨PP, hPP⟩ : ∃ PP : jPost, PP = (jR (some (.int (nI an))) (hset (hset (hset (hset h 1 (.inr (5, [.ref (E.1 + 2), .ref (E.1 + 3), .ref (E.1 + 4), .ref (E.1 + 6), .ref (E.1 + 8), .int (nI (an + 1)), .int (nI td), .int (nI gr)]))) (1 + 1) (cI E 4 (nF (updN K an x)))) (1 + 2) (cI E 16 (nF (joinM M an y0 y1 y2 y3)))) 8 (.inr (1, [.ref (E.1 + 9), .ref (E.1 + 10), .ref (E.1 + 11), .int (nI 0)]))) n) := ⟨_, rfl⟩
  rw [← hPP]
  refine J_iload_n dX7_anvil_0 rfl ?_
  refine J_iconst (v := nI 0) dX7_anvil_1 (by decide +kernel) ?_
  refine J_iconst (v := nI 5) dX7_anvil_2 (by decide +kernel) ?_
  refine J_callSr (M' := mX7_isWithin) (d' := (1, 0, 0)) (rest := []) dX7_anvil_3 jmX7_isWithin jlRX7_70 (ctX7_isWithin x 0 5   (by first | assumption | omega) (by first | assumption | omega) (by first | assumption | omega)) rfl rfl (Nat.le_of_ble_eq_true rfl) (Nat.le_of_ble_eq_true rfl) ⟨Nat.le_refl _, Nat.le_refl _⟩ ?_
  refine J_if_eqB (tgt := 39) dX7_anvil_6 (by decide) (fun c1 => (by exfalso; omega)) (fun c1 => ?_)
  refine J_iload_n dX7_anvil_9 rfl ?_
  refine J_callSr (M' := mX7_isMemory) (d' := (2, 0, 0)) (rest := []) dX7_anvil_10 jmX7_isMemory jlRX7_74 (ctX7_isMemory y0   (by first | assumption | omega)) rfl rfl (Nat.le_of_ble_eq_true rfl) (Nat.le_of_ble_eq_true rfl) ⟨Nat.le_refl _, Nat.le_refl _⟩ ?_
  refine J_if_eqB (tgt := 39) dX7_anvil_13 (by decide) (fun c2 => (by exfalso; omega)) (fun c2 => ?_)
  refine J_iload_n dX7_anvil_16 rfl ?_
  refine J_callSr (M' := mX7_isMemory) (d' := (2, 0, 0)) (rest := []) dX7_anvil_17 jmX7_isMemory jlRX7_74 (ctX7_isMemory y1   (by first | assumption | omega)) rfl rfl (Nat.le_of_ble_eq_true rfl) (Nat.le_of_ble_eq_true rfl) ⟨Nat.le_refl _, Nat.le_refl _⟩ ?_
  refine J_if_eqB (tgt := 39) dX7_anvil_20 (by decide) (fun c3 => (by exfalso; omega)) (fun c3 => ?_)
  refine J_iload dX7_anvil_23 rfl ?_
  refine J_callSr (M' := mX7_isMemory) (d' := (2, 0, 0)) (rest := []) dX7_anvil_25 jmX7_isMemory jlRX7_74 (ctX7_isMemory y2   (by first | assumption | omega)) rfl rfl (Nat.le_of_ble_eq_true rfl) (Nat.le_of_ble_eq_true rfl) ⟨Nat.le_refl _, Nat.le_refl _⟩ ?_
  refine J_if_eqB (tgt := 39) dX7_anvil_28 (by decide) (fun c4 => (by exfalso; omega)) (fun c4 => ?_)
  refine J_iload dX7_anvil_31 rfl ?_
  refine J_callSr (M' := mX7_isMemory) (d' := (2, 0, 0)) (rest := []) dX7_anvil_33 jmX7_isMemory jlRX7_74 (ctX7_isMemory y3   (by first | assumption | omega)) rfl rfl (Nat.le_of_ble_eq_true rfl) (Nat.le_of_ble_eq_true rfl) ⟨Nat.le_refl _, Nat.le_refl _⟩ ?_
  refine J_if_neB (tgt := 46) dX7_anvil_36 (by decide) (fun c5 => ?_) (fun c5 => (by exfalso; omega))
  refine J_aload_n dX7_anvil_46 rfl ?_
  refine J_get 0 dX7_anvil_47 jk7 (Nat.le_of_ble_eq_true rfl) jfRX7_10 H0 (by omega) rfl ?_
  refine J_get 5 dX7_anvil_50 jk6 (Nat.le_of_ble_eq_true rfl) jfRX7_63 H1 (by omega) rfl ?_
  refine J_iconst (v := nI 4) dX7_anvil_53 (by decide +kernel) ?_
  refine J_icmp_ltN (tgt := 64) dX7_anvil_54 (by decide) (by omega) (by omega) (fun c6 => ?_) (fun c6 => (by exfalso; omega))
  refine J_aload_n dX7_anvil_64 rfl ?_
  refine J_get 0 dX7_anvil_65 jk7 (Nat.le_of_ble_eq_true rfl) jfRX7_10 H0 (by omega) rfl ?_
  refine J_iload_n dX7_anvil_68 rfl ?_
  refine J_iload_n dX7_anvil_69 rfl ?_
  refine J_iload_n dX7_anvil_70 rfl ?_
  refine J_iload dX7_anvil_71 rfl ?_
  refine J_iload dX7_anvil_73 rfl ?_
  refine J_callVr (M' := mX6_join) (d' := (2, 0, 0)) (rest := []) dX7_anvil_75 jmX6_join jlRX7_77 (ctX6_join 1 x y0 y1 y2 y3 an td gr K M ps H1 H2 H3 H4 (by omega) (by first | assumption | omega)) H1 (by omega) jk6.1 rfl rfl (Nat.le_of_ble_eq_true rfl) (Nat.le_of_ble_eq_true rfl) ⟨Nat.le_refl _, Nat.le_refl _⟩ ?_
  exact J_iret dX7_anvil_78 rfl ⟨Nat.le_refl _, Nat.le_refl _⟩ (by rw [hPP]; exact ⟨rfl, rfl, rfl⟩)

set_option maxHeartbeats 1000000 in
set_option maxRecDepth 100000 in
theorem ctX7_clear {E : jE} {h : Nat → va_E} {n : Nat} (sz : Nat) (tk : Nat) (cu : Nat) (ab : Nat) (be : Nat) (bd : Nat) (no : Nat) (fu : Nat) (H0 : h 0 = .inr (6, [.ref (E.1 + 1), .ref (E.1 + 12), .ref (E.1 + 23), .ref (E.1 + 24), .ref (E.1 + 30), .ref (E.1 + 34), .ref (E.1 + 37), .int (nI ab), .int (nI be), .int (nI bd), .int (nI no), .int (nI fu)])) (H1 : h 24 = .inr (4, [.ref (E.1 + 25), .ref (E.1 + 26), .ref (E.1 + 27), .ref (E.1 + 28), .ref (E.1 + 29), .int (nI sz), .int (nI tk), .int (nI cu)])) (hn : 38 ≤ n) : jC E mX7_clear (1, 0, 0) [.ref (E.1 + 0)] h n (jR (some (.int (nI sz))) (hset h 24 (.inr (4, [.ref (E.1 + 25), .ref (E.1 + 26), .ref (E.1 + 27), .ref (E.1 + 28), .ref (E.1 + 29), .int (nI 0), .int (nI tk), .int (nI cu)]))) n) := by
  refine J.of (L := [(0, .ref (E.1 + 0))]) rfl (by decide +kernel) (Nat.le_of_ble_eq_true rfl) ?_
  obtain ⟨PP, hPP⟩ : ∃ PP : jPost, PP = (jR (some (.int (nI sz))) (hset h 24 (.inr (4, [.ref (E.1 + 25), .ref (E.1 + 26), .ref (E.1 + 27), .ref (E.1 + 28), .ref (E.1 + 29), .int (nI 0), .int (nI tk), .int (nI cu)]))) n) := ⟨_, rfl⟩
  rw [← hPP]
  refine J_aload_n dX7_clear_0 rfl ?_
  refine J_get 3 dX7_clear_1 jk7 (Nat.le_of_ble_eq_true rfl) jfRX7_26 H0 (by omega) rfl ?_
  refine J_get 5 dX7_clear_4 jk5 (Nat.le_of_ble_eq_true rfl) jfRX7_84 H1 (by omega) rfl ?_
  refine J_istore_n dX7_clear_7 (Nat.le_of_ble_eq_true rfl) (L' := [(1, .int (nI sz)), (0, .ref (E.1 + 0))]) rfl ?_
  refine J_aload_n dX7_clear_8 rfl ?_
  refine J_get 3 dX7_clear_9 jk7 (Nat.le_of_ble_eq_true rfl) jfRX7_26 H0 (by omega) rfl ?_
  refine J_iconst (v := nI 0) dX7_clear_12 (by decide +kernel) ?_
  refine J_put 5 dX7_clear_13 jk5 (Nat.le_of_ble_eq_true rfl) jfRX7_84 H1 (by omega) rfl rfl rfl (Nat.le_of_ble_eq_true rfl) ?_
  refine J.cast (h' := (hset h 24 (.inr (4, [.ref (E.1 + 25), .ref (E.1 + 26), .ref (E.1 + 27), .ref (E.1 + 28), .ref (E.1 + 29), .int (nI 0), .int (nI tk), .int (nI cu)])))) rfl ?_
  refine J_iload_n dX7_clear_16 rfl ?_
  exact J_iret dX7_clear_17 rfl ⟨Nat.le_refl _, Nat.le_refl _⟩ (by rw [hPP]; exact ⟨rfl, rfl, rfl⟩)

set_option maxHeartbeats 1000000 in
set_option maxRecDepth 100000 in
theorem ctX7_work_bad {E : jE} {h : Nat → va_E} {n : Nat} (a : Nat) (t : Nat) (bl : Nat) (ab : Nat) (be : Nat) (bd : Nat) (no : Nat) (fu : Nat) (an : Nat) (td : Nat) (gr : Nat) (H0 : h 0 = .inr (6, [.ref (E.1 + 1), .ref (E.1 + 12), .ref (E.1 + 23), .ref (E.1 + 24), .ref (E.1 + 30), .ref (E.1 + 34), .ref (E.1 + 37), .int (nI ab), .int (nI be), .int (nI bd), .int (nI no), .int (nI fu)])) (H1 : h 1 = .inr (5, [.ref (E.1 + 2), .ref (E.1 + 3), .ref (E.1 + 4), .ref (E.1 + 6), .ref (E.1 + 8), .int (nI an), .int (nI td), .int (nI gr)])) (hn : 38 ≤ n) (h32a : a < 2 ^ 32) (h32t : t < 2 ^ 32) (h32bl : bl < 2 ^ 32) (hn4 : an ≤ 4) (hbad : ¬ (a < an ∧ t ≤ 3 ∧ 1 ≤ bl ∧ bl ≤ 5)) : jC E mX7_work (5, 0, 0) [.ref (E.1 + 0), .int (nI a), .int (nI t), .int (nI bl)] h n (jR (some (.int (-2))) (hset h 0 (.inr (6, [.ref (E.1 + 1), .ref (E.1 + 12), .ref (E.1 + 23), .ref (E.1 + 24), .ref (E.1 + 30), .ref (E.1 + 34), .ref (E.1 + 37), .int (nI ab), .int (nI be), .int (nI (bd + 1)), .int (nI no), .int (nI fu)]))) n) := by
  refine J.of (L := [(0, .ref (E.1 + 0)), (1, .int (nI a)), (2, .int (nI t)), (3, .int (nI bl))]) rfl (by decide +kernel) (Nat.le_of_ble_eq_true rfl) ?_
  obtain ⟨PP, hPP⟩ : ∃ PP : jPost, PP = (jR (some (.int (-2))) (hset h 0 (.inr (6, [.ref (E.1 + 1), .ref (E.1 + 12), .ref (E.1 + 23), .ref (E.1 + 24), .ref (E.1 + 30), .ref (E.1 + 34), .ref (E.1 + 37), .int (nI ab), .int (nI be), .int (nI (bd + 1)), .int (nI no), .int (nI fu)]))) n) := ⟨_, rfl⟩
  rw [← hPP]
  refine J_aload_n dX7_work_0 rfl ?_
  refine J_iload_n dX7_work_1 rfl ?_
  refine J_iload_n dX7_work_2 rfl ?_
  refine J_callVr (M' := mX7_isPlace) (d' := (3, 0, 0)) (rest := []) dX7_work_3 jmX7_isPlace jlRX7_98 (ctX7_isPlace a t an td gr ab be bd no fu H0 H1 (by omega) (by first | assumption | omega) (by first | assumption | omega) (by first | assumption | omega)) H0 (by omega) jk7.1 rfl rfl (Nat.le_of_ble_eq_true rfl) (Nat.le_of_ble_eq_true rfl) ⟨Nat.le_refl _, Nat.le_refl _⟩ ?_
  refine J_if_eqB (tgt := 16) dX7_work_6 (by decide) (fun c1 => ?_) (fun c1 => ?_)
  · skip
    refine J_aload_n dX7_work_16 rfl ?_
    refine J_bipush (v := (-2)) dX7_work_17 (by decide +kernel) ?_
    refine J_callVr (M' := mX7_refuse) (d' := (1, 0, 0)) (rest := []) dX7_work_19 jmX7_refuse jlRX7_59 (ctX7_refuse2 ab be bd no fu H0 (by omega) ) H0 (by omega) jk7.1 rfl rfl (Nat.le_of_ble_eq_true rfl) (Nat.le_of_ble_eq_true rfl) ⟨Nat.le_refl _, Nat.le_refl _⟩ ?_
    exact J_iret dX7_work_22 rfl ⟨Nat.le_refl _, Nat.le_refl _⟩ (by rw [hPP]; exact ⟨rfl, rfl, rfl⟩)
  · skip
    refine J_iload_n dX7_work_9 rfl ?_
    refine J_callSr (M' := mX7_isBlows) (d' := (2, 0, 0)) (rest := []) dX7_work_10 jmX7_isBlows jlRX7_102 (ctX7_isBlows bl   (by first | assumption | omega)) rfl rfl (Nat.le_of_ble_eq_true rfl) (Nat.le_of_ble_eq_true rfl) ⟨Nat.le_refl _, Nat.le_refl _⟩ ?_
    refine J_if_neB (tgt := 23) dX7_work_13 (by decide) (fun c2 => (by exfalso; omega)) (fun c2 => ?_)
    refine J_aload_n dX7_work_16 rfl ?_
    refine J_bipush (v := (-2)) dX7_work_17 (by decide +kernel) ?_
    refine J_callVr (M' := mX7_refuse) (d' := (1, 0, 0)) (rest := []) dX7_work_19 jmX7_refuse jlRX7_59 (ctX7_refuse2 ab be bd no fu H0 (by omega) ) H0 (by omega) jk7.1 rfl rfl (Nat.le_of_ble_eq_true rfl) (Nat.le_of_ble_eq_true rfl) ⟨Nat.le_refl _, Nat.le_refl _⟩ ?_
    exact J_iret dX7_work_22 rfl ⟨Nat.le_refl _, Nat.le_refl _⟩ (by rw [hPP]; exact ⟨rfl, rfl, rfl⟩)

set_option maxHeartbeats 1000000 in
set_option maxRecDepth 100000 in
theorem ctX7_work {E : jE} {h : Nat → va_E} {n : Nat} (a : Nat) (t : Nat) (bl : Nat) (an : Nat) (td : Nat) (gr : Nat) (K : Nat → Nat) (M : Nat → Nat) (ps : Nat) (PM : Nat → Nat) (PD : Nat → Nat) (PG : Nat → Nat) (ab : Nat) (be : Nat) (bd : Nat) (no : Nat) (fu : Nat) (H0 : h 0 = .inr (6, [.ref (E.1 + 1), .ref (E.1 + 12), .ref (E.1 + 23), .ref (E.1 + 24), .ref (E.1 + 30), .ref (E.1 + 34), .ref (E.1 + 37), .int (nI ab), .int (nI be), .int (nI bd), .int (nI no), .int (nI fu)])) (H1 : h 1 = .inr (5, [.ref (E.1 + 2), .ref (E.1 + 3), .ref (E.1 + 4), .ref (E.1 + 6), .ref (E.1 + 8), .int (nI an), .int (nI td), .int (nI gr)])) (H2 : h 2 = cI E 4 (nF K)) (H3 : h 3 = cI E 16 (nF M)) (H4 : h 8 = .inr (1, [.ref (E.1 + 9), .ref (E.1 + 10), .ref (E.1 + 11), .int (nI ps)])) (H5 : h 9 = cI E 128 (nF PM)) (H6 : h 10 = cI E 8 (nF PD)) (H7 : h 11 = cI E 8 (nF PG)) (hn : 38 ≤ n) (hK : ∀ zz, K zz ≤ 5) (hM : ∀ zz, M zz ≤ 20) (hg : gr ≤ 9) (hn4 : an ≤ 4) (hps : ps ≤ 8) (ha : a < an) (ht : t < 4) (hb1 : 1 ≤ bl) (hb5 : bl ≤ 5) : jC E mX7_work (5, 0, 0) [.ref (E.1 + 0), .int (nI a), .int (nI t), .int (nI bl)] h n (jR (some (.int (nI (fgnN K M gr a t 4)))) (hset (hset (hset (hset (hset h (8 + 1) (cI E 128 (nF (pushM PM ps M)))) (8 + 2) (cI E 8 (nF (pushD PD ps td)))) (8 + 3) (cI E 8 (nF (pushD PG ps gr)))) 8 (.inr (1, [.ref (E.1 + 9), .ref (E.1 + 10), .ref (E.1 + 11), .int (nI (pushS ps))]))) (1 + 2) (cI E 16 (nF (addMN K M a t bl)))) n) := by
  refine J.of (L := [(0, .ref (E.1 + 0)), (1, .int (nI a)), (2, .int (nI t)), (3, .int (nI bl))]) rfl (by decide +kernel) (Nat.le_of_ble_eq_true rfl) ?_
  obtain ⟨PP, hPP⟩ : ∃ PP : jPost, PP = (jR (some (.int (nI (fgnN K M gr a t 4)))) (hset (hset (hset (hset (hset h (8 + 1) (cI E 128 (nF (pushM PM ps M)))) (8 + 2) (cI E 8 (nF (pushD PD ps td)))) (8 + 3) (cI E 8 (nF (pushD PG ps gr)))) 8 (.inr (1, [.ref (E.1 + 9), .ref (E.1 + 10), .ref (E.1 + 11), .int (nI (pushS ps))]))) (1 + 2) (cI E 16 (nF (addMN K M a t bl)))) n) := ⟨_, rfl⟩
  rw [← hPP]
  refine J_aload_n dX7_work_0 rfl ?_
  refine J_iload_n dX7_work_1 rfl ?_
  refine J_iload_n dX7_work_2 rfl ?_
  refine J_callVr (M' := mX7_isPlace) (d' := (3, 0, 0)) (rest := []) dX7_work_3 jmX7_isPlace jlRX7_98 (ctX7_isPlace a t an td gr ab be bd no fu H0 H1 (by omega) (by first | assumption | omega) (by first | assumption | omega) (by first | assumption | omega)) H0 (by omega) jk7.1 rfl rfl (Nat.le_of_ble_eq_true rfl) (Nat.le_of_ble_eq_true rfl) ⟨Nat.le_refl _, Nat.le_refl _⟩ ?_
  refine J_if_eqB (tgt := 16) dX7_work_6 (by decide) (fun c1 => (by exfalso; omega)) (fun c1 => ?_)
  refine J_iload_n dX7_work_9 rfl ?_
  refine J_callSr (M' := mX7_isBlows) (d' := (2, 0, 0)) (rest := []) dX7_work_10 jmX7_isBlows jlRX7_102 (ctX7_isBlows bl   (by first | assumption | omega)) rfl rfl (Nat.le_of_ble_eq_true rfl) (Nat.le_of_ble_eq_true rfl) ⟨Nat.le_refl _, Nat.le_refl _⟩ ?_
  refine J_if_neB (tgt := 23) dX7_work_13 (by decide) (fun c2 => ?_) (fun c2 => (by exfalso; omega))
  refine J_aload_n dX7_work_23 rfl ?_
  refine J_get 0 dX7_work_24 jk7 (Nat.le_of_ble_eq_true rfl) jfRX7_10 H0 (by omega) rfl ?_
  refine J_callVn (M' := mX6_remember) (d' := (3, 0, 0)) (rest := []) dX7_work_27 jmX6_remember jlRX7_105 (ctX6_remember 1 an td gr M ps PM PD PG H1 H3 H4 H5 H6 H7 (by omega) (by first | assumption | omega)) H1 (by omega) jk6.1 rfl rfl (Nat.le_of_ble_eq_true rfl) (Nat.le_of_ble_eq_true rfl) ⟨Nat.le_refl _, Nat.le_refl _⟩ ?_
  refine J_aload_n dX7_work_30 rfl ?_
  refine J_get 0 dX7_work_31 jk7 (Nat.le_of_ble_eq_true rfl) jfRX7_10 ((hset_ne (by omega)).trans ((hset_ne (by omega)).trans ((hset_ne (by omega)).trans ((hset_ne (by omega)).trans H0)))) (by omega) rfl ?_
  refine J_iload_n dX7_work_34 rfl ?_
  refine J_iload_n dX7_work_35 rfl ?_
  refine J_iload_n dX7_work_36 rfl ?_
  refine J_callVr (M' := mX6_beat) (d' := (4, 0, 0)) (rest := []) dX7_work_37 jmX6_beat jlRX7_108 (ctX6_beat 1 a t bl an td gr K M ((hset_ne (by omega)).trans ((hset_ne (by omega)).trans ((hset_ne (by omega)).trans ((hset_ne (by omega)).trans H1)))) ((hset_ne (by omega)).trans ((hset_ne (by omega)).trans ((hset_ne (by omega)).trans ((hset_ne (by omega)).trans H2)))) ((hset_ne (by omega)).trans ((hset_ne (by omega)).trans ((hset_ne (by omega)).trans ((hset_ne (by omega)).trans H3)))) (by omega) (by first | assumption | omega) (by first | assumption | omega) (by first | assumption | omega) (by first | assumption | omega) (by first | assumption | omega) (by first | assumption | omega)) ((hset_ne (by omega)).trans ((hset_ne (by omega)).trans ((hset_ne (by omega)).trans ((hset_ne (by omega)).trans H1)))) (by omega) jk6.1 rfl rfl (Nat.le_of_ble_eq_true rfl) (Nat.le_of_ble_eq_true rfl) ⟨Nat.le_refl _, Nat.le_refl _⟩ ?_
  have fc3 : fgnN K M gr a t 4 ≤ 42 * 4 := fgnN_le (show ∀ zz, M zz ≤ 20 from by first | assumption | omega) 4
  exact J_iret dX7_work_40 rfl ⟨Nat.le_refl _, Nat.le_refl _⟩ (by rw [hPP]; exact ⟨rfl, rfl, rfl⟩)

set_option maxHeartbeats 1000000 in
set_option maxRecDepth 100000 in
theorem ctX7_day_bad {E : jE} {h : Nat → va_E} {n : Nat} (x : Nat) (ab : Nat) (be : Nat) (bd : Nat) (no : Nat) (fu : Nat) (H0 : h 0 = .inr (6, [.ref (E.1 + 1), .ref (E.1 + 12), .ref (E.1 + 23), .ref (E.1 + 24), .ref (E.1 + 30), .ref (E.1 + 34), .ref (E.1 + 37), .int (nI ab), .int (nI be), .int (nI bd), .int (nI no), .int (nI fu)])) (hn : 38 ≤ n) (h32x : x < 2 ^ 32) (hbad : ¬ (1 ≤ x ∧ x ≤ 60)) : jC E mX7_day (5, 0, 0) [.ref (E.1 + 0), .int (nI x)] h n (jR (some (.int (-2))) (hset h 0 (.inr (6, [.ref (E.1 + 1), .ref (E.1 + 12), .ref (E.1 + 23), .ref (E.1 + 24), .ref (E.1 + 30), .ref (E.1 + 34), .ref (E.1 + 37), .int (nI ab), .int (nI be), .int (nI (bd + 1)), .int (nI no), .int (nI fu)]))) n) := by
  refine J.of (L := [(0, .ref (E.1 + 0)), (1, .int (nI x))]) rfl (by decide +kernel) (Nat.le_of_ble_eq_true rfl) ?_
  obtain ⟨PP, hPP⟩ : ∃ PP : jPost, PP = (jR (some (.int (-2))) (hset h 0 (.inr (6, [.ref (E.1 + 1), .ref (E.1 + 12), .ref (E.1 + 23), .ref (E.1 + 24), .ref (E.1 + 30), .ref (E.1 + 34), .ref (E.1 + 37), .int (nI ab), .int (nI be), .int (nI (bd + 1)), .int (nI no), .int (nI fu)]))) n) := ⟨_, rfl⟩
  rw [← hPP]
  refine J_iload_n dX7_day_0 rfl ?_
  refine J_iconst (v := nI 1) dX7_day_1 (by decide +kernel) ?_
  refine J_bipush (v := nI 60) dX7_day_2 (by decide +kernel) ?_
  refine J_callSr (M' := mX7_isWithin) (d' := (1, 0, 0)) (rest := []) dX7_day_4 jmX7_isWithin jlRX7_70 (ctX7_isWithin x 1 60   (by first | assumption | omega) (by first | assumption | omega) (by first | assumption | omega)) rfl rfl (Nat.le_of_ble_eq_true rfl) (Nat.le_of_ble_eq_true rfl) ⟨Nat.le_refl _, Nat.le_refl _⟩ ?_
  refine J_if_neB (tgt := 17) dX7_day_7 (by decide) (fun c1 => (by exfalso; omega)) (fun c1 => ?_)
  refine J_aload_n dX7_day_10 rfl ?_
  refine J_bipush (v := (-2)) dX7_day_11 (by decide +kernel) ?_
  refine J_callVr (M' := mX7_refuse) (d' := (1, 0, 0)) (rest := []) dX7_day_13 jmX7_refuse jlRX7_59 (ctX7_refuse2 ab be bd no fu H0 (by omega) ) H0 (by omega) jk7.1 rfl rfl (Nat.le_of_ble_eq_true rfl) (Nat.le_of_ble_eq_true rfl) ⟨Nat.le_refl _, Nat.le_refl _⟩ ?_
  exact J_iret dX7_day_16 rfl ⟨Nat.le_refl _, Nat.le_refl _⟩ (by rw [hPP]; exact ⟨rfl, rfl, rfl⟩)

set_option maxHeartbeats 1000000 in
set_option maxRecDepth 100000 in
theorem ctX7_day {E : jE} {h : Nat → va_E} {n : Nat} (x : Nat) (an : Nat) (td : Nat) (gr : Nat) (K : Nat → Nat) (M : Nat → Nat) (ps : Nat) (PM : Nat → Nat) (PD : Nat → Nat) (PG : Nat → Nat) (ab : Nat) (be : Nat) (bd : Nat) (no : Nat) (fu : Nat) (H0 : h 0 = .inr (6, [.ref (E.1 + 1), .ref (E.1 + 12), .ref (E.1 + 23), .ref (E.1 + 24), .ref (E.1 + 30), .ref (E.1 + 34), .ref (E.1 + 37), .int (nI ab), .int (nI be), .int (nI bd), .int (nI no), .int (nI fu)])) (H1 : h 1 = .inr (5, [.ref (E.1 + 2), .ref (E.1 + 3), .ref (E.1 + 4), .ref (E.1 + 6), .ref (E.1 + 8), .int (nI an), .int (nI td), .int (nI gr)])) (H2 : h 2 = cI E 4 (nF K)) (H3 : h 3 = cI E 16 (nF M)) (H4 : h 8 = .inr (1, [.ref (E.1 + 9), .ref (E.1 + 10), .ref (E.1 + 11), .int (nI ps)])) (H5 : h 9 = cI E 128 (nF PM)) (H6 : h 10 = cI E 8 (nF PD)) (H7 : h 11 = cI E 8 (nF PG)) (hn : 38 ≤ n) (hK : ∀ zz, K zz ≤ 5) (hM : ∀ zz, M zz ≤ 20) (hg : gr ≤ 9) (hn4 : an ≤ 4) (htd : td ≤ 999) (hps : ps ≤ 8) (hx1 : 1 ≤ x) (hx : x ≤ 60) : jC E mX7_day (5, 0, 0) [.ref (E.1 + 0), .int (nI x)] h n (jR (some (.int (nI (dayT td x)))) (hset (hset (hset (hset (hset (hset h (8 + 1) (cI E 128 (nF (pushM PM ps M)))) (8 + 2) (cI E 8 (nF (pushD PD ps td)))) (8 + 3) (cI E 8 (nF (pushD PG ps gr)))) 8 (.inr (1, [.ref (E.1 + 9), .ref (E.1 + 10), .ref (E.1 + 11), .int (nI (pushS ps))]))) (1 + 2) (cI E 16 (nF (dayM K M an td x)))) 1 (.inr (5, [.ref (E.1 + 2), .ref (E.1 + 3), .ref (E.1 + 4), .ref (E.1 + 6), .ref (E.1 + 8), .int (nI an), .int (nI (dayT td x)), .int (nI gr)]))) n) := by
  refine J.of (L := [(0, .ref (E.1 + 0)), (1, .int (nI x))]) rfl (by decide +kernel) (Nat.le_of_ble_eq_true rfl) ?_
  obtain ⟨PP, hPP⟩ : ∃ PP : jPost, PP = (jR (some (.int (nI (dayT td x)))) (hset (hset (hset (hset (hset (hset h (8 + 1) (cI E 128 (nF (pushM PM ps M)))) (8 + 2) (cI E 8 (nF (pushD PD ps td)))) (8 + 3) (cI E 8 (nF (pushD PG ps gr)))) 8 (.inr (1, [.ref (E.1 + 9), .ref (E.1 + 10), .ref (E.1 + 11), .int (nI (pushS ps))]))) (1 + 2) (cI E 16 (nF (dayM K M an td x)))) 1 (.inr (5, [.ref (E.1 + 2), .ref (E.1 + 3), .ref (E.1 + 4), .ref (E.1 + 6), .ref (E.1 + 8), .int (nI an), .int (nI (dayT td x)), .int (nI gr)]))) n) := ⟨_, rfl⟩
  rw [← hPP]
  refine J_iload_n dX7_day_0 rfl ?_
  refine J_iconst (v := nI 1) dX7_day_1 (by decide +kernel) ?_
  refine J_bipush (v := nI 60) dX7_day_2 (by decide +kernel) ?_
  refine J_callSr (M' := mX7_isWithin) (d' := (1, 0, 0)) (rest := []) dX7_day_4 jmX7_isWithin jlRX7_70 (ctX7_isWithin x 1 60   (by first | assumption | omega) (by first | assumption | omega) (by first | assumption | omega)) rfl rfl (Nat.le_of_ble_eq_true rfl) (Nat.le_of_ble_eq_true rfl) ⟨Nat.le_refl _, Nat.le_refl _⟩ ?_
  refine J_if_neB (tgt := 17) dX7_day_7 (by decide) (fun c1 => ?_) (fun c1 => (by exfalso; omega))
  refine J_aload_n dX7_day_17 rfl ?_
  refine J_get 0 dX7_day_18 jk7 (Nat.le_of_ble_eq_true rfl) jfRX7_10 H0 (by omega) rfl ?_
  refine J_callVn (M' := mX6_remember) (d' := (3, 0, 0)) (rest := []) dX7_day_21 jmX6_remember jlRX7_105 (ctX6_remember 1 an td gr M ps PM PD PG H1 H3 H4 H5 H6 H7 (by omega) (by first | assumption | omega)) H1 (by omega) jk6.1 rfl rfl (Nat.le_of_ble_eq_true rfl) (Nat.le_of_ble_eq_true rfl) ⟨Nat.le_refl _, Nat.le_refl _⟩ ?_
  refine J_iconst (v := nI 0) dX7_day_24 (by decide +kernel) ?_
  refine J_istore_n dX7_day_25 (Nat.le_of_ble_eq_true rfl) (L' := [(2, .int (nI 0)), (0, .ref (E.1 + 0)), (1, .int (nI x))]) rfl ?_
  have CUT26 : ∀ (f26 : Nat) (i : Nat) (hm26 : x - i < f26) (hi : i ≤ x), J E mX7_day (5, 0, 0) jS0 PP (hset (hset (hset (hset (hset (hset h 9 (cI E 128 (nF (pushM PM ps M)))) 10 (cI E 8 (nF (pushD PD ps td)))) 11 (cI E 8 (nF (pushD PG ps gr)))) 8 (.inr (1, [.ref (E.1 + 9), .ref (E.1 + 10), .ref (E.1 + 11), .int (nI (pushS ps))]))) 3 (cI E 16 (nF (dayM K M an td i)))) 1 (.inr (5, [.ref (E.1 + 2), .ref (E.1 + 3), .ref (E.1 + 4), .ref (E.1 + 6), .ref (E.1 + 8), .int (nI an), .int (nI (dayT td i)), .int (nI gr)]))) n (0, 0) 26 [(2, .int (nI i)), (0, .ref (E.1 + 0)), (1, .int (nI x))] [] := by
    intro f26
    induction f26 with
    | zero => intro i hm26; exact absurd hm26 (Nat.not_lt_zero _)
    | succ f26 ih26 =>
      intro i hm26 hi
      refine J_iload_n dX7_day_26 rfl ?_
      refine J_iload_n dX7_day_27 rfl ?_
      refine J_icmp_geN (tgt := 44) dX7_day_28 (by decide) (by omega) (by omega) (fun c2 => ?_) (fun c2 => ?_)
      · skip
        refine J_aload_n dX7_day_44 rfl ?_
        refine J_get 0 dX7_day_45 jk7 (Nat.le_of_ble_eq_true rfl) jfRX7_10 ((hset_ne (by omega)).trans ((hset_ne (by omega)).trans ((hset_ne (by omega)).trans ((hset_ne (by omega)).trans ((hset_ne (by omega)).trans ((hset_ne (by omega)).trans H0)))))) (by omega) rfl ?_
        refine J_get 6 dX7_day_48 jk6 (Nat.le_of_ble_eq_true rfl) jfRX7_115 hset_eq (by omega) rfl ?_
        exact J_iret dX7_day_51 rfl ⟨Nat.le_refl _, Nat.le_refl _⟩ (by rw [hPP]; exact ⟨(congrArg some (jv_N (by rw [show i = x by omega]))), (hset_cg (hset_cg (hset_cg (hset_cg (hset_cg (hset_cg rfl rfl) rfl) rfl) rfl) (cI_cg (by intro z; rw [show i = x by omega]))) (congrArg (fun z => (Sum.inr (5, z) : va_E)) (jS_c rfl (jS_c rfl (jS_c rfl (jS_c rfl (jS_c rfl (jS_c rfl (jS_c (jv_N (by rw [show i = x by omega])) (jS_c rfl rfl)))))))))), rfl⟩)
      · skip
        refine J_aload_n dX7_day_31 rfl ?_
        refine J_get 0 dX7_day_32 jk7 (Nat.le_of_ble_eq_true rfl) jfRX7_10 ((hset_ne (by omega)).trans ((hset_ne (by omega)).trans ((hset_ne (by omega)).trans ((hset_ne (by omega)).trans ((hset_ne (by omega)).trans ((hset_ne (by omega)).trans H0)))))) (by omega) rfl ?_
        have dt0 := dayT_le td i
        refine J_callVn (M' := mX6_passDay) (d' := (4, 0, 0)) (rest := []) dX7_day_35 jmX6_passDay jlRX7_112 (ctX6_passDay 1 an (dayT td i) gr K (dayM K M an td i) hset_eq ((hset_ne (by omega)).trans ((hset_ne (by omega)).trans ((hset_ne (by omega)).trans ((hset_ne (by omega)).trans ((hset_ne (by omega)).trans ((hset_ne (by omega)).trans H2)))))) ((hset_ne (by omega)).trans hset_eq) (by omega) (by first | assumption | omega) (by exact dayT_le td i) (by first | assumption | omega) (by exact dayM_le hM i)) hset_eq (by omega) jk6.1 rfl rfl (Nat.le_of_ble_eq_true rfl) (Nat.le_of_ble_eq_true rfl) ⟨Nat.le_refl _, Nat.le_refl _⟩ ?_
        refine J.cast ((hset_cg ((hset_comm (by omega)).trans (hset_cg hset_hset rfl)) rfl).trans hset_hset) ?_
        refine J_iincN (q := 0) (a := i) (m := 1) dX7_day_38 rfl (by decide +kernel) (Nat.le_of_ble_eq_true rfl) (L' := [(2, .int (nI (i + 1))), (0, .ref (E.1 + 0)), (1, .int (nI x))]) rfl ?_
        refine J_goto (tgt := 26) dX7_day_41 (by decide) ?_
        refine J.eqs (h' := (hset (hset (hset (hset (hset (hset h 9 (cI E 128 (nF (pushM PM ps M)))) 10 (cI E 8 (nF (pushD PD ps td)))) 11 (cI E 8 (nF (pushD PG ps gr)))) 8 (.inr (1, [.ref (E.1 + 9), .ref (E.1 + 10), .ref (E.1 + 11), .int (nI (pushS ps))]))) 3 (cI E 16 (nF (dayM K M an td (i + 1))))) 1 (.inr (5, [.ref (E.1 + 2), .ref (E.1 + 3), .ref (E.1 + 4), .ref (E.1 + 6), .ref (E.1 + 8), .int (nI an), .int (nI (dayT td (i + 1))), .int (nI gr)])))) (L' := [(2, .int (nI (i + 1))), (0, .ref (E.1 + 0)), (1, .int (nI x))]) (st' := []) (hset_cg (hset_cg (hset_cg (hset_cg (hset_cg (hset_cg rfl rfl) rfl) rfl) rfl) (cI_cg (by intro z; first | rfl | (simp only [dayM, dayT]; done) | exact dayT_0 _ htd))) (congrArg (fun z => (Sum.inr (5, z) : va_E)) (jS_c rfl (jS_c rfl (jS_c rfl (jS_c rfl (jS_c rfl (jS_c rfl (jS_c (jv_N (by first | rfl | (simp only [dayM, dayT]; done) | exact dayT_0 _ htd)) (jS_c rfl rfl)))))))))) rfl rfl ?_
        exact ih26 (i + 1) (by omega) (by first | assumption | omega)
  refine J.eqs (h' := (hset (hset (hset (hset (hset (hset h 9 (cI E 128 (nF (pushM PM ps M)))) 10 (cI E 8 (nF (pushD PD ps td)))) 11 (cI E 8 (nF (pushD PG ps gr)))) 8 (.inr (1, [.ref (E.1 + 9), .ref (E.1 + 10), .ref (E.1 + 11), .int (nI (pushS ps))]))) 3 (cI E 16 (nF (dayM K M an td 0)))) 1 (.inr (5, [.ref (E.1 + 2), .ref (E.1 + 3), .ref (E.1 + 4), .ref (E.1 + 6), .ref (E.1 + 8), .int (nI an), .int (nI (dayT td 0)), .int (nI gr)])))) (L' := [(2, .int (nI 0)), (0, .ref (E.1 + 0)), (1, .int (nI x))]) (st' := []) ((show (hset (hset (hset (hset h 9 (cI E 128 (nF (pushM PM ps M)))) 10 (cI E 8 (nF (pushD PD ps td)))) 11 (cI E 8 (nF (pushD PG ps gr)))) 8 (.inr (1, [.ref (E.1 + 9), .ref (E.1 + 10), .ref (E.1 + 11), .int (nI (pushS ps))]))) = (hset (hset (hset (hset (hset (hset h 9 (cI E 128 (nF (pushM PM ps M)))) 10 (cI E 8 (nF (pushD PD ps td)))) 11 (cI E 8 (nF (pushD PG ps gr)))) 8 (.inr (1, [.ref (E.1 + 9), .ref (E.1 + 10), .ref (E.1 + 11), .int (nI (pushS ps))]))) 3 (cI E 16 (nF M))) 1 (.inr (5, [.ref (E.1 + 2), .ref (E.1 + 3), .ref (E.1 + 4), .ref (E.1 + 6), .ref (E.1 + 8), .int (nI an), .int (nI td), .int (nI gr)]))) by funext z; simp only [hset]; (repeat' split) <;> first | rfl | (exfalso; omega) | (subst_vars; first | exact H3 | exact H1)).trans (hset_cg (hset_cg (hset_cg (hset_cg (hset_cg (hset_cg rfl rfl) rfl) rfl) rfl) (cI_cg (by intro z; first | rfl | (simp only [dayM, dayT]; done) | exact dayT_0 _ htd))) (congrArg (fun z => (Sum.inr (5, z) : va_E)) (jS_c rfl (jS_c rfl (jS_c rfl (jS_c rfl (jS_c rfl (jS_c rfl (jS_c (jv_N (by first | rfl | (simp only [dayM, dayT]; done) | exact dayT_0 _ htd)) (jS_c rfl rfl))))))))))) rfl rfl ?_
  exact CUT26 (x - 0 + 1) 0 (Nat.lt_succ_self _) (by first | assumption | omega)

set_option maxHeartbeats 1000000 in
set_option maxRecDepth 100000 in
theorem ctX7_salt_bad {E : jE} {h : Nat → va_E} {n : Nat} (a : Nat) (t : Nat) (ab : Nat) (be : Nat) (bd : Nat) (no : Nat) (fu : Nat) (an : Nat) (td : Nat) (gr : Nat) (H0 : h 0 = .inr (6, [.ref (E.1 + 1), .ref (E.1 + 12), .ref (E.1 + 23), .ref (E.1 + 24), .ref (E.1 + 30), .ref (E.1 + 34), .ref (E.1 + 37), .int (nI ab), .int (nI be), .int (nI bd), .int (nI no), .int (nI fu)])) (H1 : h 1 = .inr (5, [.ref (E.1 + 2), .ref (E.1 + 3), .ref (E.1 + 4), .ref (E.1 + 6), .ref (E.1 + 8), .int (nI an), .int (nI td), .int (nI gr)])) (hn : 38 ≤ n) (h32a : a < 2 ^ 32) (h32t : t < 2 ^ 32) (hn4 : an ≤ 4) (hbad : ¬ (a < an ∧ t ≤ 3)) : jC E mX7_salt (4, 0, 0) [.ref (E.1 + 0), .int (nI a), .int (nI t)] h n (jR (some (.int (-2))) (hset h 0 (.inr (6, [.ref (E.1 + 1), .ref (E.1 + 12), .ref (E.1 + 23), .ref (E.1 + 24), .ref (E.1 + 30), .ref (E.1 + 34), .ref (E.1 + 37), .int (nI ab), .int (nI be), .int (nI (bd + 1)), .int (nI no), .int (nI fu)]))) n) := by
  refine J.of (L := [(0, .ref (E.1 + 0)), (1, .int (nI a)), (2, .int (nI t))]) rfl (by decide +kernel) (Nat.le_of_ble_eq_true rfl) ?_
  obtain ⟨PP, hPP⟩ : ∃ PP : jPost, PP = (jR (some (.int (-2))) (hset h 0 (.inr (6, [.ref (E.1 + 1), .ref (E.1 + 12), .ref (E.1 + 23), .ref (E.1 + 24), .ref (E.1 + 30), .ref (E.1 + 34), .ref (E.1 + 37), .int (nI ab), .int (nI be), .int (nI (bd + 1)), .int (nI no), .int (nI fu)]))) n) := ⟨_, rfl⟩
  rw [← hPP]
  refine J_aload_n dX7_salt_0 rfl ?_
  refine J_iload_n dX7_salt_1 rfl ?_
  refine J_iload_n dX7_salt_2 rfl ?_
  refine J_callVr (M' := mX7_isPlace) (d' := (3, 0, 0)) (rest := []) dX7_salt_3 jmX7_isPlace jlRX7_98 (ctX7_isPlace a t an td gr ab be bd no fu H0 H1 (by omega) (by first | assumption | omega) (by first | assumption | omega) (by first | assumption | omega)) H0 (by omega) jk7.1 rfl rfl (Nat.le_of_ble_eq_true rfl) (Nat.le_of_ble_eq_true rfl) ⟨Nat.le_refl _, Nat.le_refl _⟩ ?_
  refine J_if_neB (tgt := 16) dX7_salt_6 (by decide) (fun c1 => (by exfalso; omega)) (fun c1 => ?_)
  refine J_aload_n dX7_salt_9 rfl ?_
  refine J_bipush (v := (-2)) dX7_salt_10 (by decide +kernel) ?_
  refine J_callVr (M' := mX7_refuse) (d' := (1, 0, 0)) (rest := []) dX7_salt_12 jmX7_refuse jlRX7_59 (ctX7_refuse2 ab be bd no fu H0 (by omega) ) H0 (by omega) jk7.1 rfl rfl (Nat.le_of_ble_eq_true rfl) (Nat.le_of_ble_eq_true rfl) ⟨Nat.le_refl _, Nat.le_refl _⟩ ?_
  exact J_iret dX7_salt_15 rfl ⟨Nat.le_refl _, Nat.le_refl _⟩ (by rw [hPP]; exact ⟨rfl, rfl, rfl⟩)

set_option maxHeartbeats 1000000 in
set_option maxRecDepth 100000 in
theorem ctX7_salt {E : jE} {h : Nat → va_E} {n : Nat} (a : Nat) (t : Nat) (an : Nat) (td : Nat) (gr : Nat) (M : Nat → Nat) (ps : Nat) (PM : Nat → Nat) (PD : Nat → Nat) (PG : Nat → Nat) (ab : Nat) (be : Nat) (bd : Nat) (no : Nat) (fu : Nat) (H0 : h 0 = .inr (6, [.ref (E.1 + 1), .ref (E.1 + 12), .ref (E.1 + 23), .ref (E.1 + 24), .ref (E.1 + 30), .ref (E.1 + 34), .ref (E.1 + 37), .int (nI ab), .int (nI be), .int (nI bd), .int (nI no), .int (nI fu)])) (H1 : h 1 = .inr (5, [.ref (E.1 + 2), .ref (E.1 + 3), .ref (E.1 + 4), .ref (E.1 + 6), .ref (E.1 + 8), .int (nI an), .int (nI td), .int (nI gr)])) (H2 : h 3 = cI E 16 (nF M)) (H3 : h 8 = .inr (1, [.ref (E.1 + 9), .ref (E.1 + 10), .ref (E.1 + 11), .int (nI ps)])) (H4 : h 9 = cI E 128 (nF PM)) (H5 : h 10 = cI E 8 (nF PD)) (H6 : h 11 = cI E 8 (nF PG)) (hn : 38 ≤ n) (hn4 : an ≤ 4) (hps : ps ≤ 8) (ha : a < an) (ht : t < 4) : jC E mX7_salt (4, 0, 0) [.ref (E.1 + 0), .int (nI a), .int (nI t)] h n (jR (some (.int (nI (M (4 * a + t))))) (hset (hset (hset (hset (hset h (8 + 1) (cI E 128 (nF (pushM PM ps M)))) (8 + 2) (cI E 8 (nF (pushD PD ps td)))) (8 + 3) (cI E 8 (nF (pushD PG ps gr)))) 8 (.inr (1, [.ref (E.1 + 9), .ref (E.1 + 10), .ref (E.1 + 11), .int (nI (pushS ps))]))) (1 + 2) (cI E 16 (nF (updN M (4 * a + t) 0)))) n) := by
  refine J.of (L := [(0, .ref (E.1 + 0)), (1, .int (nI a)), (2, .int (nI t))]) rfl (by decide +kernel) (Nat.le_of_ble_eq_true rfl) ?_
  obtain ⟨PP, hPP⟩ : ∃ PP : jPost, PP = (jR (some (.int (nI (M (4 * a + t))))) (hset (hset (hset (hset (hset h (8 + 1) (cI E 128 (nF (pushM PM ps M)))) (8 + 2) (cI E 8 (nF (pushD PD ps td)))) (8 + 3) (cI E 8 (nF (pushD PG ps gr)))) 8 (.inr (1, [.ref (E.1 + 9), .ref (E.1 + 10), .ref (E.1 + 11), .int (nI (pushS ps))]))) (1 + 2) (cI E 16 (nF (updN M (4 * a + t) 0)))) n) := ⟨_, rfl⟩
  rw [← hPP]
  refine J_aload_n dX7_salt_0 rfl ?_
  refine J_iload_n dX7_salt_1 rfl ?_
  refine J_iload_n dX7_salt_2 rfl ?_
  refine J_callVr (M' := mX7_isPlace) (d' := (3, 0, 0)) (rest := []) dX7_salt_3 jmX7_isPlace jlRX7_98 (ctX7_isPlace a t an td gr ab be bd no fu H0 H1 (by omega) (by first | assumption | omega) (by first | assumption | omega) (by first | assumption | omega)) H0 (by omega) jk7.1 rfl rfl (Nat.le_of_ble_eq_true rfl) (Nat.le_of_ble_eq_true rfl) ⟨Nat.le_refl _, Nat.le_refl _⟩ ?_
  refine J_if_neB (tgt := 16) dX7_salt_6 (by decide) (fun c1 => ?_) (fun c1 => (by exfalso; omega))
  refine J_aload_n dX7_salt_16 rfl ?_
  refine J_get 0 dX7_salt_17 jk7 (Nat.le_of_ble_eq_true rfl) jfRX7_10 H0 (by omega) rfl ?_
  refine J_callVn (M' := mX6_remember) (d' := (3, 0, 0)) (rest := []) dX7_salt_20 jmX6_remember jlRX7_105 (ctX6_remember 1 an td gr M ps PM PD PG H1 H2 H3 H4 H5 H6 (by omega) (by first | assumption | omega)) H1 (by omega) jk6.1 rfl rfl (Nat.le_of_ble_eq_true rfl) (Nat.le_of_ble_eq_true rfl) ⟨Nat.le_refl _, Nat.le_refl _⟩ ?_
  refine J_aload_n dX7_salt_23 rfl ?_
  refine J_get 0 dX7_salt_24 jk7 (Nat.le_of_ble_eq_true rfl) jfRX7_10 ((hset_ne (by omega)).trans ((hset_ne (by omega)).trans ((hset_ne (by omega)).trans ((hset_ne (by omega)).trans H0)))) (by omega) rfl ?_
  refine J_iload_n dX7_salt_27 rfl ?_
  refine J_iload_n dX7_salt_28 rfl ?_
  refine J_callVr (M' := mX6_remembered) (d' := (1, 0, 0)) (rest := []) dX7_salt_29 jmX6_remembered jlRX7_118 (ctX6_remembered 1 a t an td gr M ((hset_ne (by omega)).trans ((hset_ne (by omega)).trans ((hset_ne (by omega)).trans ((hset_ne (by omega)).trans H1)))) ((hset_ne (by omega)).trans ((hset_ne (by omega)).trans ((hset_ne (by omega)).trans ((hset_ne (by omega)).trans H2)))) (by omega) (by first | assumption | omega) (by first | assumption | omega)) ((hset_ne (by omega)).trans ((hset_ne (by omega)).trans ((hset_ne (by omega)).trans ((hset_ne (by omega)).trans H1)))) (by omega) jk6.1 rfl rfl (Nat.le_of_ble_eq_true rfl) (Nat.le_of_ble_eq_true rfl) ⟨Nat.le_refl _, Nat.le_refl _⟩ ?_
  refine J_istore_n dX7_salt_32 (Nat.le_of_ble_eq_true rfl) (L' := [(3, .int (nI (M (4 * a + t)))), (0, .ref (E.1 + 0)), (1, .int (nI a)), (2, .int (nI t))]) rfl ?_
  refine J_aload_n dX7_salt_33 rfl ?_
  refine J_get 0 dX7_salt_34 jk7 (Nat.le_of_ble_eq_true rfl) jfRX7_10 ((hset_ne (by omega)).trans ((hset_ne (by omega)).trans ((hset_ne (by omega)).trans ((hset_ne (by omega)).trans H0)))) (by omega) rfl ?_
  refine J_iload_n dX7_salt_37 rfl ?_
  refine J_iload_n dX7_salt_38 rfl ?_
  refine J_iconst (v := nI 0) dX7_salt_39 (by decide +kernel) ?_
  refine J_callVn (M' := mX6_setMemory) (d' := (1, 0, 0)) (rest := []) dX7_salt_40 jmX6_setMemory jlRX7_122 (ctX6_setMemory 1 a t 0 an td gr M ((hset_ne (by omega)).trans ((hset_ne (by omega)).trans ((hset_ne (by omega)).trans ((hset_ne (by omega)).trans H1)))) ((hset_ne (by omega)).trans ((hset_ne (by omega)).trans ((hset_ne (by omega)).trans ((hset_ne (by omega)).trans H2)))) (by omega) (by first | assumption | omega) (by first | assumption | omega)) ((hset_ne (by omega)).trans ((hset_ne (by omega)).trans ((hset_ne (by omega)).trans ((hset_ne (by omega)).trans H1)))) (by omega) jk6.1 rfl rfl (Nat.le_of_ble_eq_true rfl) (Nat.le_of_ble_eq_true rfl) ⟨Nat.le_refl _, Nat.le_refl _⟩ ?_
  refine J_iload_n dX7_salt_43 rfl ?_
  exact J_iret dX7_salt_44 rfl ⟨Nat.le_refl _, Nat.le_refl _⟩ (by rw [hPP]; exact ⟨rfl, rfl, rfl⟩)

set_option maxHeartbeats 1000000 in
set_option maxRecDepth 100000 in
theorem ctX7_hand_bad {E : jE} {h : Nat → va_E} {n : Nat} (x : Nat) (ab : Nat) (be : Nat) (bd : Nat) (no : Nat) (fu : Nat) (H0 : h 0 = .inr (6, [.ref (E.1 + 1), .ref (E.1 + 12), .ref (E.1 + 23), .ref (E.1 + 24), .ref (E.1 + 30), .ref (E.1 + 34), .ref (E.1 + 37), .int (nI ab), .int (nI be), .int (nI bd), .int (nI no), .int (nI fu)])) (hn : 38 ≤ n) (h32x : x < 2 ^ 32) (hbad : ¬ x ≤ 9) : jC E mX7_hand (4, 0, 0) [.ref (E.1 + 0), .int (nI x)] h n (jR (some (.int (-2))) (hset h 0 (.inr (6, [.ref (E.1 + 1), .ref (E.1 + 12), .ref (E.1 + 23), .ref (E.1 + 24), .ref (E.1 + 30), .ref (E.1 + 34), .ref (E.1 + 37), .int (nI ab), .int (nI be), .int (nI (bd + 1)), .int (nI no), .int (nI fu)]))) n) := by
  refine J.of (L := [(0, .ref (E.1 + 0)), (1, .int (nI x))]) rfl (by decide +kernel) (Nat.le_of_ble_eq_true rfl) ?_
  obtain ⟨PP, hPP⟩ : ∃ PP : jPost, PP = (jR (some (.int (-2))) (hset h 0 (.inr (6, [.ref (E.1 + 1), .ref (E.1 + 12), .ref (E.1 + 23), .ref (E.1 + 24), .ref (E.1 + 30), .ref (E.1 + 34), .ref (E.1 + 37), .int (nI ab), .int (nI be), .int (nI (bd + 1)), .int (nI no), .int (nI fu)]))) n) := ⟨_, rfl⟩
  rw [← hPP]
  refine J_iload_n dX7_hand_0 rfl ?_
  refine J_callSr (M' := mX7_isHand) (d' := (2, 0, 0)) (rest := []) dX7_hand_1 jmX7_isHand jlRX7_55 (ctX7_isHand x   (by first | assumption | omega)) rfl rfl (Nat.le_of_ble_eq_true rfl) (Nat.le_of_ble_eq_true rfl) ⟨Nat.le_refl _, Nat.le_refl _⟩ ?_
  refine J_if_neB (tgt := 14) dX7_hand_4 (by decide) (fun c1 => (by exfalso; omega)) (fun c1 => ?_)
  refine J_aload_n dX7_hand_7 rfl ?_
  refine J_bipush (v := (-2)) dX7_hand_8 (by decide +kernel) ?_
  refine J_callVr (M' := mX7_refuse) (d' := (1, 0, 0)) (rest := []) dX7_hand_10 jmX7_refuse jlRX7_59 (ctX7_refuse2 ab be bd no fu H0 (by omega) ) H0 (by omega) jk7.1 rfl rfl (Nat.le_of_ble_eq_true rfl) (Nat.le_of_ble_eq_true rfl) ⟨Nat.le_refl _, Nat.le_refl _⟩ ?_
  exact J_iret dX7_hand_13 rfl ⟨Nat.le_refl _, Nat.le_refl _⟩ (by rw [hPP]; exact ⟨rfl, rfl, rfl⟩)

set_option maxHeartbeats 1000000 in
set_option maxRecDepth 100000 in
theorem ctX7_hand {E : jE} {h : Nat → va_E} {n : Nat} (x : Nat) (an : Nat) (td : Nat) (gr : Nat) (M : Nat → Nat) (ps : Nat) (PM : Nat → Nat) (PD : Nat → Nat) (PG : Nat → Nat) (ab : Nat) (be : Nat) (bd : Nat) (no : Nat) (fu : Nat) (H0 : h 0 = .inr (6, [.ref (E.1 + 1), .ref (E.1 + 12), .ref (E.1 + 23), .ref (E.1 + 24), .ref (E.1 + 30), .ref (E.1 + 34), .ref (E.1 + 37), .int (nI ab), .int (nI be), .int (nI bd), .int (nI no), .int (nI fu)])) (H1 : h 1 = .inr (5, [.ref (E.1 + 2), .ref (E.1 + 3), .ref (E.1 + 4), .ref (E.1 + 6), .ref (E.1 + 8), .int (nI an), .int (nI td), .int (nI gr)])) (H2 : h 3 = cI E 16 (nF M)) (H3 : h 8 = .inr (1, [.ref (E.1 + 9), .ref (E.1 + 10), .ref (E.1 + 11), .int (nI ps)])) (H4 : h 9 = cI E 128 (nF PM)) (H5 : h 10 = cI E 8 (nF PD)) (H6 : h 11 = cI E 8 (nF PG)) (hn : 38 ≤ n) (hps : ps ≤ 8) (hx : x ≤ 9) : jC E mX7_hand (4, 0, 0) [.ref (E.1 + 0), .int (nI x)] h n (jR (some (.int (nI gr))) (hset (hset (hset (hset (hset h (8 + 1) (cI E 128 (nF (pushM PM ps M)))) (8 + 2) (cI E 8 (nF (pushD PD ps td)))) (8 + 3) (cI E 8 (nF (pushD PG ps gr)))) 8 (.inr (1, [.ref (E.1 + 9), .ref (E.1 + 10), .ref (E.1 + 11), .int (nI (pushS ps))]))) 1 (.inr (5, [.ref (E.1 + 2), .ref (E.1 + 3), .ref (E.1 + 4), .ref (E.1 + 6), .ref (E.1 + 8), .int (nI an), .int (nI td), .int (nI x)]))) n) := by
  refine J.of (L := [(0, .ref (E.1 + 0)), (1, .int (nI x))]) rfl (by decide +kernel) (Nat.le_of_ble_eq_true rfl) ?_
  obtain ⟨PP, hPP⟩ : ∃ PP : jPost, PP = (jR (some (.int (nI gr))) (hset (hset (hset (hset (hset h (8 + 1) (cI E 128 (nF (pushM PM ps M)))) (8 + 2) (cI E 8 (nF (pushD PD ps td)))) (8 + 3) (cI E 8 (nF (pushD PG ps gr)))) 8 (.inr (1, [.ref (E.1 + 9), .ref (E.1 + 10), .ref (E.1 + 11), .int (nI (pushS ps))]))) 1 (.inr (5, [.ref (E.1 + 2), .ref (E.1 + 3), .ref (E.1 + 4), .ref (E.1 + 6), .ref (E.1 + 8), .int (nI an), .int (nI td), .int (nI x)]))) n) := ⟨_, rfl⟩
  rw [← hPP]
  refine J_iload_n dX7_hand_0 rfl ?_
  refine J_callSr (M' := mX7_isHand) (d' := (2, 0, 0)) (rest := []) dX7_hand_1 jmX7_isHand jlRX7_55 (ctX7_isHand x   (by first | assumption | omega)) rfl rfl (Nat.le_of_ble_eq_true rfl) (Nat.le_of_ble_eq_true rfl) ⟨Nat.le_refl _, Nat.le_refl _⟩ ?_
  refine J_if_neB (tgt := 14) dX7_hand_4 (by decide) (fun c1 => ?_) (fun c1 => (by exfalso; omega))
  refine J_aload_n dX7_hand_14 rfl ?_
  refine J_get 0 dX7_hand_15 jk7 (Nat.le_of_ble_eq_true rfl) jfRX7_10 H0 (by omega) rfl ?_
  refine J_callVn (M' := mX6_remember) (d' := (3, 0, 0)) (rest := []) dX7_hand_18 jmX6_remember jlRX7_105 (ctX6_remember 1 an td gr M ps PM PD PG H1 H2 H3 H4 H5 H6 (by omega) (by first | assumption | omega)) H1 (by omega) jk6.1 rfl rfl (Nat.le_of_ble_eq_true rfl) (Nat.le_of_ble_eq_true rfl) ⟨Nat.le_refl _, Nat.le_refl _⟩ ?_
  refine J_aload_n dX7_hand_21 rfl ?_
  refine J_get 0 dX7_hand_22 jk7 (Nat.le_of_ble_eq_true rfl) jfRX7_10 ((hset_ne (by omega)).trans ((hset_ne (by omega)).trans ((hset_ne (by omega)).trans ((hset_ne (by omega)).trans H0)))) (by omega) rfl ?_
  refine J_get 7 dX7_hand_25 jk6 (Nat.le_of_ble_eq_true rfl) jfRX7_126 ((hset_ne (by omega)).trans ((hset_ne (by omega)).trans ((hset_ne (by omega)).trans ((hset_ne (by omega)).trans H1)))) (by omega) rfl ?_
  refine J_istore_n dX7_hand_28 (Nat.le_of_ble_eq_true rfl) (L' := [(2, .int (nI gr)), (0, .ref (E.1 + 0)), (1, .int (nI x))]) rfl ?_
  refine J_aload_n dX7_hand_29 rfl ?_
  refine J_get 0 dX7_hand_30 jk7 (Nat.le_of_ble_eq_true rfl) jfRX7_10 ((hset_ne (by omega)).trans ((hset_ne (by omega)).trans ((hset_ne (by omega)).trans ((hset_ne (by omega)).trans H0)))) (by omega) rfl ?_
  refine J_iload_n dX7_hand_33 rfl ?_
  refine J_put 7 dX7_hand_34 jk6 (Nat.le_of_ble_eq_true rfl) jfRX7_126 ((hset_ne (by omega)).trans ((hset_ne (by omega)).trans ((hset_ne (by omega)).trans ((hset_ne (by omega)).trans H1)))) (by omega) rfl rfl rfl (Nat.le_of_ble_eq_true rfl) ?_
  refine J.cast (h' := (hset (hset (hset (hset (hset h 9 (cI E 128 (nF (pushM PM ps M)))) 10 (cI E 8 (nF (pushD PD ps td)))) 11 (cI E 8 (nF (pushD PG ps gr)))) 8 (.inr (1, [.ref (E.1 + 9), .ref (E.1 + 10), .ref (E.1 + 11), .int (nI (pushS ps))]))) 1 (.inr (5, [.ref (E.1 + 2), .ref (E.1 + 3), .ref (E.1 + 4), .ref (E.1 + 6), .ref (E.1 + 8), .int (nI an), .int (nI td), .int (nI x)])))) rfl ?_
  refine J_iload_n dX7_hand_37 rfl ?_
  exact J_iret dX7_hand_38 rfl ⟨Nat.le_refl _, Nat.le_refl _⟩ (by rw [hPP]; exact ⟨rfl, rfl, rfl⟩)

set_option maxHeartbeats 1000000 in
set_option maxRecDepth 100000 in
theorem ctX7_undo_no {E : jE} {h : Nat → va_E} {n : Nat} (an : Nat) (td : Nat) (gr : Nat) (M : Nat → Nat) (ps : Nat) (PM : Nat → Nat) (PD : Nat → Nat) (PG : Nat → Nat) (ab : Nat) (be : Nat) (bd : Nat) (no : Nat) (fu : Nat) (H0 : h 0 = .inr (6, [.ref (E.1 + 1), .ref (E.1 + 12), .ref (E.1 + 23), .ref (E.1 + 24), .ref (E.1 + 30), .ref (E.1 + 34), .ref (E.1 + 37), .int (nI ab), .int (nI be), .int (nI bd), .int (nI no), .int (nI fu)])) (H1 : h 1 = .inr (5, [.ref (E.1 + 2), .ref (E.1 + 3), .ref (E.1 + 4), .ref (E.1 + 6), .ref (E.1 + 8), .int (nI an), .int (nI td), .int (nI gr)])) (H2 : h 3 = cI E 16 (nF M)) (H3 : h 8 = .inr (1, [.ref (E.1 + 9), .ref (E.1 + 10), .ref (E.1 + 11), .int (nI ps)])) (H4 : h 9 = cI E 128 (nF PM)) (H5 : h 10 = cI E 8 (nF PD)) (H6 : h 11 = cI E 8 (nF PG)) (hn : 38 ≤ n) (hps : ps = 0) : jC E mX7_undo (2, 0, 0) [.ref (E.1 + 0)] h n (jR (some (.int (-3))) (hset h 0 (.inr (6, [.ref (E.1 + 1), .ref (E.1 + 12), .ref (E.1 + 23), .ref (E.1 + 24), .ref (E.1 + 30), .ref (E.1 + 34), .ref (E.1 + 37), .int (nI ab), .int (nI be), .int (nI bd), .int (nI (no + 1)), .int (nI fu)]))) n) := by
  refine J.of (L := [(0, .ref (E.1 + 0))]) rfl (by decide +kernel) (Nat.le_of_ble_eq_true rfl) ?_
  obtain ⟨PP, hPP⟩ : ∃ PP : jPost, PP = (jR (some (.int (-3))) (hset h 0 (.inr (6, [.ref (E.1 + 1), .ref (E.1 + 12), .ref (E.1 + 23), .ref (E.1 + 24), .ref (E.1 + 30), .ref (E.1 + 34), .ref (E.1 + 37), .int (nI ab), .int (nI be), .int (nI bd), .int (nI (no + 1)), .int (nI fu)]))) n) := ⟨_, rfl⟩
  rw [← hPP]
  refine J_aload_n dX7_undo_0 rfl ?_
  refine J_get 0 dX7_undo_1 jk7 (Nat.le_of_ble_eq_true rfl) jfRX7_10 H0 (by omega) rfl ?_
  refine J_callVr (M' := mX6_goBack) (d' := (1, 0, 0)) (rest := []) dX7_undo_4 jmX6_goBack jlRX7_129 (ctX6_goBack0 1 an td gr M ps PM PD PG H1 H2 H3 H4 H5 H6 (by omega) (by first | assumption | omega)) H1 (by omega) jk6.1 rfl rfl (Nat.le_of_ble_eq_true rfl) (Nat.le_of_ble_eq_true rfl) ⟨Nat.le_refl _, Nat.le_refl _⟩ ?_
  refine J_if_eqN (tgt := 20) dX7_undo_7 (by decide) (by omega) (fun _ => ?_) (fun z => absurd z (by decide))
  refine J_aload_n dX7_undo_20 rfl ?_
  refine J_bipush (v := (-3)) dX7_undo_21 (by decide +kernel) ?_
  refine J_callVr (M' := mX7_refuse) (d' := (1, 0, 0)) (rest := []) dX7_undo_23 jmX7_refuse jlRX7_59 (ctX7_refuse3 ab be bd no fu H0 (by omega) ) H0 (by omega) jk7.1 rfl rfl (Nat.le_of_ble_eq_true rfl) (Nat.le_of_ble_eq_true rfl) ⟨Nat.le_refl _, Nat.le_refl _⟩ ?_
  exact J_iret dX7_undo_26 rfl ⟨Nat.le_refl _, Nat.le_refl _⟩ (by rw [hPP]; exact ⟨rfl, rfl, rfl⟩)

set_option maxHeartbeats 1000000 in
set_option maxRecDepth 100000 in
theorem ctX7_undo {E : jE} {h : Nat → va_E} {n : Nat} (an : Nat) (td : Nat) (gr : Nat) (M : Nat → Nat) (ps : Nat) (PM : Nat → Nat) (PD : Nat → Nat) (PG : Nat → Nat) (ab : Nat) (be : Nat) (bd : Nat) (no : Nat) (fu : Nat) (H0 : h 0 = .inr (6, [.ref (E.1 + 1), .ref (E.1 + 12), .ref (E.1 + 23), .ref (E.1 + 24), .ref (E.1 + 30), .ref (E.1 + 34), .ref (E.1 + 37), .int (nI ab), .int (nI be), .int (nI bd), .int (nI no), .int (nI fu)])) (H1 : h 1 = .inr (5, [.ref (E.1 + 2), .ref (E.1 + 3), .ref (E.1 + 4), .ref (E.1 + 6), .ref (E.1 + 8), .int (nI an), .int (nI td), .int (nI gr)])) (H2 : h 3 = cI E 16 (nF M)) (H3 : h 8 = .inr (1, [.ref (E.1 + 9), .ref (E.1 + 10), .ref (E.1 + 11), .int (nI ps)])) (H4 : h 9 = cI E 128 (nF PM)) (H5 : h 10 = cI E 8 (nF PD)) (H6 : h 11 = cI E 8 (nF PG)) (hn : 38 ≤ n) (hps : 0 < ps) (hps8 : ps ≤ 8) : jC E mX7_undo (2, 0, 0) [.ref (E.1 + 0)] h n (jR (some (.int (nI (PD (ps - 1))))) (hset (hset (hset h 8 (.inr (1, [.ref (E.1 + 9), .ref (E.1 + 10), .ref (E.1 + 11), .int (nI (ps - 1))]))) (1 + 2) (cI E 16 (nF (va_cpy PM M ((ps - 1) * 16) 0 16)))) 1 (.inr (5, [.ref (E.1 + 2), .ref (E.1 + 3), .ref (E.1 + 4), .ref (E.1 + 6), .ref (E.1 + 8), .int (nI an), .int (nI (PD (ps - 1))), .int (nI (PG (ps - 1)))]))) n) := by
  refine J.of (L := [(0, .ref (E.1 + 0))]) rfl (by decide +kernel) (Nat.le_of_ble_eq_true rfl) ?_
  obtain ⟨PP, hPP⟩ : ∃ PP : jPost, PP = (jR (some (.int (nI (PD (ps - 1))))) (hset (hset (hset h 8 (.inr (1, [.ref (E.1 + 9), .ref (E.1 + 10), .ref (E.1 + 11), .int (nI (ps - 1))]))) (1 + 2) (cI E 16 (nF (va_cpy PM M ((ps - 1) * 16) 0 16)))) 1 (.inr (5, [.ref (E.1 + 2), .ref (E.1 + 3), .ref (E.1 + 4), .ref (E.1 + 6), .ref (E.1 + 8), .int (nI an), .int (nI (PD (ps - 1))), .int (nI (PG (ps - 1)))]))) n) := ⟨_, rfl⟩
  rw [← hPP]
  refine J_aload_n dX7_undo_0 rfl ?_
  refine J_get 0 dX7_undo_1 jk7 (Nat.le_of_ble_eq_true rfl) jfRX7_10 H0 (by omega) rfl ?_
  refine J_callVr (M' := mX6_goBack) (d' := (1, 0, 0)) (rest := []) dX7_undo_4 jmX6_goBack jlRX7_129 (ctX6_goBack1 1 an td gr M ps PM PD PG H1 H2 H3 H4 H5 H6 (by omega) (by first | assumption | omega) (by first | assumption | omega)) H1 (by omega) jk6.1 rfl rfl (Nat.le_of_ble_eq_true rfl) (Nat.le_of_ble_eq_true rfl) ⟨Nat.le_refl _, Nat.le_refl _⟩ ?_
  refine J_if_eqN (tgt := 20) dX7_undo_7 (by decide) (by omega) (fun z => absurd z (by decide)) (fun _ => ?_)
  refine J_aload_n dX7_undo_10 rfl ?_
  refine J_get 0 dX7_undo_11 jk7 (Nat.le_of_ble_eq_true rfl) jfRX7_10 ((hset_ne (by omega)).trans ((hset_ne (by omega)).trans ((hset_ne (by omega)).trans H0))) (by omega) rfl ?_
  refine J_get 6 dX7_undo_14 jk6 (Nat.le_of_ble_eq_true rfl) jfRX7_115 hset_eq (by omega) rfl ?_
  refine J_goto (tgt := 26) dX7_undo_17 (by decide) ?_
  exact J_iret dX7_undo_26 rfl ⟨Nat.le_refl _, Nat.le_refl _⟩ (by rw [hPP]; exact ⟨rfl, rfl, rfl⟩)

set_option maxHeartbeats 1000000 in
set_option maxRecDepth 100000 in
theorem ctX7_of_bad {E : jE} {h : Nat → va_E} {n : Nat} (a : Nat) (w : Nat) (ab : Nat) (be : Nat) (bd : Nat) (no : Nat) (fu : Nat) (an : Nat) (td : Nat) (gr : Nat) (H0 : h 0 = .inr (6, [.ref (E.1 + 1), .ref (E.1 + 12), .ref (E.1 + 23), .ref (E.1 + 24), .ref (E.1 + 30), .ref (E.1 + 34), .ref (E.1 + 37), .int (nI ab), .int (nI be), .int (nI bd), .int (nI no), .int (nI fu)])) (H1 : h 1 = .inr (5, [.ref (E.1 + 2), .ref (E.1 + 3), .ref (E.1 + 4), .ref (E.1 + 6), .ref (E.1 + 8), .int (nI an), .int (nI td), .int (nI gr)])) (hn : 38 ≤ n) (h32a : a < 2 ^ 32) (h32w : w < 2 ^ 32) (hn4 : an ≤ 4) (hbad : ¬ (a < an ∧ w ≤ 4)) : jC E mX7_of (2, 0, 0) [.ref (E.1 + 0), .int (nI a), .int (nI w)] h n (jR (some (.int (-2))) (hset h 0 (.inr (6, [.ref (E.1 + 1), .ref (E.1 + 12), .ref (E.1 + 23), .ref (E.1 + 24), .ref (E.1 + 30), .ref (E.1 + 34), .ref (E.1 + 37), .int (nI ab), .int (nI be), .int (nI (bd + 1)), .int (nI no), .int (nI fu)]))) n) := by
  refine J.of (L := [(0, .ref (E.1 + 0)), (1, .int (nI a)), (2, .int (nI w))]) rfl (by decide +kernel) (Nat.le_of_ble_eq_true rfl) ?_
  obtain ⟨PP, hPP⟩ : ∃ PP : jPost, PP = (jR (some (.int (-2))) (hset h 0 (.inr (6, [.ref (E.1 + 1), .ref (E.1 + 12), .ref (E.1 + 23), .ref (E.1 + 24), .ref (E.1 + 30), .ref (E.1 + 34), .ref (E.1 + 37), .int (nI ab), .int (nI be), .int (nI (bd + 1)), .int (nI no), .int (nI fu)]))) n) := ⟨_, rfl⟩
  rw [← hPP]
  refine J_aload_n dX7_of_0 rfl ?_
  refine J_get 0 dX7_of_1 jk7 (Nat.le_of_ble_eq_true rfl) jfRX7_10 H0 (by omega) rfl ?_
  refine J_iload_n dX7_of_4 rfl ?_
  refine J_callVr (M' := mX6_has) (d' := (1, 0, 0)) (rest := []) dX7_of_5 jmX6_has jlRX7_133 (ctX6_has 1 a an td gr H1 (by omega) (by first | assumption | omega) (by first | assumption | omega)) H1 (by omega) jk6.1 rfl rfl (Nat.le_of_ble_eq_true rfl) (Nat.le_of_ble_eq_true rfl) ⟨Nat.le_refl _, Nat.le_refl _⟩ ?_
  refine J_if_eqB (tgt := 20) dX7_of_8 (by decide) (fun c1 => ?_) (fun c1 => ?_)
  · skip
    refine J_aload_n dX7_of_20 rfl ?_
    refine J_bipush (v := (-2)) dX7_of_21 (by decide +kernel) ?_
    refine J_callVr (M' := mX7_refuse) (d' := (1, 0, 0)) (rest := []) dX7_of_23 jmX7_refuse jlRX7_59 (ctX7_refuse2 ab be bd no fu H0 (by omega) ) H0 (by omega) jk7.1 rfl rfl (Nat.le_of_ble_eq_true rfl) (Nat.le_of_ble_eq_true rfl) ⟨Nat.le_refl _, Nat.le_refl _⟩ ?_
    exact J_iret dX7_of_26 rfl ⟨Nat.le_refl _, Nat.le_refl _⟩ (by rw [hPP]; exact ⟨rfl, rfl, rfl⟩)
  · skip
    refine J_iload_n dX7_of_11 rfl ?_
    refine J_iconst (v := nI 0) dX7_of_12 (by decide +kernel) ?_
    refine J_iconst (v := nI 4) dX7_of_13 (by decide +kernel) ?_
    refine J_callSr (M' := mX7_isWithin) (d' := (1, 0, 0)) (rest := []) dX7_of_14 jmX7_isWithin jlRX7_70 (ctX7_isWithin w 0 4   (by first | assumption | omega) (by first | assumption | omega) (by first | assumption | omega)) rfl rfl (Nat.le_of_ble_eq_true rfl) (Nat.le_of_ble_eq_true rfl) ⟨Nat.le_refl _, Nat.le_refl _⟩ ?_
    refine J_if_neB (tgt := 27) dX7_of_17 (by decide) (fun c2 => (by exfalso; omega)) (fun c2 => ?_)
    refine J_aload_n dX7_of_20 rfl ?_
    refine J_bipush (v := (-2)) dX7_of_21 (by decide +kernel) ?_
    refine J_callVr (M' := mX7_refuse) (d' := (1, 0, 0)) (rest := []) dX7_of_23 jmX7_refuse jlRX7_59 (ctX7_refuse2 ab be bd no fu H0 (by omega) ) H0 (by omega) jk7.1 rfl rfl (Nat.le_of_ble_eq_true rfl) (Nat.le_of_ble_eq_true rfl) ⟨Nat.le_refl _, Nat.le_refl _⟩ ?_
    exact J_iret dX7_of_26 rfl ⟨Nat.le_refl _, Nat.le_refl _⟩ (by rw [hPP]; exact ⟨rfl, rfl, rfl⟩)

set_option maxHeartbeats 1000000 in
set_option maxRecDepth 100000 in
theorem ctX7_of_0 {E : jE} {h : Nat → va_E} {n : Nat} (a : Nat) (an : Nat) (td : Nat) (gr : Nat) (K : Nat → Nat) (M : Nat → Nat) (ab : Nat) (be : Nat) (bd : Nat) (no : Nat) (fu : Nat) (H0 : h 0 = .inr (6, [.ref (E.1 + 1), .ref (E.1 + 12), .ref (E.1 + 23), .ref (E.1 + 24), .ref (E.1 + 30), .ref (E.1 + 34), .ref (E.1 + 37), .int (nI ab), .int (nI be), .int (nI bd), .int (nI no), .int (nI fu)])) (H1 : h 1 = .inr (5, [.ref (E.1 + 2), .ref (E.1 + 3), .ref (E.1 + 4), .ref (E.1 + 6), .ref (E.1 + 8), .int (nI an), .int (nI td), .int (nI gr)])) (H2 : h 2 = cI E 4 (nF K)) (H3 : h 3 = cI E 16 (nF M)) (hn : 38 ≤ n) (hn4 : an ≤ 4) (ha : a < an) : jC E mX7_of (2, 0, 0) [.ref (E.1 + 0), .int (nI a), .int (nI 0)] h n (jR (some (.int (nI (K a)))) h n) := by
  refine J.of (L := [(0, .ref (E.1 + 0)), (1, .int (nI a)), (2, .int (nI 0))]) rfl (by decide +kernel) (Nat.le_of_ble_eq_true rfl) ?_
  obtain ⟨PP, hPP⟩ : ∃ PP : jPost, PP = (jR (some (.int (nI (K a)))) h n) := ⟨_, rfl⟩
  rw [← hPP]
  refine J_aload_n dX7_of_0 rfl ?_
  refine J_get 0 dX7_of_1 jk7 (Nat.le_of_ble_eq_true rfl) jfRX7_10 H0 (by omega) rfl ?_
  refine J_iload_n dX7_of_4 rfl ?_
  refine J_callVr (M' := mX6_has) (d' := (1, 0, 0)) (rest := []) dX7_of_5 jmX6_has jlRX7_133 (ctX6_has 1 a an td gr H1 (by omega) (by first | assumption | omega) (by first | assumption | omega)) H1 (by omega) jk6.1 rfl rfl (Nat.le_of_ble_eq_true rfl) (Nat.le_of_ble_eq_true rfl) ⟨Nat.le_refl _, Nat.le_refl _⟩ ?_
  refine J_if_eqB (tgt := 20) dX7_of_8 (by decide) (fun c1 => (by exfalso; omega)) (fun c1 => ?_)
  refine J_iload_n dX7_of_11 rfl ?_
  refine J_iconst (v := nI 0) dX7_of_12 (by decide +kernel) ?_
  refine J_iconst (v := nI 4) dX7_of_13 (by decide +kernel) ?_
  refine J_callSr (M' := mX7_isWithin) (d' := (1, 0, 0)) (rest := []) dX7_of_14 jmX7_isWithin jlRX7_70 (ctX7_isWithin 0 0 4   (by first | assumption | omega) (by first | assumption | omega) (by first | assumption | omega)) rfl rfl (Nat.le_of_ble_eq_true rfl) (Nat.le_of_ble_eq_true rfl) ⟨Nat.le_refl _, Nat.le_refl _⟩ ?_
  refine J_if_neB (tgt := 27) dX7_of_17 (by decide) (fun c2 => ?_) (fun c2 => (by exfalso; omega))
  refine J_iload_n dX7_of_27 rfl ?_
  refine J_if_neN (tgt := 43) dX7_of_28 (by decide) (by omega) (fun z => absurd z (by decide)) (fun _ => ?_)
  refine J_aload_n dX7_of_31 rfl ?_
  refine J_get 0 dX7_of_32 jk7 (Nat.le_of_ble_eq_true rfl) jfRX7_10 H0 (by omega) rfl ?_
  refine J_get 0 dX7_of_35 jk6 (Nat.le_of_ble_eq_true rfl) jfRX7_136 H1 (by omega) rfl ?_
  refine J_iload_n dX7_of_38 rfl ?_
  refine J_ialdN (i := a) dX7_of_39 H2 (by omega) (by omega) (by omega) ?_
  refine J_goto (tgt := 54) dX7_of_40 (by decide) ?_
  exact J_iret dX7_of_54 rfl ⟨Nat.le_refl _, Nat.le_refl _⟩ (by rw [hPP]; exact ⟨rfl, rfl, rfl⟩)

set_option maxHeartbeats 1000000 in
set_option maxRecDepth 100000 in
theorem ctX7_of_1 {E : jE} {h : Nat → va_E} {n : Nat} (a : Nat) (j : Nat) (an : Nat) (td : Nat) (gr : Nat) (K : Nat → Nat) (M : Nat → Nat) (ab : Nat) (be : Nat) (bd : Nat) (no : Nat) (fu : Nat) (H0 : h 0 = .inr (6, [.ref (E.1 + 1), .ref (E.1 + 12), .ref (E.1 + 23), .ref (E.1 + 24), .ref (E.1 + 30), .ref (E.1 + 34), .ref (E.1 + 37), .int (nI ab), .int (nI be), .int (nI bd), .int (nI no), .int (nI fu)])) (H1 : h 1 = .inr (5, [.ref (E.1 + 2), .ref (E.1 + 3), .ref (E.1 + 4), .ref (E.1 + 6), .ref (E.1 + 8), .int (nI an), .int (nI td), .int (nI gr)])) (H2 : h 2 = cI E 4 (nF K)) (H3 : h 3 = cI E 16 (nF M)) (hn : 38 ≤ n) (hn4 : an ≤ 4) (ha : a < an) (hj : j < 4) : jC E mX7_of (2, 0, 0) [.ref (E.1 + 0), .int (nI a), .int (nI (j + 1))] h n (jR (some (.int (nI (M (4 * a + j))))) h n) := by
  refine J.of (L := [(0, .ref (E.1 + 0)), (1, .int (nI a)), (2, .int (nI (j + 1)))]) rfl (by decide +kernel) (Nat.le_of_ble_eq_true rfl) ?_
  obtain ⟨PP, hPP⟩ : ∃ PP : jPost, PP = (jR (some (.int (nI (M (4 * a + j))))) h n) := ⟨_, rfl⟩
  rw [← hPP]
  refine J_aload_n dX7_of_0 rfl ?_
  refine J_get 0 dX7_of_1 jk7 (Nat.le_of_ble_eq_true rfl) jfRX7_10 H0 (by omega) rfl ?_
  refine J_iload_n dX7_of_4 rfl ?_
  refine J_callVr (M' := mX6_has) (d' := (1, 0, 0)) (rest := []) dX7_of_5 jmX6_has jlRX7_133 (ctX6_has 1 a an td gr H1 (by omega) (by first | assumption | omega) (by first | assumption | omega)) H1 (by omega) jk6.1 rfl rfl (Nat.le_of_ble_eq_true rfl) (Nat.le_of_ble_eq_true rfl) ⟨Nat.le_refl _, Nat.le_refl _⟩ ?_
  refine J_if_eqB (tgt := 20) dX7_of_8 (by decide) (fun c1 => (by exfalso; omega)) (fun c1 => ?_)
  refine J_iload_n dX7_of_11 rfl ?_
  refine J_iconst (v := nI 0) dX7_of_12 (by decide +kernel) ?_
  refine J_iconst (v := nI 4) dX7_of_13 (by decide +kernel) ?_
  refine J_callSr (M' := mX7_isWithin) (d' := (1, 0, 0)) (rest := []) dX7_of_14 jmX7_isWithin jlRX7_70 (ctX7_isWithin (j + 1) 0 4   (by first | assumption | omega) (by first | assumption | omega) (by first | assumption | omega)) rfl rfl (Nat.le_of_ble_eq_true rfl) (Nat.le_of_ble_eq_true rfl) ⟨Nat.le_refl _, Nat.le_refl _⟩ ?_
  refine J_if_neB (tgt := 27) dX7_of_17 (by decide) (fun c2 => ?_) (fun c2 => (by exfalso; omega))
  refine J_iload_n dX7_of_27 rfl ?_
  refine J_if_neN (tgt := 43) dX7_of_28 (by decide) (by omega) (fun c3 => ?_) (fun c3 => (by exfalso; omega))
  refine J_aload_n dX7_of_43 rfl ?_
  refine J_get 0 dX7_of_44 jk7 (Nat.le_of_ble_eq_true rfl) jfRX7_10 H0 (by omega) rfl ?_
  refine J_iload_n dX7_of_47 rfl ?_
  refine J_iload_n dX7_of_48 rfl ?_
  refine J_iconst (v := nI 1) dX7_of_49 (by decide +kernel) ?_
  refine J_isubN dX7_of_50 (by omega) ?_
  refine J_callVr (M' := mX6_remembered) (d' := (1, 0, 0)) (rest := []) dX7_of_51 jmX6_remembered jlRX7_118 (ctX6_remembered 1 a ((j + 1) - 1) an td gr M H1 H3 (by omega) (by first | assumption | omega) (by first | assumption | omega)) H1 (by omega) jk6.1 rfl rfl (Nat.le_of_ble_eq_true rfl) (Nat.le_of_ble_eq_true rfl) ⟨Nat.le_refl _, Nat.le_refl _⟩ ?_
  exact J_iret dX7_of_54 rfl ⟨Nat.le_refl _, Nat.le_refl _⟩ (by rw [hPP]; exact ⟨(congrArg some (jv_N (by rw [Nat.add_sub_cancel]))), rfl, rfl⟩)

set_option maxHeartbeats 1000000 in
set_option maxRecDepth 100000 in
theorem ctX7_up_bad {E : jE} {h : Nat → va_E} {n : Nat} (a : Nat) (t : Nat) (ab : Nat) (be : Nat) (bd : Nat) (no : Nat) (fu : Nat) (an : Nat) (td : Nat) (gr : Nat) (H0 : h 0 = .inr (6, [.ref (E.1 + 1), .ref (E.1 + 12), .ref (E.1 + 23), .ref (E.1 + 24), .ref (E.1 + 30), .ref (E.1 + 34), .ref (E.1 + 37), .int (nI ab), .int (nI be), .int (nI bd), .int (nI no), .int (nI fu)])) (H1 : h 1 = .inr (5, [.ref (E.1 + 2), .ref (E.1 + 3), .ref (E.1 + 4), .ref (E.1 + 6), .ref (E.1 + 8), .int (nI an), .int (nI td), .int (nI gr)])) (hn : 38 ≤ n) (h32a : a < 2 ^ 32) (h32t : t < 2 ^ 32) (hn4 : an ≤ 4) (hbad : ¬ (a < an ∧ t ≤ 3)) : jC E mX7_up (4, 0, 0) [.ref (E.1 + 0), .int (nI a), .int (nI t)] h n (jR (some (.int (-2))) (hset h 0 (.inr (6, [.ref (E.1 + 1), .ref (E.1 + 12), .ref (E.1 + 23), .ref (E.1 + 24), .ref (E.1 + 30), .ref (E.1 + 34), .ref (E.1 + 37), .int (nI ab), .int (nI be), .int (nI (bd + 1)), .int (nI no), .int (nI fu)]))) n) := by
  refine J.of (L := [(0, .ref (E.1 + 0)), (1, .int (nI a)), (2, .int (nI t))]) rfl (by decide +kernel) (Nat.le_of_ble_eq_true rfl) ?_
  obtain ⟨PP, hPP⟩ : ∃ PP : jPost, PP = (jR (some (.int (-2))) (hset h 0 (.inr (6, [.ref (E.1 + 1), .ref (E.1 + 12), .ref (E.1 + 23), .ref (E.1 + 24), .ref (E.1 + 30), .ref (E.1 + 34), .ref (E.1 + 37), .int (nI ab), .int (nI be), .int (nI (bd + 1)), .int (nI no), .int (nI fu)]))) n) := ⟨_, rfl⟩
  rw [← hPP]
  refine J_aload_n dX7_up_0 rfl ?_
  refine J_iload_n dX7_up_1 rfl ?_
  refine J_iload_n dX7_up_2 rfl ?_
  refine J_callVr (M' := mX7_isPlace) (d' := (3, 0, 0)) (rest := []) dX7_up_3 jmX7_isPlace jlRX7_98 (ctX7_isPlace a t an td gr ab be bd no fu H0 H1 (by omega) (by first | assumption | omega) (by first | assumption | omega) (by first | assumption | omega)) H0 (by omega) jk7.1 rfl rfl (Nat.le_of_ble_eq_true rfl) (Nat.le_of_ble_eq_true rfl) ⟨Nat.le_refl _, Nat.le_refl _⟩ ?_
  refine J_if_eqB (tgt := 21) dX7_up_6 (by decide) (fun c1 => ?_) (fun c1 => (by exfalso; omega))
  refine J_aload_n dX7_up_21 rfl ?_
  refine J_bipush (v := (-2)) dX7_up_22 (by decide +kernel) ?_
  refine J_callVr (M' := mX7_refuse) (d' := (1, 0, 0)) (rest := []) dX7_up_24 jmX7_refuse jlRX7_59 (ctX7_refuse2 ab be bd no fu H0 (by omega) ) H0 (by omega) jk7.1 rfl rfl (Nat.le_of_ble_eq_true rfl) (Nat.le_of_ble_eq_true rfl) ⟨Nat.le_refl _, Nat.le_refl _⟩ ?_
  exact J_iret dX7_up_27 rfl ⟨Nat.le_refl _, Nat.le_refl _⟩ (by rw [hPP]; exact ⟨rfl, rfl, rfl⟩)

set_option maxHeartbeats 1000000 in
set_option maxRecDepth 100000 in
theorem ctX7_up {E : jE} {h : Nat → va_E} {n : Nat} (a : Nat) (t : Nat) (an : Nat) (td : Nat) (gr : Nat) (K : Nat → Nat) (M : Nat → Nat) (ab : Nat) (be : Nat) (bd : Nat) (no : Nat) (fu : Nat) (H0 : h 0 = .inr (6, [.ref (E.1 + 1), .ref (E.1 + 12), .ref (E.1 + 23), .ref (E.1 + 24), .ref (E.1 + 30), .ref (E.1 + 34), .ref (E.1 + 37), .int (nI ab), .int (nI be), .int (nI bd), .int (nI no), .int (nI fu)])) (H1 : h 1 = .inr (5, [.ref (E.1 + 2), .ref (E.1 + 3), .ref (E.1 + 4), .ref (E.1 + 6), .ref (E.1 + 8), .int (nI an), .int (nI td), .int (nI gr)])) (H2 : h 2 = cI E 4 (nF K)) (H3 : h 3 = cI E 16 (nF M)) (hn : 38 ≤ n) (hK : ∀ zz, K zz ≤ 5) (hM : ∀ zz, M zz ≤ 20) (hg : gr ≤ 9) (hn4 : an ≤ 4) (ha : a < an) (ht : t < 4) : jC E mX7_up (4, 0, 0) [.ref (E.1 + 0), .int (nI a), .int (nI t)] h n (jR (some (.int (nI (upN (K a) (M (4 * a + t)) gr)))) h n) := by
  refine J.of (L := [(0, .ref (E.1 + 0)), (1, .int (nI a)), (2, .int (nI t))]) rfl (by decide +kernel) (Nat.le_of_ble_eq_true rfl) ?_
  obtain ⟨PP, hPP⟩ : ∃ PP : jPost, PP = (jR (some (.int (nI (upN (K a) (M (4 * a + t)) gr)))) h n) := ⟨_, rfl⟩
  rw [← hPP]
  refine J_aload_n dX7_up_0 rfl ?_
  refine J_iload_n dX7_up_1 rfl ?_
  refine J_iload_n dX7_up_2 rfl ?_
  refine J_callVr (M' := mX7_isPlace) (d' := (3, 0, 0)) (rest := []) dX7_up_3 jmX7_isPlace jlRX7_98 (ctX7_isPlace a t an td gr ab be bd no fu H0 H1 (by omega) (by first | assumption | omega) (by first | assumption | omega) (by first | assumption | omega)) H0 (by omega) jk7.1 rfl rfl (Nat.le_of_ble_eq_true rfl) (Nat.le_of_ble_eq_true rfl) ⟨Nat.le_refl _, Nat.le_refl _⟩ ?_
  refine J_if_eqB (tgt := 21) dX7_up_6 (by decide) (fun c1 => (by exfalso; omega)) (fun c1 => ?_)
  refine J_aload_n dX7_up_9 rfl ?_
  refine J_get 0 dX7_up_10 jk7 (Nat.le_of_ble_eq_true rfl) jfRX7_10 H0 (by omega) rfl ?_
  refine J_iload_n dX7_up_13 rfl ?_
  refine J_iload_n dX7_up_14 rfl ?_
  refine J_callVr (M' := mX6_risen) (d' := (2, 0, 0)) (rest := []) dX7_up_15 jmX6_risen jlRX7_139 (ctX6_risen 1 a t an td gr K M H1 H2 H3 (by omega) (by first | assumption | omega) (by first | assumption | omega) (by first | assumption | omega) (by first | assumption | omega) (by first | assumption | omega)) H1 (by omega) jk6.1 rfl rfl (Nat.le_of_ble_eq_true rfl) (Nat.le_of_ble_eq_true rfl) ⟨Nat.le_refl _, Nat.le_refl _⟩ ?_
  have fc2 : upN (K a) (M (4 * a + t)) gr ≤ 42 := upN_le ((show ∀ zz, M zz ≤ 20 from by first | assumption | omega) (4 * a + t))
  refine J_goto (tgt := 27) dX7_up_18 (by decide) ?_
  exact J_iret dX7_up_27 rfl ⟨Nat.le_refl _, Nat.le_refl _⟩ (by rw [hPP]; exact ⟨rfl, rfl, rfl⟩)

set_option maxHeartbeats 1000000 in
set_option maxRecDepth 100000 in
theorem ctX7_foreign_bad {E : jE} {h : Nat → va_E} {n : Nat} (a : Nat) (t : Nat) (ab : Nat) (be : Nat) (bd : Nat) (no : Nat) (fu : Nat) (an : Nat) (td : Nat) (gr : Nat) (H0 : h 0 = .inr (6, [.ref (E.1 + 1), .ref (E.1 + 12), .ref (E.1 + 23), .ref (E.1 + 24), .ref (E.1 + 30), .ref (E.1 + 34), .ref (E.1 + 37), .int (nI ab), .int (nI be), .int (nI bd), .int (nI no), .int (nI fu)])) (H1 : h 1 = .inr (5, [.ref (E.1 + 2), .ref (E.1 + 3), .ref (E.1 + 4), .ref (E.1 + 6), .ref (E.1 + 8), .int (nI an), .int (nI td), .int (nI gr)])) (hn : 38 ≤ n) (h32a : a < 2 ^ 32) (h32t : t < 2 ^ 32) (hn4 : an ≤ 4) (hbad : ¬ (a < an ∧ t ≤ 3)) : jC E mX7_foreign (4, 0, 0) [.ref (E.1 + 0), .int (nI a), .int (nI t)] h n (jR (some (.int (-2))) (hset h 0 (.inr (6, [.ref (E.1 + 1), .ref (E.1 + 12), .ref (E.1 + 23), .ref (E.1 + 24), .ref (E.1 + 30), .ref (E.1 + 34), .ref (E.1 + 37), .int (nI ab), .int (nI be), .int (nI (bd + 1)), .int (nI no), .int (nI fu)]))) n) := by
  refine J.of (L := [(0, .ref (E.1 + 0)), (1, .int (nI a)), (2, .int (nI t))]) rfl (by decide +kernel) (Nat.le_of_ble_eq_true rfl) ?_
  obtain ⟨PP, hPP⟩ : ∃ PP : jPost, PP = (jR (some (.int (-2))) (hset h 0 (.inr (6, [.ref (E.1 + 1), .ref (E.1 + 12), .ref (E.1 + 23), .ref (E.1 + 24), .ref (E.1 + 30), .ref (E.1 + 34), .ref (E.1 + 37), .int (nI ab), .int (nI be), .int (nI (bd + 1)), .int (nI no), .int (nI fu)]))) n) := ⟨_, rfl⟩
  rw [← hPP]
  refine J_aload_n dX7_foreign_0 rfl ?_
  refine J_iload_n dX7_foreign_1 rfl ?_
  refine J_iload_n dX7_foreign_2 rfl ?_
  refine J_callVr (M' := mX7_isPlace) (d' := (3, 0, 0)) (rest := []) dX7_foreign_3 jmX7_isPlace jlRX7_98 (ctX7_isPlace a t an td gr ab be bd no fu H0 H1 (by omega) (by first | assumption | omega) (by first | assumption | omega) (by first | assumption | omega)) H0 (by omega) jk7.1 rfl rfl (Nat.le_of_ble_eq_true rfl) (Nat.le_of_ble_eq_true rfl) ⟨Nat.le_refl _, Nat.le_refl _⟩ ?_
  refine J_if_eqB (tgt := 21) dX7_foreign_6 (by decide) (fun c1 => ?_) (fun c1 => (by exfalso; omega))
  refine J_aload_n dX7_foreign_21 rfl ?_
  refine J_bipush (v := (-2)) dX7_foreign_22 (by decide +kernel) ?_
  refine J_callVr (M' := mX7_refuse) (d' := (1, 0, 0)) (rest := []) dX7_foreign_24 jmX7_refuse jlRX7_59 (ctX7_refuse2 ab be bd no fu H0 (by omega) ) H0 (by omega) jk7.1 rfl rfl (Nat.le_of_ble_eq_true rfl) (Nat.le_of_ble_eq_true rfl) ⟨Nat.le_refl _, Nat.le_refl _⟩ ?_
  exact J_iret dX7_foreign_27 rfl ⟨Nat.le_refl _, Nat.le_refl _⟩ (by rw [hPP]; exact ⟨rfl, rfl, rfl⟩)

set_option maxHeartbeats 1000000 in
set_option maxRecDepth 100000 in
theorem ctX7_foreign {E : jE} {h : Nat → va_E} {n : Nat} (a : Nat) (t : Nat) (an : Nat) (td : Nat) (gr : Nat) (K : Nat → Nat) (M : Nat → Nat) (ab : Nat) (be : Nat) (bd : Nat) (no : Nat) (fu : Nat) (H0 : h 0 = .inr (6, [.ref (E.1 + 1), .ref (E.1 + 12), .ref (E.1 + 23), .ref (E.1 + 24), .ref (E.1 + 30), .ref (E.1 + 34), .ref (E.1 + 37), .int (nI ab), .int (nI be), .int (nI bd), .int (nI no), .int (nI fu)])) (H1 : h 1 = .inr (5, [.ref (E.1 + 2), .ref (E.1 + 3), .ref (E.1 + 4), .ref (E.1 + 6), .ref (E.1 + 8), .int (nI an), .int (nI td), .int (nI gr)])) (H2 : h 2 = cI E 4 (nF K)) (H3 : h 3 = cI E 16 (nF M)) (hn : 38 ≤ n) (hK : ∀ zz, K zz ≤ 5) (hM : ∀ zz, M zz ≤ 20) (hg : gr ≤ 9) (hn4 : an ≤ 4) (ha : a < an) (ht : t < 4) : jC E mX7_foreign (4, 0, 0) [.ref (E.1 + 0), .int (nI a), .int (nI t)] h n (jR (some (.int (nI (fgnN K M gr a t 4)))) h n) := by
  refine J.of (L := [(0, .ref (E.1 + 0)), (1, .int (nI a)), (2, .int (nI t))]) rfl (by decide +kernel) (Nat.le_of_ble_eq_true rfl) ?_
  obtain ⟨PP, hPP⟩ : ∃ PP : jPost, PP = (jR (some (.int (nI (fgnN K M gr a t 4)))) h n) := ⟨_, rfl⟩
  rw [← hPP]
  refine J_aload_n dX7_foreign_0 rfl ?_
  refine J_iload_n dX7_foreign_1 rfl ?_
  refine J_iload_n dX7_foreign_2 rfl ?_
  refine J_callVr (M' := mX7_isPlace) (d' := (3, 0, 0)) (rest := []) dX7_foreign_3 jmX7_isPlace jlRX7_98 (ctX7_isPlace a t an td gr ab be bd no fu H0 H1 (by omega) (by first | assumption | omega) (by first | assumption | omega) (by first | assumption | omega)) H0 (by omega) jk7.1 rfl rfl (Nat.le_of_ble_eq_true rfl) (Nat.le_of_ble_eq_true rfl) ⟨Nat.le_refl _, Nat.le_refl _⟩ ?_
  refine J_if_eqB (tgt := 21) dX7_foreign_6 (by decide) (fun c1 => (by exfalso; omega)) (fun c1 => ?_)
  refine J_aload_n dX7_foreign_9 rfl ?_
  refine J_get 0 dX7_foreign_10 jk7 (Nat.le_of_ble_eq_true rfl) jfRX7_10 H0 (by omega) rfl ?_
  refine J_iload_n dX7_foreign_13 rfl ?_
  refine J_iload_n dX7_foreign_14 rfl ?_
  refine J_callVr (M' := mX6_unwanted) (d' := (3, 0, 0)) (rest := []) dX7_foreign_15 jmX6_unwanted jlRX7_142 (ctX6_unwanted 1 a t an td gr K M H1 H2 H3 (by omega) (by first | assumption | omega) (by first | assumption | omega) (by first | assumption | omega) (by first | assumption | omega) (by first | assumption | omega)) H1 (by omega) jk6.1 rfl rfl (Nat.le_of_ble_eq_true rfl) (Nat.le_of_ble_eq_true rfl) ⟨Nat.le_refl _, Nat.le_refl _⟩ ?_
  have fc2 : fgnN K M gr a t 4 ≤ 42 * 4 := fgnN_le (show ∀ zz, M zz ≤ 20 from by first | assumption | omega) 4
  refine J_goto (tgt := 27) dX7_foreign_18 (by decide) ?_
  exact J_iret dX7_foreign_27 rfl ⟨Nat.le_refl _, Nat.le_refl _⟩ (by rw [hPP]; exact ⟨rfl, rfl, rfl⟩)

set_option maxHeartbeats 1000000 in
set_option maxRecDepth 100000 in
theorem ctX7_then_bad {E : jE} {h : Nat → va_E} {n : Nat} (a : Nat) (t : Nat) (x : Nat) (ab : Nat) (be : Nat) (bd : Nat) (no : Nat) (fu : Nat) (an : Nat) (td : Nat) (gr : Nat) (H0 : h 0 = .inr (6, [.ref (E.1 + 1), .ref (E.1 + 12), .ref (E.1 + 23), .ref (E.1 + 24), .ref (E.1 + 30), .ref (E.1 + 34), .ref (E.1 + 37), .int (nI ab), .int (nI be), .int (nI bd), .int (nI no), .int (nI fu)])) (H1 : h 1 = .inr (5, [.ref (E.1 + 2), .ref (E.1 + 3), .ref (E.1 + 4), .ref (E.1 + 6), .ref (E.1 + 8), .int (nI an), .int (nI td), .int (nI gr)])) (hn : 38 ≤ n) (h32a : a < 2 ^ 32) (h32t : t < 2 ^ 32) (h32x : x < 2 ^ 32) (hn4 : an ≤ 4) (hbad : ¬ (a < an ∧ t ≤ 3 ∧ x ≤ 90)) : jC E mX7_then (4, 0, 0) [.ref (E.1 + 0), .int (nI a), .int (nI t), .int (nI x)] h n (jR (some (.int (-2))) (hset h 0 (.inr (6, [.ref (E.1 + 1), .ref (E.1 + 12), .ref (E.1 + 23), .ref (E.1 + 24), .ref (E.1 + 30), .ref (E.1 + 34), .ref (E.1 + 37), .int (nI ab), .int (nI be), .int (nI (bd + 1)), .int (nI no), .int (nI fu)]))) n) := by
  refine J.of (L := [(0, .ref (E.1 + 0)), (1, .int (nI a)), (2, .int (nI t)), (3, .int (nI x))]) rfl (by decide +kernel) (Nat.le_of_ble_eq_true rfl) ?_
  obtain ⟨PP, hPP⟩ : ∃ PP : jPost, PP = (jR (some (.int (-2))) (hset h 0 (.inr (6, [.ref (E.1 + 1), .ref (E.1 + 12), .ref (E.1 + 23), .ref (E.1 + 24), .ref (E.1 + 30), .ref (E.1 + 34), .ref (E.1 + 37), .int (nI ab), .int (nI be), .int (nI (bd + 1)), .int (nI no), .int (nI fu)]))) n) := ⟨_, rfl⟩
  rw [← hPP]
  refine J_aload_n dX7_then_0 rfl ?_
  refine J_iload_n dX7_then_1 rfl ?_
  refine J_iload_n dX7_then_2 rfl ?_
  refine J_callVr (M' := mX7_isPlace) (d' := (3, 0, 0)) (rest := []) dX7_then_3 jmX7_isPlace jlRX7_98 (ctX7_isPlace a t an td gr ab be bd no fu H0 H1 (by omega) (by first | assumption | omega) (by first | assumption | omega) (by first | assumption | omega)) H0 (by omega) jk7.1 rfl rfl (Nat.le_of_ble_eq_true rfl) (Nat.le_of_ble_eq_true rfl) ⟨Nat.le_refl _, Nat.le_refl _⟩ ?_
  refine J_if_eqB (tgt := 19) dX7_then_6 (by decide) (fun c1 => ?_) (fun c1 => ?_)
  · skip
    refine J_aload_n dX7_then_19 rfl ?_
    refine J_bipush (v := (-2)) dX7_then_20 (by decide +kernel) ?_
    refine J_callVr (M' := mX7_refuse) (d' := (1, 0, 0)) (rest := []) dX7_then_22 jmX7_refuse jlRX7_59 (ctX7_refuse2 ab be bd no fu H0 (by omega) ) H0 (by omega) jk7.1 rfl rfl (Nat.le_of_ble_eq_true rfl) (Nat.le_of_ble_eq_true rfl) ⟨Nat.le_refl _, Nat.le_refl _⟩ ?_
    exact J_iret dX7_then_25 rfl ⟨Nat.le_refl _, Nat.le_refl _⟩ (by rw [hPP]; exact ⟨rfl, rfl, rfl⟩)
  · skip
    refine J_iload_n dX7_then_9 rfl ?_
    refine J_iconst (v := nI 0) dX7_then_10 (by decide +kernel) ?_
    refine J_bipush (v := nI 90) dX7_then_11 (by decide +kernel) ?_
    refine J_callSr (M' := mX7_isWithin) (d' := (1, 0, 0)) (rest := []) dX7_then_13 jmX7_isWithin jlRX7_70 (ctX7_isWithin x 0 90   (by first | assumption | omega) (by first | assumption | omega) (by first | assumption | omega)) rfl rfl (Nat.le_of_ble_eq_true rfl) (Nat.le_of_ble_eq_true rfl) ⟨Nat.le_refl _, Nat.le_refl _⟩ ?_
    refine J_if_neB (tgt := 26) dX7_then_16 (by decide) (fun c2 => (by exfalso; omega)) (fun c2 => ?_)
    refine J_aload_n dX7_then_19 rfl ?_
    refine J_bipush (v := (-2)) dX7_then_20 (by decide +kernel) ?_
    refine J_callVr (M' := mX7_refuse) (d' := (1, 0, 0)) (rest := []) dX7_then_22 jmX7_refuse jlRX7_59 (ctX7_refuse2 ab be bd no fu H0 (by omega) ) H0 (by omega) jk7.1 rfl rfl (Nat.le_of_ble_eq_true rfl) (Nat.le_of_ble_eq_true rfl) ⟨Nat.le_refl _, Nat.le_refl _⟩ ?_
    exact J_iret dX7_then_25 rfl ⟨Nat.le_refl _, Nat.le_refl _⟩ (by rw [hPP]; exact ⟨rfl, rfl, rfl⟩)

set_option maxHeartbeats 1000000 in
set_option maxRecDepth 100000 in
theorem ctX7_then {E : jE} {h : Nat → va_E} {n : Nat} (a : Nat) (t : Nat) (x : Nat) (an : Nat) (td : Nat) (gr : Nat) (K : Nat → Nat) (M : Nat → Nat) (ab : Nat) (be : Nat) (bd : Nat) (no : Nat) (fu : Nat) (H0 : h 0 = .inr (6, [.ref (E.1 + 1), .ref (E.1 + 12), .ref (E.1 + 23), .ref (E.1 + 24), .ref (E.1 + 30), .ref (E.1 + 34), .ref (E.1 + 37), .int (nI ab), .int (nI be), .int (nI bd), .int (nI no), .int (nI fu)])) (H1 : h 1 = .inr (5, [.ref (E.1 + 2), .ref (E.1 + 3), .ref (E.1 + 4), .ref (E.1 + 6), .ref (E.1 + 8), .int (nI an), .int (nI td), .int (nI gr)])) (H2 : h 2 = cI E 4 (nF K)) (H3 : h 3 = cI E 16 (nF M)) (hn : 38 ≤ n) (hK : ∀ zz, K zz ≤ 5) (hM : ∀ zz, M zz ≤ 20) (hg : gr ≤ 9) (hn4 : an ≤ 4) (htd : td ≤ 999) (ha : a < an) (ht : t < 4) (hx : x ≤ 90) : jC E mX7_then (4, 0, 0) [.ref (E.1 + 0), .int (nI a), .int (nI t), .int (nI x)] h n (jR (some (.int (nI (thenN (K a) (M (4 * a + t)) td x)))) h n) := by
  refine J.of (L := [(0, .ref (E.1 + 0)), (1, .int (nI a)), (2, .int (nI t)), (3, .int (nI x))]) rfl (by decide +kernel) (Nat.le_of_ble_eq_true rfl) ?_
  obtain ⟨PP, hPP⟩ : ∃ PP : jPost, PP = (jR (some (.int (nI (thenN (K a) (M (4 * a + t)) td x)))) h n) := ⟨_, rfl⟩
  rw [← hPP]
  refine J_aload_n dX7_then_0 rfl ?_
  refine J_iload_n dX7_then_1 rfl ?_
  refine J_iload_n dX7_then_2 rfl ?_
  refine J_callVr (M' := mX7_isPlace) (d' := (3, 0, 0)) (rest := []) dX7_then_3 jmX7_isPlace jlRX7_98 (ctX7_isPlace a t an td gr ab be bd no fu H0 H1 (by omega) (by first | assumption | omega) (by first | assumption | omega) (by first | assumption | omega)) H0 (by omega) jk7.1 rfl rfl (Nat.le_of_ble_eq_true rfl) (Nat.le_of_ble_eq_true rfl) ⟨Nat.le_refl _, Nat.le_refl _⟩ ?_
  refine J_if_eqB (tgt := 19) dX7_then_6 (by decide) (fun c1 => (by exfalso; omega)) (fun c1 => ?_)
  refine J_iload_n dX7_then_9 rfl ?_
  refine J_iconst (v := nI 0) dX7_then_10 (by decide +kernel) ?_
  refine J_bipush (v := nI 90) dX7_then_11 (by decide +kernel) ?_
  refine J_callSr (M' := mX7_isWithin) (d' := (1, 0, 0)) (rest := []) dX7_then_13 jmX7_isWithin jlRX7_70 (ctX7_isWithin x 0 90   (by first | assumption | omega) (by first | assumption | omega) (by first | assumption | omega)) rfl rfl (Nat.le_of_ble_eq_true rfl) (Nat.le_of_ble_eq_true rfl) ⟨Nat.le_refl _, Nat.le_refl _⟩ ?_
  refine J_if_neB (tgt := 26) dX7_then_16 (by decide) (fun c2 => ?_) (fun c2 => (by exfalso; omega))
  refine J_aload_n dX7_then_26 rfl ?_
  refine J_get 0 dX7_then_27 jk7 (Nat.le_of_ble_eq_true rfl) jfRX7_10 H0 (by omega) rfl ?_
  refine J_iload_n dX7_then_30 rfl ?_
  refine J_iload_n dX7_then_31 rfl ?_
  refine J_callVr (M' := mX6_remembered) (d' := (1, 0, 0)) (rest := []) dX7_then_32 jmX6_remembered jlRX7_118 (ctX6_remembered 1 a t an td gr M H1 H3 (by omega) (by first | assumption | omega) (by first | assumption | omega)) H1 (by omega) jk6.1 rfl rfl (Nat.le_of_ble_eq_true rfl) (Nat.le_of_ble_eq_true rfl) ⟨Nat.le_refl _, Nat.le_refl _⟩ ?_
  refine J_istore dX7_then_35 (Nat.le_of_ble_eq_true rfl) (L' := [(4, .int (nI (M (4 * a + t)))), (0, .ref (E.1 + 0)), (1, .int (nI a)), (2, .int (nI t)), (3, .int (nI x))]) rfl ?_
  refine J_iconst (v := nI 0) dX7_then_37 (by decide +kernel) ?_
  refine J_istore dX7_then_38 (Nat.le_of_ble_eq_true rfl) (L' := [(5, .int (nI 0)), (4, .int (nI (M (4 * a + t)))), (0, .ref (E.1 + 0)), (1, .int (nI a)), (2, .int (nI t)), (3, .int (nI x))]) rfl ?_
  have CUT40 : ∀ (f40 : Nat) (i : Nat) (hm40 : x - i < f40) (hi : i ≤ x), J E mX7_then (4, 0, 0) jS0 PP h n (0, 0) 40 [(5, .int (nI i)), (4, .int (nI (thenN (K a) (M (4 * a + t)) td i))), (0, .ref (E.1 + 0)), (1, .int (nI a)), (2, .int (nI t)), (3, .int (nI x))] [] := by
    intro f40
    induction f40 with
    | zero => intro i hm40; exact absurd hm40 (Nat.not_lt_zero _)
    | succ f40 ih40 =>
      intro i hm40 hi
      have tb := thenN_le (K a) (M (4 * a + t)) td i
      have tm := hM (4 * a + t)
      refine J_iload dX7_then_40 rfl ?_
      refine J_iload_n dX7_then_42 rfl ?_
      refine J_icmp_geN (tgt := 78) dX7_then_43 (by decide) (by omega) (by omega) (fun c3 => ?_) (fun c3 => ?_)
      · skip
        refine J_iload dX7_then_78 rfl ?_
        exact J_iret dX7_then_80 rfl ⟨Nat.le_refl _, Nat.le_refl _⟩ (by rw [hPP]; exact ⟨(congrArg some (jv_N (by rw [show i = x by omega]))), rfl, rfl⟩)
      · skip
        refine J_aload_n dX7_then_46 rfl ?_
        refine J_get 0 dX7_then_47 jk7 (Nat.le_of_ble_eq_true rfl) jfRX7_10 H0 (by omega) rfl ?_
        refine J_get 0 dX7_then_50 jk6 (Nat.le_of_ble_eq_true rfl) jfRX7_136 H1 (by omega) rfl ?_
        refine J_iload_n dX7_then_53 rfl ?_
        refine J_ialdN (i := a) dX7_then_54 H2 (by omega) (by omega) (by omega) ?_
        have bd4 := hK a
        refine J_iload dX7_then_55 rfl ?_
        refine J_aload_n dX7_then_57 rfl ?_
        refine J_get 0 dX7_then_58 jk7 (Nat.le_of_ble_eq_true rfl) jfRX7_10 H0 (by omega) rfl ?_
        refine J_get 6 dX7_then_61 jk6 (Nat.le_of_ble_eq_true rfl) jfRX7_115 H1 (by omega) rfl ?_
        refine J_iload dX7_then_64 rfl ?_
        refine J_iaddN dX7_then_66 ?_
        refine J_callSr (M' := mX0_left) (d' := (1, 0, 0)) (rest := []) dX7_then_67 jmX0_left jlRX7_145 (ctX0_left (K a) (thenN (K a) (M (4 * a + t)) td i) (td + i)   (by first | assumption | omega) (by first | assumption | omega) (by first | assumption | omega)) rfl rfl (Nat.le_of_ble_eq_true rfl) (Nat.le_of_ble_eq_true rfl) ⟨Nat.le_refl _, Nat.le_refl _⟩ ?_
        refine J_istore dX7_then_70 (Nat.le_of_ble_eq_true rfl) (L' := [(4, .int (nI (leftN (K a) (thenN (K a) (M (4 * a + t)) td i) (td + i)))), (5, .int (nI i)), (0, .ref (E.1 + 0)), (1, .int (nI a)), (2, .int (nI t)), (3, .int (nI x))]) rfl ?_
        refine J_iincN (q := 1) (a := i) (m := 1) dX7_then_72 rfl (by decide +kernel) (Nat.le_of_ble_eq_true rfl) (L' := [(5, .int (nI (i + 1))), (4, .int (nI (leftN (K a) (thenN (K a) (M (4 * a + t)) td i) (td + i)))), (0, .ref (E.1 + 0)), (1, .int (nI a)), (2, .int (nI t)), (3, .int (nI x))]) rfl ?_
        refine J_goto (tgt := 40) dX7_then_75 (by decide) ?_
        refine J.eqs (h' := h) (L' := [(5, .int (nI (i + 1))), (4, .int (nI (thenN (K a) (M (4 * a + t)) td (i + 1)))), (0, .ref (E.1 + 0)), (1, .int (nI a)), (2, .int (nI t)), (3, .int (nI x))]) (st' := []) rfl (jL_c rfl (jL_c (jv_N (by rfl)) (jL_c rfl (jL_c rfl (jL_c rfl (jL_c rfl rfl)))))) rfl ?_
        exact ih40 (i + 1) (by omega) (by first | assumption | omega)
  refine J.eqs (h' := h) (L' := [(5, .int (nI 0)), (4, .int (nI (thenN (K a) (M (4 * a + t)) td 0))), (0, .ref (E.1 + 0)), (1, .int (nI a)), (2, .int (nI t)), (3, .int (nI x))]) (st' := []) rfl (jL_c rfl (jL_c (jv_N (by rfl)) (jL_c rfl (jL_c rfl (jL_c rfl (jL_c rfl rfl)))))) rfl ?_
  exact CUT40 (x - 0 + 1) 0 (Nat.lt_succ_self _) (by first | assumption | omega)

set_option maxHeartbeats 1000000 in
set_option maxRecDepth 100000 in
theorem ctX7_clean_bad {E : jE} {h : Nat → va_E} {n : Nat} (a : Nat) (ab : Nat) (be : Nat) (bd : Nat) (no : Nat) (fu : Nat) (an : Nat) (td : Nat) (gr : Nat) (H0 : h 0 = .inr (6, [.ref (E.1 + 1), .ref (E.1 + 12), .ref (E.1 + 23), .ref (E.1 + 24), .ref (E.1 + 30), .ref (E.1 + 34), .ref (E.1 + 37), .int (nI ab), .int (nI be), .int (nI bd), .int (nI no), .int (nI fu)])) (H1 : h 1 = .inr (5, [.ref (E.1 + 2), .ref (E.1 + 3), .ref (E.1 + 4), .ref (E.1 + 6), .ref (E.1 + 8), .int (nI an), .int (nI td), .int (nI gr)])) (hn : 38 ≤ n) (h32a : a < 2 ^ 32) (hn4 : an ≤ 4) (hbad : ¬ a < an) : jC E mX7_clean (3, 0, 0) [.ref (E.1 + 0), .int (nI a)] h n (jR (some (.int (-2))) (hset h 0 (.inr (6, [.ref (E.1 + 1), .ref (E.1 + 12), .ref (E.1 + 23), .ref (E.1 + 24), .ref (E.1 + 30), .ref (E.1 + 34), .ref (E.1 + 37), .int (nI ab), .int (nI be), .int (nI (bd + 1)), .int (nI no), .int (nI fu)]))) n) := by
  refine J.of (L := [(0, .ref (E.1 + 0)), (1, .int (nI a))]) rfl (by decide +kernel) (Nat.le_of_ble_eq_true rfl) ?_
  obtain ⟨PP, hPP⟩ : ∃ PP : jPost, PP = (jR (some (.int (-2))) (hset h 0 (.inr (6, [.ref (E.1 + 1), .ref (E.1 + 12), .ref (E.1 + 23), .ref (E.1 + 24), .ref (E.1 + 30), .ref (E.1 + 34), .ref (E.1 + 37), .int (nI ab), .int (nI be), .int (nI (bd + 1)), .int (nI no), .int (nI fu)]))) n) := ⟨_, rfl⟩
  rw [← hPP]
  refine J_aload_n dX7_clean_0 rfl ?_
  refine J_get 0 dX7_clean_1 jk7 (Nat.le_of_ble_eq_true rfl) jfRX7_10 H0 (by omega) rfl ?_
  refine J_iload_n dX7_clean_4 rfl ?_
  refine J_callVr (M' := mX6_has) (d' := (1, 0, 0)) (rest := []) dX7_clean_5 jmX6_has jlRX7_133 (ctX6_has 1 a an td gr H1 (by omega) (by first | assumption | omega) (by first | assumption | omega)) H1 (by omega) jk6.1 rfl rfl (Nat.le_of_ble_eq_true rfl) (Nat.le_of_ble_eq_true rfl) ⟨Nat.le_refl _, Nat.le_refl _⟩ ?_
  refine J_if_neB (tgt := 18) dX7_clean_8 (by decide) (fun c1 => (by exfalso; omega)) (fun c1 => ?_)
  refine J_aload_n dX7_clean_11 rfl ?_
  refine J_bipush (v := (-2)) dX7_clean_12 (by decide +kernel) ?_
  refine J_callVr (M' := mX7_refuse) (d' := (1, 0, 0)) (rest := []) dX7_clean_14 jmX7_refuse jlRX7_59 (ctX7_refuse2 ab be bd no fu H0 (by omega) ) H0 (by omega) jk7.1 rfl rfl (Nat.le_of_ble_eq_true rfl) (Nat.le_of_ble_eq_true rfl) ⟨Nat.le_refl _, Nat.le_refl _⟩ ?_
  exact J_iret dX7_clean_17 rfl ⟨Nat.le_refl _, Nat.le_refl _⟩ (by rw [hPP]; exact ⟨rfl, rfl, rfl⟩)

set_option maxHeartbeats 1000000 in
set_option maxRecDepth 100000 in
theorem ctX7_clean {E : jE} {h : Nat → va_E} {n : Nat} (a : Nat) (an : Nat) (td : Nat) (gr : Nat) (K : Nat → Nat) (M : Nat → Nat) (an2 : Nat) (td2 : Nat) (gr2 : Nat) (K2 : Nat → Nat) (M2 : Nat → Nat) (ab : Nat) (be : Nat) (bd : Nat) (no : Nat) (fu : Nat) (H0 : h 0 = .inr (6, [.ref (E.1 + 1), .ref (E.1 + 12), .ref (E.1 + 23), .ref (E.1 + 24), .ref (E.1 + 30), .ref (E.1 + 34), .ref (E.1 + 37), .int (nI ab), .int (nI be), .int (nI bd), .int (nI no), .int (nI fu)])) (H1 : h 1 = .inr (5, [.ref (E.1 + 2), .ref (E.1 + 3), .ref (E.1 + 4), .ref (E.1 + 6), .ref (E.1 + 8), .int (nI an), .int (nI td), .int (nI gr)])) (H2 : h 2 = cI E 4 (nF K)) (H3 : h 3 = cI E 16 (nF M)) (H4 : h 12 = .inr (5, [.ref (E.1 + 13), .ref (E.1 + 14), .ref (E.1 + 15), .ref (E.1 + 17), .ref (E.1 + 19), .int (nI an2), .int (nI td2), .int (nI gr2)])) (H5 : h 13 = cI E 4 (nF K2)) (H6 : h 14 = cI E 16 (nF M2)) (hn : 38 ≤ n) (hK : ∀ zz, K zz ≤ 5) (hM : ∀ zz, M zz ≤ 20) (hg : gr ≤ 9) (hn4 : an ≤ 4) (hK2 : ∀ zz, K2 zz ≤ 5) (hM2 : ∀ zz, M2 zz ≤ 20) (htd : td ≤ 999) (ha : a < an) : jC E mX7_clean (3, 0, 0) [.ref (E.1 + 0), .int (nI a)] h n (fun v h' n' => v = some (.int (oI (cleanN K M a td))) ∧ n' = n ∧ ∃ M3 : Nat → Nat, (∀ zz, M3 zz ≤ 20) ∧ h' = (hset (hset (hset h 13 (cI E 4 (nF (va_cpy K K2 0 0 4)))) 14 (cI E 16 (nF M3))) 12 (.inr (5, [.ref (E.1 + 13), .ref (E.1 + 14), .ref (E.1 + 15), .ref (E.1 + 17), .ref (E.1 + 19), .int (nI an), .int (nI td), .int (nI gr)])))) := by
  refine J.of (L := [(0, .ref (E.1 + 0)), (1, .int (nI a))]) rfl (by decide +kernel) (Nat.le_of_ble_eq_true rfl) ?_
  obtain ⟨PP, hPP⟩ : ∃ PP : jPost, PP = (fun v h' n' => v = some (.int (oI (cleanN K M a td))) ∧ n' = n ∧ ∃ M3 : Nat → Nat, (∀ zz, M3 zz ≤ 20) ∧ h' = (hset (hset (hset h 13 (cI E 4 (nF (va_cpy K K2 0 0 4)))) 14 (cI E 16 (nF M3))) 12 (.inr (5, [.ref (E.1 + 13), .ref (E.1 + 14), .ref (E.1 + 15), .ref (E.1 + 17), .ref (E.1 + 19), .int (nI an), .int (nI td), .int (nI gr)])))) := ⟨_, rfl⟩
  rw [← hPP]
  refine J_aload_n dX7_clean_0 rfl ?_
  refine J_get 0 dX7_clean_1 jk7 (Nat.le_of_ble_eq_true rfl) jfRX7_10 H0 (by omega) rfl ?_
  refine J_iload_n dX7_clean_4 rfl ?_
  refine J_callVr (M' := mX6_has) (d' := (1, 0, 0)) (rest := []) dX7_clean_5 jmX6_has jlRX7_133 (ctX6_has 1 a an td gr H1 (by omega) (by first | assumption | omega) (by first | assumption | omega)) H1 (by omega) jk6.1 rfl rfl (Nat.le_of_ble_eq_true rfl) (Nat.le_of_ble_eq_true rfl) ⟨Nat.le_refl _, Nat.le_refl _⟩ ?_
  refine J_if_neB (tgt := 18) dX7_clean_8 (by decide) (fun c1 => ?_) (fun c1 => (by exfalso; omega))
  refine J_aload_n dX7_clean_18 rfl ?_
  refine J_get 1 dX7_clean_19 jk7 (Nat.le_of_ble_eq_true rfl) jfRX7_16 H0 (by omega) rfl ?_
  refine J_aload_n dX7_clean_22 rfl ?_
  refine J_get 0 dX7_clean_23 jk7 (Nat.le_of_ble_eq_true rfl) jfRX7_10 H0 (by omega) rfl ?_
  refine J_callVn (M' := mX6_takeAnvils) (d' := (1, 0, 0)) (rest := []) dX7_clean_26 jmX6_takeAnvils jlRX7_150 (ctX6_takeAnvils 12 1 an2 td2 gr2 K2 M2 an td gr K M H4 H5 H6 H1 H2 H3 (by omega) (by first | assumption | omega)) H4 (by omega) jk6.1 rfl rfl (Nat.le_of_ble_eq_true rfl) (Nat.le_of_ble_eq_true rfl) ⟨Nat.le_refl _, Nat.le_refl _⟩ ?_
  have hK3 : ∀ i, va_cpy K K2 0 0 4 i ≤ 5 := va_cpy_le hK hK2
  have hM3 : ∀ i, va_cpy M M2 0 0 16 i ≤ 20 := va_cpy_le hM hM2
  refine J_iconst (v := nI 0) dX7_clean_29 (by decide +kernel) ?_
  refine J_istore_n dX7_clean_30 (Nat.le_of_ble_eq_true rfl) (L' := [(2, .int (nI 0)), (0, .ref (E.1 + 0)), (1, .int (nI a))]) rfl ?_
  have CUT31 : ∀ (f31 : Nat) (i : Nat) (hm31 : 91 - i < f31) (hi : i ≤ 91) (hno : ∀ j, j < i → ¬ clrT K M a td j), J E mX7_clean (3, 0, 0) jS0 PP (hset (hset (hset h 13 (cI E 4 (nF (va_cpy K K2 0 0 4)))) 14 (cI E 16 (nF (fadeI (va_cpy K K2 0 0 4) (va_cpy M M2 0 0 16) a td i)))) 12 (.inr (5, [.ref (E.1 + 13), .ref (E.1 + 14), .ref (E.1 + 15), .ref (E.1 + 17), .ref (E.1 + 19), .int (nI an), .int (nI td), .int (nI gr)]))) n (0, 0) 31 [(2, .int (nI i)), (0, .ref (E.1 + 0)), (1, .int (nI a))] [] := by
    intro f31
    induction f31 with
    | zero => intro i hm31; exact absurd hm31 (Nat.not_lt_zero _)
    | succ f31 ih31 =>
      intro i hm31 hi hno
      refine J_iload_n dX7_clean_31 rfl ?_
      refine J_bipush (v := nI 90) dX7_clean_32 (by decide +kernel) ?_
      refine J_icmp_gtN (tgt := 73) dX7_clean_34 (by decide) (by omega) (by omega) (fun c2 => ?_) (fun c2 => ?_)
      · skip
        refine J_iconst (v := (-1)) dX7_clean_73 (by decide +kernel) ?_
        exact J_iret dX7_clean_74 rfl ⟨Nat.le_refl _, Nat.le_refl _⟩ (by rw [hPP]; exact ⟨congrArg (fun z => some (Value.int z)) (by first | exact (oI_some (by have e1 := clrT_c (K := K) (M := M) (K2 := K2) (M2 := M2) (a := a) (d := td) (i := i) (by omega); rw [e1]; assumption) hno (by omega)) | exact oI_none (fun j hj => hno j (by omega))), rfl, (fadeI (va_cpy K K2 0 0 4) (va_cpy M M2 0 0 16) a td i), (by intro j; first | exact hM3 j | exact fadeI_le hM3 _ j), rfl⟩)
      · skip
        refine J_aload_n dX7_clean_37 rfl ?_
        refine J_get 1 dX7_clean_38 jk7 (Nat.le_of_ble_eq_true rfl) jfRX7_16 ((hset_ne (by omega)).trans ((hset_ne (by omega)).trans ((hset_ne (by omega)).trans H0))) (by omega) rfl ?_
        refine J_iload_n dX7_clean_41 rfl ?_
        refine J_callVr (M' := mX6_remembersNothing) (d' := (2, 0, 0)) (rest := []) dX7_clean_42 jmX6_remembersNothing jlRX7_153 (ctX6_remembersNothing 12 a an td gr (fadeI (va_cpy K K2 0 0 4) (va_cpy M M2 0 0 16) a td i) hset_eq ((hset_ne (by omega)).trans hset_eq) (by omega) (by first | assumption | omega) (by exact fadeI_le hM3 i)) hset_eq (by omega) jk6.1 rfl rfl (Nat.le_of_ble_eq_true rfl) (Nat.le_of_ble_eq_true rfl) ⟨Nat.le_refl _, Nat.le_refl _⟩ ?_
        refine J_if_eqB (tgt := 50) dX7_clean_45 (by decide) (fun c3 => ?_) (fun c3 => ?_)
        · skip
          refine J_aload_n dX7_clean_50 rfl ?_
          refine J_get 1 dX7_clean_51 jk7 (Nat.le_of_ble_eq_true rfl) jfRX7_16 ((hset_ne (by omega)).trans ((hset_ne (by omega)).trans ((hset_ne (by omega)).trans H0))) (by omega) rfl ?_
          refine J_iload_n dX7_clean_54 rfl ?_
          refine J_aload_n dX7_clean_55 rfl ?_
          refine J_get 0 dX7_clean_56 jk7 (Nat.le_of_ble_eq_true rfl) jfRX7_10 ((hset_ne (by omega)).trans ((hset_ne (by omega)).trans ((hset_ne (by omega)).trans H0))) (by omega) rfl ?_
          refine J_get 6 dX7_clean_59 jk6 (Nat.le_of_ble_eq_true rfl) jfRX7_115 ((hset_ne (by omega)).trans ((hset_ne (by omega)).trans ((hset_ne (by omega)).trans H1))) (by omega) rfl ?_
          refine J_iload_n dX7_clean_62 rfl ?_
          refine J_iaddN dX7_clean_63 ?_
          refine J_callVn (M' := mX6_fade) (d' := (2, 0, 0)) (rest := []) dX7_clean_64 jmX6_fade jlRX7_156 (ctX6_fade 12 a (td + i) an td gr (va_cpy K K2 0 0 4) (fadeI (va_cpy K K2 0 0 4) (va_cpy M M2 0 0 16) a td i) hset_eq ((hset_ne (by omega)).trans ((hset_ne (by omega)).trans hset_eq)) ((hset_ne (by omega)).trans hset_eq) (by omega) (by first | assumption | omega) (by first | assumption | omega) (by exact hK3) (by exact fadeI_le hM3 i)) hset_eq (by omega) jk6.1 rfl rfl (Nat.le_of_ble_eq_true rfl) (Nat.le_of_ble_eq_true rfl) ⟨Nat.le_refl _, Nat.le_refl _⟩ ?_
          refine J.cast ((hset_comm (by omega)).trans (hset_cg hset_hset rfl)) ?_
          refine J_iincN (q := 0) (a := i) (m := 1) dX7_clean_67 rfl (by decide +kernel) (Nat.le_of_ble_eq_true rfl) (L' := [(2, .int (nI (i + 1))), (0, .ref (E.1 + 0)), (1, .int (nI a))]) rfl ?_
          refine J_goto (tgt := 31) dX7_clean_70 (by decide) ?_
          refine J.eqs (h' := (hset (hset (hset h 13 (cI E 4 (nF (va_cpy K K2 0 0 4)))) 14 (cI E 16 (nF (fadeI (va_cpy K K2 0 0 4) (va_cpy M M2 0 0 16) a td (i + 1))))) 12 (.inr (5, [.ref (E.1 + 13), .ref (E.1 + 14), .ref (E.1 + 15), .ref (E.1 + 17), .ref (E.1 + 19), .int (nI an), .int (nI td), .int (nI gr)])))) (L' := [(2, .int (nI (i + 1))), (0, .ref (E.1 + 0)), (1, .int (nI a))]) (st' := []) (hset_cg (hset_cg (hset_cg rfl rfl) (cI_cg (by intro z; rfl))) rfl) rfl rfl ?_
          exact ih31 (i + 1) (by omega) (by first | assumption | omega) (by first | exact (fun j hj => absurd hj (Nat.not_lt_zero j)) | exact lt_step hno (by have e1 := clrT_c (K := K) (M := M) (K2 := K2) (M2 := M2) (a := a) (d := td) (i := i) (by omega); rw [e1]; assumption))
        · skip
          refine J_iload_n dX7_clean_48 rfl ?_
          exact J_iret dX7_clean_49 rfl ⟨Nat.le_refl _, Nat.le_refl _⟩ (by rw [hPP]; exact ⟨congrArg (fun z => some (Value.int z)) (by first | exact (oI_some (by have e1 := clrT_c (K := K) (M := M) (K2 := K2) (M2 := M2) (a := a) (d := td) (i := i) (by omega); rw [e1]; assumption) hno (by omega)) | exact oI_none (fun j hj => hno j (by omega))), rfl, (fadeI (va_cpy K K2 0 0 4) (va_cpy M M2 0 0 16) a td i), (by intro j; first | exact hM3 j | exact fadeI_le hM3 _ j), rfl⟩)
  refine J.eqs (h' := (hset (hset (hset h 13 (cI E 4 (nF (va_cpy K K2 0 0 4)))) 14 (cI E 16 (nF (fadeI (va_cpy K K2 0 0 4) (va_cpy M M2 0 0 16) a td 0)))) 12 (.inr (5, [.ref (E.1 + 13), .ref (E.1 + 14), .ref (E.1 + 15), .ref (E.1 + 17), .ref (E.1 + 19), .int (nI an), .int (nI td), .int (nI gr)])))) (L' := [(2, .int (nI 0)), (0, .ref (E.1 + 0)), (1, .int (nI a))]) (st' := []) (hset_cg (hset_cg (hset_cg rfl rfl) (cI_cg (by intro z; rfl))) rfl) rfl rfl ?_
  exact CUT31 (91 - 0 + 1) 0 (Nat.lt_succ_self _) (by first | assumption | omega) (by first | exact (fun j hj => absurd hj (Nat.not_lt_zero j)) | exact lt_step hno (by have e1 := clrT_c (K := K) (M := M) (K2 := K2) (M2 := M2) (a := a) (d := td) (i := i) (by omega); rw [e1]; assumption))

set_option maxHeartbeats 1000000 in
set_option maxRecDepth 100000 in
theorem ctX7_keep_bad {E : jE} {h : Nat → va_E} {n : Nat} (a : Nat) (ab : Nat) (be : Nat) (bd : Nat) (no : Nat) (fu : Nat) (an : Nat) (td : Nat) (gr : Nat) (H0 : h 0 = .inr (6, [.ref (E.1 + 1), .ref (E.1 + 12), .ref (E.1 + 23), .ref (E.1 + 24), .ref (E.1 + 30), .ref (E.1 + 34), .ref (E.1 + 37), .int (nI ab), .int (nI be), .int (nI bd), .int (nI no), .int (nI fu)])) (H1 : h 1 = .inr (5, [.ref (E.1 + 2), .ref (E.1 + 3), .ref (E.1 + 4), .ref (E.1 + 6), .ref (E.1 + 8), .int (nI an), .int (nI td), .int (nI gr)])) (hn : 38 ≤ n) (h32a : a < 2 ^ 32) (hn4 : an ≤ 4) (hbad : ¬ a < an) : jC E mX7_keep (3, 0, 0) [.ref (E.1 + 0), .int (nI a)] h n (jR (some (.int (-2))) (hset h 0 (.inr (6, [.ref (E.1 + 1), .ref (E.1 + 12), .ref (E.1 + 23), .ref (E.1 + 24), .ref (E.1 + 30), .ref (E.1 + 34), .ref (E.1 + 37), .int (nI ab), .int (nI be), .int (nI (bd + 1)), .int (nI no), .int (nI fu)]))) n) := by
  refine J.of (L := [(0, .ref (E.1 + 0)), (1, .int (nI a))]) rfl (by decide +kernel) (Nat.le_of_ble_eq_true rfl) ?_
  obtain ⟨PP, hPP⟩ : ∃ PP : jPost, PP = (jR (some (.int (-2))) (hset h 0 (.inr (6, [.ref (E.1 + 1), .ref (E.1 + 12), .ref (E.1 + 23), .ref (E.1 + 24), .ref (E.1 + 30), .ref (E.1 + 34), .ref (E.1 + 37), .int (nI ab), .int (nI be), .int (nI (bd + 1)), .int (nI no), .int (nI fu)]))) n) := ⟨_, rfl⟩
  rw [← hPP]
  refine J_aload_n dX7_keep_0 rfl ?_
  refine J_get 0 dX7_keep_1 jk7 (Nat.le_of_ble_eq_true rfl) jfRX7_10 H0 (by omega) rfl ?_
  refine J_iload_n dX7_keep_4 rfl ?_
  refine J_callVr (M' := mX6_has) (d' := (1, 0, 0)) (rest := []) dX7_keep_5 jmX6_has jlRX7_133 (ctX6_has 1 a an td gr H1 (by omega) (by first | assumption | omega) (by first | assumption | omega)) H1 (by omega) jk6.1 rfl rfl (Nat.le_of_ble_eq_true rfl) (Nat.le_of_ble_eq_true rfl) ⟨Nat.le_refl _, Nat.le_refl _⟩ ?_
  refine J_if_neB (tgt := 18) dX7_keep_8 (by decide) (fun c1 => (by exfalso; omega)) (fun c1 => ?_)
  refine J_aload_n dX7_keep_11 rfl ?_
  refine J_bipush (v := (-2)) dX7_keep_12 (by decide +kernel) ?_
  refine J_callVr (M' := mX7_refuse) (d' := (1, 0, 0)) (rest := []) dX7_keep_14 jmX7_refuse jlRX7_59 (ctX7_refuse2 ab be bd no fu H0 (by omega) ) H0 (by omega) jk7.1 rfl rfl (Nat.le_of_ble_eq_true rfl) (Nat.le_of_ble_eq_true rfl) ⟨Nat.le_refl _, Nat.le_refl _⟩ ?_
  exact J_iret dX7_keep_17 rfl ⟨Nat.le_refl _, Nat.le_refl _⟩ (by rw [hPP]; exact ⟨rfl, rfl, rfl⟩)

set_option maxHeartbeats 1000000 in
set_option maxRecDepth 100000 in
theorem ctX7_keep {E : jE} {h : Nat → va_E} {n : Nat} (a : Nat) (an : Nat) (td : Nat) (gr : Nat) (K : Nat → Nat) (M : Nat → Nat) (ab : Nat) (be : Nat) (bd : Nat) (no : Nat) (fu : Nat) (H0 : h 0 = .inr (6, [.ref (E.1 + 1), .ref (E.1 + 12), .ref (E.1 + 23), .ref (E.1 + 24), .ref (E.1 + 30), .ref (E.1 + 34), .ref (E.1 + 37), .int (nI ab), .int (nI be), .int (nI bd), .int (nI no), .int (nI fu)])) (H1 : h 1 = .inr (5, [.ref (E.1 + 2), .ref (E.1 + 3), .ref (E.1 + 4), .ref (E.1 + 6), .ref (E.1 + 8), .int (nI an), .int (nI td), .int (nI gr)])) (H2 : h 2 = cI E 4 (nF K)) (H3 : h 3 = cI E 16 (nF M)) (hn : 38 ≤ n) (hK : ∀ zz, K zz ≤ 5) (hM : ∀ zz, M zz ≤ 20) (hg : gr ≤ 9) (hn4 : an ≤ 4) (ha : a < an) : jC E mX7_keep (3, 0, 0) [.ref (E.1 + 0), .int (nI a)] h n (jR (some (.int (oI (keepN K M a)))) h n) := by
  refine J.of (L := [(0, .ref (E.1 + 0)), (1, .int (nI a))]) rfl (by decide +kernel) (Nat.le_of_ble_eq_true rfl) ?_
  obtain ⟨PP, hPP⟩ : ∃ PP : jPost, PP = (jR (some (.int (oI (keepN K M a)))) h n) := ⟨_, rfl⟩
  rw [← hPP]
  refine J_aload_n dX7_keep_0 rfl ?_
  refine J_get 0 dX7_keep_1 jk7 (Nat.le_of_ble_eq_true rfl) jfRX7_10 H0 (by omega) rfl ?_
  refine J_iload_n dX7_keep_4 rfl ?_
  refine J_callVr (M' := mX6_has) (d' := (1, 0, 0)) (rest := []) dX7_keep_5 jmX6_has jlRX7_133 (ctX6_has 1 a an td gr H1 (by omega) (by first | assumption | omega) (by first | assumption | omega)) H1 (by omega) jk6.1 rfl rfl (Nat.le_of_ble_eq_true rfl) (Nat.le_of_ble_eq_true rfl) ⟨Nat.le_refl _, Nat.le_refl _⟩ ?_
  refine J_if_neB (tgt := 18) dX7_keep_8 (by decide) (fun c1 => ?_) (fun c1 => (by exfalso; omega))
  refine J_iconst (v := nI 0) dX7_keep_18 (by decide +kernel) ?_
  refine J_istore_n dX7_keep_19 (Nat.le_of_ble_eq_true rfl) (L' := [(2, .int (nI 0)), (0, .ref (E.1 + 0)), (1, .int (nI a))]) rfl ?_
  have CUT20 : ∀ (f20 : Nat) (i : Nat) (hm20 : 10 - i < f20) (hi : i ≤ 10) (hno : ∀ j, j < i → ¬ keptP K M a j), J E mX7_keep (3, 0, 0) jS0 PP h n (0, 0) 20 [(2, .int (nI i)), (0, .ref (E.1 + 0)), (1, .int (nI a))] [] := by
    intro f20
    induction f20 with
    | zero => intro i hm20; exact absurd hm20 (Nat.not_lt_zero _)
    | succ f20 ih20 =>
      intro i hm20 hi hno
      refine J_iload_n dX7_keep_20 rfl ?_
      refine J_bipush (v := nI 9) dX7_keep_21 (by decide +kernel) ?_
      refine J_icmp_gtN (tgt := 46) dX7_keep_23 (by decide) (by omega) (by omega) (fun c2 => ?_) (fun c2 => ?_)
      · skip
        refine J_iconst (v := (-1)) dX7_keep_46 (by decide +kernel) ?_
        exact J_iret dX7_keep_47 rfl ⟨Nat.le_refl _, Nat.le_refl _⟩ (by rw [hPP]; exact ⟨(congrArg some (jv_I (by first | exact oI_some (p := keptP K M a) (by assumption) hno (by omega) | exact oI_none (p := keptP K M a) (fun j hj => hno j (by omega))))), rfl, rfl⟩)
      · skip
        refine J_aload_n dX7_keep_26 rfl ?_
        refine J_get 0 dX7_keep_27 jk7 (Nat.le_of_ble_eq_true rfl) jfRX7_10 H0 (by omega) rfl ?_
        refine J_iload_n dX7_keep_30 rfl ?_
        refine J_iload_n dX7_keep_31 rfl ?_
        refine J_callVr (M' := mX6_holdsDown) (d' := (2, 0, 0)) (rest := []) dX7_keep_32 jmX6_holdsDown jlRX7_160 (ctX6_holdsDown 1 a i an td gr K M H1 H2 H3 (by omega) (by first | assumption | omega) (by first | assumption | omega) (by first | assumption | omega) (by first | assumption | omega)) H1 (by omega) jk6.1 rfl rfl (Nat.le_of_ble_eq_true rfl) (Nat.le_of_ble_eq_true rfl) ⟨Nat.le_refl _, Nat.le_refl _⟩ ?_
        refine J_if_eqB (tgt := 40) dX7_keep_35 (by decide) (fun c3 => ?_) (fun c3 => ?_)
        · skip
          refine J_iincN (q := 0) (a := i) (m := 1) dX7_keep_40 rfl (by decide +kernel) (Nat.le_of_ble_eq_true rfl) (L' := [(2, .int (nI (i + 1))), (0, .ref (E.1 + 0)), (1, .int (nI a))]) rfl ?_
          refine J_goto (tgt := 20) dX7_keep_43 (by decide) ?_
          exact ih20 (i + 1) (by omega) (by first | assumption | omega) (by first | exact (fun j hj => absurd hj (Nat.not_lt_zero j)) | exact lt_step hno (by assumption))
        · skip
          refine J_iload_n dX7_keep_38 rfl ?_
          exact J_iret dX7_keep_39 rfl ⟨Nat.le_refl _, Nat.le_refl _⟩ (by rw [hPP]; exact ⟨(congrArg some (jv_I (a := nI i) (by first | exact oI_some (p := keptP K M a) (by assumption) hno (by omega) | exact oI_none (p := keptP K M a) (fun j hj => hno j (by omega))))), rfl, rfl⟩)
  exact CUT20 (10 - 0 + 1) 0 (Nat.lt_succ_self _) (by first | assumption | omega) (by first | exact (fun j hj => absurd hj (Nat.not_lt_zero j)) | exact lt_step hno (by assumption))
