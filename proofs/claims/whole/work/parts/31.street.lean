set_option maxHeartbeats 1000000 in
set_option maxRecDepth 100000 in
theorem ctX6_has {E : jE} {h : Nat → va_E} {n : Nat} (b : Nat) (a : Nat) (an : Nat) (td : Nat) (gr : Nat) (H0 : h b = .inr (5, [.ref (E.1 + (b + 1)), .ref (E.1 + (b + 2)), .ref (E.1 + (b + 3)), .ref (E.1 + (b + 5)), .ref (E.1 + (b + 7)), .int (nI an), .int (nI td), .int (nI gr)])) (hn : b < n) (ha : a < 2 ^ 32) (hn4 : an ≤ 4) : jC E mX6_has (1, 0, 0) [.ref (E.1 + b), .int (nI a)] h n (jR (some (.int (jb (a < an)))) h n) := by
  refine J.of (L := [(0, .ref (E.1 + b)), (1, .int (nI a))]) rfl (by decide +kernel) (Nat.le_of_ble_eq_true rfl) ?_
  obtain ⟨PP, hPP⟩ : ∃ PP : jPost, PP = (jR (some (.int (jb (a < an)))) h n) := ⟨_, rfl⟩
  rw [← hPP]
  refine J_iload_n dX6_has_0 rfl ?_
  refine J_if_ltW (tgt := 16) dX6_has_1 (by decide) (by omega) (fun c1 => ?_) (fun c1 => ?_)
  · skip
    refine J_iconst (v := nI 0) dX6_has_16 (by decide +kernel) ?_
    exact J_zret dX6_has_17 rfl rfl ⟨Nat.le_refl _, Nat.le_refl _⟩ (by rw [hPP]; exact ⟨(congrArg some (Option.some.inj (jret_B0 (by omega)))), rfl, rfl⟩)
  · skip
    refine J_iload_n dX6_has_4 rfl ?_
    refine J_aload_n dX6_has_5 rfl ?_
    refine J_get 5 dX6_has_6 jk6 (Nat.le_of_ble_eq_true rfl) jfRX6_35 H0 (by omega) rfl ?_
    refine J_icmp_geW (tgt := 16) dX6_has_9 (by decide) (by omega) (by omega) (fun c2 => ?_) (fun c2 => ?_)
    · skip
      refine J_iconst (v := nI 0) dX6_has_16 (by decide +kernel) ?_
      exact J_zret dX6_has_17 rfl rfl ⟨Nat.le_refl _, Nat.le_refl _⟩ (by rw [hPP]; exact ⟨(congrArg some (Option.some.inj (jret_B0 (by omega)))), rfl, rfl⟩)
    · skip
      refine J_iconst (v := nI 1) dX6_has_12 (by decide +kernel) ?_
      refine J_goto (tgt := 17) dX6_has_13 (by decide) ?_
      exact J_zret dX6_has_17 rfl rfl ⟨Nat.le_refl _, Nat.le_refl _⟩ (by rw [hPP]; exact ⟨(congrArg some (Option.some.inj (jret_B1 (by omega)))), rfl, rfl⟩)

set_option maxHeartbeats 1000000 in
set_option maxRecDepth 100000 in
theorem ctX6_remembered {E : jE} {h : Nat → va_E} {n : Nat} (b : Nat) (a : Nat) (t : Nat) (an : Nat) (td : Nat) (gr : Nat) (M : Nat → Nat) (H0 : h b = .inr (5, [.ref (E.1 + (b + 1)), .ref (E.1 + (b + 2)), .ref (E.1 + (b + 3)), .ref (E.1 + (b + 5)), .ref (E.1 + (b + 7)), .int (nI an), .int (nI td), .int (nI gr)])) (H1 : h (b + 2) = cI E 16 (nF M)) (hn : b + 11 ≤ n) (ha : a < 4) (ht : t < 4) : jC E mX6_remembered (1, 0, 0) [.ref (E.1 + b), .int (nI a), .int (nI t)] h n (jR (some (.int (nI (M (4 * a + t))))) h n) := by
  refine J.of (L := [(0, .ref (E.1 + b)), (1, .int (nI a)), (2, .int (nI t))]) rfl (by decide +kernel) (Nat.le_of_ble_eq_true rfl) ?_
  obtain ⟨PP, hPP⟩ : ∃ PP : jPost, PP = (jR (some (.int (nI (M (4 * a + t))))) h n) := ⟨_, rfl⟩
  rw [← hPP]
  refine J_aload_n dX6_remembered_0 rfl ?_
  refine J_get 1 dX6_remembered_1 jk6 (Nat.le_of_ble_eq_true rfl) jfRX6_15 H0 (by omega) rfl ?_
  refine J_iconst (v := nI 4) dX6_remembered_4 (by decide +kernel) ?_
  refine J_iload_n dX6_remembered_5 rfl ?_
  refine J_imulN dX6_remembered_6 ?_
  refine J_iload_n dX6_remembered_7 rfl ?_
  refine J_iaddN dX6_remembered_8 ?_
  refine J_ialdN (i := (4 * a) + t) dX6_remembered_9 H1 (by omega) (by omega) (by omega) ?_
  exact J_iret dX6_remembered_10 rfl ⟨Nat.le_refl _, Nat.le_refl _⟩ (by rw [hPP]; exact ⟨(congrArg some (jv_N (by omega))), rfl, rfl⟩)

set_option maxHeartbeats 1000000 in
set_option maxRecDepth 100000 in
theorem ctX6_setMemory {E : jE} {h : Nat → va_E} {n : Nat} (b : Nat) (a : Nat) (t : Nat) (v : Nat) (an : Nat) (td : Nat) (gr : Nat) (M : Nat → Nat) (H0 : h b = .inr (5, [.ref (E.1 + (b + 1)), .ref (E.1 + (b + 2)), .ref (E.1 + (b + 3)), .ref (E.1 + (b + 5)), .ref (E.1 + (b + 7)), .int (nI an), .int (nI td), .int (nI gr)])) (H1 : h (b + 2) = cI E 16 (nF M)) (hn : b + 11 ≤ n) (ha : a < 4) (ht : t < 4) : jC E mX6_setMemory (1, 0, 0) [.ref (E.1 + b), .int (nI a), .int (nI t), .int (nI v)] h n (jR none (hset h (b + 2) (cI E 16 (nF (updN M (4 * a + t) v)))) n) := by
  refine J.of (L := [(0, .ref (E.1 + b)), (1, .int (nI a)), (2, .int (nI t)), (3, .int (nI v))]) rfl (by decide +kernel) (Nat.le_of_ble_eq_true rfl) ?_
  obtain ⟨PP, hPP⟩ : ∃ PP : jPost, PP = (jR none (hset h (b + 2) (cI E 16 (nF (updN M (4 * a + t) v)))) n) := ⟨_, rfl⟩
  rw [← hPP]
  refine J_aload_n dX6_setMemory_0 rfl ?_
  refine J_get 1 dX6_setMemory_1 jk6 (Nat.le_of_ble_eq_true rfl) jfRX6_15 H0 (by omega) rfl ?_
  refine J_iconst (v := nI 4) dX6_setMemory_4 (by decide +kernel) ?_
  refine J_iload_n dX6_setMemory_5 rfl ?_
  refine J_imulN dX6_setMemory_6 ?_
  refine J_iload_n dX6_setMemory_7 rfl ?_
  refine J_iaddN dX6_setMemory_8 ?_
  refine J_iload_n dX6_setMemory_9 rfl ?_
  refine J_iastN (i := (4 * a) + t) (v := v) dX6_setMemory_10 H1 (by omega) (by omega) (by omega) ?_
  exact J_vret dX6_setMemory_11 rfl ⟨Nat.le_refl _, Nat.le_refl _⟩ (by rw [hPP]; exact ⟨rfl, (hset_cg rfl (cI_cg (by intro z; omega))), rfl⟩)

set_option maxHeartbeats 1000000 in
set_option maxRecDepth 100000 in
theorem ctX6_remembersNothing {E : jE} {h : Nat → va_E} {n : Nat} (b : Nat) (a : Nat) (an : Nat) (td : Nat) (gr : Nat) (M : Nat → Nat) (H0 : h b = .inr (5, [.ref (E.1 + (b + 1)), .ref (E.1 + (b + 2)), .ref (E.1 + (b + 3)), .ref (E.1 + (b + 5)), .ref (E.1 + (b + 7)), .int (nI an), .int (nI td), .int (nI gr)])) (H1 : h (b + 2) = cI E 16 (nF M)) (hn : b + 11 ≤ n) (ha : a < 4) (hM : ∀ zz, M zz ≤ 20) : jC E mX6_remembersNothing (2, 0, 0) [.ref (E.1 + b), .int (nI a)] h n (jR (some (.int (jb (M (4 * a + 0) = 0 ∧ M (4 * a + 1) = 0 ∧ M (4 * a + 2) = 0 ∧ M (4 * a + 3) = 0)))) h n) := by
  refine J.of (L := [(0, .ref (E.1 + b)), (1, .int (nI a))]) rfl (by decide +kernel) (Nat.le_of_ble_eq_true rfl) ?_
  obtain ⟨PP, hPP⟩ : ∃ PP : jPost, PP = (jR (some (.int (jb (M (4 * a + 0) = 0 ∧ M (4 * a + 1) = 0 ∧ M (4 * a + 2) = 0 ∧ M (4 * a + 3) = 0)))) h n) := ⟨_, rfl⟩
  rw [← hPP]
  refine J_iconst (v := nI 0) dX6_remembersNothing_0 (by decide +kernel) ?_
  refine J_istore_n dX6_remembersNothing_1 (Nat.le_of_ble_eq_true rfl) (L' := [(2, .int (nI 0)), (0, .ref (E.1 + b)), (1, .int (nI a))]) rfl ?_
  refine J_iload_n dX6_remembersNothing_2 rfl ?_
  refine J_iconst (v := nI 4) dX6_remembersNothing_3 (by decide +kernel) ?_
  refine J_icmp_geN (tgt := 24) dX6_remembersNothing_4 (by decide) (by omega) (by omega) (fun z => absurd z (by decide)) (fun _ => ?_)
  refine J_aload_n dX6_remembersNothing_7 rfl ?_
  refine J_iload_n dX6_remembersNothing_8 rfl ?_
  refine J_iload_n dX6_remembersNothing_9 rfl ?_
  refine J_callVr (M' := mX6_remembered) (d' := (1, 0, 0)) (rest := []) dX6_remembersNothing_10 jmX6_remembered jlRX6_71 (ctX6_remembered b a 0 an td gr M H0 H1 (by omega) (by first | assumption | omega) (by first | assumption | omega)) H0 (by omega) jk6.1 rfl rfl (Nat.le_of_ble_eq_true rfl) (Nat.le_of_ble_eq_true rfl) ⟨Nat.le_refl _, Nat.le_refl _⟩ ?_
  have bm0 := hM (4 * a + 0)
  have bm1 := hM (4 * a + 1)
  have bm2 := hM (4 * a + 2)
  have bm3 := hM (4 * a + 3)
  refine J_if_eqN (tgt := 18) dX6_remembersNothing_13 (by decide) (by omega) (fun c2 => ?_) (fun c2 => ?_)
  · skip
    refine J_iincN (q := 0) (a := 0) (m := 1) dX6_remembersNothing_18 rfl (by decide +kernel) (Nat.le_of_ble_eq_true rfl) (L' := [(2, .int (nI 1)), (0, .ref (E.1 + b)), (1, .int (nI a))]) rfl ?_
    refine J_goto (tgt := 2) dX6_remembersNothing_21 (by decide) ?_
    refine J_iload_n dX6_remembersNothing_2 rfl ?_
    refine J_iconst (v := nI 4) dX6_remembersNothing_3 (by decide +kernel) ?_
    refine J_icmp_geN (tgt := 24) dX6_remembersNothing_4 (by decide) (by omega) (by omega) (fun z => absurd z (by decide)) (fun _ => ?_)
    refine J_aload_n dX6_remembersNothing_7 rfl ?_
    refine J_iload_n dX6_remembersNothing_8 rfl ?_
    refine J_iload_n dX6_remembersNothing_9 rfl ?_
    refine J_callVr (M' := mX6_remembered) (d' := (1, 0, 0)) (rest := []) dX6_remembersNothing_10 jmX6_remembered jlRX6_71 (ctX6_remembered b a 1 an td gr M H0 H1 (by omega) (by first | assumption | omega) (by first | assumption | omega)) H0 (by omega) jk6.1 rfl rfl (Nat.le_of_ble_eq_true rfl) (Nat.le_of_ble_eq_true rfl) ⟨Nat.le_refl _, Nat.le_refl _⟩ ?_
    have bm0 := hM (4 * a + 0)
    have bm1 := hM (4 * a + 1)
    have bm2 := hM (4 * a + 2)
    have bm3 := hM (4 * a + 3)
    refine J_if_eqN (tgt := 18) dX6_remembersNothing_13 (by decide) (by omega) (fun c4 => ?_) (fun c4 => ?_)
    · skip
      refine J_iincN (q := 0) (a := 1) (m := 1) dX6_remembersNothing_18 rfl (by decide +kernel) (Nat.le_of_ble_eq_true rfl) (L' := [(2, .int (nI 2)), (0, .ref (E.1 + b)), (1, .int (nI a))]) rfl ?_
      refine J_goto (tgt := 2) dX6_remembersNothing_21 (by decide) ?_
      refine J_iload_n dX6_remembersNothing_2 rfl ?_
      refine J_iconst (v := nI 4) dX6_remembersNothing_3 (by decide +kernel) ?_
      refine J_icmp_geN (tgt := 24) dX6_remembersNothing_4 (by decide) (by omega) (by omega) (fun z => absurd z (by decide)) (fun _ => ?_)
      refine J_aload_n dX6_remembersNothing_7 rfl ?_
      refine J_iload_n dX6_remembersNothing_8 rfl ?_
      refine J_iload_n dX6_remembersNothing_9 rfl ?_
      refine J_callVr (M' := mX6_remembered) (d' := (1, 0, 0)) (rest := []) dX6_remembersNothing_10 jmX6_remembered jlRX6_71 (ctX6_remembered b a 2 an td gr M H0 H1 (by omega) (by first | assumption | omega) (by first | assumption | omega)) H0 (by omega) jk6.1 rfl rfl (Nat.le_of_ble_eq_true rfl) (Nat.le_of_ble_eq_true rfl) ⟨Nat.le_refl _, Nat.le_refl _⟩ ?_
      have bm0 := hM (4 * a + 0)
      have bm1 := hM (4 * a + 1)
      have bm2 := hM (4 * a + 2)
      have bm3 := hM (4 * a + 3)
      refine J_if_eqN (tgt := 18) dX6_remembersNothing_13 (by decide) (by omega) (fun c6 => ?_) (fun c6 => ?_)
      · skip
        refine J_iincN (q := 0) (a := 2) (m := 1) dX6_remembersNothing_18 rfl (by decide +kernel) (Nat.le_of_ble_eq_true rfl) (L' := [(2, .int (nI 3)), (0, .ref (E.1 + b)), (1, .int (nI a))]) rfl ?_
        refine J_goto (tgt := 2) dX6_remembersNothing_21 (by decide) ?_
        refine J_iload_n dX6_remembersNothing_2 rfl ?_
        refine J_iconst (v := nI 4) dX6_remembersNothing_3 (by decide +kernel) ?_
        refine J_icmp_geN (tgt := 24) dX6_remembersNothing_4 (by decide) (by omega) (by omega) (fun z => absurd z (by decide)) (fun _ => ?_)
        refine J_aload_n dX6_remembersNothing_7 rfl ?_
        refine J_iload_n dX6_remembersNothing_8 rfl ?_
        refine J_iload_n dX6_remembersNothing_9 rfl ?_
        refine J_callVr (M' := mX6_remembered) (d' := (1, 0, 0)) (rest := []) dX6_remembersNothing_10 jmX6_remembered jlRX6_71 (ctX6_remembered b a 3 an td gr M H0 H1 (by omega) (by first | assumption | omega) (by first | assumption | omega)) H0 (by omega) jk6.1 rfl rfl (Nat.le_of_ble_eq_true rfl) (Nat.le_of_ble_eq_true rfl) ⟨Nat.le_refl _, Nat.le_refl _⟩ ?_
        have bm0 := hM (4 * a + 0)
        have bm1 := hM (4 * a + 1)
        have bm2 := hM (4 * a + 2)
        have bm3 := hM (4 * a + 3)
        refine J_if_eqN (tgt := 18) dX6_remembersNothing_13 (by decide) (by omega) (fun c8 => ?_) (fun c8 => ?_)
        · skip
          refine J_iincN (q := 0) (a := 3) (m := 1) dX6_remembersNothing_18 rfl (by decide +kernel) (Nat.le_of_ble_eq_true rfl) (L' := [(2, .int (nI 4)), (0, .ref (E.1 + b)), (1, .int (nI a))]) rfl ?_
          refine J_goto (tgt := 2) dX6_remembersNothing_21 (by decide) ?_
          refine J_iload_n dX6_remembersNothing_2 rfl ?_
          refine J_iconst (v := nI 4) dX6_remembersNothing_3 (by decide +kernel) ?_
          refine J_icmp_geN (tgt := 24) dX6_remembersNothing_4 (by decide) (by omega) (by omega) (fun _ => ?_) (fun z => absurd z (by decide))
          refine J_iconst (v := nI 1) dX6_remembersNothing_24 (by decide +kernel) ?_
          exact J_zret dX6_remembersNothing_25 rfl rfl ⟨Nat.le_refl _, Nat.le_refl _⟩ (by rw [hPP]; exact ⟨(congrArg some (Option.some.inj (jret_B1 (by omega)))), rfl, rfl⟩)
        · skip
          refine J_iconst (v := nI 0) dX6_remembersNothing_16 (by decide +kernel) ?_
          exact J_zret dX6_remembersNothing_17 rfl rfl ⟨Nat.le_refl _, Nat.le_refl _⟩ (by rw [hPP]; exact ⟨(congrArg some (Option.some.inj (jret_B0 (by omega)))), rfl, rfl⟩)
      · skip
        refine J_iconst (v := nI 0) dX6_remembersNothing_16 (by decide +kernel) ?_
        exact J_zret dX6_remembersNothing_17 rfl rfl ⟨Nat.le_refl _, Nat.le_refl _⟩ (by rw [hPP]; exact ⟨(congrArg some (Option.some.inj (jret_B0 (by omega)))), rfl, rfl⟩)
    · skip
      refine J_iconst (v := nI 0) dX6_remembersNothing_16 (by decide +kernel) ?_
      exact J_zret dX6_remembersNothing_17 rfl rfl ⟨Nat.le_refl _, Nat.le_refl _⟩ (by rw [hPP]; exact ⟨(congrArg some (Option.some.inj (jret_B0 (by omega)))), rfl, rfl⟩)
  · skip
    refine J_iconst (v := nI 0) dX6_remembersNothing_16 (by decide +kernel) ?_
    exact J_zret dX6_remembersNothing_17 rfl rfl ⟨Nat.le_refl _, Nat.le_refl _⟩ (by rw [hPP]; exact ⟨(congrArg some (Option.some.inj (jret_B0 (by omega)))), rfl, rfl⟩)

set_option maxHeartbeats 1000000 in
set_option maxRecDepth 100000 in
theorem ctX6_risen {E : jE} {h : Nat → va_E} {n : Nat} (b : Nat) (a : Nat) (t : Nat) (an : Nat) (td : Nat) (gr : Nat) (K : Nat → Nat) (M : Nat → Nat) (H0 : h b = .inr (5, [.ref (E.1 + (b + 1)), .ref (E.1 + (b + 2)), .ref (E.1 + (b + 3)), .ref (E.1 + (b + 5)), .ref (E.1 + (b + 7)), .int (nI an), .int (nI td), .int (nI gr)])) (H1 : h (b + 1) = cI E 4 (nF K)) (H2 : h (b + 2) = cI E 16 (nF M)) (hn : b + 11 ≤ n) (ha : a < 4) (ht : t < 4) (hK : ∀ zz, K zz ≤ 5) (hM : ∀ zz, M zz ≤ 20) (hg : gr ≤ 9) : jC E mX6_risen (2, 0, 0) [.ref (E.1 + b), .int (nI a), .int (nI t)] h n (jR (some (.int (nI (upN (K a) (M (4 * a + t)) gr)))) h n) := by
  refine J.of (L := [(0, .ref (E.1 + b)), (1, .int (nI a)), (2, .int (nI t))]) rfl (by decide +kernel) (Nat.le_of_ble_eq_true rfl) ?_
  obtain ⟨PP, hPP⟩ : ∃ PP : jPost, PP = (jR (some (.int (nI (upN (K a) (M (4 * a + t)) gr)))) h n) := ⟨_, rfl⟩
  rw [← hPP]
  refine J_aload_n dX6_risen_0 rfl ?_
  refine J_get 0 dX6_risen_1 jk6 (Nat.le_of_ble_eq_true rfl) jfRX6_9 H0 (by omega) rfl ?_
  refine J_iload_n dX6_risen_4 rfl ?_
  refine J_ialdN (i := a) dX6_risen_5 H1 (by omega) (by omega) (by omega) ?_
  have bd1 := hK a
  refine J_aload_n dX6_risen_6 rfl ?_
  refine J_iload_n dX6_risen_7 rfl ?_
  refine J_iload_n dX6_risen_8 rfl ?_
  refine J_callVr (M' := mX6_remembered) (d' := (1, 0, 0)) (rest := [.int (nI (K a))]) dX6_risen_9 jmX6_remembered jlRX6_71 (ctX6_remembered b a t an td gr M H0 H2 (by omega) (by first | assumption | omega) (by first | assumption | omega)) H0 (by omega) jk6.1 rfl rfl (Nat.le_of_ble_eq_true rfl) (Nat.le_of_ble_eq_true rfl) ⟨Nat.le_refl _, Nat.le_refl _⟩ ?_
  have bm0 := hM (4 * a + t)
  refine J_aload_n dX6_risen_12 rfl ?_
  refine J_get 7 dX6_risen_13 jk6 (Nat.le_of_ble_eq_true rfl) jfRX6_42 H0 (by omega) rfl ?_
  refine J_callSr (M' := mX0_risen) (d' := (1, 0, 0)) (rest := []) dX6_risen_16 jmX0_risen jlRX6_75 (ctX0_risen (K a) (M (4 * a + t)) gr   (by first | assumption | omega) (by first | assumption | omega) (by first | assumption | omega)) rfl rfl (Nat.le_of_ble_eq_true rfl) (Nat.le_of_ble_eq_true rfl) ⟨Nat.le_refl _, Nat.le_refl _⟩ ?_
  exact J_iret dX6_risen_19 rfl ⟨Nat.le_refl _, Nat.le_refl _⟩ (by rw [hPP]; exact ⟨rfl, rfl, rfl⟩)

set_option maxHeartbeats 1000000 in
set_option maxRecDepth 100000 in
theorem ctX6_holdsDown {E : jE} {h : Nat → va_E} {n : Nat} (b : Nat) (a : Nat) (g : Nat) (an : Nat) (td : Nat) (gr : Nat) (K : Nat → Nat) (M : Nat → Nat) (H0 : h b = .inr (5, [.ref (E.1 + (b + 1)), .ref (E.1 + (b + 2)), .ref (E.1 + (b + 3)), .ref (E.1 + (b + 5)), .ref (E.1 + (b + 7)), .int (nI an), .int (nI td), .int (nI gr)])) (H1 : h (b + 1) = cI E 4 (nF K)) (H2 : h (b + 2) = cI E 16 (nF M)) (hn : b + 11 ≤ n) (ha : a < 4) (hK : ∀ zz, K zz ≤ 5) (hM : ∀ zz, M zz ≤ 20) (hg : g ≤ 9) : jC E mX6_holdsDown (2, 0, 0) [.ref (E.1 + b), .int (nI a), .int (nI g)] h n (jR (some (.int (jb (upN (K a) (M (4 * a + 0)) g = 0 ∧ upN (K a) (M (4 * a + 1)) g = 0 ∧ upN (K a) (M (4 * a + 2)) g = 0 ∧ upN (K a) (M (4 * a + 3)) g = 0)))) h n) := by
  refine J.of (L := [(0, .ref (E.1 + b)), (1, .int (nI a)), (2, .int (nI g))]) rfl (by decide +kernel) (Nat.le_of_ble_eq_true rfl) ?_
  obtain ⟨PP, hPP⟩ : ∃ PP : jPost, PP = (jR (some (.int (jb (upN (K a) (M (4 * a + 0)) g = 0 ∧ upN (K a) (M (4 * a + 1)) g = 0 ∧ upN (K a) (M (4 * a + 2)) g = 0 ∧ upN (K a) (M (4 * a + 3)) g = 0)))) h n) := ⟨_, rfl⟩
  rw [← hPP]
  refine J_iconst (v := nI 0) dX6_holdsDown_0 (by decide +kernel) ?_
  refine J_istore_n dX6_holdsDown_1 (Nat.le_of_ble_eq_true rfl) (L' := [(3, .int (nI 0)), (0, .ref (E.1 + b)), (1, .int (nI a)), (2, .int (nI g))]) rfl ?_
  refine J_iload_n dX6_holdsDown_2 rfl ?_
  refine J_iconst (v := nI 4) dX6_holdsDown_3 (by decide +kernel) ?_
  refine J_icmp_geN (tgt := 34) dX6_holdsDown_4 (by decide) (by omega) (by omega) (fun z => absurd z (by decide)) (fun _ => ?_)
  refine J_aload_n dX6_holdsDown_7 rfl ?_
  refine J_get 0 dX6_holdsDown_8 jk6 (Nat.le_of_ble_eq_true rfl) jfRX6_9 H0 (by omega) rfl ?_
  refine J_iload_n dX6_holdsDown_11 rfl ?_
  refine J_ialdN (i := a) dX6_holdsDown_12 H1 (by omega) (by omega) (by omega) ?_
  have bd2 := hK a
  refine J_aload_n dX6_holdsDown_13 rfl ?_
  refine J_iload_n dX6_holdsDown_14 rfl ?_
  refine J_iload_n dX6_holdsDown_15 rfl ?_
  refine J_callVr (M' := mX6_remembered) (d' := (1, 0, 0)) (rest := [.int (nI (K a))]) dX6_holdsDown_16 jmX6_remembered jlRX6_71 (ctX6_remembered b a 0 an td gr M H0 H2 (by omega) (by first | assumption | omega) (by first | assumption | omega)) H0 (by omega) jk6.1 rfl rfl (Nat.le_of_ble_eq_true rfl) (Nat.le_of_ble_eq_true rfl) ⟨Nat.le_refl _, Nat.le_refl _⟩ ?_
  have bm0 := hM (4 * a + 0)
  have bm1 := hM (4 * a + 1)
  have bm2 := hM (4 * a + 2)
  have bm3 := hM (4 * a + 3)
  refine J_iload_n dX6_holdsDown_19 rfl ?_
  refine J_callSr (M' := mX0_risen) (d' := (1, 0, 0)) (rest := []) dX6_holdsDown_20 jmX0_risen jlRX6_75 (ctX0_risen (K a) (M (4 * a + 0)) g   (by first | assumption | omega) (by first | assumption | omega) (by first | assumption | omega)) rfl rfl (Nat.le_of_ble_eq_true rfl) (Nat.le_of_ble_eq_true rfl) ⟨Nat.le_refl _, Nat.le_refl _⟩ ?_
  have bu0 := upN_le (kd := K a) (g := g) (hM (4 * a + 0))
  have bu1 := upN_le (kd := K a) (g := g) (hM (4 * a + 1))
  have bu2 := upN_le (kd := K a) (g := g) (hM (4 * a + 2))
  have bu3 := upN_le (kd := K a) (g := g) (hM (4 * a + 3))
  refine J_if_eqN (tgt := 28) dX6_holdsDown_23 (by decide) (by omega) (fun c3 => ?_) (fun c3 => ?_)
  · skip
    refine J_iincN (q := 0) (a := 0) (m := 1) dX6_holdsDown_28 rfl (by decide +kernel) (Nat.le_of_ble_eq_true rfl) (L' := [(3, .int (nI 1)), (0, .ref (E.1 + b)), (1, .int (nI a)), (2, .int (nI g))]) rfl ?_
    refine J_goto (tgt := 2) dX6_holdsDown_31 (by decide) ?_
    refine J_iload_n dX6_holdsDown_2 rfl ?_
    refine J_iconst (v := nI 4) dX6_holdsDown_3 (by decide +kernel) ?_
    refine J_icmp_geN (tgt := 34) dX6_holdsDown_4 (by decide) (by omega) (by omega) (fun z => absurd z (by decide)) (fun _ => ?_)
    refine J_aload_n dX6_holdsDown_7 rfl ?_
    refine J_get 0 dX6_holdsDown_8 jk6 (Nat.le_of_ble_eq_true rfl) jfRX6_9 H0 (by omega) rfl ?_
    refine J_iload_n dX6_holdsDown_11 rfl ?_
    refine J_ialdN (i := a) dX6_holdsDown_12 H1 (by omega) (by omega) (by omega) ?_
    have bd5 := hK a
    refine J_aload_n dX6_holdsDown_13 rfl ?_
    refine J_iload_n dX6_holdsDown_14 rfl ?_
    refine J_iload_n dX6_holdsDown_15 rfl ?_
    refine J_callVr (M' := mX6_remembered) (d' := (1, 0, 0)) (rest := [.int (nI (K a))]) dX6_holdsDown_16 jmX6_remembered jlRX6_71 (ctX6_remembered b a 1 an td gr M H0 H2 (by omega) (by first | assumption | omega) (by first | assumption | omega)) H0 (by omega) jk6.1 rfl rfl (Nat.le_of_ble_eq_true rfl) (Nat.le_of_ble_eq_true rfl) ⟨Nat.le_refl _, Nat.le_refl _⟩ ?_
    have bm0 := hM (4 * a + 0)
    have bm1 := hM (4 * a + 1)
    have bm2 := hM (4 * a + 2)
    have bm3 := hM (4 * a + 3)
    refine J_iload_n dX6_holdsDown_19 rfl ?_
    refine J_callSr (M' := mX0_risen) (d' := (1, 0, 0)) (rest := []) dX6_holdsDown_20 jmX0_risen jlRX6_75 (ctX0_risen (K a) (M (4 * a + 1)) g   (by first | assumption | omega) (by first | assumption | omega) (by first | assumption | omega)) rfl rfl (Nat.le_of_ble_eq_true rfl) (Nat.le_of_ble_eq_true rfl) ⟨Nat.le_refl _, Nat.le_refl _⟩ ?_
    have bu0 := upN_le (kd := K a) (g := g) (hM (4 * a + 0))
    have bu1 := upN_le (kd := K a) (g := g) (hM (4 * a + 1))
    have bu2 := upN_le (kd := K a) (g := g) (hM (4 * a + 2))
    have bu3 := upN_le (kd := K a) (g := g) (hM (4 * a + 3))
    refine J_if_eqN (tgt := 28) dX6_holdsDown_23 (by decide) (by omega) (fun c6 => ?_) (fun c6 => ?_)
    · skip
      refine J_iincN (q := 0) (a := 1) (m := 1) dX6_holdsDown_28 rfl (by decide +kernel) (Nat.le_of_ble_eq_true rfl) (L' := [(3, .int (nI 2)), (0, .ref (E.1 + b)), (1, .int (nI a)), (2, .int (nI g))]) rfl ?_
      refine J_goto (tgt := 2) dX6_holdsDown_31 (by decide) ?_
      refine J_iload_n dX6_holdsDown_2 rfl ?_
      refine J_iconst (v := nI 4) dX6_holdsDown_3 (by decide +kernel) ?_
      refine J_icmp_geN (tgt := 34) dX6_holdsDown_4 (by decide) (by omega) (by omega) (fun z => absurd z (by decide)) (fun _ => ?_)
      refine J_aload_n dX6_holdsDown_7 rfl ?_
      refine J_get 0 dX6_holdsDown_8 jk6 (Nat.le_of_ble_eq_true rfl) jfRX6_9 H0 (by omega) rfl ?_
      refine J_iload_n dX6_holdsDown_11 rfl ?_
      refine J_ialdN (i := a) dX6_holdsDown_12 H1 (by omega) (by omega) (by omega) ?_
      have bd8 := hK a
      refine J_aload_n dX6_holdsDown_13 rfl ?_
      refine J_iload_n dX6_holdsDown_14 rfl ?_
      refine J_iload_n dX6_holdsDown_15 rfl ?_
      refine J_callVr (M' := mX6_remembered) (d' := (1, 0, 0)) (rest := [.int (nI (K a))]) dX6_holdsDown_16 jmX6_remembered jlRX6_71 (ctX6_remembered b a 2 an td gr M H0 H2 (by omega) (by first | assumption | omega) (by first | assumption | omega)) H0 (by omega) jk6.1 rfl rfl (Nat.le_of_ble_eq_true rfl) (Nat.le_of_ble_eq_true rfl) ⟨Nat.le_refl _, Nat.le_refl _⟩ ?_
      have bm0 := hM (4 * a + 0)
      have bm1 := hM (4 * a + 1)
      have bm2 := hM (4 * a + 2)
      have bm3 := hM (4 * a + 3)
      refine J_iload_n dX6_holdsDown_19 rfl ?_
      refine J_callSr (M' := mX0_risen) (d' := (1, 0, 0)) (rest := []) dX6_holdsDown_20 jmX0_risen jlRX6_75 (ctX0_risen (K a) (M (4 * a + 2)) g   (by first | assumption | omega) (by first | assumption | omega) (by first | assumption | omega)) rfl rfl (Nat.le_of_ble_eq_true rfl) (Nat.le_of_ble_eq_true rfl) ⟨Nat.le_refl _, Nat.le_refl _⟩ ?_
      have bu0 := upN_le (kd := K a) (g := g) (hM (4 * a + 0))
      have bu1 := upN_le (kd := K a) (g := g) (hM (4 * a + 1))
      have bu2 := upN_le (kd := K a) (g := g) (hM (4 * a + 2))
      have bu3 := upN_le (kd := K a) (g := g) (hM (4 * a + 3))
      refine J_if_eqN (tgt := 28) dX6_holdsDown_23 (by decide) (by omega) (fun c9 => ?_) (fun c9 => ?_)
      · skip
        refine J_iincN (q := 0) (a := 2) (m := 1) dX6_holdsDown_28 rfl (by decide +kernel) (Nat.le_of_ble_eq_true rfl) (L' := [(3, .int (nI 3)), (0, .ref (E.1 + b)), (1, .int (nI a)), (2, .int (nI g))]) rfl ?_
        refine J_goto (tgt := 2) dX6_holdsDown_31 (by decide) ?_
        refine J_iload_n dX6_holdsDown_2 rfl ?_
        refine J_iconst (v := nI 4) dX6_holdsDown_3 (by decide +kernel) ?_
        refine J_icmp_geN (tgt := 34) dX6_holdsDown_4 (by decide) (by omega) (by omega) (fun z => absurd z (by decide)) (fun _ => ?_)
        refine J_aload_n dX6_holdsDown_7 rfl ?_
        refine J_get 0 dX6_holdsDown_8 jk6 (Nat.le_of_ble_eq_true rfl) jfRX6_9 H0 (by omega) rfl ?_
        refine J_iload_n dX6_holdsDown_11 rfl ?_
        refine J_ialdN (i := a) dX6_holdsDown_12 H1 (by omega) (by omega) (by omega) ?_
        have bd11 := hK a
        refine J_aload_n dX6_holdsDown_13 rfl ?_
        refine J_iload_n dX6_holdsDown_14 rfl ?_
        refine J_iload_n dX6_holdsDown_15 rfl ?_
        refine J_callVr (M' := mX6_remembered) (d' := (1, 0, 0)) (rest := [.int (nI (K a))]) dX6_holdsDown_16 jmX6_remembered jlRX6_71 (ctX6_remembered b a 3 an td gr M H0 H2 (by omega) (by first | assumption | omega) (by first | assumption | omega)) H0 (by omega) jk6.1 rfl rfl (Nat.le_of_ble_eq_true rfl) (Nat.le_of_ble_eq_true rfl) ⟨Nat.le_refl _, Nat.le_refl _⟩ ?_
        have bm0 := hM (4 * a + 0)
        have bm1 := hM (4 * a + 1)
        have bm2 := hM (4 * a + 2)
        have bm3 := hM (4 * a + 3)
        refine J_iload_n dX6_holdsDown_19 rfl ?_
        refine J_callSr (M' := mX0_risen) (d' := (1, 0, 0)) (rest := []) dX6_holdsDown_20 jmX0_risen jlRX6_75 (ctX0_risen (K a) (M (4 * a + 3)) g   (by first | assumption | omega) (by first | assumption | omega) (by first | assumption | omega)) rfl rfl (Nat.le_of_ble_eq_true rfl) (Nat.le_of_ble_eq_true rfl) ⟨Nat.le_refl _, Nat.le_refl _⟩ ?_
        have bu0 := upN_le (kd := K a) (g := g) (hM (4 * a + 0))
        have bu1 := upN_le (kd := K a) (g := g) (hM (4 * a + 1))
        have bu2 := upN_le (kd := K a) (g := g) (hM (4 * a + 2))
        have bu3 := upN_le (kd := K a) (g := g) (hM (4 * a + 3))
        refine J_if_eqN (tgt := 28) dX6_holdsDown_23 (by decide) (by omega) (fun c12 => ?_) (fun c12 => ?_)
        · skip
          refine J_iincN (q := 0) (a := 3) (m := 1) dX6_holdsDown_28 rfl (by decide +kernel) (Nat.le_of_ble_eq_true rfl) (L' := [(3, .int (nI 4)), (0, .ref (E.1 + b)), (1, .int (nI a)), (2, .int (nI g))]) rfl ?_
          refine J_goto (tgt := 2) dX6_holdsDown_31 (by decide) ?_
          refine J_iload_n dX6_holdsDown_2 rfl ?_
          refine J_iconst (v := nI 4) dX6_holdsDown_3 (by decide +kernel) ?_
          refine J_icmp_geN (tgt := 34) dX6_holdsDown_4 (by decide) (by omega) (by omega) (fun _ => ?_) (fun z => absurd z (by decide))
          refine J_iconst (v := nI 1) dX6_holdsDown_34 (by decide +kernel) ?_
          exact J_zret dX6_holdsDown_35 rfl rfl ⟨Nat.le_refl _, Nat.le_refl _⟩ (by rw [hPP]; exact ⟨(congrArg some (Option.some.inj (jret_B1 (by omega)))), rfl, rfl⟩)
        · skip
          refine J_iconst (v := nI 0) dX6_holdsDown_26 (by decide +kernel) ?_
          exact J_zret dX6_holdsDown_27 rfl rfl ⟨Nat.le_refl _, Nat.le_refl _⟩ (by rw [hPP]; exact ⟨(congrArg some (Option.some.inj (jret_B0 (by omega)))), rfl, rfl⟩)
      · skip
        refine J_iconst (v := nI 0) dX6_holdsDown_26 (by decide +kernel) ?_
        exact J_zret dX6_holdsDown_27 rfl rfl ⟨Nat.le_refl _, Nat.le_refl _⟩ (by rw [hPP]; exact ⟨(congrArg some (Option.some.inj (jret_B0 (by omega)))), rfl, rfl⟩)
    · skip
      refine J_iconst (v := nI 0) dX6_holdsDown_26 (by decide +kernel) ?_
      exact J_zret dX6_holdsDown_27 rfl rfl ⟨Nat.le_refl _, Nat.le_refl _⟩ (by rw [hPP]; exact ⟨(congrArg some (Option.some.inj (jret_B0 (by omega)))), rfl, rfl⟩)
  · skip
    refine J_iconst (v := nI 0) dX6_holdsDown_26 (by decide +kernel) ?_
    exact J_zret dX6_holdsDown_27 rfl rfl ⟨Nat.le_refl _, Nat.le_refl _⟩ (by rw [hPP]; exact ⟨(congrArg some (Option.some.inj (jret_B0 (by omega)))), rfl, rfl⟩)

set_option maxHeartbeats 1000000 in
set_option maxRecDepth 100000 in
theorem ctX6_unwanted {E : jE} {h : Nat → va_E} {n : Nat} (b : Nat) (a : Nat) (t : Nat) (an : Nat) (td : Nat) (gr : Nat) (K : Nat → Nat) (M : Nat → Nat) (H0 : h b = .inr (5, [.ref (E.1 + (b + 1)), .ref (E.1 + (b + 2)), .ref (E.1 + (b + 3)), .ref (E.1 + (b + 5)), .ref (E.1 + (b + 7)), .int (nI an), .int (nI td), .int (nI gr)])) (H1 : h (b + 1) = cI E 4 (nF K)) (H2 : h (b + 2) = cI E 16 (nF M)) (hn : b + 11 ≤ n) (ha : a < 4) (ht : t < 4) (hK : ∀ zz, K zz ≤ 5) (hM : ∀ zz, M zz ≤ 20) (hg : gr ≤ 9) : jC E mX6_unwanted (3, 0, 0) [.ref (E.1 + b), .int (nI a), .int (nI t)] h n (jR (some (.int (nI (fgnN K M gr a t 4)))) h n) := by
  refine J.of (L := [(0, .ref (E.1 + b)), (1, .int (nI a)), (2, .int (nI t))]) rfl (by decide +kernel) (Nat.le_of_ble_eq_true rfl) ?_
  obtain ⟨PP, hPP⟩ : ∃ PP : jPost, PP = (jR (some (.int (nI (fgnN K M gr a t 4)))) h n) := ⟨_, rfl⟩
  rw [← hPP]
  refine J_iconst (v := nI 0) dX6_unwanted_0 (by decide +kernel) ?_
  refine J_istore_n dX6_unwanted_1 (Nat.le_of_ble_eq_true rfl) (L' := [(3, .int (nI 0)), (0, .ref (E.1 + b)), (1, .int (nI a)), (2, .int (nI t))]) rfl ?_
  refine J_iconst (v := nI 0) dX6_unwanted_2 (by decide +kernel) ?_
  refine J_istore dX6_unwanted_3 (Nat.le_of_ble_eq_true rfl) (L' := [(4, .int (nI 0)), (3, .int (nI 0)), (0, .ref (E.1 + b)), (1, .int (nI a)), (2, .int (nI t))]) rfl ?_
  have CUT5 : ∀ (f5 : Nat) (i : Nat) (hm5 : 4 - i < f5) (hi : i ≤ 4), J E mX6_unwanted (3, 0, 0) jS0 PP h n (0, 0) 5 [(4, .int (nI i)), (3, .int (nI (fgnN K M gr a t i))), (0, .ref (E.1 + b)), (1, .int (nI a)), (2, .int (nI t))] [] := by
    intro f5
    induction f5 with
    | zero => intro i hm5; exact absurd hm5 (Nat.not_lt_zero _)
    | succ f5 ih5 =>
      intro i hm5 hi
      refine J_iload dX6_unwanted_5 rfl ?_
      refine J_iconst (v := nI 4) dX6_unwanted_7 (by decide +kernel) ?_
      refine J_icmp_geN (tgt := 33) dX6_unwanted_8 (by decide) (by omega) (by omega) (fun c1 => ?_) (fun c1 => ?_)
      · skip
        refine J_iload_n dX6_unwanted_33 rfl ?_
        exact J_iret dX6_unwanted_34 rfl ⟨Nat.le_refl _, Nat.le_refl _⟩ (by rw [hPP]; exact ⟨(congrArg some (jv_N (by rw [show i = 4 by omega]))), rfl, rfl⟩)
      · skip
        refine J_iload dX6_unwanted_11 rfl ?_
        refine J_iload_n dX6_unwanted_13 rfl ?_
        refine J_icmp_eqN (tgt := 27) dX6_unwanted_14 (by decide) (by omega) (by omega) (fun c2 => ?_) (fun c2 => ?_)
        · skip
          refine J_iincN (q := 0) (a := i) (m := 1) dX6_unwanted_27 rfl (by decide +kernel) (Nat.le_of_ble_eq_true rfl) (L' := [(4, .int (nI (i + 1))), (3, .int (nI (fgnN K M gr a t i))), (0, .ref (E.1 + b)), (1, .int (nI a)), (2, .int (nI t))]) rfl ?_
          refine J_goto (tgt := 5) dX6_unwanted_30 (by decide) ?_
          refine J.eqs (h' := h) (L' := [(4, .int (nI (i + 1))), (3, .int (nI (fgnN K M gr a t (i + 1)))), (0, .ref (E.1 + b)), (1, .int (nI a)), (2, .int (nI t))]) (st' := []) rfl (jL_c rfl (jL_c (jv_N (by first | rfl | (simp only [fgnN]; split <;> omega))) (jL_c rfl (jL_c rfl (jL_c rfl rfl))))) rfl ?_
          exact ih5 (i + 1) (by omega) (by first | assumption | omega)
        · skip
          refine J_iload_n dX6_unwanted_17 rfl ?_
          refine J_aload_n dX6_unwanted_18 rfl ?_
          refine J_iload_n dX6_unwanted_19 rfl ?_
          refine J_iload dX6_unwanted_20 rfl ?_
          refine J_callVr (M' := mX6_risen) (d' := (2, 0, 0)) (rest := [.int (nI (fgnN K M gr a t i))]) dX6_unwanted_22 jmX6_risen jlRX6_81 (ctX6_risen b a i an td gr K M H0 H1 H2 (by omega) (by first | assumption | omega) (by first | assumption | omega) (by first | assumption | omega) (by first | assumption | omega) (by first | assumption | omega)) H0 (by omega) jk6.1 rfl rfl (Nat.le_of_ble_eq_true rfl) (Nat.le_of_ble_eq_true rfl) ⟨Nat.le_refl _, Nat.le_refl _⟩ ?_
          have fc3 : upN (K a) (M (4 * a + i)) gr ≤ 42 := upN_le ((show ∀ zz, M zz ≤ 20 from by first | assumption | omega) (4 * a + i))
          refine J_iaddN dX6_unwanted_25 ?_
          refine J_istore_n dX6_unwanted_26 (Nat.le_of_ble_eq_true rfl) (L' := [(3, .int (nI ((fgnN K M gr a t i) + (upN (K a) (M (4 * a + i)) gr)))), (4, .int (nI i)), (0, .ref (E.1 + b)), (1, .int (nI a)), (2, .int (nI t))]) rfl ?_
          refine J_iincN (q := 1) (a := i) (m := 1) dX6_unwanted_27 rfl (by decide +kernel) (Nat.le_of_ble_eq_true rfl) (L' := [(4, .int (nI (i + 1))), (3, .int (nI ((fgnN K M gr a t i) + (upN (K a) (M (4 * a + i)) gr)))), (0, .ref (E.1 + b)), (1, .int (nI a)), (2, .int (nI t))]) rfl ?_
          refine J_goto (tgt := 5) dX6_unwanted_30 (by decide) ?_
          refine J.eqs (h' := h) (L' := [(4, .int (nI (i + 1))), (3, .int (nI (fgnN K M gr a t (i + 1)))), (0, .ref (E.1 + b)), (1, .int (nI a)), (2, .int (nI t))]) (st' := []) rfl (jL_c rfl (jL_c (jv_N (by first | rfl | (simp only [fgnN]; split <;> omega))) (jL_c rfl (jL_c rfl (jL_c rfl rfl))))) rfl ?_
          exact ih5 (i + 1) (by omega) (by first | assumption | omega)
  refine J.eqs (h' := h) (L' := [(4, .int (nI 0)), (3, .int (nI (fgnN K M gr a t 0))), (0, .ref (E.1 + b)), (1, .int (nI a)), (2, .int (nI t))]) (st' := []) rfl (jL_c rfl (jL_c (jv_N (by first | rfl | (simp only [fgnN]; split <;> omega))) (jL_c rfl (jL_c rfl (jL_c rfl rfl))))) rfl ?_
  exact CUT5 (4 - 0 + 1) 0 (Nat.lt_succ_self _) (by first | assumption | omega)

set_option maxHeartbeats 1000000 in
set_option maxRecDepth 100000 in
theorem ctX6_addMemory {E : jE} {h : Nat → va_E} {n : Nat} (b : Nat) (a : Nat) (t : Nat) (bl : Nat) (an : Nat) (td : Nat) (gr : Nat) (K : Nat → Nat) (M : Nat → Nat) (H0 : h b = .inr (5, [.ref (E.1 + (b + 1)), .ref (E.1 + (b + 2)), .ref (E.1 + (b + 3)), .ref (E.1 + (b + 5)), .ref (E.1 + (b + 7)), .int (nI an), .int (nI td), .int (nI gr)])) (H1 : h (b + 1) = cI E 4 (nF K)) (H2 : h (b + 2) = cI E 16 (nF M)) (hn : b + 11 ≤ n) (ha : a < 4) (ht : t < 4) (hK : ∀ zz, K zz ≤ 5) (hM : ∀ zz, M zz ≤ 20) (hbl : bl ≤ 5) : jC E mX6_addMemory (2, 0, 0) [.ref (E.1 + b), .int (nI a), .int (nI t), .int (nI bl)] h n (jR none (hset h (b + 2) (cI E 16 (nF (addMN K M a t bl)))) n) := by
  refine J.of (L := [(0, .ref (E.1 + b)), (1, .int (nI a)), (2, .int (nI t)), (3, .int (nI bl))]) rfl (by decide +kernel) (Nat.le_of_ble_eq_true rfl) ?_
  obtain ⟨PP, hPP⟩ : ∃ PP : jPost, PP = (jR none (hset h (b + 2) (cI E 16 (nF (addMN K M a t bl)))) n) := ⟨_, rfl⟩
  rw [← hPP]
  refine J_aload_n dX6_addMemory_0 rfl ?_
  refine J_iload_n dX6_addMemory_1 rfl ?_
  refine J_iload_n dX6_addMemory_2 rfl ?_
  refine J_callVr (M' := mX6_remembered) (d' := (1, 0, 0)) (rest := []) dX6_addMemory_3 jmX6_remembered jlRX6_71 (ctX6_remembered b a t an td gr M H0 H2 (by omega) (by first | assumption | omega) (by first | assumption | omega)) H0 (by omega) jk6.1 rfl rfl (Nat.le_of_ble_eq_true rfl) (Nat.le_of_ble_eq_true rfl) ⟨Nat.le_refl _, Nat.le_refl _⟩ ?_
  refine J_aload_n dX6_addMemory_6 rfl ?_
  refine J_get 0 dX6_addMemory_7 jk6 (Nat.le_of_ble_eq_true rfl) jfRX6_9 H0 (by omega) rfl ?_
  refine J_iload_n dX6_addMemory_10 rfl ?_
  refine J_ialdN (i := a) dX6_addMemory_11 H1 (by omega) (by omega) (by omega) ?_
  have bd1 := hK a
  refine J_iload_n dX6_addMemory_12 rfl ?_
  refine J_callSr (M' := mX0_added) (d' := (1, 0, 0)) (rest := [.int (nI (M (4 * a + t)))]) dX6_addMemory_13 jmX0_added jlRX6_89 (ctX0_added (K a) bl   (by first | assumption | omega) (by first | assumption | omega)) rfl rfl (Nat.le_of_ble_eq_true rfl) (Nat.le_of_ble_eq_true rfl) ⟨Nat.le_refl _, Nat.le_refl _⟩ ?_
  have bm0 := moreN_le (kd := K a) (b := bl) (by omega)
  have bm1 := hM (4 * a + t)
  refine J_iaddN dX6_addMemory_16 ?_
  refine J_istore dX6_addMemory_17 (Nat.le_of_ble_eq_true rfl) (L' := [(4, .int (nI ((M (4 * a + t)) + (moreN (K a) bl)))), (0, .ref (E.1 + b)), (1, .int (nI a)), (2, .int (nI t)), (3, .int (nI bl))]) rfl ?_
  refine J_aload_n dX6_addMemory_19 rfl ?_
  refine J_iload_n dX6_addMemory_20 rfl ?_
  refine J_iload_n dX6_addMemory_21 rfl ?_
  refine J_iload dX6_addMemory_22 rfl ?_
  refine J_bipush (v := nI 20) dX6_addMemory_24 (by decide +kernel) ?_
  refine J_mminN (a := (M (4 * a + t)) + (moreN (K a) bl)) (b := 20) dX6_addMemory_26 jlRX6_92 (jmJ9_min_7cf53).2 (jmJ9_min_7cf53).1.2.1 (jmJ9_min_7cf53).1.1 (by omega) (by omega) (Nat.le_of_ble_eq_true rfl) (Nat.le_of_ble_eq_true rfl) ⟨Nat.le_refl _, Nat.le_refl _⟩ ?_
  refine J_callVn (M' := mX6_setMemory) (d' := (1, 0, 0)) (rest := []) dX6_addMemory_29 jmX6_setMemory jlRX6_67 (ctX6_setMemory b a t (min ((M (4 * a + t)) + (moreN (K a) bl)) 20) an td gr M H0 H2 (by omega) (by first | assumption | omega) (by first | assumption | omega)) H0 (by omega) jk6.1 rfl rfl (Nat.le_of_ble_eq_true rfl) (Nat.le_of_ble_eq_true rfl) ⟨Nat.le_refl _, Nat.le_refl _⟩ ?_
  exact J_vret dX6_addMemory_32 rfl ⟨Nat.le_refl _, Nat.le_refl _⟩ (by rw [hPP]; exact ⟨rfl, (hset_cg rfl (cI_cg (by intro z; rfl))), rfl⟩)

set_option maxHeartbeats 1000000 in
set_option maxRecDepth 100000 in
theorem ctX6_beat {E : jE} {h : Nat → va_E} {n : Nat} (b : Nat) (a : Nat) (t : Nat) (bl : Nat) (an : Nat) (td : Nat) (gr : Nat) (K : Nat → Nat) (M : Nat → Nat) (H0 : h b = .inr (5, [.ref (E.1 + (b + 1)), .ref (E.1 + (b + 2)), .ref (E.1 + (b + 3)), .ref (E.1 + (b + 5)), .ref (E.1 + (b + 7)), .int (nI an), .int (nI td), .int (nI gr)])) (H1 : h (b + 1) = cI E 4 (nF K)) (H2 : h (b + 2) = cI E 16 (nF M)) (hn : b + 11 ≤ n) (ha : a < 4) (ht : t < 4) (hK : ∀ zz, K zz ≤ 5) (hM : ∀ zz, M zz ≤ 20) (hg : gr ≤ 9) (hbl : bl ≤ 5) : jC E mX6_beat (4, 0, 0) [.ref (E.1 + b), .int (nI a), .int (nI t), .int (nI bl)] h n (jR (some (.int (nI (fgnN K M gr a t 4)))) (hset h (b + 2) (cI E 16 (nF (addMN K M a t bl)))) n) := by
  refine J.of (L := [(0, .ref (E.1 + b)), (1, .int (nI a)), (2, .int (nI t)), (3, .int (nI bl))]) rfl (by decide +kernel) (Nat.le_of_ble_eq_true rfl) ?_
  obtain ⟨PP, hPP⟩ : ∃ PP : jPost, PP = (jR (some (.int (nI (fgnN K M gr a t 4)))) (hset h (b + 2) (cI E 16 (nF (addMN K M a t bl)))) n) := ⟨_, rfl⟩
  rw [← hPP]
  refine J_aload_n dX6_beat_0 rfl ?_
  refine J_iload_n dX6_beat_1 rfl ?_
  refine J_iload_n dX6_beat_2 rfl ?_
  refine J_callVr (M' := mX6_unwanted) (d' := (3, 0, 0)) (rest := []) dX6_beat_3 jmX6_unwanted jlRX6_83 (ctX6_unwanted b a t an td gr K M H0 H1 H2 (by omega) (by first | assumption | omega) (by first | assumption | omega) (by first | assumption | omega) (by first | assumption | omega) (by first | assumption | omega)) H0 (by omega) jk6.1 rfl rfl (Nat.le_of_ble_eq_true rfl) (Nat.le_of_ble_eq_true rfl) ⟨Nat.le_refl _, Nat.le_refl _⟩ ?_
  have fc1 : fgnN K M gr a t 4 ≤ 42 * 4 := fgnN_le (show ∀ zz, M zz ≤ 20 from by first | assumption | omega) 4
  refine J_istore dX6_beat_6 (Nat.le_of_ble_eq_true rfl) (L' := [(4, .int (nI (fgnN K M gr a t 4))), (0, .ref (E.1 + b)), (1, .int (nI a)), (2, .int (nI t)), (3, .int (nI bl))]) rfl ?_
  refine J_aload_n dX6_beat_8 rfl ?_
  refine J_iload_n dX6_beat_9 rfl ?_
  refine J_iload_n dX6_beat_10 rfl ?_
  refine J_iload_n dX6_beat_11 rfl ?_
  refine J_callVn (M' := mX6_addMemory) (d' := (2, 0, 0)) (rest := []) dX6_beat_12 jmX6_addMemory jlRX6_86 (ctX6_addMemory b a t bl an td gr K M H0 H1 H2 (by omega) (by first | assumption | omega) (by first | assumption | omega) (by first | assumption | omega) (by first | assumption | omega) (by first | assumption | omega)) H0 (by omega) jk6.1 rfl rfl (Nat.le_of_ble_eq_true rfl) (Nat.le_of_ble_eq_true rfl) ⟨Nat.le_refl _, Nat.le_refl _⟩ ?_
  refine J_iload dX6_beat_15 rfl ?_
  exact J_iret dX6_beat_17 rfl ⟨Nat.le_refl _, Nat.le_refl _⟩ (by rw [hPP]; exact ⟨rfl, rfl, rfl⟩)

set_option maxHeartbeats 1000000 in
set_option maxRecDepth 100000 in
theorem ctX6_fade {E : jE} {h : Nat → va_E} {n : Nat} (b : Nat) (a : Nat) (d : Nat) (an : Nat) (td : Nat) (gr : Nat) (K : Nat → Nat) (M : Nat → Nat) (H0 : h b = .inr (5, [.ref (E.1 + (b + 1)), .ref (E.1 + (b + 2)), .ref (E.1 + (b + 3)), .ref (E.1 + (b + 5)), .ref (E.1 + (b + 7)), .int (nI an), .int (nI td), .int (nI gr)])) (H1 : h (b + 1) = cI E 4 (nF K)) (H2 : h (b + 2) = cI E 16 (nF M)) (hn : b + 11 ≤ n) (ha : a < 4) (hd : d < 2 ^ 31) (hK : ∀ zz, K zz ≤ 5) (hM : ∀ zz, M zz ≤ 20) : jC E mX6_fade (2, 0, 0) [.ref (E.1 + b), .int (nI a), .int (nI d)] h n (jR none (hset h (b + 2) (cI E 16 (nF (fadeN K M a d 4)))) n) := by
  refine J.of (L := [(0, .ref (E.1 + b)), (1, .int (nI a)), (2, .int (nI d))]) rfl (by decide +kernel) (Nat.le_of_ble_eq_true rfl) ?_
  obtain ⟨PP, hPP⟩ : ∃ PP : jPost, PP = (jR none (hset h (b + 2) (cI E 16 (nF (fadeN K M a d 4)))) n) := ⟨_, rfl⟩
  rw [← hPP]
  refine J_iconst (v := nI 0) dX6_fade_0 (by decide +kernel) ?_
  refine J_istore_n dX6_fade_1 (Nat.le_of_ble_eq_true rfl) (L' := [(3, .int (nI 0)), (0, .ref (E.1 + b)), (1, .int (nI a)), (2, .int (nI d))]) rfl ?_
  have CUT2 : ∀ (f2 : Nat) (i : Nat) (hm2 : 4 - i < f2) (hi : i ≤ 4), J E mX6_fade (2, 0, 0) jS0 PP (hset h (b + 2) (cI E 16 (nF (fadeN K M a d i)))) n (0, 0) 2 [(3, .int (nI i)), (0, .ref (E.1 + b)), (1, .int (nI a)), (2, .int (nI d))] [] := by
    intro f2
    induction f2 with
    | zero => intro i hm2; exact absurd hm2 (Nat.not_lt_zero _)
    | succ f2 ih2 =>
      intro i hm2 hi
      refine J_iload_n dX6_fade_2 rfl ?_
      refine J_iconst (v := nI 4) dX6_fade_3 (by decide +kernel) ?_
      refine J_icmp_geN (tgt := 35) dX6_fade_4 (by decide) (by omega) (by omega) (fun c1 => ?_) (fun c1 => ?_)
      · skip
        exact J_vret dX6_fade_35 rfl ⟨Nat.le_refl _, Nat.le_refl _⟩ (by rw [hPP]; exact ⟨rfl, (hset_cg rfl (cI_cg (by intro z; rw [show i = 4 by omega]))), rfl⟩)
      · skip
        refine J_aload_n dX6_fade_7 rfl ?_
        refine J_iload_n dX6_fade_8 rfl ?_
        refine J_iload_n dX6_fade_9 rfl ?_
        refine J_aload_n dX6_fade_10 rfl ?_
        refine J_get 0 dX6_fade_11 jk6 (Nat.le_of_ble_eq_true rfl) jfRX6_9 ((hset_ne (by omega)).trans H0) (by omega) rfl ?_
        refine J_iload_n dX6_fade_14 rfl ?_
        refine J_ialdN (i := a) dX6_fade_15 ((hset_ne (by omega)).trans H1) (by omega) (by omega) (by omega) ?_
        have bd2 := hK a
        refine J_aload_n dX6_fade_16 rfl ?_
        refine J_iload_n dX6_fade_17 rfl ?_
        refine J_iload_n dX6_fade_18 rfl ?_
        refine J_callVr (M' := mX6_remembered) (d' := (1, 0, 0)) (rest := [.int (nI (K a)), .int (nI i), .int (nI a), .ref (E.1 + b)]) dX6_fade_19 jmX6_remembered jlRX6_71 (ctX6_remembered b a i an td gr (fadeN K M a d i) ((hset_ne (by omega)).trans H0) hset_eq (by omega) (by first | assumption | omega) (by first | assumption | omega)) ((hset_ne (by omega)).trans H0) (by omega) jk6.1 rfl rfl (Nat.le_of_ble_eq_true rfl) (Nat.le_of_ble_eq_true rfl) ⟨Nat.le_refl _, Nat.le_refl _⟩ ?_
        have bm0 := fadeN_le (K := K) (a := a) (d := d) (i := i) hM (4 * a + i)
        refine J_iload_n dX6_fade_22 rfl ?_
        refine J_callSr (M' := mX0_left) (d' := (1, 0, 0)) (rest := [.int (nI i), .int (nI a), .ref (E.1 + b)]) dX6_fade_23 jmX0_left jlRX6_97 (ctX0_left (K a) ((fadeN K M a d i) (4 * a + i)) d   (by first | assumption | omega) (by first | assumption | omega) (by first | assumption | omega)) rfl rfl (Nat.le_of_ble_eq_true rfl) (Nat.le_of_ble_eq_true rfl) ⟨Nat.le_refl _, Nat.le_refl _⟩ ?_
        refine J_callVn (M' := mX6_setMemory) (d' := (1, 0, 0)) (rest := []) dX6_fade_26 jmX6_setMemory jlRX6_67 (ctX6_setMemory b a i (leftN (K a) ((fadeN K M a d i) (4 * a + i)) d) an td gr (fadeN K M a d i) ((hset_ne (by omega)).trans H0) hset_eq (by omega) (by first | assumption | omega) (by first | assumption | omega)) ((hset_ne (by omega)).trans H0) (by omega) jk6.1 rfl rfl (Nat.le_of_ble_eq_true rfl) (Nat.le_of_ble_eq_true rfl) ⟨Nat.le_refl _, Nat.le_refl _⟩ ?_
        refine J.cast hset_hset ?_
        refine J_iincN (q := 0) (a := i) (m := 1) dX6_fade_29 rfl (by decide +kernel) (Nat.le_of_ble_eq_true rfl) (L' := [(3, .int (nI (i + 1))), (0, .ref (E.1 + b)), (1, .int (nI a)), (2, .int (nI d))]) rfl ?_
        refine J_goto (tgt := 2) dX6_fade_32 (by decide) ?_
        refine J.eqs (h' := (hset h (b + 2) (cI E 16 (nF (fadeN K M a d (i + 1)))))) (L' := [(3, .int (nI (i + 1))), (0, .ref (E.1 + b)), (1, .int (nI a)), (2, .int (nI d))]) (st' := []) (hset_cg rfl (cI_cg (by intro z; first | exact fadeN_0 z | exact fadeN_s z))) rfl rfl ?_
        exact ih2 (i + 1) (by omega) (by first | assumption | omega)
  refine J.eqs (h' := (hset h (b + 2) (cI E 16 (nF (fadeN K M a d 0))))) (L' := [(3, .int (nI 0)), (0, .ref (E.1 + b)), (1, .int (nI a)), (2, .int (nI d))]) (st' := []) ((show h = (hset h (b + 2) (cI E 16 (nF M))) by funext z; simp only [hset]; (repeat' split) <;> first | rfl | (exfalso; omega) | (subst_vars; first | exact H2)).trans (hset_cg rfl (cI_cg (by intro z; first | exact fadeN_0 z | exact fadeN_s z)))) rfl rfl ?_
  exact CUT2 (4 - 0 + 1) 0 (Nat.lt_succ_self _) (by first | assumption | omega)

set_option maxHeartbeats 1000000 in
set_option maxRecDepth 100000 in
theorem ctX6_fadeAll {E : jE} {h : Nat → va_E} {n : Nat} (b : Nat) (d : Nat) (an : Nat) (td : Nat) (gr : Nat) (K : Nat → Nat) (M : Nat → Nat) (H0 : h b = .inr (5, [.ref (E.1 + (b + 1)), .ref (E.1 + (b + 2)), .ref (E.1 + (b + 3)), .ref (E.1 + (b + 5)), .ref (E.1 + (b + 7)), .int (nI an), .int (nI td), .int (nI gr)])) (H1 : h (b + 1) = cI E 4 (nF K)) (H2 : h (b + 2) = cI E 16 (nF M)) (hn : b + 11 ≤ n) (hn4 : an ≤ 4) (hd : d < 2 ^ 31) (hK : ∀ zz, K zz ≤ 5) (hM : ∀ zz, M zz ≤ 20) : jC E mX6_fadeAll (3, 0, 0) [.ref (E.1 + b), .int (nI d)] h n (jR none (hset h (b + 2) (cI E 16 (nF (dayN K M an d)))) n) := by
  refine J.of (L := [(0, .ref (E.1 + b)), (1, .int (nI d))]) rfl (by decide +kernel) (Nat.le_of_ble_eq_true rfl) ?_
  obtain ⟨PP, hPP⟩ : ∃ PP : jPost, PP = (jR none (hset h (b + 2) (cI E 16 (nF (dayN K M an d)))) n) := ⟨_, rfl⟩
  rw [← hPP]
  refine J_iconst (v := nI 0) dX6_fadeAll_0 (by decide +kernel) ?_
  refine J_istore_n dX6_fadeAll_1 (Nat.le_of_ble_eq_true rfl) (L' := [(2, .int (nI 0)), (0, .ref (E.1 + b)), (1, .int (nI d))]) rfl ?_
  have CUT2 : ∀ (f2 : Nat) (i : Nat) (hm2 : an - i < f2) (hi : i ≤ an), J E mX6_fadeAll (3, 0, 0) jS0 PP (hset h (b + 2) (cI E 16 (nF (dayN K M i d)))) n (0, 0) 2 [(2, .int (nI i)), (0, .ref (E.1 + b)), (1, .int (nI d))] [] := by
    intro f2
    induction f2 with
    | zero => intro i hm2; exact absurd hm2 (Nat.not_lt_zero _)
    | succ f2 ih2 =>
      intro i hm2 hi
      refine J_iload_n dX6_fadeAll_2 rfl ?_
      refine J_aload_n dX6_fadeAll_3 rfl ?_
      refine J_get 5 dX6_fadeAll_4 jk6 (Nat.le_of_ble_eq_true rfl) jfRX6_35 ((hset_ne (by omega)).trans H0) (by omega) rfl ?_
      refine J_icmp_geN (tgt := 22) dX6_fadeAll_7 (by decide) (by omega) (by omega) (fun c1 => ?_) (fun c1 => ?_)
      · skip
        exact J_vret dX6_fadeAll_22 rfl ⟨Nat.le_refl _, Nat.le_refl _⟩ (by rw [hPP]; exact ⟨rfl, (hset_cg rfl (cI_cg (by intro z; rw [show i = an by omega]))), rfl⟩)
      · skip
        refine J_aload_n dX6_fadeAll_10 rfl ?_
        refine J_iload_n dX6_fadeAll_11 rfl ?_
        refine J_iload_n dX6_fadeAll_12 rfl ?_
        refine J_callVn (M' := mX6_fade) (d' := (2, 0, 0)) (rest := []) dX6_fadeAll_13 jmX6_fade jlRX6_100 (ctX6_fade b i d an td gr K (dayN K M i d) ((hset_ne (by omega)).trans H0) ((hset_ne (by omega)).trans H1) hset_eq (by omega) (by first | assumption | omega) (by first | assumption | omega) (by first | assumption | omega) (by exact dayN_le hM)) ((hset_ne (by omega)).trans H0) (by omega) jk6.1 rfl rfl (Nat.le_of_ble_eq_true rfl) (Nat.le_of_ble_eq_true rfl) ⟨Nat.le_refl _, Nat.le_refl _⟩ ?_
        refine J.cast hset_hset ?_
        refine J_iincN (q := 0) (a := i) (m := 1) dX6_fadeAll_16 rfl (by decide +kernel) (Nat.le_of_ble_eq_true rfl) (L' := [(2, .int (nI (i + 1))), (0, .ref (E.1 + b)), (1, .int (nI d))]) rfl ?_
        refine J_goto (tgt := 2) dX6_fadeAll_19 (by decide) ?_
        refine J.eqs (h' := (hset h (b + 2) (cI E 16 (nF (dayN K M (i + 1) d))))) (L' := [(2, .int (nI (i + 1))), (0, .ref (E.1 + b)), (1, .int (nI d))]) (st' := []) (hset_cg rfl (cI_cg (by intro z; first | exact dayN_0 z | exact dayN_s z))) rfl rfl ?_
        exact ih2 (i + 1) (by omega) (by first | assumption | omega)
  refine J.eqs (h' := (hset h (b + 2) (cI E 16 (nF (dayN K M 0 d))))) (L' := [(2, .int (nI 0)), (0, .ref (E.1 + b)), (1, .int (nI d))]) (st' := []) ((show h = (hset h (b + 2) (cI E 16 (nF M))) by funext z; simp only [hset]; (repeat' split) <;> first | rfl | (exfalso; omega) | (subst_vars; first | exact H2)).trans (hset_cg rfl (cI_cg (by intro z; first | exact dayN_0 z | exact dayN_s z)))) rfl rfl ?_
  exact CUT2 (an - 0 + 1) 0 (Nat.lt_succ_self _) (by first | assumption | omega)

set_option maxHeartbeats 1000000 in
set_option maxRecDepth 100000 in
theorem ctX6_passDay {E : jE} {h : Nat → va_E} {n : Nat} (b : Nat) (an : Nat) (td : Nat) (gr : Nat) (K : Nat → Nat) (M : Nat → Nat) (H0 : h b = .inr (5, [.ref (E.1 + (b + 1)), .ref (E.1 + (b + 2)), .ref (E.1 + (b + 3)), .ref (E.1 + (b + 5)), .ref (E.1 + (b + 7)), .int (nI an), .int (nI td), .int (nI gr)])) (H1 : h (b + 1) = cI E 4 (nF K)) (H2 : h (b + 2) = cI E 16 (nF M)) (hn : b + 11 ≤ n) (hn4 : an ≤ 4) (hd : td ≤ 999) (hK : ∀ zz, K zz ≤ 5) (hM : ∀ zz, M zz ≤ 20) : jC E mX6_passDay (4, 0, 0) [.ref (E.1 + b)] h n (jR none (hset (hset h (b + 2) (cI E 16 (nF (dayN K M an td)))) b (.inr (5, [.ref (E.1 + (b + 1)), .ref (E.1 + (b + 2)), .ref (E.1 + (b + 3)), .ref (E.1 + (b + 5)), .ref (E.1 + (b + 7)), .int (nI an), .int (nI (min (td + 1) 999)), .int (nI gr)]))) n) := by
  refine J.of (L := [(0, .ref (E.1 + b))]) rfl (by decide +kernel) (Nat.le_of_ble_eq_true rfl) ?_
  obtain ⟨PP, hPP⟩ : ∃ PP : jPost, PP = (jR none (hset (hset h (b + 2) (cI E 16 (nF (dayN K M an td)))) b (.inr (5, [.ref (E.1 + (b + 1)), .ref (E.1 + (b + 2)), .ref (E.1 + (b + 3)), .ref (E.1 + (b + 5)), .ref (E.1 + (b + 7)), .int (nI an), .int (nI (min (td + 1) 999)), .int (nI gr)]))) n) := ⟨_, rfl⟩
  rw [← hPP]
  refine J_aload_n dX6_passDay_0 rfl ?_
  refine J_aload_n dX6_passDay_1 rfl ?_
  refine J_get 6 dX6_passDay_2 jk6 (Nat.le_of_ble_eq_true rfl) jfRX6_39 H0 (by omega) rfl ?_
  refine J_callVn (M' := mX6_fadeAll) (d' := (3, 0, 0)) (rest := []) dX6_passDay_5 jmX6_fadeAll jlRX6_104 (ctX6_fadeAll b td an td gr K M H0 H1 H2 (by omega) (by first | assumption | omega) (by first | assumption | omega) (by first | assumption | omega) (by first | assumption | omega)) H0 (by omega) jk6.1 rfl rfl (Nat.le_of_ble_eq_true rfl) (Nat.le_of_ble_eq_true rfl) ⟨Nat.le_refl _, Nat.le_refl _⟩ ?_
  refine J_aload_n dX6_passDay_8 rfl ?_
  refine J_aload_n dX6_passDay_9 rfl ?_
  refine J_get 6 dX6_passDay_10 jk6 (Nat.le_of_ble_eq_true rfl) jfRX6_39 ((hset_ne (by omega)).trans H0) (by omega) rfl ?_
  refine J_iconst (v := nI 1) dX6_passDay_13 (by decide +kernel) ?_
  refine J_iaddN dX6_passDay_14 ?_
  refine J_sipush (v := nI 999) dX6_passDay_15 (by decide +kernel) ?_
  refine J_mminN (a := td + 1) (b := 999) dX6_passDay_18 jlRX6_92 (jmJ9_min_7cf53).2 (jmJ9_min_7cf53).1.2.1 (jmJ9_min_7cf53).1.1 (by omega) (by omega) (Nat.le_of_ble_eq_true rfl) (Nat.le_of_ble_eq_true rfl) ⟨Nat.le_refl _, Nat.le_refl _⟩ ?_
  refine J_put 6 dX6_passDay_21 jk6 (Nat.le_of_ble_eq_true rfl) jfRX6_39 ((hset_ne (by omega)).trans H0) (by omega) rfl rfl rfl (Nat.le_of_ble_eq_true rfl) ?_
  refine J.cast (h' := (hset (hset h (b + 2) (cI E 16 (nF (dayN K M an td)))) b (.inr (5, [.ref (E.1 + (b + 1)), .ref (E.1 + (b + 2)), .ref (E.1 + (b + 3)), .ref (E.1 + (b + 5)), .ref (E.1 + (b + 7)), .int (nI an), .int (nI (min (td + 1) 999)), .int (nI gr)])))) rfl ?_
  exact J_vret dX6_passDay_24 rfl ⟨Nat.le_refl _, Nat.le_refl _⟩ (by rw [hPP]; exact ⟨rfl, rfl, rfl⟩)

set_option maxHeartbeats 1000000 in
set_option maxRecDepth 100000 in
theorem ctX6_begin {E : jE} {h : Nat → va_E} {n : Nat} (b : Nat) (g : Nat) (an : Nat) (td : Nat) (gr : Nat) (nn : Nat) (cn : Nat) (ps : Nat) (H0 : h b = .inr (5, [.ref (E.1 + (b + 1)), .ref (E.1 + (b + 2)), .ref (E.1 + (b + 3)), .ref (E.1 + (b + 5)), .ref (E.1 + (b + 7)), .int (nI an), .int (nI td), .int (nI gr)])) (H1 : h (b + 3) = .inr (3, [.ref (E.1 + (b + 4)), .int (nI nn)])) (H2 : h (b + 5) = .inr (3, [.ref (E.1 + (b + 6)), .int (nI cn)])) (H3 : h (b + 7) = .inr (1, [.ref (E.1 + (b + 8)), .ref (E.1 + (b + 9)), .ref (E.1 + (b + 10)), .int (nI ps)])) (hn : b + 11 ≤ n) : jC E mX6_begin (1, 0, 0) [.ref (E.1 + b), .int (nI g)] h n (jR none (hset (hset (hset (hset h b (.inr (5, [.ref (E.1 + (b + 1)), .ref (E.1 + (b + 2)), .ref (E.1 + (b + 3)), .ref (E.1 + (b + 5)), .ref (E.1 + (b + 7)), .int (nI 0), .int (nI 0), .int (nI g)]))) (b + 3) (.inr (3, [.ref (E.1 + (b + 4)), .int (nI 0)]))) (b + 5) (.inr (3, [.ref (E.1 + (b + 6)), .int (nI 0)]))) (b + 7) (.inr (1, [.ref (E.1 + (b + 8)), .ref (E.1 + (b + 9)), .ref (E.1 + (b + 10)), .int (nI 0)]))) n) := by
  refine J.of (L := [(0, .ref (E.1 + b)), (1, .int (nI g))]) rfl (by decide +kernel) (Nat.le_of_ble_eq_true rfl) ?_
  obtain ⟨PP, hPP⟩ : ∃ PP : jPost, PP = (jR none (hset (hset (hset (hset h b (.inr (5, [.ref (E.1 + (b + 1)), .ref (E.1 + (b + 2)), .ref (E.1 + (b + 3)), .ref (E.1 + (b + 5)), .ref (E.1 + (b + 7)), .int (nI 0), .int (nI 0), .int (nI g)]))) (b + 3) (.inr (3, [.ref (E.1 + (b + 4)), .int (nI 0)]))) (b + 5) (.inr (3, [.ref (E.1 + (b + 6)), .int (nI 0)]))) (b + 7) (.inr (1, [.ref (E.1 + (b + 8)), .ref (E.1 + (b + 9)), .ref (E.1 + (b + 10)), .int (nI 0)]))) n) := ⟨_, rfl⟩
  rw [← hPP]
  refine J_aload_n dX6_begin_0 rfl ?_
  refine J_iconst (v := nI 0) dX6_begin_1 (by decide +kernel) ?_
  refine J_put 5 dX6_begin_2 jk6 (Nat.le_of_ble_eq_true rfl) jfRX6_35 H0 (by omega) rfl rfl rfl (Nat.le_of_ble_eq_true rfl) ?_
  refine J.cast (h' := (hset h b (.inr (5, [.ref (E.1 + (b + 1)), .ref (E.1 + (b + 2)), .ref (E.1 + (b + 3)), .ref (E.1 + (b + 5)), .ref (E.1 + (b + 7)), .int (nI 0), .int (nI td), .int (nI gr)])))) rfl ?_
  refine J_aload_n dX6_begin_5 rfl ?_
  refine J_iconst (v := nI 0) dX6_begin_6 (by decide +kernel) ?_
  refine J_put 6 dX6_begin_7 jk6 (Nat.le_of_ble_eq_true rfl) jfRX6_39 hset_eq (by omega) rfl rfl rfl (Nat.le_of_ble_eq_true rfl) ?_
  refine J.cast (h' := (hset (hset h b (.inr (5, [.ref (E.1 + (b + 1)), .ref (E.1 + (b + 2)), .ref (E.1 + (b + 3)), .ref (E.1 + (b + 5)), .ref (E.1 + (b + 7)), .int (nI 0), .int (nI td), .int (nI gr)]))) b (.inr (5, [.ref (E.1 + (b + 1)), .ref (E.1 + (b + 2)), .ref (E.1 + (b + 3)), .ref (E.1 + (b + 5)), .ref (E.1 + (b + 7)), .int (nI 0), .int (nI 0), .int (nI gr)])))) rfl ?_
  refine J.cast hset_hset ?_
  refine J_aload_n dX6_begin_10 rfl ?_
  refine J_iload_n dX6_begin_11 rfl ?_
  refine J_put 7 dX6_begin_12 jk6 (Nat.le_of_ble_eq_true rfl) jfRX6_42 hset_eq (by omega) rfl rfl rfl (Nat.le_of_ble_eq_true rfl) ?_
  refine J.cast (h' := (hset (hset h b (.inr (5, [.ref (E.1 + (b + 1)), .ref (E.1 + (b + 2)), .ref (E.1 + (b + 3)), .ref (E.1 + (b + 5)), .ref (E.1 + (b + 7)), .int (nI 0), .int (nI 0), .int (nI gr)]))) b (.inr (5, [.ref (E.1 + (b + 1)), .ref (E.1 + (b + 2)), .ref (E.1 + (b + 3)), .ref (E.1 + (b + 5)), .ref (E.1 + (b + 7)), .int (nI 0), .int (nI 0), .int (nI g)])))) rfl ?_
  refine J.cast hset_hset ?_
  refine J_aload_n dX6_begin_15 rfl ?_
  refine J_get 2 dX6_begin_16 jk6 (Nat.le_of_ble_eq_true rfl) jfRX6_21 hset_eq (by omega) rfl ?_
  refine J_iconst (v := nI 0) dX6_begin_19 (by decide +kernel) ?_
  refine J_put 1 dX6_begin_20 jk4 (Nat.le_of_ble_eq_true rfl) jfRX6_45 ((hset_ne (by omega)).trans H1) (by omega) rfl rfl rfl (Nat.le_of_ble_eq_true rfl) ?_
  refine J.cast (h' := (hset (hset h b (.inr (5, [.ref (E.1 + (b + 1)), .ref (E.1 + (b + 2)), .ref (E.1 + (b + 3)), .ref (E.1 + (b + 5)), .ref (E.1 + (b + 7)), .int (nI 0), .int (nI 0), .int (nI g)]))) (b + 3) (.inr (3, [.ref (E.1 + (b + 4)), .int (nI 0)])))) rfl ?_
  refine J_aload_n dX6_begin_23 rfl ?_
  refine J_get 3 dX6_begin_24 jk6 (Nat.le_of_ble_eq_true rfl) jfRX6_25 ((hset_ne (by omega)).trans hset_eq) (by omega) rfl ?_
  refine J_iconst (v := nI 0) dX6_begin_27 (by decide +kernel) ?_
  refine J_put 1 dX6_begin_28 jk4 (Nat.le_of_ble_eq_true rfl) jfRX6_45 ((hset_ne (by omega)).trans ((hset_ne (by omega)).trans H2)) (by omega) rfl rfl rfl (Nat.le_of_ble_eq_true rfl) ?_
  refine J.cast (h' := (hset (hset (hset h b (.inr (5, [.ref (E.1 + (b + 1)), .ref (E.1 + (b + 2)), .ref (E.1 + (b + 3)), .ref (E.1 + (b + 5)), .ref (E.1 + (b + 7)), .int (nI 0), .int (nI 0), .int (nI g)]))) (b + 3) (.inr (3, [.ref (E.1 + (b + 4)), .int (nI 0)]))) (b + 5) (.inr (3, [.ref (E.1 + (b + 6)), .int (nI 0)])))) rfl ?_
  refine J_aload_n dX6_begin_31 rfl ?_
  refine J_get 4 dX6_begin_32 jk6 (Nat.le_of_ble_eq_true rfl) jfRX6_31 ((hset_ne (by omega)).trans ((hset_ne (by omega)).trans hset_eq)) (by omega) rfl ?_
  refine J_iconst (v := nI 0) dX6_begin_35 (by decide +kernel) ?_
  refine J_put 3 dX6_begin_36 jk2 (Nat.le_of_ble_eq_true rfl) jfRX6_48 ((hset_ne (by omega)).trans ((hset_ne (by omega)).trans ((hset_ne (by omega)).trans H3))) (by omega) rfl rfl rfl (Nat.le_of_ble_eq_true rfl) ?_
  refine J.cast (h' := (hset (hset (hset (hset h b (.inr (5, [.ref (E.1 + (b + 1)), .ref (E.1 + (b + 2)), .ref (E.1 + (b + 3)), .ref (E.1 + (b + 5)), .ref (E.1 + (b + 7)), .int (nI 0), .int (nI 0), .int (nI g)]))) (b + 3) (.inr (3, [.ref (E.1 + (b + 4)), .int (nI 0)]))) (b + 5) (.inr (3, [.ref (E.1 + (b + 6)), .int (nI 0)]))) (b + 7) (.inr (1, [.ref (E.1 + (b + 8)), .ref (E.1 + (b + 9)), .ref (E.1 + (b + 10)), .int (nI 0)])))) rfl ?_
  exact J_vret dX6_begin_39 rfl ⟨Nat.le_refl _, Nat.le_refl _⟩ (by rw [hPP]; exact ⟨rfl, rfl, rfl⟩)

set_option maxHeartbeats 1000000 in
set_option maxRecDepth 100000 in
theorem ctX6_takeAnvils {E : jE} {h : Nat → va_E} {n : Nat} (b : Nat) (o : Nat) (an : Nat) (td : Nat) (gr : Nat) (K : Nat → Nat) (M : Nat → Nat) (an2 : Nat) (td2 : Nat) (gr2 : Nat) (K2 : Nat → Nat) (M2 : Nat → Nat) (H0 : h b = .inr (5, [.ref (E.1 + (b + 1)), .ref (E.1 + (b + 2)), .ref (E.1 + (b + 3)), .ref (E.1 + (b + 5)), .ref (E.1 + (b + 7)), .int (nI an), .int (nI td), .int (nI gr)])) (H1 : h (b + 1) = cI E 4 (nF K)) (H2 : h (b + 2) = cI E 16 (nF M)) (H3 : h o = .inr (5, [.ref (E.1 + (o + 1)), .ref (E.1 + (o + 2)), .ref (E.1 + (o + 3)), .ref (E.1 + (o + 5)), .ref (E.1 + (o + 7)), .int (nI an2), .int (nI td2), .int (nI gr2)])) (H4 : h (o + 1) = cI E 4 (nF K2)) (H5 : h (o + 2) = cI E 16 (nF M2)) (hn : b + 11 ≤ n ∧ o + 11 ≤ n) (hbo : b + 11 ≤ o ∨ o + 11 ≤ b) : jC E mX6_takeAnvils (1, 0, 0) [.ref (E.1 + b), .ref (E.1 + o)] h n (jR none (hset (hset (hset h (b + 1) (cI E 4 (nF (va_cpy K2 K 0 0 4)))) (b + 2) (cI E 16 (nF (va_cpy M2 M 0 0 16)))) b (.inr (5, [.ref (E.1 + (b + 1)), .ref (E.1 + (b + 2)), .ref (E.1 + (b + 3)), .ref (E.1 + (b + 5)), .ref (E.1 + (b + 7)), .int (nI an2), .int (nI td2), .int (nI gr2)]))) n) := by
  refine J.of (L := [(0, .ref (E.1 + b)), (1, .ref (E.1 + o))]) rfl (by decide +kernel) (Nat.le_of_ble_eq_true rfl) ?_
  obtain ⟨PP, hPP⟩ : ∃ PP : jPost, PP = (jR none (hset (hset (hset h (b + 1) (cI E 4 (nF (va_cpy K2 K 0 0 4)))) (b + 2) (cI E 16 (nF (va_cpy M2 M 0 0 16)))) b (.inr (5, [.ref (E.1 + (b + 1)), .ref (E.1 + (b + 2)), .ref (E.1 + (b + 3)), .ref (E.1 + (b + 5)), .ref (E.1 + (b + 7)), .int (nI an2), .int (nI td2), .int (nI gr2)]))) n) := ⟨_, rfl⟩
  rw [← hPP]
  refine J_aload_n dX6_takeAnvils_0 rfl ?_
  refine J_get 0 dX6_takeAnvils_1 jk6 (Nat.le_of_ble_eq_true rfl) jfRX6_9 H3 (by omega) rfl ?_
  refine J_iconst (v := nI 0) dX6_takeAnvils_4 (by decide +kernel) ?_
  refine J_aload_n dX6_takeAnvils_5 rfl ?_
  refine J_get 0 dX6_takeAnvils_6 jk6 (Nat.le_of_ble_eq_true rfl) jfRX6_9 H0 (by omega) rfl ?_
  refine J_iconst (v := nI 0) dX6_takeAnvils_9 (by decide +kernel) ?_
  refine J_aload_n dX6_takeAnvils_10 rfl ?_
  refine J_get 0 dX6_takeAnvils_11 jk6 (Nat.le_of_ble_eq_true rfl) jfRX6_9 H0 (by omega) rfl ?_
  refine J_alenN dX6_takeAnvils_14 H1 (by omega) ?_
  refine J_copyN dX6_takeAnvils_15 jlRX6_49 jcp_n jcp_s jcp_i H4 (by omega) H1 (by omega) (by omega) (by omega) (by omega) (by omega) (Nat.le_of_ble_eq_true rfl) (Nat.le_of_ble_eq_true rfl) ?_
  refine J_aload_n dX6_takeAnvils_18 rfl ?_
  refine J_get 1 dX6_takeAnvils_19 jk6 (Nat.le_of_ble_eq_true rfl) jfRX6_15 ((hset_ne (by omega)).trans H3) (by omega) rfl ?_
  refine J_iconst (v := nI 0) dX6_takeAnvils_22 (by decide +kernel) ?_
  refine J_aload_n dX6_takeAnvils_23 rfl ?_
  refine J_get 1 dX6_takeAnvils_24 jk6 (Nat.le_of_ble_eq_true rfl) jfRX6_15 ((hset_ne (by omega)).trans H0) (by omega) rfl ?_
  refine J_iconst (v := nI 0) dX6_takeAnvils_27 (by decide +kernel) ?_
  refine J_aload_n dX6_takeAnvils_28 rfl ?_
  refine J_get 1 dX6_takeAnvils_29 jk6 (Nat.le_of_ble_eq_true rfl) jfRX6_15 ((hset_ne (by omega)).trans H0) (by omega) rfl ?_
  refine J_alenN dX6_takeAnvils_32 ((hset_ne (by omega)).trans H2) (by omega) ?_
  refine J_copyN dX6_takeAnvils_33 jlRX6_49 jcp_n jcp_s jcp_i ((hset_ne (by omega)).trans H5) (by omega) ((hset_ne (by omega)).trans H2) (by omega) (by omega) (by omega) (by omega) (by omega) (Nat.le_of_ble_eq_true rfl) (Nat.le_of_ble_eq_true rfl) ?_
  refine J_aload_n dX6_takeAnvils_36 rfl ?_
  refine J_aload_n dX6_takeAnvils_37 rfl ?_
  refine J_get 5 dX6_takeAnvils_38 jk6 (Nat.le_of_ble_eq_true rfl) jfRX6_35 ((hset_ne (by omega)).trans ((hset_ne (by omega)).trans H3)) (by omega) rfl ?_
  refine J_put 5 dX6_takeAnvils_41 jk6 (Nat.le_of_ble_eq_true rfl) jfRX6_35 ((hset_ne (by omega)).trans ((hset_ne (by omega)).trans H0)) (by omega) rfl rfl rfl (Nat.le_of_ble_eq_true rfl) ?_
  refine J.cast (h' := (hset (hset (hset h (b + 1) (cI E 4 (nF (va_cpy K2 K 0 0 4)))) (b + 2) (cI E 16 (nF (va_cpy M2 M 0 0 16)))) b (.inr (5, [.ref (E.1 + (b + 1)), .ref (E.1 + (b + 2)), .ref (E.1 + (b + 3)), .ref (E.1 + (b + 5)), .ref (E.1 + (b + 7)), .int (nI an2), .int (nI td), .int (nI gr)])))) rfl ?_
  refine J_aload_n dX6_takeAnvils_44 rfl ?_
  refine J_aload_n dX6_takeAnvils_45 rfl ?_
  refine J_get 6 dX6_takeAnvils_46 jk6 (Nat.le_of_ble_eq_true rfl) jfRX6_39 ((hset_ne (by omega)).trans ((hset_ne (by omega)).trans ((hset_ne (by omega)).trans H3))) (by omega) rfl ?_
  refine J_put 6 dX6_takeAnvils_49 jk6 (Nat.le_of_ble_eq_true rfl) jfRX6_39 hset_eq (by omega) rfl rfl rfl (Nat.le_of_ble_eq_true rfl) ?_
  refine J.cast (h' := (hset (hset (hset (hset h (b + 1) (cI E 4 (nF (va_cpy K2 K 0 0 4)))) (b + 2) (cI E 16 (nF (va_cpy M2 M 0 0 16)))) b (.inr (5, [.ref (E.1 + (b + 1)), .ref (E.1 + (b + 2)), .ref (E.1 + (b + 3)), .ref (E.1 + (b + 5)), .ref (E.1 + (b + 7)), .int (nI an2), .int (nI td), .int (nI gr)]))) b (.inr (5, [.ref (E.1 + (b + 1)), .ref (E.1 + (b + 2)), .ref (E.1 + (b + 3)), .ref (E.1 + (b + 5)), .ref (E.1 + (b + 7)), .int (nI an2), .int (nI td2), .int (nI gr)])))) rfl ?_
  refine J.cast hset_hset ?_
  refine J_aload_n dX6_takeAnvils_52 rfl ?_
  refine J_aload_n dX6_takeAnvils_53 rfl ?_
  refine J_get 7 dX6_takeAnvils_54 jk6 (Nat.le_of_ble_eq_true rfl) jfRX6_42 ((hset_ne (by omega)).trans ((hset_ne (by omega)).trans ((hset_ne (by omega)).trans H3))) (by omega) rfl ?_
  refine J_put 7 dX6_takeAnvils_57 jk6 (Nat.le_of_ble_eq_true rfl) jfRX6_42 hset_eq (by omega) rfl rfl rfl (Nat.le_of_ble_eq_true rfl) ?_
  refine J.cast (h' := (hset (hset (hset (hset h (b + 1) (cI E 4 (nF (va_cpy K2 K 0 0 4)))) (b + 2) (cI E 16 (nF (va_cpy M2 M 0 0 16)))) b (.inr (5, [.ref (E.1 + (b + 1)), .ref (E.1 + (b + 2)), .ref (E.1 + (b + 3)), .ref (E.1 + (b + 5)), .ref (E.1 + (b + 7)), .int (nI an2), .int (nI td2), .int (nI gr)]))) b (.inr (5, [.ref (E.1 + (b + 1)), .ref (E.1 + (b + 2)), .ref (E.1 + (b + 3)), .ref (E.1 + (b + 5)), .ref (E.1 + (b + 7)), .int (nI an2), .int (nI td2), .int (nI gr2)])))) rfl ?_
  refine J.cast hset_hset ?_
  exact J_vret dX6_takeAnvils_60 rfl ⟨Nat.le_refl _, Nat.le_refl _⟩ (by rw [hPP]; exact ⟨rfl, rfl, rfl⟩)

set_option maxHeartbeats 1000000 in
set_option maxRecDepth 100000 in
theorem ctX4_takeRows {E : jE} {h : Nat → va_E} {n : Nat} (b : Nat) (o : Nat) (nn : Nat) (C : Nat → Nat) (nn2 : Nat) (C2 : Nat → Nat) (H0 : h b = .inr (3, [.ref (E.1 + (b + 1)), .int (nI nn)])) (H1 : h (b + 1) = cI E 24 (nF C)) (H2 : h o = .inr (3, [.ref (E.1 + (o + 1)), .int (nI nn2)])) (H3 : h (o + 1) = cI E 24 (nF C2)) (hn : b + 2 ≤ n ∧ o + 2 ≤ n) (hbo : b + 2 ≤ o ∨ o + 2 ≤ b) : jC E mX4_takeRows (1, 0, 0) [.ref (E.1 + b), .ref (E.1 + o)] h n (jR none (hset (hset h (b + 1) (cI E 24 (nF (va_cpy C2 C 0 0 24)))) b (.inr (3, [.ref (E.1 + (b + 1)), .int (nI nn2)]))) n) := by
  refine J.of (L := [(0, .ref (E.1 + b)), (1, .ref (E.1 + o))]) rfl (by decide +kernel) (Nat.le_of_ble_eq_true rfl) ?_
  obtain ⟨PP, hPP⟩ : ∃ PP : jPost, PP = (jR none (hset (hset h (b + 1) (cI E 24 (nF (va_cpy C2 C 0 0 24)))) b (.inr (3, [.ref (E.1 + (b + 1)), .int (nI nn2)]))) n) := ⟨_, rfl⟩
  rw [← hPP]
  refine J_aload_n dX4_takeRows_0 rfl ?_
  refine J_get 0 dX4_takeRows_1 jk4 (Nat.le_of_ble_eq_true rfl) jfRX4_9 H2 (by omega) rfl ?_
  refine J_iconst (v := nI 0) dX4_takeRows_4 (by decide +kernel) ?_
  refine J_aload_n dX4_takeRows_5 rfl ?_
  refine J_get 0 dX4_takeRows_6 jk4 (Nat.le_of_ble_eq_true rfl) jfRX4_9 H0 (by omega) rfl ?_
  refine J_iconst (v := nI 0) dX4_takeRows_9 (by decide +kernel) ?_
  refine J_aload_n dX4_takeRows_10 rfl ?_
  refine J_get 0 dX4_takeRows_11 jk4 (Nat.le_of_ble_eq_true rfl) jfRX4_9 H0 (by omega) rfl ?_
  refine J_alenN dX4_takeRows_14 H1 (by omega) ?_
  refine J_copyN dX4_takeRows_15 jlRX4_17 jcp_n jcp_s jcp_i H3 (by omega) H1 (by omega) (by omega) (by omega) (by omega) (by omega) (Nat.le_of_ble_eq_true rfl) (Nat.le_of_ble_eq_true rfl) ?_
  refine J_aload_n dX4_takeRows_18 rfl ?_
  refine J_aload_n dX4_takeRows_19 rfl ?_
  refine J_get 1 dX4_takeRows_20 jk4 (Nat.le_of_ble_eq_true rfl) jfRX4_13 ((hset_ne (by omega)).trans H2) (by omega) rfl ?_
  refine J_put 1 dX4_takeRows_23 jk4 (Nat.le_of_ble_eq_true rfl) jfRX4_13 ((hset_ne (by omega)).trans H0) (by omega) rfl rfl rfl (Nat.le_of_ble_eq_true rfl) ?_
  refine J.cast (h' := (hset (hset h (b + 1) (cI E 24 (nF (va_cpy C2 C 0 0 24)))) b (.inr (3, [.ref (E.1 + (b + 1)), .int (nI nn2)])))) rfl ?_
  exact J_vret dX4_takeRows_26 rfl ⟨Nat.le_refl _, Nat.le_refl _⟩ (by rw [hPP]; exact ⟨rfl, rfl, rfl⟩)

set_option maxHeartbeats 1000000 in
set_option maxRecDepth 100000 in
theorem ctX2_takePast {E : jE} {h : Nat → va_E} {n : Nat} (b : Nat) (o : Nat) (ps : Nat) (PM : Nat → Nat) (PD : Nat → Nat) (PG : Nat → Nat) (ps2 : Nat) (PM2 : Nat → Nat) (PD2 : Nat → Nat) (PG2 : Nat → Nat) (H0 : h b = .inr (1, [.ref (E.1 + (b + 1)), .ref (E.1 + (b + 2)), .ref (E.1 + (b + 3)), .int (nI ps)])) (H1 : h (b + 1) = cI E 128 (nF PM)) (H2 : h (b + 2) = cI E 8 (nF PD)) (H3 : h (b + 3) = cI E 8 (nF PG)) (H4 : h o = .inr (1, [.ref (E.1 + (o + 1)), .ref (E.1 + (o + 2)), .ref (E.1 + (o + 3)), .int (nI ps2)])) (H5 : h (o + 1) = cI E 128 (nF PM2)) (H6 : h (o + 2) = cI E 8 (nF PD2)) (H7 : h (o + 3) = cI E 8 (nF PG2)) (hn : b + 4 ≤ n ∧ o + 4 ≤ n) (hbo : b + 4 ≤ o ∨ o + 4 ≤ b) : jC E mX2_takePast (1, 0, 0) [.ref (E.1 + b), .ref (E.1 + o)] h n (jR none (hset (hset (hset (hset h (b + 1) (cI E 128 (nF (va_cpy PM2 PM 0 0 128)))) (b + 2) (cI E 8 (nF (va_cpy PD2 PD 0 0 8)))) (b + 3) (cI E 8 (nF (va_cpy PG2 PG 0 0 8)))) b (.inr (1, [.ref (E.1 + (b + 1)), .ref (E.1 + (b + 2)), .ref (E.1 + (b + 3)), .int (nI ps2)]))) n) := by
  refine J.of (L := [(0, .ref (E.1 + b)), (1, .ref (E.1 + o))]) rfl (by decide +kernel) (Nat.le_of_ble_eq_true rfl) ?_
  obtain ⟨PP, hPP⟩ : ∃ PP : jPost, PP = (jR none (hset (hset (hset (hset h (b + 1) (cI E 128 (nF (va_cpy PM2 PM 0 0 128)))) (b + 2) (cI E 8 (nF (va_cpy PD2 PD 0 0 8)))) (b + 3) (cI E 8 (nF (va_cpy PG2 PG 0 0 8)))) b (.inr (1, [.ref (E.1 + (b + 1)), .ref (E.1 + (b + 2)), .ref (E.1 + (b + 3)), .int (nI ps2)]))) n) := ⟨_, rfl⟩
  rw [← hPP]
  refine J_aload_n dX2_takePast_0 rfl ?_
  refine J_get 0 dX2_takePast_1 jk2 (Nat.le_of_ble_eq_true rfl) jfRX2_11 H4 (by omega) rfl ?_
  refine J_iconst (v := nI 0) dX2_takePast_4 (by decide +kernel) ?_
  refine J_aload_n dX2_takePast_5 rfl ?_
  refine J_get 0 dX2_takePast_6 jk2 (Nat.le_of_ble_eq_true rfl) jfRX2_11 H0 (by omega) rfl ?_
  refine J_iconst (v := nI 0) dX2_takePast_9 (by decide +kernel) ?_
  refine J_aload_n dX2_takePast_10 rfl ?_
  refine J_get 0 dX2_takePast_11 jk2 (Nat.le_of_ble_eq_true rfl) jfRX2_11 H0 (by omega) rfl ?_
  refine J_alenN dX2_takePast_14 H1 (by omega) ?_
  refine J_copyN dX2_takePast_15 jlRX2_29 jcp_n jcp_s jcp_i H5 (by omega) H1 (by omega) (by omega) (by omega) (by omega) (by omega) (Nat.le_of_ble_eq_true rfl) (Nat.le_of_ble_eq_true rfl) ?_
  refine J_aload_n dX2_takePast_18 rfl ?_
  refine J_get 1 dX2_takePast_19 jk2 (Nat.le_of_ble_eq_true rfl) jfRX2_15 ((hset_ne (by omega)).trans H4) (by omega) rfl ?_
  refine J_iconst (v := nI 0) dX2_takePast_22 (by decide +kernel) ?_
  refine J_aload_n dX2_takePast_23 rfl ?_
  refine J_get 1 dX2_takePast_24 jk2 (Nat.le_of_ble_eq_true rfl) jfRX2_15 ((hset_ne (by omega)).trans H0) (by omega) rfl ?_
  refine J_iconst (v := nI 0) dX2_takePast_27 (by decide +kernel) ?_
  refine J_aload_n dX2_takePast_28 rfl ?_
  refine J_get 1 dX2_takePast_29 jk2 (Nat.le_of_ble_eq_true rfl) jfRX2_15 ((hset_ne (by omega)).trans H0) (by omega) rfl ?_
  refine J_alenN dX2_takePast_32 ((hset_ne (by omega)).trans H2) (by omega) ?_
  refine J_copyN dX2_takePast_33 jlRX2_29 jcp_n jcp_s jcp_i ((hset_ne (by omega)).trans H6) (by omega) ((hset_ne (by omega)).trans H2) (by omega) (by omega) (by omega) (by omega) (by omega) (Nat.le_of_ble_eq_true rfl) (Nat.le_of_ble_eq_true rfl) ?_
  refine J_aload_n dX2_takePast_36 rfl ?_
  refine J_get 2 dX2_takePast_37 jk2 (Nat.le_of_ble_eq_true rfl) jfRX2_18 ((hset_ne (by omega)).trans ((hset_ne (by omega)).trans H4)) (by omega) rfl ?_
  refine J_iconst (v := nI 0) dX2_takePast_40 (by decide +kernel) ?_
  refine J_aload_n dX2_takePast_41 rfl ?_
  refine J_get 2 dX2_takePast_42 jk2 (Nat.le_of_ble_eq_true rfl) jfRX2_18 ((hset_ne (by omega)).trans ((hset_ne (by omega)).trans H0)) (by omega) rfl ?_
  refine J_iconst (v := nI 0) dX2_takePast_45 (by decide +kernel) ?_
  refine J_aload_n dX2_takePast_46 rfl ?_
  refine J_get 2 dX2_takePast_47 jk2 (Nat.le_of_ble_eq_true rfl) jfRX2_18 ((hset_ne (by omega)).trans ((hset_ne (by omega)).trans H0)) (by omega) rfl ?_
  refine J_alenN dX2_takePast_50 ((hset_ne (by omega)).trans ((hset_ne (by omega)).trans H3)) (by omega) ?_
  refine J_copyN dX2_takePast_51 jlRX2_29 jcp_n jcp_s jcp_i ((hset_ne (by omega)).trans ((hset_ne (by omega)).trans H7)) (by omega) ((hset_ne (by omega)).trans ((hset_ne (by omega)).trans H3)) (by omega) (by omega) (by omega) (by omega) (by omega) (Nat.le_of_ble_eq_true rfl) (Nat.le_of_ble_eq_true rfl) ?_
  refine J_aload_n dX2_takePast_54 rfl ?_
  refine J_aload_n dX2_takePast_55 rfl ?_
  refine J_get 3 dX2_takePast_56 jk2 (Nat.le_of_ble_eq_true rfl) jfRX2_21 ((hset_ne (by omega)).trans ((hset_ne (by omega)).trans ((hset_ne (by omega)).trans H4))) (by omega) rfl ?_
  refine J_put 3 dX2_takePast_59 jk2 (Nat.le_of_ble_eq_true rfl) jfRX2_21 ((hset_ne (by omega)).trans ((hset_ne (by omega)).trans ((hset_ne (by omega)).trans H0))) (by omega) rfl rfl rfl (Nat.le_of_ble_eq_true rfl) ?_
  refine J.cast (h' := (hset (hset (hset (hset h (b + 1) (cI E 128 (nF (va_cpy PM2 PM 0 0 128)))) (b + 2) (cI E 8 (nF (va_cpy PD2 PD 0 0 8)))) (b + 3) (cI E 8 (nF (va_cpy PG2 PG 0 0 8)))) b (.inr (1, [.ref (E.1 + (b + 1)), .ref (E.1 + (b + 2)), .ref (E.1 + (b + 3)), .int (nI ps2)])))) rfl ?_
  exact J_vret dX2_takePast_62 rfl ⟨Nat.le_refl _, Nat.le_refl _⟩ (by rw [hPP]; exact ⟨rfl, rfl, rfl⟩)

set_option maxHeartbeats 1000000 in
set_option maxRecDepth 100000 in
theorem ctX6_takeAll {E : jE} {h : Nat → va_E} {n : Nat} (b : Nat) (o : Nat) (an : Nat) (td : Nat) (gr : Nat) (K : Nat → Nat) (M : Nat → Nat) (nn : Nat) (NC : Nat → Nat) (cn : Nat) (CC : Nat → Nat) (ps : Nat) (PM : Nat → Nat) (PD : Nat → Nat) (PG : Nat → Nat) (an2 : Nat) (td2 : Nat) (gr2 : Nat) (K2 : Nat → Nat) (M2 : Nat → Nat) (nn2 : Nat) (NC2 : Nat → Nat) (cn2 : Nat) (CC2 : Nat → Nat) (ps2 : Nat) (PM2 : Nat → Nat) (PD2 : Nat → Nat) (PG2 : Nat → Nat) (H0 : h b = .inr (5, [.ref (E.1 + (b + 1)), .ref (E.1 + (b + 2)), .ref (E.1 + (b + 3)), .ref (E.1 + (b + 5)), .ref (E.1 + (b + 7)), .int (nI an), .int (nI td), .int (nI gr)])) (H1 : h (b + 1) = cI E 4 (nF K)) (H2 : h (b + 2) = cI E 16 (nF M)) (H3 : h (b + 3) = .inr (3, [.ref (E.1 + (b + 4)), .int (nI nn)])) (H4 : h (b + 4) = cI E 24 (nF NC)) (H5 : h (b + 5) = .inr (3, [.ref (E.1 + (b + 6)), .int (nI cn)])) (H6 : h (b + 6) = cI E 24 (nF CC)) (H7 : h (b + 7) = .inr (1, [.ref (E.1 + (b + 8)), .ref (E.1 + (b + 9)), .ref (E.1 + (b + 10)), .int (nI ps)])) (H8 : h (b + 8) = cI E 128 (nF PM)) (H9 : h (b + 9) = cI E 8 (nF PD)) (H10 : h (b + 10) = cI E 8 (nF PG)) (H11 : h o = .inr (5, [.ref (E.1 + (o + 1)), .ref (E.1 + (o + 2)), .ref (E.1 + (o + 3)), .ref (E.1 + (o + 5)), .ref (E.1 + (o + 7)), .int (nI an2), .int (nI td2), .int (nI gr2)])) (H12 : h (o + 1) = cI E 4 (nF K2)) (H13 : h (o + 2) = cI E 16 (nF M2)) (H14 : h (o + 3) = .inr (3, [.ref (E.1 + (o + 4)), .int (nI nn2)])) (H15 : h (o + 4) = cI E 24 (nF NC2)) (H16 : h (o + 5) = .inr (3, [.ref (E.1 + (o + 6)), .int (nI cn2)])) (H17 : h (o + 6) = cI E 24 (nF CC2)) (H18 : h (o + 7) = .inr (1, [.ref (E.1 + (o + 8)), .ref (E.1 + (o + 9)), .ref (E.1 + (o + 10)), .int (nI ps2)])) (H19 : h (o + 8) = cI E 128 (nF PM2)) (H20 : h (o + 9) = cI E 8 (nF PD2)) (H21 : h (o + 10) = cI E 8 (nF PG2)) (hn : b + 11 ≤ n ∧ o + 11 ≤ n) (hbo : b + 11 ≤ o ∨ o + 11 ≤ b) : jC E mX6_takeAll (2, 0, 0) [.ref (E.1 + b), .ref (E.1 + o)] h n (jR none (hset (hset (hset (hset (hset (hset (hset (hset (hset (hset (hset h (b + 1) (cI E 4 (nF (va_cpy K2 K 0 0 4)))) (b + 2) (cI E 16 (nF (va_cpy M2 M 0 0 16)))) b (.inr (5, [.ref (E.1 + (b + 1)), .ref (E.1 + (b + 2)), .ref (E.1 + (b + 3)), .ref (E.1 + (b + 5)), .ref (E.1 + (b + 7)), .int (nI an2), .int (nI td2), .int (nI gr2)]))) (b + 3 + 1) (cI E 24 (nF (va_cpy NC2 NC 0 0 24)))) (b + 3) (.inr (3, [.ref (E.1 + (b + 4)), .int (nI nn2)]))) (b + 5 + 1) (cI E 24 (nF (va_cpy CC2 CC 0 0 24)))) (b + 5) (.inr (3, [.ref (E.1 + (b + 6)), .int (nI cn2)]))) (b + 7 + 1) (cI E 128 (nF (va_cpy PM2 PM 0 0 128)))) (b + 7 + 2) (cI E 8 (nF (va_cpy PD2 PD 0 0 8)))) (b + 7 + 3) (cI E 8 (nF (va_cpy PG2 PG 0 0 8)))) (b + 7) (.inr (1, [.ref (E.1 + (b + 8)), .ref (E.1 + (b + 9)), .ref (E.1 + (b + 10)), .int (nI ps2)]))) n) := by
  refine J.of (L := [(0, .ref (E.1 + b)), (1, .ref (E.1 + o))]) rfl (by decide +kernel) (Nat.le_of_ble_eq_true rfl) ?_
  obtain ⟨PP, hPP⟩ : ∃ PP : jPost, PP = (jR none (hset (hset (hset (hset (hset (hset (hset (hset (hset (hset (hset h (b + 1) (cI E 4 (nF (va_cpy K2 K 0 0 4)))) (b + 2) (cI E 16 (nF (va_cpy M2 M 0 0 16)))) b (.inr (5, [.ref (E.1 + (b + 1)), .ref (E.1 + (b + 2)), .ref (E.1 + (b + 3)), .ref (E.1 + (b + 5)), .ref (E.1 + (b + 7)), .int (nI an2), .int (nI td2), .int (nI gr2)]))) (b + 3 + 1) (cI E 24 (nF (va_cpy NC2 NC 0 0 24)))) (b + 3) (.inr (3, [.ref (E.1 + (b + 4)), .int (nI nn2)]))) (b + 5 + 1) (cI E 24 (nF (va_cpy CC2 CC 0 0 24)))) (b + 5) (.inr (3, [.ref (E.1 + (b + 6)), .int (nI cn2)]))) (b + 7 + 1) (cI E 128 (nF (va_cpy PM2 PM 0 0 128)))) (b + 7 + 2) (cI E 8 (nF (va_cpy PD2 PD 0 0 8)))) (b + 7 + 3) (cI E 8 (nF (va_cpy PG2 PG 0 0 8)))) (b + 7) (.inr (1, [.ref (E.1 + (b + 8)), .ref (E.1 + (b + 9)), .ref (E.1 + (b + 10)), .int (nI ps2)]))) n) := ⟨_, rfl⟩
  rw [← hPP]
  refine J_aload_n dX6_takeAll_0 rfl ?_
  refine J_aload_n dX6_takeAll_1 rfl ?_
  refine J_callVn (M' := mX6_takeAnvils) (d' := (1, 0, 0)) (rest := []) dX6_takeAll_2 jmX6_takeAnvils jlRX6_55 (ctX6_takeAnvils b o an td gr K M an2 td2 gr2 K2 M2 H0 H1 H2 H11 H12 H13 (by omega) (by first | assumption | omega)) H0 (by omega) jk6.1 rfl rfl (Nat.le_of_ble_eq_true rfl) (Nat.le_of_ble_eq_true rfl) ⟨Nat.le_refl _, Nat.le_refl _⟩ ?_
  refine J_aload_n dX6_takeAll_5 rfl ?_
  refine J_get 2 dX6_takeAll_6 jk6 (Nat.le_of_ble_eq_true rfl) jfRX6_21 hset_eq (by omega) rfl ?_
  refine J_aload_n dX6_takeAll_9 rfl ?_
  refine J_get 2 dX6_takeAll_10 jk6 (Nat.le_of_ble_eq_true rfl) jfRX6_21 ((hset_ne (by omega)).trans ((hset_ne (by omega)).trans ((hset_ne (by omega)).trans H11))) (by omega) rfl ?_
  refine J_callVn (M' := mX4_takeRows) (d' := (1, 0, 0)) (rest := []) dX6_takeAll_13 jmX4_takeRows jlRX6_59 (ctX4_takeRows (b + 3) (o + 3) nn NC nn2 NC2 ((hset_ne (by omega)).trans ((hset_ne (by omega)).trans ((hset_ne (by omega)).trans H3))) ((hset_ne (by omega)).trans ((hset_ne (by omega)).trans ((hset_ne (by omega)).trans H4))) ((hset_ne (by omega)).trans ((hset_ne (by omega)).trans ((hset_ne (by omega)).trans H14))) ((hset_ne (by omega)).trans ((hset_ne (by omega)).trans ((hset_ne (by omega)).trans H15))) (by omega) (by first | assumption | omega)) ((hset_ne (by omega)).trans ((hset_ne (by omega)).trans ((hset_ne (by omega)).trans H3))) (by omega) jk4.1 rfl rfl (Nat.le_of_ble_eq_true rfl) (Nat.le_of_ble_eq_true rfl) ⟨Nat.le_refl _, Nat.le_refl _⟩ ?_
  refine J_aload_n dX6_takeAll_16 rfl ?_
  refine J_get 3 dX6_takeAll_17 jk6 (Nat.le_of_ble_eq_true rfl) jfRX6_25 ((hset_ne (by omega)).trans ((hset_ne (by omega)).trans hset_eq)) (by omega) rfl ?_
  refine J_aload_n dX6_takeAll_20 rfl ?_
  refine J_get 3 dX6_takeAll_21 jk6 (Nat.le_of_ble_eq_true rfl) jfRX6_25 ((hset_ne (by omega)).trans ((hset_ne (by omega)).trans ((hset_ne (by omega)).trans ((hset_ne (by omega)).trans ((hset_ne (by omega)).trans H11))))) (by omega) rfl ?_
  refine J_callVn (M' := mX4_takeRows) (d' := (1, 0, 0)) (rest := []) dX6_takeAll_24 jmX4_takeRows jlRX6_59 (ctX4_takeRows (b + 5) (o + 5) cn CC cn2 CC2 ((hset_ne (by omega)).trans ((hset_ne (by omega)).trans ((hset_ne (by omega)).trans ((hset_ne (by omega)).trans ((hset_ne (by omega)).trans H5))))) ((hset_ne (by omega)).trans ((hset_ne (by omega)).trans ((hset_ne (by omega)).trans ((hset_ne (by omega)).trans ((hset_ne (by omega)).trans H6))))) ((hset_ne (by omega)).trans ((hset_ne (by omega)).trans ((hset_ne (by omega)).trans ((hset_ne (by omega)).trans ((hset_ne (by omega)).trans H16))))) ((hset_ne (by omega)).trans ((hset_ne (by omega)).trans ((hset_ne (by omega)).trans ((hset_ne (by omega)).trans ((hset_ne (by omega)).trans H17))))) (by omega) (by first | assumption | omega)) ((hset_ne (by omega)).trans ((hset_ne (by omega)).trans ((hset_ne (by omega)).trans ((hset_ne (by omega)).trans ((hset_ne (by omega)).trans H5))))) (by omega) jk4.1 rfl rfl (Nat.le_of_ble_eq_true rfl) (Nat.le_of_ble_eq_true rfl) ⟨Nat.le_refl _, Nat.le_refl _⟩ ?_
  refine J_aload_n dX6_takeAll_27 rfl ?_
  refine J_get 4 dX6_takeAll_28 jk6 (Nat.le_of_ble_eq_true rfl) jfRX6_31 ((hset_ne (by omega)).trans ((hset_ne (by omega)).trans ((hset_ne (by omega)).trans ((hset_ne (by omega)).trans hset_eq)))) (by omega) rfl ?_
  refine J_aload_n dX6_takeAll_31 rfl ?_
  refine J_get 4 dX6_takeAll_32 jk6 (Nat.le_of_ble_eq_true rfl) jfRX6_31 ((hset_ne (by omega)).trans ((hset_ne (by omega)).trans ((hset_ne (by omega)).trans ((hset_ne (by omega)).trans ((hset_ne (by omega)).trans ((hset_ne (by omega)).trans ((hset_ne (by omega)).trans H11))))))) (by omega) rfl ?_
  refine J_callVn (M' := mX2_takePast) (d' := (1, 0, 0)) (rest := []) dX6_takeAll_35 jmX2_takePast jlRX6_63 (ctX2_takePast (b + 7) (o + 7) ps PM PD PG ps2 PM2 PD2 PG2 ((hset_ne (by omega)).trans ((hset_ne (by omega)).trans ((hset_ne (by omega)).trans ((hset_ne (by omega)).trans ((hset_ne (by omega)).trans ((hset_ne (by omega)).trans ((hset_ne (by omega)).trans H7))))))) ((hset_ne (by omega)).trans ((hset_ne (by omega)).trans ((hset_ne (by omega)).trans ((hset_ne (by omega)).trans ((hset_ne (by omega)).trans ((hset_ne (by omega)).trans ((hset_ne (by omega)).trans H8))))))) ((hset_ne (by omega)).trans ((hset_ne (by omega)).trans ((hset_ne (by omega)).trans ((hset_ne (by omega)).trans ((hset_ne (by omega)).trans ((hset_ne (by omega)).trans ((hset_ne (by omega)).trans H9))))))) ((hset_ne (by omega)).trans ((hset_ne (by omega)).trans ((hset_ne (by omega)).trans ((hset_ne (by omega)).trans ((hset_ne (by omega)).trans ((hset_ne (by omega)).trans ((hset_ne (by omega)).trans H10))))))) ((hset_ne (by omega)).trans ((hset_ne (by omega)).trans ((hset_ne (by omega)).trans ((hset_ne (by omega)).trans ((hset_ne (by omega)).trans ((hset_ne (by omega)).trans ((hset_ne (by omega)).trans H18))))))) ((hset_ne (by omega)).trans ((hset_ne (by omega)).trans ((hset_ne (by omega)).trans ((hset_ne (by omega)).trans ((hset_ne (by omega)).trans ((hset_ne (by omega)).trans ((hset_ne (by omega)).trans H19))))))) ((hset_ne (by omega)).trans ((hset_ne (by omega)).trans ((hset_ne (by omega)).trans ((hset_ne (by omega)).trans ((hset_ne (by omega)).trans ((hset_ne (by omega)).trans ((hset_ne (by omega)).trans H20))))))) ((hset_ne (by omega)).trans ((hset_ne (by omega)).trans ((hset_ne (by omega)).trans ((hset_ne (by omega)).trans ((hset_ne (by omega)).trans ((hset_ne (by omega)).trans ((hset_ne (by omega)).trans H21))))))) (by omega) (by first | assumption | omega)) ((hset_ne (by omega)).trans ((hset_ne (by omega)).trans ((hset_ne (by omega)).trans ((hset_ne (by omega)).trans ((hset_ne (by omega)).trans ((hset_ne (by omega)).trans ((hset_ne (by omega)).trans H7))))))) (by omega) jk2.1 rfl rfl (Nat.le_of_ble_eq_true rfl) (Nat.le_of_ble_eq_true rfl) ⟨Nat.le_refl _, Nat.le_refl _⟩ ?_
  exact J_vret dX6_takeAll_38 rfl ⟨Nat.le_refl _, Nat.le_refl _⟩ (by rw [hPP]; exact ⟨rfl, rfl, rfl⟩)

set_option maxHeartbeats 1000000 in
set_option maxRecDepth 100000 in
theorem ctX6_join {E : jE} {h : Nat → va_E} {n : Nat} (b : Nat) (kd : Nat) (m0 : Nat) (m1 : Nat) (m2 : Nat) (m3 : Nat) (an : Nat) (td : Nat) (gr : Nat) (K : Nat → Nat) (M : Nat → Nat) (ps : Nat) (H0 : h b = .inr (5, [.ref (E.1 + (b + 1)), .ref (E.1 + (b + 2)), .ref (E.1 + (b + 3)), .ref (E.1 + (b + 5)), .ref (E.1 + (b + 7)), .int (nI an), .int (nI td), .int (nI gr)])) (H1 : h (b + 1) = cI E 4 (nF K)) (H2 : h (b + 2) = cI E 16 (nF M)) (H3 : h (b + 7) = .inr (1, [.ref (E.1 + (b + 8)), .ref (E.1 + (b + 9)), .ref (E.1 + (b + 10)), .int (nI ps)])) (hn : b + 11 ≤ n) (hn4 : an < 4) : jC E mX6_join (2, 0, 0) [.ref (E.1 + b), .int (nI kd), .int (nI m0), .int (nI m1), .int (nI m2), .int (nI m3)] h n (jR (some (.int (nI an))) (hset (hset (hset (hset h b (.inr (5, [.ref (E.1 + (b + 1)), .ref (E.1 + (b + 2)), .ref (E.1 + (b + 3)), .ref (E.1 + (b + 5)), .ref (E.1 + (b + 7)), .int (nI (an + 1)), .int (nI td), .int (nI gr)]))) (b + 1) (cI E 4 (nF (updN K an kd)))) (b + 2) (cI E 16 (nF (joinM M an m0 m1 m2 m3)))) (b + 7) (.inr (1, [.ref (E.1 + (b + 8)), .ref (E.1 + (b + 9)), .ref (E.1 + (b + 10)), .int (nI 0)]))) n) := by
  refine J.of (L := [(0, .ref (E.1 + b)), (1, .int (nI kd)), (2, .int (nI m0)), (3, .int (nI m1)), (4, .int (nI m2)), (5, .int (nI m3))]) rfl (by decide +kernel) (Nat.le_of_ble_eq_true rfl) ?_
  obtain ⟨PP, hPP⟩ : ∃ PP : jPost, PP = (jR (some (.int (nI an))) (hset (hset (hset (hset h b (.inr (5, [.ref (E.1 + (b + 1)), .ref (E.1 + (b + 2)), .ref (E.1 + (b + 3)), .ref (E.1 + (b + 5)), .ref (E.1 + (b + 7)), .int (nI (an + 1)), .int (nI td), .int (nI gr)]))) (b + 1) (cI E 4 (nF (updN K an kd)))) (b + 2) (cI E 16 (nF (joinM M an m0 m1 m2 m3)))) (b + 7) (.inr (1, [.ref (E.1 + (b + 8)), .ref (E.1 + (b + 9)), .ref (E.1 + (b + 10)), .int (nI 0)]))) n) := ⟨_, rfl⟩
  rw [← hPP]
  refine J_aload_n dX6_join_0 rfl ?_
  refine J_get 5 dX6_join_1 jk6 (Nat.le_of_ble_eq_true rfl) jfRX6_35 H0 (by omega) rfl ?_
  refine J_iconst (v := nI 4) dX6_join_4 (by decide +kernel) ?_
  refine J_icmp_ltN (tgt := 11) dX6_join_5 (by decide) (by omega) (by omega) (fun c1 => ?_) (fun c1 => (by exfalso; omega))
  refine J_aload_n dX6_join_11 rfl ?_
  refine J_get 5 dX6_join_12 jk6 (Nat.le_of_ble_eq_true rfl) jfRX6_35 H0 (by omega) rfl ?_
  refine J_istore dX6_join_15 (Nat.le_of_ble_eq_true rfl) (L' := [(6, .int (nI an)), (0, .ref (E.1 + b)), (1, .int (nI kd)), (2, .int (nI m0)), (3, .int (nI m1)), (4, .int (nI m2)), (5, .int (nI m3))]) rfl ?_
  refine J_aload_n dX6_join_17 rfl ?_
  refine J_dup dX6_join_18 rfl ?_
  refine J_get 5 dX6_join_19 jk6 (Nat.le_of_ble_eq_true rfl) jfRX6_35 H0 (by omega) rfl ?_
  refine J_iconst (v := nI 1) dX6_join_22 (by decide +kernel) ?_
  refine J_iaddN dX6_join_23 ?_
  refine J_put 5 dX6_join_24 jk6 (Nat.le_of_ble_eq_true rfl) jfRX6_35 H0 (by omega) rfl rfl rfl (Nat.le_of_ble_eq_true rfl) ?_
  refine J.cast (h' := (hset h b (.inr (5, [.ref (E.1 + (b + 1)), .ref (E.1 + (b + 2)), .ref (E.1 + (b + 3)), .ref (E.1 + (b + 5)), .ref (E.1 + (b + 7)), .int (nI (an + 1)), .int (nI td), .int (nI gr)])))) rfl ?_
  refine J_aload_n dX6_join_27 rfl ?_
  refine J_get 0 dX6_join_28 jk6 (Nat.le_of_ble_eq_true rfl) jfRX6_9 hset_eq (by omega) rfl ?_
  refine J_iload dX6_join_31 rfl ?_
  refine J_iload_n dX6_join_33 rfl ?_
  refine J_iastN (i := an) (v := kd) dX6_join_34 ((hset_ne (by omega)).trans H1) (by omega) (by omega) (by omega) ?_
  refine J_aload_n dX6_join_35 rfl ?_
  refine J_iload dX6_join_36 rfl ?_
  refine J_iconst (v := nI 0) dX6_join_38 (by decide +kernel) ?_
  refine J_iload_n dX6_join_39 rfl ?_
  refine J_callVn (M' := mX6_setMemory) (d' := (1, 0, 0)) (rest := []) dX6_join_40 jmX6_setMemory jlRX6_67 (ctX6_setMemory b an 0 m0 (an + 1) td gr M ((hset_ne (by omega)).trans hset_eq) ((hset_ne (by omega)).trans ((hset_ne (by omega)).trans H2)) (by omega) (by first | assumption | omega) (by first | assumption | omega)) ((hset_ne (by omega)).trans hset_eq) (by omega) jk6.1 rfl rfl (Nat.le_of_ble_eq_true rfl) (Nat.le_of_ble_eq_true rfl) ⟨Nat.le_refl _, Nat.le_refl _⟩ ?_
  refine J_aload_n dX6_join_43 rfl ?_
  refine J_iload dX6_join_44 rfl ?_
  refine J_iconst (v := nI 1) dX6_join_46 (by decide +kernel) ?_
  refine J_iload_n dX6_join_47 rfl ?_
  refine J_callVn (M' := mX6_setMemory) (d' := (1, 0, 0)) (rest := []) dX6_join_48 jmX6_setMemory jlRX6_67 (ctX6_setMemory b an 1 m1 (an + 1) td gr (updN M (4 * an + 0) m0) ((hset_ne (by omega)).trans ((hset_ne (by omega)).trans hset_eq)) hset_eq (by omega) (by first | assumption | omega) (by first | assumption | omega)) ((hset_ne (by omega)).trans ((hset_ne (by omega)).trans hset_eq)) (by omega) jk6.1 rfl rfl (Nat.le_of_ble_eq_true rfl) (Nat.le_of_ble_eq_true rfl) ⟨Nat.le_refl _, Nat.le_refl _⟩ ?_
  refine J.cast hset_hset ?_
  refine J_aload_n dX6_join_51 rfl ?_
  refine J_iload dX6_join_52 rfl ?_
  refine J_iconst (v := nI 2) dX6_join_54 (by decide +kernel) ?_
  refine J_iload dX6_join_55 rfl ?_
  refine J_callVn (M' := mX6_setMemory) (d' := (1, 0, 0)) (rest := []) dX6_join_57 jmX6_setMemory jlRX6_67 (ctX6_setMemory b an 2 m2 (an + 1) td gr (updN (updN M (4 * an + 0) m0) (4 * an + 1) m1) ((hset_ne (by omega)).trans ((hset_ne (by omega)).trans hset_eq)) hset_eq (by omega) (by first | assumption | omega) (by first | assumption | omega)) ((hset_ne (by omega)).trans ((hset_ne (by omega)).trans hset_eq)) (by omega) jk6.1 rfl rfl (Nat.le_of_ble_eq_true rfl) (Nat.le_of_ble_eq_true rfl) ⟨Nat.le_refl _, Nat.le_refl _⟩ ?_
  refine J.cast hset_hset ?_
  refine J_aload_n dX6_join_60 rfl ?_
  refine J_iload dX6_join_61 rfl ?_
  refine J_iconst (v := nI 3) dX6_join_63 (by decide +kernel) ?_
  refine J_iload dX6_join_64 rfl ?_
  refine J_callVn (M' := mX6_setMemory) (d' := (1, 0, 0)) (rest := []) dX6_join_66 jmX6_setMemory jlRX6_67 (ctX6_setMemory b an 3 m3 (an + 1) td gr (updN (updN (updN M (4 * an + 0) m0) (4 * an + 1) m1) (4 * an + 2) m2) ((hset_ne (by omega)).trans ((hset_ne (by omega)).trans hset_eq)) hset_eq (by omega) (by first | assumption | omega) (by first | assumption | omega)) ((hset_ne (by omega)).trans ((hset_ne (by omega)).trans hset_eq)) (by omega) jk6.1 rfl rfl (Nat.le_of_ble_eq_true rfl) (Nat.le_of_ble_eq_true rfl) ⟨Nat.le_refl _, Nat.le_refl _⟩ ?_
  refine J.cast hset_hset ?_
  refine J_aload_n dX6_join_69 rfl ?_
  refine J_get 4 dX6_join_70 jk6 (Nat.le_of_ble_eq_true rfl) jfRX6_31 ((hset_ne (by omega)).trans ((hset_ne (by omega)).trans hset_eq)) (by omega) rfl ?_
  refine J_iconst (v := nI 0) dX6_join_73 (by decide +kernel) ?_
  refine J_put 3 dX6_join_74 jk2 (Nat.le_of_ble_eq_true rfl) jfRX6_48 ((hset_ne (by omega)).trans ((hset_ne (by omega)).trans ((hset_ne (by omega)).trans H3))) (by omega) rfl rfl rfl (Nat.le_of_ble_eq_true rfl) ?_
  refine J.cast (h' := (hset (hset (hset (hset h b (.inr (5, [.ref (E.1 + (b + 1)), .ref (E.1 + (b + 2)), .ref (E.1 + (b + 3)), .ref (E.1 + (b + 5)), .ref (E.1 + (b + 7)), .int (nI (an + 1)), .int (nI td), .int (nI gr)]))) (b + 1) (cI E 4 (nF (updN K an kd)))) (b + 2) (cI E 16 (nF (updN (updN (updN (updN M (4 * an + 0) m0) (4 * an + 1) m1) (4 * an + 2) m2) (4 * an + 3) m3)))) (b + 7) (.inr (1, [.ref (E.1 + (b + 8)), .ref (E.1 + (b + 9)), .ref (E.1 + (b + 10)), .int (nI 0)])))) rfl ?_
  refine J_iload dX6_join_77 rfl ?_
  exact J_iret dX6_join_79 rfl ⟨Nat.le_refl _, Nat.le_refl _⟩ (by rw [hPP]; exact ⟨rfl, (hset_cg (hset_cg (hset_cg (hset_cg rfl rfl) rfl) (cI_cg (by intro z; rfl))) rfl), rfl⟩)

set_option maxHeartbeats 1000000 in
set_option maxRecDepth 100000 in
theorem ctX2_dropOldest {E : jE} {h : Nat → va_E} {n : Nat} (p : Nat) (ps : Nat) (PM : Nat → Nat) (PD : Nat → Nat) (PG : Nat → Nat) (H0 : h p = .inr (1, [.ref (E.1 + (p + 1)), .ref (E.1 + (p + 2)), .ref (E.1 + (p + 3)), .int (nI ps)])) (H1 : h (p + 1) = cI E 128 (nF PM)) (H2 : h (p + 2) = cI E 8 (nF PD)) (H3 : h (p + 3) = cI E 8 (nF PG)) (hn : p + 4 ≤ n) : jC E mX2_dropOldest (1, 0, 0) [.ref (E.1 + p), .int (nI 16)] h n (jR none (hset (hset (hset (hset h p (.inr (1, [.ref (E.1 + (p + 1)), .ref (E.1 + (p + 2)), .ref (E.1 + (p + 3)), .int (nI 7)]))) (p + 1) (cI E 128 (nF (va_cpy PM PM 16 0 112)))) (p + 2) (cI E 8 (nF (va_cpy PD PD 1 0 7)))) (p + 3) (cI E 8 (nF (va_cpy PG PG 1 0 7)))) n) := by
  refine J.of (L := [(0, .ref (E.1 + p)), (1, .int (nI 16))]) rfl (by decide +kernel) (Nat.le_of_ble_eq_true rfl) ?_
  obtain ⟨PP, hPP⟩ : ∃ PP : jPost, PP = (jR none (hset (hset (hset (hset h p (.inr (1, [.ref (E.1 + (p + 1)), .ref (E.1 + (p + 2)), .ref (E.1 + (p + 3)), .int (nI 7)]))) (p + 1) (cI E 128 (nF (va_cpy PM PM 16 0 112)))) (p + 2) (cI E 8 (nF (va_cpy PD PD 1 0 7)))) (p + 3) (cI E 8 (nF (va_cpy PG PG 1 0 7)))) n) := ⟨_, rfl⟩
  rw [← hPP]
  refine J_aload_n dX2_dropOldest_0 rfl ?_
  refine J_bipush (v := nI 7) dX2_dropOldest_1 (by decide +kernel) ?_
  refine J_put 3 dX2_dropOldest_3 jk2 (Nat.le_of_ble_eq_true rfl) jfRX2_21 H0 (by omega) rfl rfl rfl (Nat.le_of_ble_eq_true rfl) ?_
  refine J.cast (h' := (hset h p (.inr (1, [.ref (E.1 + (p + 1)), .ref (E.1 + (p + 2)), .ref (E.1 + (p + 3)), .int (nI 7)])))) rfl ?_
  refine J_aload_n dX2_dropOldest_6 rfl ?_
  refine J_get 0 dX2_dropOldest_7 jk2 (Nat.le_of_ble_eq_true rfl) jfRX2_11 hset_eq (by omega) rfl ?_
  refine J_iload_n dX2_dropOldest_10 rfl ?_
  refine J_aload_n dX2_dropOldest_11 rfl ?_
  refine J_get 0 dX2_dropOldest_12 jk2 (Nat.le_of_ble_eq_true rfl) jfRX2_11 hset_eq (by omega) rfl ?_
  refine J_iconst (v := nI 0) dX2_dropOldest_15 (by decide +kernel) ?_
  refine J_aload_n dX2_dropOldest_16 rfl ?_
  refine J_get 3 dX2_dropOldest_17 jk2 (Nat.le_of_ble_eq_true rfl) jfRX2_21 hset_eq (by omega) rfl ?_
  refine J_iload_n dX2_dropOldest_20 rfl ?_
  refine J_imulN dX2_dropOldest_21 ?_
  refine J.stk (st' := [.int (nI 112), .int (nI 0), .ref (E.1 + (p + 1)), .int (nI 16), .ref (E.1 + (p + 1))]) rfl ?_
  refine J_copyN dX2_dropOldest_22 jlRX2_29 jcp_n jcp_s jcp_i ((hset_ne (by omega)).trans H1) (by omega) ((hset_ne (by omega)).trans H1) (by omega) (by omega) (by omega) (by omega) (by omega) (Nat.le_of_ble_eq_true rfl) (Nat.le_of_ble_eq_true rfl) ?_
  refine J_aload_n dX2_dropOldest_25 rfl ?_
  refine J_get 1 dX2_dropOldest_26 jk2 (Nat.le_of_ble_eq_true rfl) jfRX2_15 ((hset_ne (by omega)).trans hset_eq) (by omega) rfl ?_
  refine J_iconst (v := nI 1) dX2_dropOldest_29 (by decide +kernel) ?_
  refine J_aload_n dX2_dropOldest_30 rfl ?_
  refine J_get 1 dX2_dropOldest_31 jk2 (Nat.le_of_ble_eq_true rfl) jfRX2_15 ((hset_ne (by omega)).trans hset_eq) (by omega) rfl ?_
  refine J_iconst (v := nI 0) dX2_dropOldest_34 (by decide +kernel) ?_
  refine J_aload_n dX2_dropOldest_35 rfl ?_
  refine J_get 3 dX2_dropOldest_36 jk2 (Nat.le_of_ble_eq_true rfl) jfRX2_21 ((hset_ne (by omega)).trans hset_eq) (by omega) rfl ?_
  refine J_copyN dX2_dropOldest_39 jlRX2_29 jcp_n jcp_s jcp_i ((hset_ne (by omega)).trans ((hset_ne (by omega)).trans H2)) (by omega) ((hset_ne (by omega)).trans ((hset_ne (by omega)).trans H2)) (by omega) (by omega) (by omega) (by omega) (by omega) (Nat.le_of_ble_eq_true rfl) (Nat.le_of_ble_eq_true rfl) ?_
  refine J_aload_n dX2_dropOldest_42 rfl ?_
  refine J_get 2 dX2_dropOldest_43 jk2 (Nat.le_of_ble_eq_true rfl) jfRX2_18 ((hset_ne (by omega)).trans ((hset_ne (by omega)).trans hset_eq)) (by omega) rfl ?_
  refine J_iconst (v := nI 1) dX2_dropOldest_46 (by decide +kernel) ?_
  refine J_aload_n dX2_dropOldest_47 rfl ?_
  refine J_get 2 dX2_dropOldest_48 jk2 (Nat.le_of_ble_eq_true rfl) jfRX2_18 ((hset_ne (by omega)).trans ((hset_ne (by omega)).trans hset_eq)) (by omega) rfl ?_
  refine J_iconst (v := nI 0) dX2_dropOldest_51 (by decide +kernel) ?_
  refine J_aload_n dX2_dropOldest_52 rfl ?_
  refine J_get 3 dX2_dropOldest_53 jk2 (Nat.le_of_ble_eq_true rfl) jfRX2_21 ((hset_ne (by omega)).trans ((hset_ne (by omega)).trans hset_eq)) (by omega) rfl ?_
  refine J_copyN dX2_dropOldest_56 jlRX2_29 jcp_n jcp_s jcp_i ((hset_ne (by omega)).trans ((hset_ne (by omega)).trans ((hset_ne (by omega)).trans H3))) (by omega) ((hset_ne (by omega)).trans ((hset_ne (by omega)).trans ((hset_ne (by omega)).trans H3))) (by omega) (by omega) (by omega) (by omega) (by omega) (Nat.le_of_ble_eq_true rfl) (Nat.le_of_ble_eq_true rfl) ?_
  exact J_vret dX2_dropOldest_59 rfl ⟨Nat.le_refl _, Nat.le_refl _⟩ (by rw [hPP]; exact ⟨rfl, rfl, rfl⟩)

set_option maxHeartbeats 1000000 in
set_option maxRecDepth 100000 in
theorem ctX2_append {E : jE} {h : Nat → va_E} {n : Nat} (p : Nat) (r : Nat) (dy : Nat) (g : Nat) (ps : Nat) (PM : Nat → Nat) (PD : Nat → Nat) (PG : Nat → Nat) (M : Nat → Nat) (H0 : h r = cI E 16 (nF M)) (H1 : h p = .inr (1, [.ref (E.1 + (p + 1)), .ref (E.1 + (p + 2)), .ref (E.1 + (p + 3)), .int (nI ps)])) (H2 : h (p + 1) = cI E 128 (nF PM)) (H3 : h (p + 2) = cI E 8 (nF PD)) (H4 : h (p + 3) = cI E 8 (nF PG)) (hn : p + 4 ≤ n ∧ r < n) (hps : ps ≤ 8) (hrp : r < p ∨ p + 4 ≤ r) : jC E mX2_append (2, 0, 0) [.ref (E.1 + p), .ref (E.1 + r), .int (nI dy), .int (nI g)] h n (jR none (hset (hset (hset (hset h (p + 1) (cI E 128 (nF (pushM PM ps M)))) (p + 2) (cI E 8 (nF (pushD PD ps dy)))) (p + 3) (cI E 8 (nF (pushD PG ps g)))) p (.inr (1, [.ref (E.1 + (p + 1)), .ref (E.1 + (p + 2)), .ref (E.1 + (p + 3)), .int (nI (pushS ps))]))) n) := by
  refine J.of (L := [(0, .ref (E.1 + p)), (1, .ref (E.1 + r)), (2, .int (nI dy)), (3, .int (nI g))]) rfl (by decide +kernel) (Nat.le_of_ble_eq_true rfl) ?_
  obtain ⟨PP, hPP⟩ : ∃ PP : jPost, PP = (jR none (hset (hset (hset (hset h (p + 1) (cI E 128 (nF (pushM PM ps M)))) (p + 2) (cI E 8 (nF (pushD PD ps dy)))) (p + 3) (cI E 8 (nF (pushD PG ps g)))) p (.inr (1, [.ref (E.1 + (p + 1)), .ref (E.1 + (p + 2)), .ref (E.1 + (p + 3)), .int (nI (pushS ps))]))) n) := ⟨_, rfl⟩
  rw [← hPP]
  refine J_aload_n dX2_append_0 rfl ?_
  refine J_get 3 dX2_append_1 jk2 (Nat.le_of_ble_eq_true rfl) jfRX2_21 H1 (by omega) rfl ?_
  refine J_bipush (v := nI 8) dX2_append_4 (by decide +kernel) ?_
  refine J_icmp_ltN (tgt := 15) dX2_append_6 (by decide) (by omega) (by omega) (fun c1 => ?_) (fun c1 => ?_)
  · skip
    refine J_aload_n dX2_append_15 rfl ?_
    refine J_iconst (v := nI 0) dX2_append_16 (by decide +kernel) ?_
    refine J_aload_n dX2_append_17 rfl ?_
    refine J_get 0 dX2_append_18 jk2 (Nat.le_of_ble_eq_true rfl) jfRX2_11 H1 (by omega) rfl ?_
    refine J_aload_n dX2_append_21 rfl ?_
    refine J_get 3 dX2_append_22 jk2 (Nat.le_of_ble_eq_true rfl) jfRX2_21 H1 (by omega) rfl ?_
    refine J_aload_n dX2_append_25 rfl ?_
    refine J_alenN dX2_append_26 H0 (by omega) ?_
    refine J_imulN dX2_append_27 ?_
    refine J_aload_n dX2_append_28 rfl ?_
    refine J_alenN dX2_append_29 H0 (by omega) ?_
    refine J_copyN dX2_append_30 jlRX2_29 jcp_n jcp_s jcp_i H0 (by omega) H2 (by omega) (by omega) (by omega) (by omega) (by omega) (Nat.le_of_ble_eq_true rfl) (Nat.le_of_ble_eq_true rfl) ?_
    refine J_aload_n dX2_append_33 rfl ?_
    refine J_get 1 dX2_append_34 jk2 (Nat.le_of_ble_eq_true rfl) jfRX2_15 ((hset_ne (by omega)).trans H1) (by omega) rfl ?_
    refine J_aload_n dX2_append_37 rfl ?_
    refine J_get 3 dX2_append_38 jk2 (Nat.le_of_ble_eq_true rfl) jfRX2_21 ((hset_ne (by omega)).trans H1) (by omega) rfl ?_
    refine J_iload_n dX2_append_41 rfl ?_
    refine J_iastN (i := ps) (v := dy) dX2_append_42 ((hset_ne (by omega)).trans H3) (by omega) (by omega) (by omega) ?_
    refine J_aload_n dX2_append_43 rfl ?_
    refine J_get 2 dX2_append_44 jk2 (Nat.le_of_ble_eq_true rfl) jfRX2_18 ((hset_ne (by omega)).trans ((hset_ne (by omega)).trans H1)) (by omega) rfl ?_
    refine J_aload_n dX2_append_47 rfl ?_
    refine J_get 3 dX2_append_48 jk2 (Nat.le_of_ble_eq_true rfl) jfRX2_21 ((hset_ne (by omega)).trans ((hset_ne (by omega)).trans H1)) (by omega) rfl ?_
    refine J_iload_n dX2_append_51 rfl ?_
    refine J_iastN (i := ps) (v := g) dX2_append_52 ((hset_ne (by omega)).trans ((hset_ne (by omega)).trans H4)) (by omega) (by omega) (by omega) ?_
    refine J_aload_n dX2_append_53 rfl ?_
    refine J_dup dX2_append_54 rfl ?_
    refine J_get 3 dX2_append_55 jk2 (Nat.le_of_ble_eq_true rfl) jfRX2_21 ((hset_ne (by omega)).trans ((hset_ne (by omega)).trans ((hset_ne (by omega)).trans H1))) (by omega) rfl ?_
    refine J_iconst (v := nI 1) dX2_append_58 (by decide +kernel) ?_
    refine J_iaddN dX2_append_59 ?_
    refine J_put 3 dX2_append_60 jk2 (Nat.le_of_ble_eq_true rfl) jfRX2_21 ((hset_ne (by omega)).trans ((hset_ne (by omega)).trans ((hset_ne (by omega)).trans H1))) (by omega) rfl rfl rfl (Nat.le_of_ble_eq_true rfl) ?_
    refine J.cast (h' := (hset (hset (hset (hset h (p + 1) (cI E 128 (nF (va_cpy M PM 0 (ps * 16) 16)))) (p + 2) (cI E 8 (nF (updN PD ps dy)))) (p + 3) (cI E 8 (nF (updN PG ps g)))) p (.inr (1, [.ref (E.1 + (p + 1)), .ref (E.1 + (p + 2)), .ref (E.1 + (p + 3)), .int (nI (ps + 1))])))) rfl ?_
    exact J_vret dX2_append_63 rfl ⟨Nat.le_refl _, Nat.le_refl _⟩ (by rw [hPP]; exact ⟨rfl, (hset_cg (hset_cg (hset_cg (hset_cg rfl (cI_cg (by intro z; simp only [pushM, pushD, pushS]; split <;> first | rfl | omega))) (cI_cg (by intro z; simp only [pushM, pushD, pushS]; split <;> first | rfl | omega))) (cI_cg (by intro z; simp only [pushM, pushD, pushS]; split <;> first | rfl | omega))) (congrArg (fun z => (Sum.inr (1, z) : va_E)) (jS_c rfl (jS_c rfl (jS_c rfl (jS_c (jv_N (by simp only [pushM, pushD, pushS]; split <;> first | rfl | omega)) rfl)))))), rfl⟩)
  · skip
    refine J_aload_n dX2_append_9 rfl ?_
    refine J_aload_n dX2_append_10 rfl ?_
    refine J_alenN dX2_append_11 H0 (by omega) ?_
    refine J_callVn (M' := mX2_dropOldest) (d' := (1, 0, 0)) (rest := []) dX2_append_12 jmX2_dropOldest jlRX2_25 (ctX2_dropOldest p ps PM PD PG H1 H2 H3 H4 (by omega) ) H1 (by omega) jk2.1 rfl rfl (Nat.le_of_ble_eq_true rfl) (Nat.le_of_ble_eq_true rfl) ⟨Nat.le_refl _, Nat.le_refl _⟩ ?_
    refine J_aload_n dX2_append_15 rfl ?_
    refine J_iconst (v := nI 0) dX2_append_16 (by decide +kernel) ?_
    refine J_aload_n dX2_append_17 rfl ?_
    refine J_get 0 dX2_append_18 jk2 (Nat.le_of_ble_eq_true rfl) jfRX2_11 ((hset_ne (by omega)).trans ((hset_ne (by omega)).trans ((hset_ne (by omega)).trans hset_eq))) (by omega) rfl ?_
    refine J_aload_n dX2_append_21 rfl ?_
    refine J_get 3 dX2_append_22 jk2 (Nat.le_of_ble_eq_true rfl) jfRX2_21 ((hset_ne (by omega)).trans ((hset_ne (by omega)).trans ((hset_ne (by omega)).trans hset_eq))) (by omega) rfl ?_
    refine J_aload_n dX2_append_25 rfl ?_
    refine J_alenN dX2_append_26 ((hset_ne (by omega)).trans ((hset_ne (by omega)).trans ((hset_ne (by omega)).trans ((hset_ne (by omega)).trans H0)))) (by omega) ?_
    refine J_imulN dX2_append_27 ?_
    refine J.stk (st' := [.int (nI 112), .ref (E.1 + (p + 1)), .int (nI 0), .ref (E.1 + r)]) rfl ?_
    refine J_aload_n dX2_append_28 rfl ?_
    refine J_alenN dX2_append_29 ((hset_ne (by omega)).trans ((hset_ne (by omega)).trans ((hset_ne (by omega)).trans ((hset_ne (by omega)).trans H0)))) (by omega) ?_
    refine J_copyN dX2_append_30 jlRX2_29 jcp_n jcp_s jcp_i ((hset_ne (by omega)).trans ((hset_ne (by omega)).trans ((hset_ne (by omega)).trans ((hset_ne (by omega)).trans H0)))) (by omega) ((hset_ne (by omega)).trans ((hset_ne (by omega)).trans hset_eq)) (by omega) (by omega) (by omega) (by omega) (by omega) (Nat.le_of_ble_eq_true rfl) (Nat.le_of_ble_eq_true rfl) ?_
    refine J.cast ((hset_comm (by omega)).trans (hset_cg ((hset_comm (by omega)).trans (hset_cg hset_hset rfl)) rfl)) ?_
    refine J_aload_n dX2_append_33 rfl ?_
    refine J_get 1 dX2_append_34 jk2 (Nat.le_of_ble_eq_true rfl) jfRX2_15 ((hset_ne (by omega)).trans ((hset_ne (by omega)).trans ((hset_ne (by omega)).trans hset_eq))) (by omega) rfl ?_
    refine J_aload_n dX2_append_37 rfl ?_
    refine J_get 3 dX2_append_38 jk2 (Nat.le_of_ble_eq_true rfl) jfRX2_21 ((hset_ne (by omega)).trans ((hset_ne (by omega)).trans ((hset_ne (by omega)).trans hset_eq))) (by omega) rfl ?_
    refine J_iload_n dX2_append_41 rfl ?_
    refine J_iastN (i := 7) (v := dy) dX2_append_42 ((hset_ne (by omega)).trans hset_eq) (by omega) (by omega) (by omega) ?_
    refine J.cast ((hset_comm (by omega)).trans (hset_cg hset_hset rfl)) ?_
    refine J_aload_n dX2_append_43 rfl ?_
    refine J_get 2 dX2_append_44 jk2 (Nat.le_of_ble_eq_true rfl) jfRX2_18 ((hset_ne (by omega)).trans ((hset_ne (by omega)).trans ((hset_ne (by omega)).trans hset_eq))) (by omega) rfl ?_
    refine J_aload_n dX2_append_47 rfl ?_
    refine J_get 3 dX2_append_48 jk2 (Nat.le_of_ble_eq_true rfl) jfRX2_21 ((hset_ne (by omega)).trans ((hset_ne (by omega)).trans ((hset_ne (by omega)).trans hset_eq))) (by omega) rfl ?_
    refine J_iload_n dX2_append_51 rfl ?_
    refine J_iastN (i := 7) (v := g) dX2_append_52 hset_eq (by omega) (by omega) (by omega) ?_
    refine J.cast hset_hset ?_
    refine J_aload_n dX2_append_53 rfl ?_
    refine J_dup dX2_append_54 rfl ?_
    refine J_get 3 dX2_append_55 jk2 (Nat.le_of_ble_eq_true rfl) jfRX2_21 ((hset_ne (by omega)).trans ((hset_ne (by omega)).trans ((hset_ne (by omega)).trans hset_eq))) (by omega) rfl ?_
    refine J_iconst (v := nI 1) dX2_append_58 (by decide +kernel) ?_
    refine J_iaddN dX2_append_59 ?_
    refine J.stk (st' := [.int (nI 8), .ref (E.1 + p)]) rfl ?_
    refine J_put 3 dX2_append_60 jk2 (Nat.le_of_ble_eq_true rfl) jfRX2_21 ((hset_ne (by omega)).trans ((hset_ne (by omega)).trans ((hset_ne (by omega)).trans hset_eq))) (by omega) rfl rfl rfl (Nat.le_of_ble_eq_true rfl) ?_
    refine J.cast (h' := (hset (hset (hset (hset (hset h p (.inr (1, [.ref (E.1 + (p + 1)), .ref (E.1 + (p + 2)), .ref (E.1 + (p + 3)), .int (nI 7)]))) (p + 1) (cI E 128 (nF (va_cpy M (va_cpy PM PM 16 0 112) 0 112 16)))) (p + 2) (cI E 8 (nF (updN (va_cpy PD PD 1 0 7) 7 dy)))) (p + 3) (cI E 8 (nF (updN (va_cpy PG PG 1 0 7) 7 g)))) p (.inr (1, [.ref (E.1 + (p + 1)), .ref (E.1 + (p + 2)), .ref (E.1 + (p + 3)), .int (nI 8)])))) rfl ?_
    refine J.cast ((hset_comm (by omega)).trans (hset_cg ((hset_comm (by omega)).trans (hset_cg ((hset_comm (by omega)).trans (hset_cg hset_hset rfl)) rfl)) rfl)) ?_
    exact J_vret dX2_append_63 rfl ⟨Nat.le_refl _, Nat.le_refl _⟩ (by rw [hPP]; exact ⟨rfl, ((show (hset (hset (hset (hset h p (.inr (1, [.ref (E.1 + (p + 1)), .ref (E.1 + (p + 2)), .ref (E.1 + (p + 3)), .int (nI 8)]))) (p + 1) (cI E 128 (nF (va_cpy M (va_cpy PM PM 16 0 112) 0 112 16)))) (p + 2) (cI E 8 (nF (updN (va_cpy PD PD 1 0 7) 7 dy)))) (p + 3) (cI E 8 (nF (updN (va_cpy PG PG 1 0 7) 7 g)))) = (hset (hset (hset (hset h (p + 1) (cI E 128 (nF (va_cpy M (va_cpy PM PM 16 0 112) 0 112 16)))) (p + 2) (cI E 8 (nF (updN (va_cpy PD PD 1 0 7) 7 dy)))) (p + 3) (cI E 8 (nF (updN (va_cpy PG PG 1 0 7) 7 g)))) p (.inr (1, [.ref (E.1 + (p + 1)), .ref (E.1 + (p + 2)), .ref (E.1 + (p + 3)), .int (nI 8)]))) by funext z; simp only [hset]; (repeat' split) <;> first | rfl | (exfalso; omega) | (subst_vars; first | exact rfl)).trans (hset_cg (hset_cg (hset_cg (hset_cg rfl (cI_cg (by intro z; simp only [pushM, pushD, pushS]; split <;> first | rfl | omega))) (cI_cg (by intro z; simp only [pushM, pushD, pushS]; split <;> first | rfl | omega))) (cI_cg (by intro z; simp only [pushM, pushD, pushS]; split <;> first | rfl | omega))) (congrArg (fun z => (Sum.inr (1, z) : va_E)) (jS_c rfl (jS_c rfl (jS_c rfl (jS_c (jv_N (by simp only [pushM, pushD, pushS]; split <;> first | rfl | omega)) rfl))))))), rfl⟩)

set_option maxHeartbeats 1000000 in
set_option maxRecDepth 100000 in
theorem ctX6_remember {E : jE} {h : Nat → va_E} {n : Nat} (b : Nat) (an : Nat) (td : Nat) (gr : Nat) (M : Nat → Nat) (ps : Nat) (PM : Nat → Nat) (PD : Nat → Nat) (PG : Nat → Nat) (H0 : h b = .inr (5, [.ref (E.1 + (b + 1)), .ref (E.1 + (b + 2)), .ref (E.1 + (b + 3)), .ref (E.1 + (b + 5)), .ref (E.1 + (b + 7)), .int (nI an), .int (nI td), .int (nI gr)])) (H1 : h (b + 2) = cI E 16 (nF M)) (H2 : h (b + 7) = .inr (1, [.ref (E.1 + (b + 8)), .ref (E.1 + (b + 9)), .ref (E.1 + (b + 10)), .int (nI ps)])) (H3 : h (b + 8) = cI E 128 (nF PM)) (H4 : h (b + 9) = cI E 8 (nF PD)) (H5 : h (b + 10) = cI E 8 (nF PG)) (hn : b + 11 ≤ n) (hps : ps ≤ 8) : jC E mX6_remember (3, 0, 0) [.ref (E.1 + b)] h n (jR none (hset (hset (hset (hset h (b + 7 + 1) (cI E 128 (nF (pushM PM ps M)))) (b + 7 + 2) (cI E 8 (nF (pushD PD ps td)))) (b + 7 + 3) (cI E 8 (nF (pushD PG ps gr)))) (b + 7) (.inr (1, [.ref (E.1 + (b + 8)), .ref (E.1 + (b + 9)), .ref (E.1 + (b + 10)), .int (nI (pushS ps))]))) n) := by
  refine J.of (L := [(0, .ref (E.1 + b))]) rfl (by decide +kernel) (Nat.le_of_ble_eq_true rfl) ?_
  obtain ⟨PP, hPP⟩ : ∃ PP : jPost, PP = (jR none (hset (hset (hset (hset h (b + 7 + 1) (cI E 128 (nF (pushM PM ps M)))) (b + 7 + 2) (cI E 8 (nF (pushD PD ps td)))) (b + 7 + 3) (cI E 8 (nF (pushD PG ps gr)))) (b + 7) (.inr (1, [.ref (E.1 + (b + 8)), .ref (E.1 + (b + 9)), .ref (E.1 + (b + 10)), .int (nI (pushS ps))]))) n) := ⟨_, rfl⟩
  rw [← hPP]
  refine J_aload_n dX6_remember_0 rfl ?_
  refine J_get 4 dX6_remember_1 jk6 (Nat.le_of_ble_eq_true rfl) jfRX6_31 H0 (by omega) rfl ?_
  refine J_aload_n dX6_remember_4 rfl ?_
  refine J_get 1 dX6_remember_5 jk6 (Nat.le_of_ble_eq_true rfl) jfRX6_15 H0 (by omega) rfl ?_
  refine J_aload_n dX6_remember_8 rfl ?_
  refine J_get 6 dX6_remember_9 jk6 (Nat.le_of_ble_eq_true rfl) jfRX6_39 H0 (by omega) rfl ?_
  refine J_aload_n dX6_remember_12 rfl ?_
  refine J_get 7 dX6_remember_13 jk6 (Nat.le_of_ble_eq_true rfl) jfRX6_42 H0 (by omega) rfl ?_
  refine J_callVn (M' := mX2_append) (d' := (2, 0, 0)) (rest := []) dX6_remember_16 jmX2_append jlRX6_108 (ctX2_append (b + 7) (b + 2) td gr ps PM PD PG M H1 H2 H3 H4 H5 (by omega) (by first | assumption | omega) (by first | assumption | omega)) H2 (by omega) jk2.1 rfl rfl (Nat.le_of_ble_eq_true rfl) (Nat.le_of_ble_eq_true rfl) ⟨Nat.le_refl _, Nat.le_refl _⟩ ?_
  exact J_vret dX6_remember_19 rfl ⟨Nat.le_refl _, Nat.le_refl _⟩ (by rw [hPP]; exact ⟨rfl, rfl, rfl⟩)

set_option maxHeartbeats 1000000 in
set_option maxRecDepth 100000 in
theorem ctX6_goBack0 {E : jE} {h : Nat → va_E} {n : Nat} (b : Nat) (an : Nat) (td : Nat) (gr : Nat) (M : Nat → Nat) (ps : Nat) (PM : Nat → Nat) (PD : Nat → Nat) (PG : Nat → Nat) (H0 : h b = .inr (5, [.ref (E.1 + (b + 1)), .ref (E.1 + (b + 2)), .ref (E.1 + (b + 3)), .ref (E.1 + (b + 5)), .ref (E.1 + (b + 7)), .int (nI an), .int (nI td), .int (nI gr)])) (H1 : h (b + 2) = cI E 16 (nF M)) (H2 : h (b + 7) = .inr (1, [.ref (E.1 + (b + 8)), .ref (E.1 + (b + 9)), .ref (E.1 + (b + 10)), .int (nI ps)])) (H3 : h (b + 8) = cI E 128 (nF PM)) (H4 : h (b + 9) = cI E 8 (nF PD)) (H5 : h (b + 10) = cI E 8 (nF PG)) (hn : b + 11 ≤ n) (hps : ps = 0) : jC E mX6_goBack (1, 0, 0) [.ref (E.1 + b)] h n (jR (some (.int (nI 0))) h n) := by
  refine J.of (L := [(0, .ref (E.1 + b))]) rfl (by decide +kernel) (Nat.le_of_ble_eq_true rfl) ?_
  obtain ⟨PP, hPP⟩ : ∃ PP : jPost, PP = (jR (some (.int (nI 0))) h n) := ⟨_, rfl⟩
  rw [← hPP]
  refine J_aload_n dX6_goBack_0 rfl ?_
  refine J_get 4 dX6_goBack_1 jk6 (Nat.le_of_ble_eq_true rfl) jfRX6_31 H0 (by omega) rfl ?_
  refine J_get 3 dX6_goBack_4 jk2 (Nat.le_of_ble_eq_true rfl) jfRX6_48 H2 (by omega) rfl ?_
  refine J_if_gtN (tgt := 12) dX6_goBack_7 (by decide) (by omega) (fun c1 => (by exfalso; omega)) (fun c1 => ?_)
  refine J_iconst (v := nI 0) dX6_goBack_10 (by decide +kernel) ?_
  exact J_zret dX6_goBack_11 rfl rfl ⟨Nat.le_refl _, Nat.le_refl _⟩ (by rw [hPP]; exact ⟨rfl, rfl, rfl⟩)

set_option maxHeartbeats 1000000 in
set_option maxRecDepth 100000 in
theorem ctX6_goBack1 {E : jE} {h : Nat → va_E} {n : Nat} (b : Nat) (an : Nat) (td : Nat) (gr : Nat) (M : Nat → Nat) (ps : Nat) (PM : Nat → Nat) (PD : Nat → Nat) (PG : Nat → Nat) (H0 : h b = .inr (5, [.ref (E.1 + (b + 1)), .ref (E.1 + (b + 2)), .ref (E.1 + (b + 3)), .ref (E.1 + (b + 5)), .ref (E.1 + (b + 7)), .int (nI an), .int (nI td), .int (nI gr)])) (H1 : h (b + 2) = cI E 16 (nF M)) (H2 : h (b + 7) = .inr (1, [.ref (E.1 + (b + 8)), .ref (E.1 + (b + 9)), .ref (E.1 + (b + 10)), .int (nI ps)])) (H3 : h (b + 8) = cI E 128 (nF PM)) (H4 : h (b + 9) = cI E 8 (nF PD)) (H5 : h (b + 10) = cI E 8 (nF PG)) (hn : b + 11 ≤ n) (hps : 0 < ps) (hps8 : ps ≤ 8) : jC E mX6_goBack (1, 0, 0) [.ref (E.1 + b)] h n (jR (some (.int (nI 1))) (hset (hset (hset h (b + 7) (.inr (1, [.ref (E.1 + (b + 8)), .ref (E.1 + (b + 9)), .ref (E.1 + (b + 10)), .int (nI (ps - 1))]))) (b + 2) (cI E 16 (nF (va_cpy PM M ((ps - 1) * 16) 0 16)))) b (.inr (5, [.ref (E.1 + (b + 1)), .ref (E.1 + (b + 2)), .ref (E.1 + (b + 3)), .ref (E.1 + (b + 5)), .ref (E.1 + (b + 7)), .int (nI an), .int (nI (PD (ps - 1))), .int (nI (PG (ps - 1)))]))) n) := by
  refine J.of (L := [(0, .ref (E.1 + b))]) rfl (by decide +kernel) (Nat.le_of_ble_eq_true rfl) ?_
  obtain ⟨PP, hPP⟩ : ∃ PP : jPost, PP = (jR (some (.int (nI 1))) (hset (hset (hset h (b + 7) (.inr (1, [.ref (E.1 + (b + 8)), .ref (E.1 + (b + 9)), .ref (E.1 + (b + 10)), .int (nI (ps - 1))]))) (b + 2) (cI E 16 (nF (va_cpy PM M ((ps - 1) * 16) 0 16)))) b (.inr (5, [.ref (E.1 + (b + 1)), .ref (E.1 + (b + 2)), .ref (E.1 + (b + 3)), .ref (E.1 + (b + 5)), .ref (E.1 + (b + 7)), .int (nI an), .int (nI (PD (ps - 1))), .int (nI (PG (ps - 1)))]))) n) := ⟨_, rfl⟩
  rw [← hPP]
  refine J_aload_n dX6_goBack_0 rfl ?_
  refine J_get 4 dX6_goBack_1 jk6 (Nat.le_of_ble_eq_true rfl) jfRX6_31 H0 (by omega) rfl ?_
  refine J_get 3 dX6_goBack_4 jk2 (Nat.le_of_ble_eq_true rfl) jfRX6_48 H2 (by omega) rfl ?_
  refine J_if_gtN (tgt := 12) dX6_goBack_7 (by decide) (by omega) (fun c1 => ?_) (fun c1 => (by exfalso; omega))
  refine J_aload_n dX6_goBack_12 rfl ?_
  refine J_get 4 dX6_goBack_13 jk6 (Nat.le_of_ble_eq_true rfl) jfRX6_31 H0 (by omega) rfl ?_
  refine J_dup dX6_goBack_16 rfl ?_
  refine J_get 3 dX6_goBack_17 jk2 (Nat.le_of_ble_eq_true rfl) jfRX6_48 H2 (by omega) rfl ?_
  refine J_iconst (v := nI 1) dX6_goBack_20 (by decide +kernel) ?_
  refine J_isubN dX6_goBack_21 (by omega) ?_
  refine J_put 3 dX6_goBack_22 jk2 (Nat.le_of_ble_eq_true rfl) jfRX6_48 H2 (by omega) rfl rfl rfl (Nat.le_of_ble_eq_true rfl) ?_
  refine J.cast (h' := (hset h (b + 7) (.inr (1, [.ref (E.1 + (b + 8)), .ref (E.1 + (b + 9)), .ref (E.1 + (b + 10)), .int (nI (ps - 1))])))) rfl ?_
  refine J_aload_n dX6_goBack_25 rfl ?_
  refine J_get 4 dX6_goBack_26 jk6 (Nat.le_of_ble_eq_true rfl) jfRX6_31 ((hset_ne (by omega)).trans H0) (by omega) rfl ?_
  refine J_get 0 dX6_goBack_29 jk2 (Nat.le_of_ble_eq_true rfl) jfRX6_112 hset_eq (by omega) rfl ?_
  refine J_aload_n dX6_goBack_32 rfl ?_
  refine J_get 4 dX6_goBack_33 jk6 (Nat.le_of_ble_eq_true rfl) jfRX6_31 ((hset_ne (by omega)).trans H0) (by omega) rfl ?_
  refine J_get 3 dX6_goBack_36 jk2 (Nat.le_of_ble_eq_true rfl) jfRX6_48 hset_eq (by omega) rfl ?_
  refine J_aload_n dX6_goBack_39 rfl ?_
  refine J_get 1 dX6_goBack_40 jk6 (Nat.le_of_ble_eq_true rfl) jfRX6_15 ((hset_ne (by omega)).trans H0) (by omega) rfl ?_
  refine J_alenN dX6_goBack_43 ((hset_ne (by omega)).trans H1) (by omega) ?_
  refine J_imulN dX6_goBack_44 ?_
  refine J_aload_n dX6_goBack_45 rfl ?_
  refine J_get 1 dX6_goBack_46 jk6 (Nat.le_of_ble_eq_true rfl) jfRX6_15 ((hset_ne (by omega)).trans H0) (by omega) rfl ?_
  refine J_iconst (v := nI 0) dX6_goBack_49 (by decide +kernel) ?_
  refine J_aload_n dX6_goBack_50 rfl ?_
  refine J_get 1 dX6_goBack_51 jk6 (Nat.le_of_ble_eq_true rfl) jfRX6_15 ((hset_ne (by omega)).trans H0) (by omega) rfl ?_
  refine J_alenN dX6_goBack_54 ((hset_ne (by omega)).trans H1) (by omega) ?_
  refine J_copyN dX6_goBack_55 jlRX6_49 jcp_n jcp_s jcp_i ((hset_ne (by omega)).trans H3) (by omega) ((hset_ne (by omega)).trans H1) (by omega) (by omega) (by omega) (by omega) (by omega) (Nat.le_of_ble_eq_true rfl) (Nat.le_of_ble_eq_true rfl) ?_
  refine J_aload_n dX6_goBack_58 rfl ?_
  refine J_aload_n dX6_goBack_59 rfl ?_
  refine J_get 4 dX6_goBack_60 jk6 (Nat.le_of_ble_eq_true rfl) jfRX6_31 ((hset_ne (by omega)).trans ((hset_ne (by omega)).trans H0)) (by omega) rfl ?_
  refine J_get 1 dX6_goBack_63 jk2 (Nat.le_of_ble_eq_true rfl) jfRX6_113 ((hset_ne (by omega)).trans hset_eq) (by omega) rfl ?_
  refine J_aload_n dX6_goBack_66 rfl ?_
  refine J_get 4 dX6_goBack_67 jk6 (Nat.le_of_ble_eq_true rfl) jfRX6_31 ((hset_ne (by omega)).trans ((hset_ne (by omega)).trans H0)) (by omega) rfl ?_
  refine J_get 3 dX6_goBack_70 jk2 (Nat.le_of_ble_eq_true rfl) jfRX6_48 ((hset_ne (by omega)).trans hset_eq) (by omega) rfl ?_
  refine J_ialdN (i := ps - 1) dX6_goBack_73 ((hset_ne (by omega)).trans ((hset_ne (by omega)).trans H4)) (by omega) (by omega) (by omega) ?_
  refine J_put 6 dX6_goBack_74 jk6 (Nat.le_of_ble_eq_true rfl) jfRX6_39 ((hset_ne (by omega)).trans ((hset_ne (by omega)).trans H0)) (by omega) rfl rfl rfl (Nat.le_of_ble_eq_true rfl) ?_
  refine J.cast (h' := (hset (hset (hset h (b + 7) (.inr (1, [.ref (E.1 + (b + 8)), .ref (E.1 + (b + 9)), .ref (E.1 + (b + 10)), .int (nI (ps - 1))]))) (b + 2) (cI E 16 (nF (va_cpy PM M ((ps - 1) * 16) 0 16)))) b (.inr (5, [.ref (E.1 + (b + 1)), .ref (E.1 + (b + 2)), .ref (E.1 + (b + 3)), .ref (E.1 + (b + 5)), .ref (E.1 + (b + 7)), .int (nI an), .int (nI (PD (ps - 1))), .int (nI gr)])))) rfl ?_
  refine J_aload_n dX6_goBack_77 rfl ?_
  refine J_aload_n dX6_goBack_78 rfl ?_
  refine J_get 4 dX6_goBack_79 jk6 (Nat.le_of_ble_eq_true rfl) jfRX6_31 hset_eq (by omega) rfl ?_
  refine J_get 2 dX6_goBack_82 jk2 (Nat.le_of_ble_eq_true rfl) jfRX6_116 ((hset_ne (by omega)).trans ((hset_ne (by omega)).trans hset_eq)) (by omega) rfl ?_
  refine J_aload_n dX6_goBack_85 rfl ?_
  refine J_get 4 dX6_goBack_86 jk6 (Nat.le_of_ble_eq_true rfl) jfRX6_31 hset_eq (by omega) rfl ?_
  refine J_get 3 dX6_goBack_89 jk2 (Nat.le_of_ble_eq_true rfl) jfRX6_48 ((hset_ne (by omega)).trans ((hset_ne (by omega)).trans hset_eq)) (by omega) rfl ?_
  refine J_ialdN (i := ps - 1) dX6_goBack_92 ((hset_ne (by omega)).trans ((hset_ne (by omega)).trans ((hset_ne (by omega)).trans H5))) (by omega) (by omega) (by omega) ?_
  refine J_put 7 dX6_goBack_93 jk6 (Nat.le_of_ble_eq_true rfl) jfRX6_42 hset_eq (by omega) rfl rfl rfl (Nat.le_of_ble_eq_true rfl) ?_
  refine J.cast (h' := (hset (hset (hset (hset h (b + 7) (.inr (1, [.ref (E.1 + (b + 8)), .ref (E.1 + (b + 9)), .ref (E.1 + (b + 10)), .int (nI (ps - 1))]))) (b + 2) (cI E 16 (nF (va_cpy PM M ((ps - 1) * 16) 0 16)))) b (.inr (5, [.ref (E.1 + (b + 1)), .ref (E.1 + (b + 2)), .ref (E.1 + (b + 3)), .ref (E.1 + (b + 5)), .ref (E.1 + (b + 7)), .int (nI an), .int (nI (PD (ps - 1))), .int (nI gr)]))) b (.inr (5, [.ref (E.1 + (b + 1)), .ref (E.1 + (b + 2)), .ref (E.1 + (b + 3)), .ref (E.1 + (b + 5)), .ref (E.1 + (b + 7)), .int (nI an), .int (nI (PD (ps - 1))), .int (nI (PG (ps - 1)))])))) rfl ?_
  refine J.cast hset_hset ?_
  refine J_iconst (v := nI 1) dX6_goBack_96 (by decide +kernel) ?_
  exact J_zret dX6_goBack_97 rfl rfl ⟨Nat.le_refl _, Nat.le_refl _⟩ (by rw [hPP]; exact ⟨rfl, rfl, rfl⟩)

set_option maxHeartbeats 1000000 in
set_option maxRecDepth 100000 in
theorem ctX4_append0 {E : jE} {h : Nat → va_E} {n : Nat} (b : Nat) (x : Nat) (y : Nat) (z : Nat) (w : Nat) (nn : Nat) (C : Nat → Nat) (H0 : h b = .inr (3, [.ref (E.1 + (b + 1)), .int (nI nn)])) (H1 : h (b + 1) = cI E 24 (nF C)) (hn : b + 2 ≤ n) (hnn : nn = 6) : jC E mX4_append (1, 0, 0) [.ref (E.1 + b), .int (nI x), .int (nI y), .int (nI z), .int (nI w)] h n (jR (some (.int (nI 0))) h n) := by
  refine J.of (L := [(0, .ref (E.1 + b)), (1, .int (nI x)), (2, .int (nI y)), (3, .int (nI z)), (4, .int (nI w))]) rfl (by decide +kernel) (Nat.le_of_ble_eq_true rfl) ?_
  obtain ⟨PP, hPP⟩ : ∃ PP : jPost, PP = (jR (some (.int (nI 0))) h n) := ⟨_, rfl⟩
  rw [← hPP]
  refine J_aload_n dX4_append_0 rfl ?_
  refine J_get 1 dX4_append_1 jk4 (Nat.le_of_ble_eq_true rfl) jfRX4_13 H0 (by omega) rfl ?_
  refine J_bipush (v := nI 6) dX4_append_4 (by decide +kernel) ?_
  refine J_icmp_ltN (tgt := 11) dX4_append_6 (by decide) (by omega) (by omega) (fun c1 => (by exfalso; omega)) (fun c1 => ?_)
  refine J_iconst (v := nI 0) dX4_append_9 (by decide +kernel) ?_
  exact J_zret dX4_append_10 rfl rfl ⟨Nat.le_refl _, Nat.le_refl _⟩ (by rw [hPP]; exact ⟨rfl, rfl, rfl⟩)

set_option maxHeartbeats 1000000 in
set_option maxRecDepth 100000 in
theorem ctX4_append1 {E : jE} {h : Nat → va_E} {n : Nat} (b : Nat) (x : Nat) (y : Nat) (z : Nat) (w : Nat) (nn : Nat) (C : Nat → Nat) (H0 : h b = .inr (3, [.ref (E.1 + (b + 1)), .int (nI nn)])) (H1 : h (b + 1) = cI E 24 (nF C)) (hn : b + 2 ≤ n) (hnn : nn < 6) : jC E mX4_append (1, 0, 0) [.ref (E.1 + b), .int (nI x), .int (nI y), .int (nI z), .int (nI w)] h n (jR (some (.int (nI 1))) (hset (hset h (b + 1) (cI E 24 (nF (rowN C nn x y z w)))) b (.inr (3, [.ref (E.1 + (b + 1)), .int (nI (nn + 1))]))) n) := by
  refine J.of (L := [(0, .ref (E.1 + b)), (1, .int (nI x)), (2, .int (nI y)), (3, .int (nI z)), (4, .int (nI w))]) rfl (by decide +kernel) (Nat.le_of_ble_eq_true rfl) ?_
  obtain ⟨PP, hPP⟩ : ∃ PP : jPost, PP = (jR (some (.int (nI 1))) (hset (hset h (b + 1) (cI E 24 (nF (rowN C nn x y z w)))) b (.inr (3, [.ref (E.1 + (b + 1)), .int (nI (nn + 1))]))) n) := ⟨_, rfl⟩
  rw [← hPP]
  refine J_aload_n dX4_append_0 rfl ?_
  refine J_get 1 dX4_append_1 jk4 (Nat.le_of_ble_eq_true rfl) jfRX4_13 H0 (by omega) rfl ?_
  refine J_bipush (v := nI 6) dX4_append_4 (by decide +kernel) ?_
  refine J_icmp_ltN (tgt := 11) dX4_append_6 (by decide) (by omega) (by omega) (fun c1 => ?_) (fun c1 => (by exfalso; omega))
  refine J_iconst (v := nI 4) dX4_append_11 (by decide +kernel) ?_
  refine J_aload_n dX4_append_12 rfl ?_
  refine J_get 1 dX4_append_13 jk4 (Nat.le_of_ble_eq_true rfl) jfRX4_13 H0 (by omega) rfl ?_
  refine J_imulN dX4_append_16 ?_
  refine J_istore dX4_append_17 (Nat.le_of_ble_eq_true rfl) (L' := [(5, .int (nI (4 * nn))), (0, .ref (E.1 + b)), (1, .int (nI x)), (2, .int (nI y)), (3, .int (nI z)), (4, .int (nI w))]) rfl ?_
  refine J_aload_n dX4_append_19 rfl ?_
  refine J_get 0 dX4_append_20 jk4 (Nat.le_of_ble_eq_true rfl) jfRX4_9 H0 (by omega) rfl ?_
  refine J_iload dX4_append_23 rfl ?_
  refine J_iload_n dX4_append_25 rfl ?_
  refine J_iastN (i := 4 * nn) (v := x) dX4_append_26 H1 (by omega) (by omega) (by omega) ?_
  refine J_aload_n dX4_append_27 rfl ?_
  refine J_get 0 dX4_append_28 jk4 (Nat.le_of_ble_eq_true rfl) jfRX4_9 ((hset_ne (by omega)).trans H0) (by omega) rfl ?_
  refine J_iload dX4_append_31 rfl ?_
  refine J_iconst (v := nI 1) dX4_append_33 (by decide +kernel) ?_
  refine J_iaddN dX4_append_34 ?_
  refine J_iload_n dX4_append_35 rfl ?_
  refine J_iastN (i := (4 * nn) + 1) (v := y) dX4_append_36 hset_eq (by omega) (by omega) (by omega) ?_
  refine J.cast hset_hset ?_
  refine J_aload_n dX4_append_37 rfl ?_
  refine J_get 0 dX4_append_38 jk4 (Nat.le_of_ble_eq_true rfl) jfRX4_9 ((hset_ne (by omega)).trans H0) (by omega) rfl ?_
  refine J_iload dX4_append_41 rfl ?_
  refine J_iconst (v := nI 2) dX4_append_43 (by decide +kernel) ?_
  refine J_iaddN dX4_append_44 ?_
  refine J_iload_n dX4_append_45 rfl ?_
  refine J_iastN (i := (4 * nn) + 2) (v := z) dX4_append_46 hset_eq (by omega) (by omega) (by omega) ?_
  refine J.cast hset_hset ?_
  refine J_aload_n dX4_append_47 rfl ?_
  refine J_get 0 dX4_append_48 jk4 (Nat.le_of_ble_eq_true rfl) jfRX4_9 ((hset_ne (by omega)).trans H0) (by omega) rfl ?_
  refine J_iload dX4_append_51 rfl ?_
  refine J_iconst (v := nI 3) dX4_append_53 (by decide +kernel) ?_
  refine J_iaddN dX4_append_54 ?_
  refine J_iload dX4_append_55 rfl ?_
  refine J_iastN (i := (4 * nn) + 3) (v := w) dX4_append_57 hset_eq (by omega) (by omega) (by omega) ?_
  refine J.cast hset_hset ?_
  refine J_aload_n dX4_append_58 rfl ?_
  refine J_dup dX4_append_59 rfl ?_
  refine J_get 1 dX4_append_60 jk4 (Nat.le_of_ble_eq_true rfl) jfRX4_13 ((hset_ne (by omega)).trans H0) (by omega) rfl ?_
  refine J_iconst (v := nI 1) dX4_append_63 (by decide +kernel) ?_
  refine J_iaddN dX4_append_64 ?_
  refine J_put 1 dX4_append_65 jk4 (Nat.le_of_ble_eq_true rfl) jfRX4_13 ((hset_ne (by omega)).trans H0) (by omega) rfl rfl rfl (Nat.le_of_ble_eq_true rfl) ?_
  refine J.cast (h' := (hset (hset h (b + 1) (cI E 24 (nF (updN (updN (updN (updN C (4 * nn) x) ((4 * nn) + 1) y) ((4 * nn) + 2) z) ((4 * nn) + 3) w)))) b (.inr (3, [.ref (E.1 + (b + 1)), .int (nI (nn + 1))])))) rfl ?_
  refine J_iconst (v := nI 1) dX4_append_68 (by decide +kernel) ?_
  exact J_zret dX4_append_69 rfl rfl ⟨Nat.le_refl _, Nat.le_refl _⟩ (by rw [hPP]; exact ⟨rfl, (hset_cg (hset_cg rfl (cI_cg (by intro z; rfl))) rfl), rfl⟩)

set_option maxHeartbeats 1000000 in
set_option maxRecDepth 100000 in
theorem ctX4_at {E : jE} {h : Nat → va_E} {n : Nat} (b : Nat) (i : Nat) (j : Nat) (nn : Nat) (C : Nat → Nat) (H0 : h b = .inr (3, [.ref (E.1 + (b + 1)), .int (nI nn)])) (H1 : h (b + 1) = cI E 24 (nF C)) (hn : b + 2 ≤ n) (hi : i < 6) (hj : j < 4) : jC E mX4_at (1, 0, 0) [.ref (E.1 + b), .int (nI i), .int (nI j)] h n (jR (some (.int (nI (C (4 * i + j))))) h n) := by
  refine J.of (L := [(0, .ref (E.1 + b)), (1, .int (nI i)), (2, .int (nI j))]) rfl (by decide +kernel) (Nat.le_of_ble_eq_true rfl) ?_
  obtain ⟨PP, hPP⟩ : ∃ PP : jPost, PP = (jR (some (.int (nI (C (4 * i + j))))) h n) := ⟨_, rfl⟩
  rw [← hPP]
  refine J_aload_n dX4_at_0 rfl ?_
  refine J_get 0 dX4_at_1 jk4 (Nat.le_of_ble_eq_true rfl) jfRX4_9 H0 (by omega) rfl ?_
  refine J_iconst (v := nI 4) dX4_at_4 (by decide +kernel) ?_
  refine J_iload_n dX4_at_5 rfl ?_
  refine J_imulN dX4_at_6 ?_
  refine J_iload_n dX4_at_7 rfl ?_
  refine J_iaddN dX4_at_8 ?_
  refine J_ialdN (i := (4 * i) + j) dX4_at_9 H1 (by omega) (by omega) (by omega) ?_
  exact J_iret dX4_at_10 rfl ⟨Nat.le_refl _, Nat.le_refl _⟩ (by rw [hPP]; exact ⟨(congrArg some (jv_N (by omega))), rfl, rfl⟩)
