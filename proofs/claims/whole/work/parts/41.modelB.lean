set_option maxHeartbeats 1000000 in
set_option maxRecDepth 100000 in
theorem ctX8_up_bad {E : jE} {h : Nat → va_E} {n : Nat} (a : Nat) (t : Nat) (xa : Nat) (xb : Nat) (dt : Nat) (mo : Nat) (bn : Nat) (ta : Nat) (tl : Nat) (tk : Nat) (va : Nat) (RF : Nat → Nat) (Q : Nat → Nat) (H0 : h 38 = .inr (7, [.ref (E.1 + 39), .ref (E.1 + 40), .ref (E.1 + 41), .ref (E.1 + 42), .long (lN xa), .long (lN xb), .ref (E.1 + 43), .int (nI dt), .ref (E.1 + 44), .ref (E.1 + 45), .int (nI mo), .ref (E.1 + 46), .ref (E.1 + 47), .int (nI bn), .int (nI ta), .int (nI tl), .int (nI tk), .int (nI va), .ref (E.1 + 48), .ref (E.1 + 49)])) (H1 : h 42 = cI E 3 (nF RF)) (H2 : h 39 = cI E 218 (nF Q)) (hn : 50 ≤ n) (h32a : a < 2 ^ 32) (h32t : t < 2 ^ 32) (hn4 : Q 0 ≤ 4) (hbad : ¬ (a < Q 0 ∧ t ≤ 3)) : jC E mX8_up (3, 0, 0) [.ref (E.1 + 38), .int (nI a), .int (nI t)] h n (jR (some (.int (-2))) (hset h 42 (cI E 3 (nF (updN RF 0 (RF 0 + 1))))) n) := by
  refine J.of (L := [(0, .ref (E.1 + 38)), (1, .int (nI a)), (2, .int (nI t))]) rfl (by decide +kernel) (Nat.le_of_ble_eq_true rfl) ?_
  obtain ⟨PP, hPP⟩ : ∃ PP : jPost, PP = (jR (some (.int (-2))) (hset h 42 (cI E 3 (nF (updN RF 0 (RF 0 + 1))))) n) := ⟨_, rfl⟩
  rw [← hPP]
  refine J_aload_n dX8_up_0 rfl ?_
  refine J_iload_n dX8_up_1 rfl ?_
  refine J_callVr (M' := mX8_isAnvil) (d' := (2, 0, 0)) (rest := []) dX8_up_2 jmX8_isAnvil jlRX8_107 (ctX8_isAnvil a xa xb dt mo bn ta tl tk va Q H0 H2 (by omega) (by first | assumption | omega) (by first | assumption | omega)) H0 (by omega) jk8.1 rfl rfl (Nat.le_of_ble_eq_true rfl) (Nat.le_of_ble_eq_true rfl) ⟨Nat.le_refl _, Nat.le_refl _⟩ ?_
  refine J_if_eqB (tgt := 15) dX8_up_5 (by decide) (fun c1 => ?_) (fun c1 => ?_)
  · skip
    refine J_aload_n dX8_up_15 rfl ?_
    refine J_bipush (v := (-2)) dX8_up_16 (by decide +kernel) ?_
    refine J_callVr (M' := mX8_bad) (d' := (1, 0, 0)) (rest := []) dX8_up_18 jmX8_bad jlRX8_66 (ctX8_bad (-2) xa xb dt mo bn ta tl tk va RF H0 H1 (by omega) ) H0 (by omega) jk8.1 rfl rfl (Nat.le_of_ble_eq_true rfl) (Nat.le_of_ble_eq_true rfl) ⟨Nat.le_refl _, Nat.le_refl _⟩ ?_
    exact J_iret dX8_up_21 rfl ⟨Nat.le_refl _, Nat.le_refl _⟩ (by rw [hPP]; exact ⟨rfl, rfl, rfl⟩)
  · skip
    refine J_iload_n dX8_up_8 rfl ?_
    refine J_callSr (M' := mX8_isTemper) (d' := (2, 0, 0)) (rest := []) dX8_up_9 jmX8_isTemper jlRX8_110 (ctX8_isTemper t   (by first | assumption | omega)) rfl rfl (Nat.le_of_ble_eq_true rfl) (Nat.le_of_ble_eq_true rfl) ⟨Nat.le_refl _, Nat.le_refl _⟩ ?_
    refine J_if_neB (tgt := 22) dX8_up_12 (by decide) (fun c2 => (by exfalso; omega)) (fun c2 => ?_)
    refine J_aload_n dX8_up_15 rfl ?_
    refine J_bipush (v := (-2)) dX8_up_16 (by decide +kernel) ?_
    refine J_callVr (M' := mX8_bad) (d' := (1, 0, 0)) (rest := []) dX8_up_18 jmX8_bad jlRX8_66 (ctX8_bad (-2) xa xb dt mo bn ta tl tk va RF H0 H1 (by omega) ) H0 (by omega) jk8.1 rfl rfl (Nat.le_of_ble_eq_true rfl) (Nat.le_of_ble_eq_true rfl) ⟨Nat.le_refl _, Nat.le_refl _⟩ ?_
    exact J_iret dX8_up_21 rfl ⟨Nat.le_refl _, Nat.le_refl _⟩ (by rw [hPP]; exact ⟨rfl, rfl, rfl⟩)

set_option maxHeartbeats 1000000 in
set_option maxRecDepth 100000 in
theorem ctX8_up {E : jE} {h : Nat → va_E} {n : Nat} (a : Nat) (t : Nat) (xa : Nat) (xb : Nat) (dt : Nat) (mo : Nat) (bn : Nat) (ta : Nat) (tl : Nat) (tk : Nat) (va : Nat) (Q : Nat → Nat) (MM : Nat → Nat) (H0 : h 38 = .inr (7, [.ref (E.1 + 39), .ref (E.1 + 40), .ref (E.1 + 41), .ref (E.1 + 42), .long (lN xa), .long (lN xb), .ref (E.1 + 43), .int (nI dt), .ref (E.1 + 44), .ref (E.1 + 45), .int (nI mo), .ref (E.1 + 46), .ref (E.1 + 47), .int (nI bn), .int (nI ta), .int (nI tl), .int (nI tk), .int (nI va), .ref (E.1 + 48), .ref (E.1 + 49)])) (H1 : h 39 = cI E 218 (nF Q)) (H2 : h 43 = cI E 16 (nF MM)) (hn : 50 ≤ n) (hn4 : Q 0 ≤ 4) (hK : ∀ zz, zz < 4 → KQ Q zz ≤ 5) (hM4 : ∀ zz, zz < 16 → Q (4 + zz) ≤ 20) (hg : Q 21 ≤ 9) (hM : ∀ zz, MM zz ≤ 20) (ha : a < Q 0) (ht : t < 4) : jC E mX8_up (3, 0, 0) [.ref (E.1 + 38), .int (nI a), .int (nI t)] h n (jR (some (.int (nI (upN (KQ Q a) ((handM Q MM 16) (4 * a + t)) (Q 21))))) (hset (hset h 43 (cI E 16 (nF (handM Q MM 16)))) 38 (.inr (7, [.ref (E.1 + 39), .ref (E.1 + 40), .ref (E.1 + 41), .ref (E.1 + 42), .long (lN xa), .long (lN xb), .ref (E.1 + 43), .int (nI (Q 20)), .ref (E.1 + 44), .ref (E.1 + 45), .int (nI mo), .ref (E.1 + 46), .ref (E.1 + 47), .int (nI bn), .int (nI ta), .int (nI tl), .int (nI tk), .int (nI va), .ref (E.1 + 48), .ref (E.1 + 49)]))) n) := by
  refine J.of (L := [(0, .ref (E.1 + 38)), (1, .int (nI a)), (2, .int (nI t))]) rfl (by decide +kernel) (Nat.le_of_ble_eq_true rfl) ?_
  obtain ⟨PP, hPP⟩ : ∃ PP : jPost, PP = (jR (some (.int (nI (upN (KQ Q a) ((handM Q MM 16) (4 * a + t)) (Q 21))))) (hset (hset h 43 (cI E 16 (nF (handM Q MM 16)))) 38 (.inr (7, [.ref (E.1 + 39), .ref (E.1 + 40), .ref (E.1 + 41), .ref (E.1 + 42), .long (lN xa), .long (lN xb), .ref (E.1 + 43), .int (nI (Q 20)), .ref (E.1 + 44), .ref (E.1 + 45), .int (nI mo), .ref (E.1 + 46), .ref (E.1 + 47), .int (nI bn), .int (nI ta), .int (nI tl), .int (nI tk), .int (nI va), .ref (E.1 + 48), .ref (E.1 + 49)]))) n) := ⟨_, rfl⟩
  rw [← hPP]
  refine J_aload_n dX8_up_0 rfl ?_
  refine J_iload_n dX8_up_1 rfl ?_
  refine J_callVr (M' := mX8_isAnvil) (d' := (2, 0, 0)) (rest := []) dX8_up_2 jmX8_isAnvil jlRX8_107 (ctX8_isAnvil a xa xb dt mo bn ta tl tk va Q H0 H1 (by omega) (by first | assumption | omega) (by first | assumption | omega)) H0 (by omega) jk8.1 rfl rfl (Nat.le_of_ble_eq_true rfl) (Nat.le_of_ble_eq_true rfl) ⟨Nat.le_refl _, Nat.le_refl _⟩ ?_
  refine J_if_eqB (tgt := 15) dX8_up_5 (by decide) (fun c1 => (by exfalso; omega)) (fun c1 => ?_)
  refine J_iload_n dX8_up_8 rfl ?_
  refine J_callSr (M' := mX8_isTemper) (d' := (2, 0, 0)) (rest := []) dX8_up_9 jmX8_isTemper jlRX8_110 (ctX8_isTemper t   (by first | assumption | omega)) rfl rfl (Nat.le_of_ble_eq_true rfl) (Nat.le_of_ble_eq_true rfl) ⟨Nat.le_refl _, Nat.le_refl _⟩ ?_
  refine J_if_neB (tgt := 22) dX8_up_12 (by decide) (fun c2 => ?_) (fun c2 => (by exfalso; omega))
  refine J_aload_n dX8_up_22 rfl ?_
  refine J_callVn (M' := mX8_layHand) (d' := (1, 0, 0)) (rest := []) dX8_up_23 jmX8_layHand jlRX8_116 (ctX8_layHand xa xb dt mo bn ta tl tk va Q MM H0 H1 H2 (by omega) ) H0 (by omega) jk8.1 rfl rfl (Nat.le_of_ble_eq_true rfl) (Nat.le_of_ble_eq_true rfl) ⟨Nat.le_refl _, Nat.le_refl _⟩ ?_
  refine J_aload_n dX8_up_26 rfl ?_
  refine J_iload_n dX8_up_27 rfl ?_
  refine J_iload_n dX8_up_28 rfl ?_
  refine J_callVr (M' := mX8_upOf) (d' := (2, 0, 0)) (rest := []) dX8_up_29 jmX8_upOf jlRX8_94 (ctX8_upOf a t xa xb (Q 20) mo bn ta tl tk va Q (handM Q MM 16) hset_eq ((hset_ne (by omega)).trans ((hset_ne (by omega)).trans H1)) ((hset_ne (by omega)).trans hset_eq) (by omega) (by first | assumption | omega) (by first | assumption | omega) (by first | assumption | omega) (by exact handM_le hM4 hM) (by first | assumption | omega)) hset_eq (by omega) jk8.1 rfl rfl (Nat.le_of_ble_eq_true rfl) (Nat.le_of_ble_eq_true rfl) ⟨Nat.le_refl _, Nat.le_refl _⟩ ?_
  have fc3 : upN (KQ Q a) ((handM Q MM 16) (4 * a + t)) (Q 21) ≤ 42 := upN_le ((show ∀ zz, (handM Q MM 16) zz ≤ 20 from by exact handM_le hM4 hM) (4 * a + t))
  exact J_iret dX8_up_32 rfl ⟨Nat.le_refl _, Nat.le_refl _⟩ (by rw [hPP]; exact ⟨rfl, rfl, rfl⟩)

set_option maxHeartbeats 1000000 in
set_option maxRecDepth 100000 in
theorem ctX8_foreign_bad {E : jE} {h : Nat → va_E} {n : Nat} (a : Nat) (t : Nat) (xa : Nat) (xb : Nat) (dt : Nat) (mo : Nat) (bn : Nat) (ta : Nat) (tl : Nat) (tk : Nat) (va : Nat) (RF : Nat → Nat) (Q : Nat → Nat) (H0 : h 38 = .inr (7, [.ref (E.1 + 39), .ref (E.1 + 40), .ref (E.1 + 41), .ref (E.1 + 42), .long (lN xa), .long (lN xb), .ref (E.1 + 43), .int (nI dt), .ref (E.1 + 44), .ref (E.1 + 45), .int (nI mo), .ref (E.1 + 46), .ref (E.1 + 47), .int (nI bn), .int (nI ta), .int (nI tl), .int (nI tk), .int (nI va), .ref (E.1 + 48), .ref (E.1 + 49)])) (H1 : h 42 = cI E 3 (nF RF)) (H2 : h 39 = cI E 218 (nF Q)) (hn : 50 ≤ n) (h32a : a < 2 ^ 32) (h32t : t < 2 ^ 32) (hn4 : Q 0 ≤ 4) (hbad : ¬ (a < Q 0 ∧ t ≤ 3)) : jC E mX8_foreign (4, 0, 0) [.ref (E.1 + 38), .int (nI a), .int (nI t)] h n (jR (some (.int (-2))) (hset h 42 (cI E 3 (nF (updN RF 0 (RF 0 + 1))))) n) := by
  refine J.of (L := [(0, .ref (E.1 + 38)), (1, .int (nI a)), (2, .int (nI t))]) rfl (by decide +kernel) (Nat.le_of_ble_eq_true rfl) ?_
  obtain ⟨PP, hPP⟩ : ∃ PP : jPost, PP = (jR (some (.int (-2))) (hset h 42 (cI E 3 (nF (updN RF 0 (RF 0 + 1))))) n) := ⟨_, rfl⟩
  rw [← hPP]
  refine J_aload_n dX8_foreign_0 rfl ?_
  refine J_iload_n dX8_foreign_1 rfl ?_
  refine J_callVr (M' := mX8_isAnvil) (d' := (2, 0, 0)) (rest := []) dX8_foreign_2 jmX8_isAnvil jlRX8_107 (ctX8_isAnvil a xa xb dt mo bn ta tl tk va Q H0 H2 (by omega) (by first | assumption | omega) (by first | assumption | omega)) H0 (by omega) jk8.1 rfl rfl (Nat.le_of_ble_eq_true rfl) (Nat.le_of_ble_eq_true rfl) ⟨Nat.le_refl _, Nat.le_refl _⟩ ?_
  refine J_if_eqB (tgt := 15) dX8_foreign_5 (by decide) (fun c1 => ?_) (fun c1 => ?_)
  · skip
    refine J_aload_n dX8_foreign_15 rfl ?_
    refine J_bipush (v := (-2)) dX8_foreign_16 (by decide +kernel) ?_
    refine J_callVr (M' := mX8_bad) (d' := (1, 0, 0)) (rest := []) dX8_foreign_18 jmX8_bad jlRX8_66 (ctX8_bad (-2) xa xb dt mo bn ta tl tk va RF H0 H1 (by omega) ) H0 (by omega) jk8.1 rfl rfl (Nat.le_of_ble_eq_true rfl) (Nat.le_of_ble_eq_true rfl) ⟨Nat.le_refl _, Nat.le_refl _⟩ ?_
    exact J_iret dX8_foreign_21 rfl ⟨Nat.le_refl _, Nat.le_refl _⟩ (by rw [hPP]; exact ⟨rfl, rfl, rfl⟩)
  · skip
    refine J_iload_n dX8_foreign_8 rfl ?_
    refine J_callSr (M' := mX8_isTemper) (d' := (2, 0, 0)) (rest := []) dX8_foreign_9 jmX8_isTemper jlRX8_110 (ctX8_isTemper t   (by first | assumption | omega)) rfl rfl (Nat.le_of_ble_eq_true rfl) (Nat.le_of_ble_eq_true rfl) ⟨Nat.le_refl _, Nat.le_refl _⟩ ?_
    refine J_if_neB (tgt := 22) dX8_foreign_12 (by decide) (fun c2 => (by exfalso; omega)) (fun c2 => ?_)
    refine J_aload_n dX8_foreign_15 rfl ?_
    refine J_bipush (v := (-2)) dX8_foreign_16 (by decide +kernel) ?_
    refine J_callVr (M' := mX8_bad) (d' := (1, 0, 0)) (rest := []) dX8_foreign_18 jmX8_bad jlRX8_66 (ctX8_bad (-2) xa xb dt mo bn ta tl tk va RF H0 H1 (by omega) ) H0 (by omega) jk8.1 rfl rfl (Nat.le_of_ble_eq_true rfl) (Nat.le_of_ble_eq_true rfl) ⟨Nat.le_refl _, Nat.le_refl _⟩ ?_
    exact J_iret dX8_foreign_21 rfl ⟨Nat.le_refl _, Nat.le_refl _⟩ (by rw [hPP]; exact ⟨rfl, rfl, rfl⟩)

set_option maxHeartbeats 1000000 in
set_option maxRecDepth 100000 in
theorem ctX8_foreign {E : jE} {h : Nat → va_E} {n : Nat} (a : Nat) (t : Nat) (xa : Nat) (xb : Nat) (dt : Nat) (mo : Nat) (bn : Nat) (ta : Nat) (tl : Nat) (tk : Nat) (va : Nat) (Q : Nat → Nat) (MM : Nat → Nat) (H0 : h 38 = .inr (7, [.ref (E.1 + 39), .ref (E.1 + 40), .ref (E.1 + 41), .ref (E.1 + 42), .long (lN xa), .long (lN xb), .ref (E.1 + 43), .int (nI dt), .ref (E.1 + 44), .ref (E.1 + 45), .int (nI mo), .ref (E.1 + 46), .ref (E.1 + 47), .int (nI bn), .int (nI ta), .int (nI tl), .int (nI tk), .int (nI va), .ref (E.1 + 48), .ref (E.1 + 49)])) (H1 : h 39 = cI E 218 (nF Q)) (H2 : h 43 = cI E 16 (nF MM)) (hn : 50 ≤ n) (hn4 : Q 0 ≤ 4) (hK : ∀ zz, zz < 4 → KQ Q zz ≤ 5) (hM4 : ∀ zz, zz < 16 → Q (4 + zz) ≤ 20) (hg : Q 21 ≤ 9) (hM : ∀ zz, MM zz ≤ 20) (ha : a < Q 0) (ht : t < 4) : jC E mX8_foreign (4, 0, 0) [.ref (E.1 + 38), .int (nI a), .int (nI t)] h n (jR (some (.int (nI (fgnN (KQ Q) (handM Q MM 16) (Q 21) a t 4)))) (hset (hset h 43 (cI E 16 (nF (handM Q MM 16)))) 38 (.inr (7, [.ref (E.1 + 39), .ref (E.1 + 40), .ref (E.1 + 41), .ref (E.1 + 42), .long (lN xa), .long (lN xb), .ref (E.1 + 43), .int (nI (Q 20)), .ref (E.1 + 44), .ref (E.1 + 45), .int (nI mo), .ref (E.1 + 46), .ref (E.1 + 47), .int (nI bn), .int (nI ta), .int (nI tl), .int (nI tk), .int (nI va), .ref (E.1 + 48), .ref (E.1 + 49)]))) n) := by
  refine J.of (L := [(0, .ref (E.1 + 38)), (1, .int (nI a)), (2, .int (nI t))]) rfl (by decide +kernel) (Nat.le_of_ble_eq_true rfl) ?_
  obtain ⟨PP, hPP⟩ : ∃ PP : jPost, PP = (jR (some (.int (nI (fgnN (KQ Q) (handM Q MM 16) (Q 21) a t 4)))) (hset (hset h 43 (cI E 16 (nF (handM Q MM 16)))) 38 (.inr (7, [.ref (E.1 + 39), .ref (E.1 + 40), .ref (E.1 + 41), .ref (E.1 + 42), .long (lN xa), .long (lN xb), .ref (E.1 + 43), .int (nI (Q 20)), .ref (E.1 + 44), .ref (E.1 + 45), .int (nI mo), .ref (E.1 + 46), .ref (E.1 + 47), .int (nI bn), .int (nI ta), .int (nI tl), .int (nI tk), .int (nI va), .ref (E.1 + 48), .ref (E.1 + 49)]))) n) := ⟨_, rfl⟩
  rw [← hPP]
  refine J_aload_n dX8_foreign_0 rfl ?_
  refine J_iload_n dX8_foreign_1 rfl ?_
  refine J_callVr (M' := mX8_isAnvil) (d' := (2, 0, 0)) (rest := []) dX8_foreign_2 jmX8_isAnvil jlRX8_107 (ctX8_isAnvil a xa xb dt mo bn ta tl tk va Q H0 H1 (by omega) (by first | assumption | omega) (by first | assumption | omega)) H0 (by omega) jk8.1 rfl rfl (Nat.le_of_ble_eq_true rfl) (Nat.le_of_ble_eq_true rfl) ⟨Nat.le_refl _, Nat.le_refl _⟩ ?_
  refine J_if_eqB (tgt := 15) dX8_foreign_5 (by decide) (fun c1 => (by exfalso; omega)) (fun c1 => ?_)
  refine J_iload_n dX8_foreign_8 rfl ?_
  refine J_callSr (M' := mX8_isTemper) (d' := (2, 0, 0)) (rest := []) dX8_foreign_9 jmX8_isTemper jlRX8_110 (ctX8_isTemper t   (by first | assumption | omega)) rfl rfl (Nat.le_of_ble_eq_true rfl) (Nat.le_of_ble_eq_true rfl) ⟨Nat.le_refl _, Nat.le_refl _⟩ ?_
  refine J_if_neB (tgt := 22) dX8_foreign_12 (by decide) (fun c2 => ?_) (fun c2 => (by exfalso; omega))
  refine J_aload_n dX8_foreign_22 rfl ?_
  refine J_callVn (M' := mX8_layHand) (d' := (1, 0, 0)) (rest := []) dX8_foreign_23 jmX8_layHand jlRX8_116 (ctX8_layHand xa xb dt mo bn ta tl tk va Q MM H0 H1 H2 (by omega) ) H0 (by omega) jk8.1 rfl rfl (Nat.le_of_ble_eq_true rfl) (Nat.le_of_ble_eq_true rfl) ⟨Nat.le_refl _, Nat.le_refl _⟩ ?_
  refine J_aload_n dX8_foreign_26 rfl ?_
  refine J_iload_n dX8_foreign_27 rfl ?_
  refine J_iload_n dX8_foreign_28 rfl ?_
  refine J_callVr (M' := mX8_foreignOf) (d' := (3, 0, 0)) (rest := []) dX8_foreign_29 jmX8_foreignOf jlRX8_98 (ctX8_foreignOf a t xa xb (Q 20) mo bn ta tl tk va Q (handM Q MM 16) hset_eq ((hset_ne (by omega)).trans ((hset_ne (by omega)).trans H1)) ((hset_ne (by omega)).trans hset_eq) (by omega) (by first | assumption | omega) (by first | assumption | omega) (by first | assumption | omega) (by exact handM_le hM4 hM) (by first | assumption | omega)) hset_eq (by omega) jk8.1 rfl rfl (Nat.le_of_ble_eq_true rfl) (Nat.le_of_ble_eq_true rfl) ⟨Nat.le_refl _, Nat.le_refl _⟩ ?_
  have fc3 : fgnN (KQ Q) (handM Q MM 16) (Q 21) a t 4 ≤ 42 * 4 := fgnN_le (show ∀ zz, (handM Q MM 16) zz ≤ 20 from by exact handM_le hM4 hM) 4
  exact J_iret dX8_foreign_32 rfl ⟨Nat.le_refl _, Nat.le_refl _⟩ (by rw [hPP]; exact ⟨rfl, rfl, rfl⟩)

set_option maxHeartbeats 1000000 in
set_option maxRecDepth 100000 in
theorem ctX8_then_bad {E : jE} {h : Nat → va_E} {n : Nat} (a : Nat) (t : Nat) (x : Nat) (xa : Nat) (xb : Nat) (dt : Nat) (mo : Nat) (bn : Nat) (ta : Nat) (tl : Nat) (tk : Nat) (va : Nat) (RF : Nat → Nat) (Q : Nat → Nat) (H0 : h 38 = .inr (7, [.ref (E.1 + 39), .ref (E.1 + 40), .ref (E.1 + 41), .ref (E.1 + 42), .long (lN xa), .long (lN xb), .ref (E.1 + 43), .int (nI dt), .ref (E.1 + 44), .ref (E.1 + 45), .int (nI mo), .ref (E.1 + 46), .ref (E.1 + 47), .int (nI bn), .int (nI ta), .int (nI tl), .int (nI tk), .int (nI va), .ref (E.1 + 48), .ref (E.1 + 49)])) (H1 : h 42 = cI E 3 (nF RF)) (H2 : h 39 = cI E 218 (nF Q)) (hn : 50 ≤ n) (h32a : a < 2 ^ 32) (h32t : t < 2 ^ 32) (h32x : x < 2 ^ 32) (hn4 : Q 0 ≤ 4) (hbad : ¬ (a < Q 0 ∧ t ≤ 3 ∧ x ≤ 90)) : jC E mX8_then (3, 0, 0) [.ref (E.1 + 38), .int (nI a), .int (nI t), .int (nI x)] h n (jR (some (.int (-2))) (hset h 42 (cI E 3 (nF (updN RF 0 (RF 0 + 1))))) n) := by
  refine J.of (L := [(0, .ref (E.1 + 38)), (1, .int (nI a)), (2, .int (nI t)), (3, .int (nI x))]) rfl (by decide +kernel) (Nat.le_of_ble_eq_true rfl) ?_
  obtain ⟨PP, hPP⟩ : ∃ PP : jPost, PP = (jR (some (.int (-2))) (hset h 42 (cI E 3 (nF (updN RF 0 (RF 0 + 1))))) n) := ⟨_, rfl⟩
  rw [← hPP]
  refine J_aload_n dX8_then_0 rfl ?_
  refine J_iload_n dX8_then_1 rfl ?_
  refine J_callVr (M' := mX8_isAnvil) (d' := (2, 0, 0)) (rest := []) dX8_then_2 jmX8_isAnvil jlRX8_107 (ctX8_isAnvil a xa xb dt mo bn ta tl tk va Q H0 H2 (by omega) (by first | assumption | omega) (by first | assumption | omega)) H0 (by omega) jk8.1 rfl rfl (Nat.le_of_ble_eq_true rfl) (Nat.le_of_ble_eq_true rfl) ⟨Nat.le_refl _, Nat.le_refl _⟩ ?_
  refine J_if_eqB (tgt := 27) dX8_then_5 (by decide) (fun c1 => ?_) (fun c1 => ?_)
  · skip
    refine J_aload_n dX8_then_27 rfl ?_
    refine J_bipush (v := (-2)) dX8_then_28 (by decide +kernel) ?_
    refine J_callVr (M' := mX8_bad) (d' := (1, 0, 0)) (rest := []) dX8_then_30 jmX8_bad jlRX8_66 (ctX8_bad (-2) xa xb dt mo bn ta tl tk va RF H0 H1 (by omega) ) H0 (by omega) jk8.1 rfl rfl (Nat.le_of_ble_eq_true rfl) (Nat.le_of_ble_eq_true rfl) ⟨Nat.le_refl _, Nat.le_refl _⟩ ?_
    exact J_iret dX8_then_33 rfl ⟨Nat.le_refl _, Nat.le_refl _⟩ (by rw [hPP]; exact ⟨rfl, rfl, rfl⟩)
  · skip
    refine J_iload_n dX8_then_8 rfl ?_
    refine J_callSr (M' := mX8_isTemper) (d' := (2, 0, 0)) (rest := []) dX8_then_9 jmX8_isTemper jlRX8_110 (ctX8_isTemper t   (by first | assumption | omega)) rfl rfl (Nat.le_of_ble_eq_true rfl) (Nat.le_of_ble_eq_true rfl) ⟨Nat.le_refl _, Nat.le_refl _⟩ ?_
    refine J_if_eqB (tgt := 27) dX8_then_12 (by decide) (fun c2 => ?_) (fun c2 => ?_)
    · skip
      refine J_aload_n dX8_then_27 rfl ?_
      refine J_bipush (v := (-2)) dX8_then_28 (by decide +kernel) ?_
      refine J_callVr (M' := mX8_bad) (d' := (1, 0, 0)) (rest := []) dX8_then_30 jmX8_bad jlRX8_66 (ctX8_bad (-2) xa xb dt mo bn ta tl tk va RF H0 H1 (by omega) ) H0 (by omega) jk8.1 rfl rfl (Nat.le_of_ble_eq_true rfl) (Nat.le_of_ble_eq_true rfl) ⟨Nat.le_refl _, Nat.le_refl _⟩ ?_
      exact J_iret dX8_then_33 rfl ⟨Nat.le_refl _, Nat.le_refl _⟩ (by rw [hPP]; exact ⟨rfl, rfl, rfl⟩)
    · skip
      refine J_iload_n dX8_then_15 rfl ?_
      refine J_i2l (v := (nI x).toInt64) dX8_then_16 rfl ?_
      refine J_lconst (v := lN 0) dX8_then_17 (by decide +kernel) ?_
      refine J_ldc2 dX8_then_18 jqRX8_135 ?_
      refine J.stk (st' := .long (lN 90) :: [.long (lN 0), .long (nI x).toInt64]) rfl ?_
      refine J_callSr (M' := mX8_in) (d' := (1, 0, 0)) (rest := []) dX8_then_21 jmX8_in jlRX8_56 (ctX8_in x 0 90   (by first | assumption | omega) (by first | assumption | omega) (by first | assumption | omega)) rfl rfl (Nat.le_of_ble_eq_true rfl) (Nat.le_of_ble_eq_true rfl) ⟨Nat.le_refl _, Nat.le_refl _⟩ ?_
      refine J_if_neB (tgt := 34) dX8_then_24 (by decide) (fun c3 => (by exfalso; omega)) (fun c3 => ?_)
      refine J_aload_n dX8_then_27 rfl ?_
      refine J_bipush (v := (-2)) dX8_then_28 (by decide +kernel) ?_
      refine J_callVr (M' := mX8_bad) (d' := (1, 0, 0)) (rest := []) dX8_then_30 jmX8_bad jlRX8_66 (ctX8_bad (-2) xa xb dt mo bn ta tl tk va RF H0 H1 (by omega) ) H0 (by omega) jk8.1 rfl rfl (Nat.le_of_ble_eq_true rfl) (Nat.le_of_ble_eq_true rfl) ⟨Nat.le_refl _, Nat.le_refl _⟩ ?_
      exact J_iret dX8_then_33 rfl ⟨Nat.le_refl _, Nat.le_refl _⟩ (by rw [hPP]; exact ⟨rfl, rfl, rfl⟩)

set_option maxHeartbeats 1000000 in
set_option maxRecDepth 100000 in
theorem ctX8_then {E : jE} {h : Nat → va_E} {n : Nat} (a : Nat) (t : Nat) (x : Nat) (xa : Nat) (xb : Nat) (dt : Nat) (mo : Nat) (bn : Nat) (ta : Nat) (tl : Nat) (tk : Nat) (va : Nat) (Q : Nat → Nat) (MM : Nat → Nat) (H0 : h 38 = .inr (7, [.ref (E.1 + 39), .ref (E.1 + 40), .ref (E.1 + 41), .ref (E.1 + 42), .long (lN xa), .long (lN xb), .ref (E.1 + 43), .int (nI dt), .ref (E.1 + 44), .ref (E.1 + 45), .int (nI mo), .ref (E.1 + 46), .ref (E.1 + 47), .int (nI bn), .int (nI ta), .int (nI tl), .int (nI tk), .int (nI va), .ref (E.1 + 48), .ref (E.1 + 49)])) (H1 : h 39 = cI E 218 (nF Q)) (H2 : h 43 = cI E 16 (nF MM)) (hn : 50 ≤ n) (hn4 : Q 0 ≤ 4) (hK : ∀ zz, zz < 4 → KQ Q zz ≤ 5) (hM4 : ∀ zz, zz < 16 → Q (4 + zz) ≤ 20) (hg : Q 21 ≤ 9) (hM : ∀ zz, MM zz ≤ 20) (hd9 : Q 20 ≤ 999) (ha : a < Q 0) (ht : t < 4) (hx : x ≤ 90) : jC E mX8_then (3, 0, 0) [.ref (E.1 + 38), .int (nI a), .int (nI t), .int (nI x)] h n (jR (some (.int (nI (dayI (KQ Q) (handM Q MM 16) (Q 0) (Q 20) x (4 * a + t))))) (hset (hset h 43 (cI E 16 (nF (dayI (KQ Q) (handM Q MM 16) (Q 0) (Q 20) x)))) 38 (.inr (7, [.ref (E.1 + 39), .ref (E.1 + 40), .ref (E.1 + 41), .ref (E.1 + 42), .long (lN xa), .long (lN xb), .ref (E.1 + 43), .int (nI (Q 20 + x)), .ref (E.1 + 44), .ref (E.1 + 45), .int (nI mo), .ref (E.1 + 46), .ref (E.1 + 47), .int (nI bn), .int (nI ta), .int (nI tl), .int (nI tk), .int (nI va), .ref (E.1 + 48), .ref (E.1 + 49)]))) n) := by
  refine J.of (L := [(0, .ref (E.1 + 38)), (1, .int (nI a)), (2, .int (nI t)), (3, .int (nI x))]) rfl (by decide +kernel) (Nat.le_of_ble_eq_true rfl) ?_
  obtain ⟨PP, hPP⟩ : ∃ PP : jPost, PP = (jR (some (.int (nI (dayI (KQ Q) (handM Q MM 16) (Q 0) (Q 20) x (4 * a + t))))) (hset (hset h 43 (cI E 16 (nF (dayI (KQ Q) (handM Q MM 16) (Q 0) (Q 20) x)))) 38 (.inr (7, [.ref (E.1 + 39), .ref (E.1 + 40), .ref (E.1 + 41), .ref (E.1 + 42), .long (lN xa), .long (lN xb), .ref (E.1 + 43), .int (nI (Q 20 + x)), .ref (E.1 + 44), .ref (E.1 + 45), .int (nI mo), .ref (E.1 + 46), .ref (E.1 + 47), .int (nI bn), .int (nI ta), .int (nI tl), .int (nI tk), .int (nI va), .ref (E.1 + 48), .ref (E.1 + 49)]))) n) := ⟨_, rfl⟩
  rw [← hPP]
  refine J_aload_n dX8_then_0 rfl ?_
  refine J_iload_n dX8_then_1 rfl ?_
  refine J_callVr (M' := mX8_isAnvil) (d' := (2, 0, 0)) (rest := []) dX8_then_2 jmX8_isAnvil jlRX8_107 (ctX8_isAnvil a xa xb dt mo bn ta tl tk va Q H0 H1 (by omega) (by first | assumption | omega) (by first | assumption | omega)) H0 (by omega) jk8.1 rfl rfl (Nat.le_of_ble_eq_true rfl) (Nat.le_of_ble_eq_true rfl) ⟨Nat.le_refl _, Nat.le_refl _⟩ ?_
  refine J_if_eqB (tgt := 27) dX8_then_5 (by decide) (fun c1 => (by exfalso; omega)) (fun c1 => ?_)
  refine J_iload_n dX8_then_8 rfl ?_
  refine J_callSr (M' := mX8_isTemper) (d' := (2, 0, 0)) (rest := []) dX8_then_9 jmX8_isTemper jlRX8_110 (ctX8_isTemper t   (by first | assumption | omega)) rfl rfl (Nat.le_of_ble_eq_true rfl) (Nat.le_of_ble_eq_true rfl) ⟨Nat.le_refl _, Nat.le_refl _⟩ ?_
  refine J_if_eqB (tgt := 27) dX8_then_12 (by decide) (fun c2 => (by exfalso; omega)) (fun c2 => ?_)
  refine J_iload_n dX8_then_15 rfl ?_
  refine J_i2l (v := (nI x).toInt64) dX8_then_16 rfl ?_
  refine J_lconst (v := lN 0) dX8_then_17 (by decide +kernel) ?_
  refine J_ldc2 dX8_then_18 jqRX8_135 ?_
  refine J.stk (st' := .long (lN 90) :: [.long (lN 0), .long (nI x).toInt64]) rfl ?_
  refine J_callSr (M' := mX8_in) (d' := (1, 0, 0)) (rest := []) dX8_then_21 jmX8_in jlRX8_56 (ctX8_in x 0 90   (by first | assumption | omega) (by first | assumption | omega) (by first | assumption | omega)) rfl rfl (Nat.le_of_ble_eq_true rfl) (Nat.le_of_ble_eq_true rfl) ⟨Nat.le_refl _, Nat.le_refl _⟩ ?_
  refine J_if_neB (tgt := 34) dX8_then_24 (by decide) (fun c3 => ?_) (fun c3 => (by exfalso; omega))
  refine J_aload_n dX8_then_34 rfl ?_
  refine J_callVn (M' := mX8_layHand) (d' := (1, 0, 0)) (rest := []) dX8_then_35 jmX8_layHand jlRX8_116 (ctX8_layHand xa xb dt mo bn ta tl tk va Q MM H0 H1 H2 (by omega) ) H0 (by omega) jk8.1 rfl rfl (Nat.le_of_ble_eq_true rfl) (Nat.le_of_ble_eq_true rfl) ⟨Nat.le_refl _, Nat.le_refl _⟩ ?_
  refine J_iconst (v := nI 0) dX8_then_38 (by decide +kernel) ?_
  refine J_istore dX8_then_39 (Nat.le_of_ble_eq_true rfl) (L' := [(4, .int (nI 0)), (0, .ref (E.1 + 38)), (1, .int (nI a)), (2, .int (nI t)), (3, .int (nI x))]) rfl ?_
  have CUT41 : ∀ (f41 : Nat) (i : Nat) (hm41 : x - i < f41) (hi : i ≤ x), J E mX8_then (3, 0, 0) jS0 PP (hset (hset h 43 (cI E 16 (nF (dayI (KQ Q) (handM Q MM 16) (Q 0) (Q 20) i)))) 38 (.inr (7, [.ref (E.1 + 39), .ref (E.1 + 40), .ref (E.1 + 41), .ref (E.1 + 42), .long (lN xa), .long (lN xb), .ref (E.1 + 43), .int (nI (Q 20 + i)), .ref (E.1 + 44), .ref (E.1 + 45), .int (nI mo), .ref (E.1 + 46), .ref (E.1 + 47), .int (nI bn), .int (nI ta), .int (nI tl), .int (nI tk), .int (nI va), .ref (E.1 + 48), .ref (E.1 + 49)]))) n (0, 0) 41 [(4, .int (nI i)), (0, .ref (E.1 + 38)), (1, .int (nI a)), (2, .int (nI t)), (3, .int (nI x))] [] := by
    intro f41
    induction f41 with
    | zero => intro i hm41; exact absurd hm41 (Nat.not_lt_zero _)
    | succ f41 ih41 =>
      intro i hm41 hi
      refine J_iload dX8_then_41 rfl ?_
      refine J_iload_n dX8_then_43 rfl ?_
      refine J_icmp_geW (tgt := 57) dX8_then_44 (by decide) (by omega) (by omega) (fun c4 => ?_) (fun c4 => ?_)
      · skip
        have ix : i = x := by omega
        subst ix
        refine J_aload_n dX8_then_57 rfl ?_
        refine J_get 6 dX8_then_58 jk8 (Nat.le_of_ble_eq_true rfl) jfRX8_27 hset_eq (by omega) rfl ?_
        refine J_iconst (v := nI 4) dX8_then_61 (by decide +kernel) ?_
        refine J_iload_n dX8_then_62 rfl ?_
        refine J_imulN dX8_then_63 ?_
        refine J_iload_n dX8_then_64 rfl ?_
        refine J_iaddN dX8_then_65 ?_
        refine J_ialdN (i := (4 * a) + t) dX8_then_66 ((hset_ne (by omega)).trans hset_eq) (by omega) (by omega) (by omega) ?_
        exact J_iret dX8_then_67 rfl ⟨Nat.le_refl _, Nat.le_refl _⟩ (by rw [hPP]; exact ⟨(congrArg some (jv_N (by rfl))), (hset_cg (hset_cg rfl (cI_cg (by intro z; rfl))) (congrArg (fun z => (Sum.inr (7, z) : va_E)) (jS_c rfl (jS_c rfl (jS_c rfl (jS_c rfl (jS_c rfl (jS_c rfl (jS_c rfl (jS_c (jv_N (by rfl)) (jS_c rfl (jS_c rfl (jS_c rfl (jS_c rfl (jS_c rfl (jS_c rfl (jS_c rfl (jS_c rfl (jS_c rfl (jS_c rfl (jS_c rfl (jS_c rfl rfl)))))))))))))))))))))), rfl⟩)
      · skip
        refine J_aload_n dX8_then_47 rfl ?_
        refine J_callVn (M' := mX8_goDay) (d' := (2, 0, 0)) (rest := []) dX8_then_48 jmX8_goDay jlRX8_127 (ctX8_goDay xa xb (Q 20 + i) mo bn ta tl tk va Q (dayI (KQ Q) (handM Q MM 16) (Q 0) (Q 20) i) hset_eq ((hset_ne (by omega)).trans ((hset_ne (by omega)).trans H1)) ((hset_ne (by omega)).trans hset_eq) (by omega) (by first | assumption | omega) (by first | assumption | omega) (by exact dayI_le (handM_le hM4 hM) i) (by first | assumption | omega)) hset_eq (by omega) jk8.1 rfl rfl (Nat.le_of_ble_eq_true rfl) (Nat.le_of_ble_eq_true rfl) ⟨Nat.le_refl _, Nat.le_refl _⟩ ?_
        refine J.cast ((hset_cg ((hset_comm (by omega)).trans (hset_cg hset_hset rfl)) rfl).trans hset_hset) ?_
        refine J_iincN (q := 0) (a := i) (m := 1) dX8_then_51 rfl (by decide +kernel) (Nat.le_of_ble_eq_true rfl) (L' := [(4, .int (nI (i + 1))), (0, .ref (E.1 + 38)), (1, .int (nI a)), (2, .int (nI t)), (3, .int (nI x))]) rfl ?_
        refine J_goto (tgt := 41) dX8_then_54 (by decide) ?_
        refine J.eqs (h' := (hset (hset h 43 (cI E 16 (nF (dayI (KQ Q) (handM Q MM 16) (Q 0) (Q 20) (i + 1))))) 38 (.inr (7, [.ref (E.1 + 39), .ref (E.1 + 40), .ref (E.1 + 41), .ref (E.1 + 42), .long (lN xa), .long (lN xb), .ref (E.1 + 43), .int (nI (Q 20 + (i + 1))), .ref (E.1 + 44), .ref (E.1 + 45), .int (nI mo), .ref (E.1 + 46), .ref (E.1 + 47), .int (nI bn), .int (nI ta), .int (nI tl), .int (nI tk), .int (nI va), .ref (E.1 + 48), .ref (E.1 + 49)])))) (L' := [(4, .int (nI (i + 1))), (0, .ref (E.1 + 38)), (1, .int (nI a)), (2, .int (nI t)), (3, .int (nI x))]) (st' := []) (hset_cg (hset_cg rfl (cI_cg (by intro z; first | rfl | omega))) (congrArg (fun z => (Sum.inr (7, z) : va_E)) (jS_c rfl (jS_c rfl (jS_c rfl (jS_c rfl (jS_c rfl (jS_c rfl (jS_c rfl (jS_c (jv_N (by first | rfl | omega)) (jS_c rfl (jS_c rfl (jS_c rfl (jS_c rfl (jS_c rfl (jS_c rfl (jS_c rfl (jS_c rfl (jS_c rfl (jS_c rfl (jS_c rfl (jS_c rfl rfl)))))))))))))))))))))) rfl rfl ?_
        exact ih41 (i + 1) (by omega) (by first | assumption | omega)
  refine J.eqs (h' := (hset (hset h 43 (cI E 16 (nF (dayI (KQ Q) (handM Q MM 16) (Q 0) (Q 20) 0)))) 38 (.inr (7, [.ref (E.1 + 39), .ref (E.1 + 40), .ref (E.1 + 41), .ref (E.1 + 42), .long (lN xa), .long (lN xb), .ref (E.1 + 43), .int (nI (Q 20 + 0)), .ref (E.1 + 44), .ref (E.1 + 45), .int (nI mo), .ref (E.1 + 46), .ref (E.1 + 47), .int (nI bn), .int (nI ta), .int (nI tl), .int (nI tk), .int (nI va), .ref (E.1 + 48), .ref (E.1 + 49)])))) (L' := [(4, .int (nI 0)), (0, .ref (E.1 + 38)), (1, .int (nI a)), (2, .int (nI t)), (3, .int (nI x))]) (st' := []) (hset_cg (hset_cg rfl (cI_cg (by intro z; first | rfl | omega))) (congrArg (fun z => (Sum.inr (7, z) : va_E)) (jS_c rfl (jS_c rfl (jS_c rfl (jS_c rfl (jS_c rfl (jS_c rfl (jS_c rfl (jS_c (jv_N (by first | rfl | omega)) (jS_c rfl (jS_c rfl (jS_c rfl (jS_c rfl (jS_c rfl (jS_c rfl (jS_c rfl (jS_c rfl (jS_c rfl (jS_c rfl (jS_c rfl (jS_c rfl rfl)))))))))))))))))))))) rfl rfl ?_
  exact CUT41 (x - 0 + 1) 0 (Nat.lt_succ_self _) (by first | assumption | omega)

set_option maxHeartbeats 1000000 in
set_option maxRecDepth 100000 in
theorem ctX8_sumOf {E : jE} {h : Nat → va_E} {n : Nat} (a : Nat) (xa : Nat) (xb : Nat) (dt : Nat) (mo : Nat) (bn : Nat) (ta : Nat) (tl : Nat) (tk : Nat) (va : Nat) (MM : Nat → Nat) (H0 : h 38 = .inr (7, [.ref (E.1 + 39), .ref (E.1 + 40), .ref (E.1 + 41), .ref (E.1 + 42), .long (lN xa), .long (lN xb), .ref (E.1 + 43), .int (nI dt), .ref (E.1 + 44), .ref (E.1 + 45), .int (nI mo), .ref (E.1 + 46), .ref (E.1 + 47), .int (nI bn), .int (nI ta), .int (nI tl), .int (nI tk), .int (nI va), .ref (E.1 + 48), .ref (E.1 + 49)])) (H1 : h 43 = cI E 16 (nF MM)) (hn : 50 ≤ n) (ha : a < 4) (hM : ∀ zz, MM zz ≤ 20) : jC E mX8_sumOf (1, 0, 0) [.ref (E.1 + 38), .int (nI a)] h n (jR (some (.int (nI (sumM MM a)))) h n) := by
  refine J.of (L := [(0, .ref (E.1 + 38)), (1, .int (nI a))]) rfl (by decide +kernel) (Nat.le_of_ble_eq_true rfl) ?_
  obtain ⟨PP, hPP⟩ : ∃ PP : jPost, PP = (jR (some (.int (nI (sumM MM a)))) h n) := ⟨_, rfl⟩
  rw [← hPP]
  refine J_iconst (v := nI 0) dX8_sumOf_0 (by decide +kernel) ?_
  refine J_istore_n dX8_sumOf_1 (Nat.le_of_ble_eq_true rfl) (L' := [(2, .int (nI 0)), (0, .ref (E.1 + 38)), (1, .int (nI a))]) rfl ?_
  refine J_iconst (v := nI 0) dX8_sumOf_2 (by decide +kernel) ?_
  refine J_istore_n dX8_sumOf_3 (Nat.le_of_ble_eq_true rfl) (L' := [(3, .int (nI 0)), (2, .int (nI 0)), (0, .ref (E.1 + 38)), (1, .int (nI a))]) rfl ?_
  refine J_iload_n dX8_sumOf_4 rfl ?_
  refine J_iconst (v := nI 4) dX8_sumOf_5 (by decide +kernel) ?_
  refine J_icmp_geN (tgt := 28) dX8_sumOf_6 (by decide) (by omega) (by omega) (fun z => absurd z (by decide)) (fun _ => ?_)
  refine J_iload_n dX8_sumOf_9 rfl ?_
  refine J_aload_n dX8_sumOf_10 rfl ?_
  refine J_get 6 dX8_sumOf_11 jk8 (Nat.le_of_ble_eq_true rfl) jfRX8_27 H0 (by omega) rfl ?_
  refine J_iconst (v := nI 4) dX8_sumOf_14 (by decide +kernel) ?_
  refine J_iload_n dX8_sumOf_15 rfl ?_
  refine J_imulN dX8_sumOf_16 ?_
  refine J_iload_n dX8_sumOf_17 rfl ?_
  refine J_iaddN dX8_sumOf_18 ?_
  refine J_ialdN (i := (4 * a) + 0) dX8_sumOf_19 H1 (by omega) (by omega) (by omega) ?_
  refine J_iaddN dX8_sumOf_20 ?_
  refine J_istore_n dX8_sumOf_21 (Nat.le_of_ble_eq_true rfl) (L' := [(2, .int (nI (0 + (MM ((4 * a) + 0))))), (3, .int (nI 0)), (0, .ref (E.1 + 38)), (1, .int (nI a))]) rfl ?_
  refine J_iincN (q := 1) (a := 0) (m := 1) dX8_sumOf_22 rfl (by decide +kernel) (Nat.le_of_ble_eq_true rfl) (L' := [(3, .int (nI 1)), (2, .int (nI (0 + (MM ((4 * a) + 0))))), (0, .ref (E.1 + 38)), (1, .int (nI a))]) rfl ?_
  refine J_goto (tgt := 4) dX8_sumOf_25 (by decide) ?_
  refine J_iload_n dX8_sumOf_4 rfl ?_
  refine J_iconst (v := nI 4) dX8_sumOf_5 (by decide +kernel) ?_
  refine J_icmp_geN (tgt := 28) dX8_sumOf_6 (by decide) (by omega) (by omega) (fun z => absurd z (by decide)) (fun _ => ?_)
  refine J_iload_n dX8_sumOf_9 rfl ?_
  refine J_aload_n dX8_sumOf_10 rfl ?_
  refine J_get 6 dX8_sumOf_11 jk8 (Nat.le_of_ble_eq_true rfl) jfRX8_27 H0 (by omega) rfl ?_
  refine J_iconst (v := nI 4) dX8_sumOf_14 (by decide +kernel) ?_
  refine J_iload_n dX8_sumOf_15 rfl ?_
  refine J_imulN dX8_sumOf_16 ?_
  refine J_iload_n dX8_sumOf_17 rfl ?_
  refine J_iaddN dX8_sumOf_18 ?_
  refine J_ialdN (i := (4 * a) + 1) dX8_sumOf_19 H1 (by omega) (by omega) (by omega) ?_
  refine J_iaddN dX8_sumOf_20 ?_
  refine J_istore_n dX8_sumOf_21 (Nat.le_of_ble_eq_true rfl) (L' := [(2, .int (nI ((0 + (MM ((4 * a) + 0))) + (MM ((4 * a) + 1))))), (3, .int (nI 1)), (0, .ref (E.1 + 38)), (1, .int (nI a))]) rfl ?_
  refine J_iincN (q := 1) (a := 1) (m := 1) dX8_sumOf_22 rfl (by decide +kernel) (Nat.le_of_ble_eq_true rfl) (L' := [(3, .int (nI 2)), (2, .int (nI ((0 + (MM ((4 * a) + 0))) + (MM ((4 * a) + 1))))), (0, .ref (E.1 + 38)), (1, .int (nI a))]) rfl ?_
  refine J_goto (tgt := 4) dX8_sumOf_25 (by decide) ?_
  refine J_iload_n dX8_sumOf_4 rfl ?_
  refine J_iconst (v := nI 4) dX8_sumOf_5 (by decide +kernel) ?_
  refine J_icmp_geN (tgt := 28) dX8_sumOf_6 (by decide) (by omega) (by omega) (fun z => absurd z (by decide)) (fun _ => ?_)
  refine J_iload_n dX8_sumOf_9 rfl ?_
  refine J_aload_n dX8_sumOf_10 rfl ?_
  refine J_get 6 dX8_sumOf_11 jk8 (Nat.le_of_ble_eq_true rfl) jfRX8_27 H0 (by omega) rfl ?_
  refine J_iconst (v := nI 4) dX8_sumOf_14 (by decide +kernel) ?_
  refine J_iload_n dX8_sumOf_15 rfl ?_
  refine J_imulN dX8_sumOf_16 ?_
  refine J_iload_n dX8_sumOf_17 rfl ?_
  refine J_iaddN dX8_sumOf_18 ?_
  refine J_ialdN (i := (4 * a) + 2) dX8_sumOf_19 H1 (by omega) (by omega) (by omega) ?_
  refine J_iaddN dX8_sumOf_20 ?_
  refine J_istore_n dX8_sumOf_21 (Nat.le_of_ble_eq_true rfl) (L' := [(2, .int (nI (((0 + (MM ((4 * a) + 0))) + (MM ((4 * a) + 1))) + (MM ((4 * a) + 2))))), (3, .int (nI 2)), (0, .ref (E.1 + 38)), (1, .int (nI a))]) rfl ?_
  refine J_iincN (q := 1) (a := 2) (m := 1) dX8_sumOf_22 rfl (by decide +kernel) (Nat.le_of_ble_eq_true rfl) (L' := [(3, .int (nI 3)), (2, .int (nI (((0 + (MM ((4 * a) + 0))) + (MM ((4 * a) + 1))) + (MM ((4 * a) + 2))))), (0, .ref (E.1 + 38)), (1, .int (nI a))]) rfl ?_
  refine J_goto (tgt := 4) dX8_sumOf_25 (by decide) ?_
  refine J_iload_n dX8_sumOf_4 rfl ?_
  refine J_iconst (v := nI 4) dX8_sumOf_5 (by decide +kernel) ?_
  refine J_icmp_geN (tgt := 28) dX8_sumOf_6 (by decide) (by omega) (by omega) (fun z => absurd z (by decide)) (fun _ => ?_)
  refine J_iload_n dX8_sumOf_9 rfl ?_
  refine J_aload_n dX8_sumOf_10 rfl ?_
  refine J_get 6 dX8_sumOf_11 jk8 (Nat.le_of_ble_eq_true rfl) jfRX8_27 H0 (by omega) rfl ?_
  refine J_iconst (v := nI 4) dX8_sumOf_14 (by decide +kernel) ?_
  refine J_iload_n dX8_sumOf_15 rfl ?_
  refine J_imulN dX8_sumOf_16 ?_
  refine J_iload_n dX8_sumOf_17 rfl ?_
  refine J_iaddN dX8_sumOf_18 ?_
  refine J_ialdN (i := (4 * a) + 3) dX8_sumOf_19 H1 (by omega) (by omega) (by omega) ?_
  refine J_iaddN dX8_sumOf_20 ?_
  refine J_istore_n dX8_sumOf_21 (Nat.le_of_ble_eq_true rfl) (L' := [(2, .int (nI ((((0 + (MM ((4 * a) + 0))) + (MM ((4 * a) + 1))) + (MM ((4 * a) + 2))) + (MM ((4 * a) + 3))))), (3, .int (nI 3)), (0, .ref (E.1 + 38)), (1, .int (nI a))]) rfl ?_
  refine J_iincN (q := 1) (a := 3) (m := 1) dX8_sumOf_22 rfl (by decide +kernel) (Nat.le_of_ble_eq_true rfl) (L' := [(3, .int (nI 4)), (2, .int (nI ((((0 + (MM ((4 * a) + 0))) + (MM ((4 * a) + 1))) + (MM ((4 * a) + 2))) + (MM ((4 * a) + 3))))), (0, .ref (E.1 + 38)), (1, .int (nI a))]) rfl ?_
  refine J_goto (tgt := 4) dX8_sumOf_25 (by decide) ?_
  refine J_iload_n dX8_sumOf_4 rfl ?_
  refine J_iconst (v := nI 4) dX8_sumOf_5 (by decide +kernel) ?_
  refine J_icmp_geN (tgt := 28) dX8_sumOf_6 (by decide) (by omega) (by omega) (fun _ => ?_) (fun z => absurd z (by decide))
  refine J_iload_n dX8_sumOf_28 rfl ?_
  exact J_iret dX8_sumOf_29 rfl ⟨Nat.le_refl _, Nat.le_refl _⟩ (by rw [hPP]; exact ⟨(congrArg some (jv_N (by simp only [sumM, Nat.zero_add]))), rfl, rfl⟩)

set_option maxHeartbeats 1000000 in
set_option maxRecDepth 100000 in
theorem ctX8_clean_bad {E : jE} {h : Nat → va_E} {n : Nat} (a : Nat) (xa : Nat) (xb : Nat) (dt : Nat) (mo : Nat) (bn : Nat) (ta : Nat) (tl : Nat) (tk : Nat) (va : Nat) (RF : Nat → Nat) (Q : Nat → Nat) (H0 : h 38 = .inr (7, [.ref (E.1 + 39), .ref (E.1 + 40), .ref (E.1 + 41), .ref (E.1 + 42), .long (lN xa), .long (lN xb), .ref (E.1 + 43), .int (nI dt), .ref (E.1 + 44), .ref (E.1 + 45), .int (nI mo), .ref (E.1 + 46), .ref (E.1 + 47), .int (nI bn), .int (nI ta), .int (nI tl), .int (nI tk), .int (nI va), .ref (E.1 + 48), .ref (E.1 + 49)])) (H1 : h 42 = cI E 3 (nF RF)) (H2 : h 39 = cI E 218 (nF Q)) (hn : 50 ≤ n) (h32a : a < 2 ^ 32) (hn4 : Q 0 ≤ 4) (hbad : ¬ a < Q 0) : jC E mX8_clean (3, 0, 0) [.ref (E.1 + 38), .int (nI a)] h n (jR (some (.int (-2))) (hset h 42 (cI E 3 (nF (updN RF 0 (RF 0 + 1))))) n) := by
  refine J.of (L := [(0, .ref (E.1 + 38)), (1, .int (nI a))]) rfl (by decide +kernel) (Nat.le_of_ble_eq_true rfl) ?_
  obtain ⟨PP, hPP⟩ : ∃ PP : jPost, PP = (jR (some (.int (-2))) (hset h 42 (cI E 3 (nF (updN RF 0 (RF 0 + 1))))) n) := ⟨_, rfl⟩
  rw [← hPP]
  refine J_aload_n dX8_clean_0 rfl ?_
  refine J_iload_n dX8_clean_1 rfl ?_
  refine J_callVr (M' := mX8_isAnvil) (d' := (2, 0, 0)) (rest := []) dX8_clean_2 jmX8_isAnvil jlRX8_107 (ctX8_isAnvil a xa xb dt mo bn ta tl tk va Q H0 H2 (by omega) (by first | assumption | omega) (by first | assumption | omega)) H0 (by omega) jk8.1 rfl rfl (Nat.le_of_ble_eq_true rfl) (Nat.le_of_ble_eq_true rfl) ⟨Nat.le_refl _, Nat.le_refl _⟩ ?_
  refine J_if_neB (tgt := 15) dX8_clean_5 (by decide) (fun c1 => (by exfalso; omega)) (fun c1 => ?_)
  refine J_aload_n dX8_clean_8 rfl ?_
  refine J_bipush (v := (-2)) dX8_clean_9 (by decide +kernel) ?_
  refine J_callVr (M' := mX8_bad) (d' := (1, 0, 0)) (rest := []) dX8_clean_11 jmX8_bad jlRX8_66 (ctX8_bad (-2) xa xb dt mo bn ta tl tk va RF H0 H1 (by omega) ) H0 (by omega) jk8.1 rfl rfl (Nat.le_of_ble_eq_true rfl) (Nat.le_of_ble_eq_true rfl) ⟨Nat.le_refl _, Nat.le_refl _⟩ ?_
  exact J_iret dX8_clean_14 rfl ⟨Nat.le_refl _, Nat.le_refl _⟩ (by rw [hPP]; exact ⟨rfl, rfl, rfl⟩)

set_option maxHeartbeats 1000000 in
set_option maxRecDepth 100000 in
theorem ctX8_clean {E : jE} {h : Nat → va_E} {n : Nat} (a : Nat) (xa : Nat) (xb : Nat) (dt : Nat) (mo : Nat) (bn : Nat) (ta : Nat) (tl : Nat) (tk : Nat) (va : Nat) (Q : Nat → Nat) (MM : Nat → Nat) (H0 : h 38 = .inr (7, [.ref (E.1 + 39), .ref (E.1 + 40), .ref (E.1 + 41), .ref (E.1 + 42), .long (lN xa), .long (lN xb), .ref (E.1 + 43), .int (nI dt), .ref (E.1 + 44), .ref (E.1 + 45), .int (nI mo), .ref (E.1 + 46), .ref (E.1 + 47), .int (nI bn), .int (nI ta), .int (nI tl), .int (nI tk), .int (nI va), .ref (E.1 + 48), .ref (E.1 + 49)])) (H1 : h 39 = cI E 218 (nF Q)) (H2 : h 43 = cI E 16 (nF MM)) (hn : 50 ≤ n) (hn4 : Q 0 ≤ 4) (hK : ∀ zz, zz < 4 → KQ Q zz ≤ 5) (hM4 : ∀ zz, zz < 16 → Q (4 + zz) ≤ 20) (hg : Q 21 ≤ 9) (hM : ∀ zz, MM zz ≤ 20) (hd9 : Q 20 ≤ 999) (ha : a < Q 0) : jC E mX8_clean (3, 0, 0) [.ref (E.1 + 38), .int (nI a)] h n (fun v h' n' => v = some (.int (oI (cleanN (KQ Q) (handM Q MM 16) a (Q 20)))) ∧ n' = n ∧ ∃ (M3 : Nat → Nat) (d3 : Nat), (∀ i, M3 i ≤ 20) ∧ d3 < 2 ^ 31 ∧ h' = (hset (hset h 43 (cI E 16 (nF M3))) 38 (.inr (7, [.ref (E.1 + 39), .ref (E.1 + 40), .ref (E.1 + 41), .ref (E.1 + 42), .long (lN xa), .long (lN xb), .ref (E.1 + 43), .int (nI d3), .ref (E.1 + 44), .ref (E.1 + 45), .int (nI mo), .ref (E.1 + 46), .ref (E.1 + 47), .int (nI bn), .int (nI ta), .int (nI tl), .int (nI tk), .int (nI va), .ref (E.1 + 48), .ref (E.1 + 49)])))) := by
  refine J.of (L := [(0, .ref (E.1 + 38)), (1, .int (nI a))]) rfl (by decide +kernel) (Nat.le_of_ble_eq_true rfl) ?_
  obtain ⟨PP, hPP⟩ : ∃ PP : jPost, PP = (fun v h' n' => v = some (.int (oI (cleanN (KQ Q) (handM Q MM 16) a (Q 20)))) ∧ n' = n ∧ ∃ (M3 : Nat → Nat) (d3 : Nat), (∀ i, M3 i ≤ 20) ∧ d3 < 2 ^ 31 ∧ h' = (hset (hset h 43 (cI E 16 (nF M3))) 38 (.inr (7, [.ref (E.1 + 39), .ref (E.1 + 40), .ref (E.1 + 41), .ref (E.1 + 42), .long (lN xa), .long (lN xb), .ref (E.1 + 43), .int (nI d3), .ref (E.1 + 44), .ref (E.1 + 45), .int (nI mo), .ref (E.1 + 46), .ref (E.1 + 47), .int (nI bn), .int (nI ta), .int (nI tl), .int (nI tk), .int (nI va), .ref (E.1 + 48), .ref (E.1 + 49)])))) := ⟨_, rfl⟩
  rw [← hPP]
  refine J_aload_n dX8_clean_0 rfl ?_
  refine J_iload_n dX8_clean_1 rfl ?_
  refine J_callVr (M' := mX8_isAnvil) (d' := (2, 0, 0)) (rest := []) dX8_clean_2 jmX8_isAnvil jlRX8_107 (ctX8_isAnvil a xa xb dt mo bn ta tl tk va Q H0 H1 (by omega) (by first | assumption | omega) (by first | assumption | omega)) H0 (by omega) jk8.1 rfl rfl (Nat.le_of_ble_eq_true rfl) (Nat.le_of_ble_eq_true rfl) ⟨Nat.le_refl _, Nat.le_refl _⟩ ?_
  refine J_if_neB (tgt := 15) dX8_clean_5 (by decide) (fun c1 => ?_) (fun c1 => (by exfalso; omega))
  refine J_aload_n dX8_clean_15 rfl ?_
  refine J_callVn (M' := mX8_layHand) (d' := (1, 0, 0)) (rest := []) dX8_clean_16 jmX8_layHand jlRX8_116 (ctX8_layHand xa xb dt mo bn ta tl tk va Q MM H0 H1 H2 (by omega) ) H0 (by omega) jk8.1 rfl rfl (Nat.le_of_ble_eq_true rfl) (Nat.le_of_ble_eq_true rfl) ⟨Nat.le_refl _, Nat.le_refl _⟩ ?_
  refine J_iconst (v := nI 0) dX8_clean_19 (by decide +kernel) ?_
  refine J_istore_n dX8_clean_20 (Nat.le_of_ble_eq_true rfl) (L' := [(2, .int (nI 0)), (0, .ref (E.1 + 38)), (1, .int (nI a))]) rfl ?_
  have CUT21 : ∀ (f21 : Nat) (i : Nat) (hm21 : 91 - i < f21) (hi : i ≤ 91) (hno : ∀ j, j < i → ¬ clrT (KQ Q) (handM Q MM 16) a (Q 20) j), J E mX8_clean (3, 0, 0) jS0 PP (hset (hset h 43 (cI E 16 (nF (dayI (KQ Q) (handM Q MM 16) (Q 0) (Q 20) i)))) 38 (.inr (7, [.ref (E.1 + 39), .ref (E.1 + 40), .ref (E.1 + 41), .ref (E.1 + 42), .long (lN xa), .long (lN xb), .ref (E.1 + 43), .int (nI (Q 20 + i)), .ref (E.1 + 44), .ref (E.1 + 45), .int (nI mo), .ref (E.1 + 46), .ref (E.1 + 47), .int (nI bn), .int (nI ta), .int (nI tl), .int (nI tk), .int (nI va), .ref (E.1 + 48), .ref (E.1 + 49)]))) n (0, 0) 21 [(2, .int (nI i)), (0, .ref (E.1 + 38)), (1, .int (nI a))] [] := by
    intro f21
    induction f21 with
    | zero => intro i hm21; exact absurd hm21 (Nat.not_lt_zero _)
    | succ f21 ih21 =>
      intro i hm21 hi hno
      refine J_iload_n dX8_clean_21 rfl ?_
      refine J_bipush (v := nI 90) dX8_clean_22 (by decide +kernel) ?_
      refine J_icmp_gtN (tgt := 47) dX8_clean_24 (by decide) (by omega) (by omega) (fun c2 => ?_) (fun c2 => ?_)
      · skip
        refine J_iconst (v := (-1)) dX8_clean_47 (by decide +kernel) ?_
        exact J_iret dX8_clean_48 rfl ⟨Nat.le_refl _, Nat.le_refl _⟩ (by rw [hPP]; exact ⟨congrArg (fun z => some (Value.int z)) (by first | exact oI_some (p := clrT (KQ Q) (handM Q MM 16) a (Q 20)) ((clrT_d ha).mpr (by assumption)) hno (by omega) | exact oI_none (p := clrT (KQ Q) (handM Q MM 16) a (Q 20)) (fun j hj => hno j (by omega))), rfl, (dayI (KQ Q) (handM Q MM 16) (Q 0) (Q 20) i), (Q 20 + i), (by intro j; exact dayI_le (handM_le hM4 hM) _ j), (by omega), rfl⟩)
      · skip
        refine J_aload_n dX8_clean_27 rfl ?_
        refine J_iload_n dX8_clean_28 rfl ?_
        refine J_callVr (M' := mX8_sumOf) (d' := (1, 0, 0)) (rest := []) dX8_clean_29 jmX8_sumOf jlRX8_137 (ctX8_sumOf a xa xb (Q 20 + i) mo bn ta tl tk va (dayI (KQ Q) (handM Q MM 16) (Q 0) (Q 20) i) hset_eq ((hset_ne (by omega)).trans hset_eq) (by omega) (by first | assumption | omega) (by exact dayI_le (handM_le hM4 hM) i)) hset_eq (by omega) jk8.1 rfl rfl (Nat.le_of_ble_eq_true rfl) (Nat.le_of_ble_eq_true rfl) ⟨Nat.le_refl _, Nat.le_refl _⟩ ?_
        have fc3 : sumM (dayI (KQ Q) (handM Q MM 16) (Q 0) (Q 20) i) a ≤ 80 := sumM_le (show ∀ zz, (dayI (KQ Q) (handM Q MM 16) (Q 0) (Q 20) i) zz ≤ 20 from by exact dayI_le (handM_le hM4 hM) i)
        refine J_if_neN (tgt := 37) dX8_clean_32 (by decide) (by omega) (fun c4 => ?_) (fun c4 => ?_)
        · skip
          refine J_aload_n dX8_clean_37 rfl ?_
          refine J_callVn (M' := mX8_goDay) (d' := (2, 0, 0)) (rest := []) dX8_clean_38 jmX8_goDay jlRX8_127 (ctX8_goDay xa xb (Q 20 + i) mo bn ta tl tk va Q (dayI (KQ Q) (handM Q MM 16) (Q 0) (Q 20) i) hset_eq ((hset_ne (by omega)).trans ((hset_ne (by omega)).trans H1)) ((hset_ne (by omega)).trans hset_eq) (by omega) (by first | assumption | omega) (by first | assumption | omega) (by exact dayI_le (handM_le hM4 hM) i) (by first | assumption | omega)) hset_eq (by omega) jk8.1 rfl rfl (Nat.le_of_ble_eq_true rfl) (Nat.le_of_ble_eq_true rfl) ⟨Nat.le_refl _, Nat.le_refl _⟩ ?_
          refine J.cast ((hset_cg ((hset_comm (by omega)).trans (hset_cg hset_hset rfl)) rfl).trans hset_hset) ?_
          refine J_iincN (q := 0) (a := i) (m := 1) dX8_clean_41 rfl (by decide +kernel) (Nat.le_of_ble_eq_true rfl) (L' := [(2, .int (nI (i + 1))), (0, .ref (E.1 + 38)), (1, .int (nI a))]) rfl ?_
          refine J_goto (tgt := 21) dX8_clean_44 (by decide) ?_
          refine J.eqs (h' := (hset (hset h 43 (cI E 16 (nF (dayI (KQ Q) (handM Q MM 16) (Q 0) (Q 20) (i + 1))))) 38 (.inr (7, [.ref (E.1 + 39), .ref (E.1 + 40), .ref (E.1 + 41), .ref (E.1 + 42), .long (lN xa), .long (lN xb), .ref (E.1 + 43), .int (nI (Q 20 + (i + 1))), .ref (E.1 + 44), .ref (E.1 + 45), .int (nI mo), .ref (E.1 + 46), .ref (E.1 + 47), .int (nI bn), .int (nI ta), .int (nI tl), .int (nI tk), .int (nI va), .ref (E.1 + 48), .ref (E.1 + 49)])))) (L' := [(2, .int (nI (i + 1))), (0, .ref (E.1 + 38)), (1, .int (nI a))]) (st' := []) (hset_cg (hset_cg rfl (cI_cg (by intro z; first | rfl | omega))) (congrArg (fun z => (Sum.inr (7, z) : va_E)) (jS_c rfl (jS_c rfl (jS_c rfl (jS_c rfl (jS_c rfl (jS_c rfl (jS_c rfl (jS_c (jv_N (by first | rfl | omega)) (jS_c rfl (jS_c rfl (jS_c rfl (jS_c rfl (jS_c rfl (jS_c rfl (jS_c rfl (jS_c rfl (jS_c rfl (jS_c rfl (jS_c rfl (jS_c rfl rfl)))))))))))))))))))))) rfl rfl ?_
          exact ih21 (i + 1) (by omega) (by first | assumption | omega) (by first | exact (fun j hj => absurd hj (Nat.not_lt_zero j)) | exact lt_step hno (fun q => absurd ((clrT_d ha).mp q) (by assumption)))
        · skip
          refine J_iload_n dX8_clean_35 rfl ?_
          exact J_iret dX8_clean_36 rfl ⟨Nat.le_refl _, Nat.le_refl _⟩ (by rw [hPP]; exact ⟨congrArg (fun z => some (Value.int z)) (by first | exact oI_some (p := clrT (KQ Q) (handM Q MM 16) a (Q 20)) ((clrT_d ha).mpr (by assumption)) hno (by omega) | exact oI_none (p := clrT (KQ Q) (handM Q MM 16) a (Q 20)) (fun j hj => hno j (by omega))), rfl, (dayI (KQ Q) (handM Q MM 16) (Q 0) (Q 20) i), (Q 20 + i), (by intro j; exact dayI_le (handM_le hM4 hM) _ j), (by omega), rfl⟩)
  refine J.eqs (h' := (hset (hset h 43 (cI E 16 (nF (dayI (KQ Q) (handM Q MM 16) (Q 0) (Q 20) 0)))) 38 (.inr (7, [.ref (E.1 + 39), .ref (E.1 + 40), .ref (E.1 + 41), .ref (E.1 + 42), .long (lN xa), .long (lN xb), .ref (E.1 + 43), .int (nI (Q 20 + 0)), .ref (E.1 + 44), .ref (E.1 + 45), .int (nI mo), .ref (E.1 + 46), .ref (E.1 + 47), .int (nI bn), .int (nI ta), .int (nI tl), .int (nI tk), .int (nI va), .ref (E.1 + 48), .ref (E.1 + 49)])))) (L' := [(2, .int (nI 0)), (0, .ref (E.1 + 38)), (1, .int (nI a))]) (st' := []) (hset_cg (hset_cg rfl (cI_cg (by intro z; first | rfl | omega))) (congrArg (fun z => (Sum.inr (7, z) : va_E)) (jS_c rfl (jS_c rfl (jS_c rfl (jS_c rfl (jS_c rfl (jS_c rfl (jS_c rfl (jS_c (jv_N (by first | rfl | omega)) (jS_c rfl (jS_c rfl (jS_c rfl (jS_c rfl (jS_c rfl (jS_c rfl (jS_c rfl (jS_c rfl (jS_c rfl (jS_c rfl (jS_c rfl (jS_c rfl rfl)))))))))))))))))))))) rfl rfl ?_
  exact CUT21 (91 - 0 + 1) 0 (Nat.lt_succ_self _) (by first | assumption | omega) (by first | exact (fun j hj => absurd hj (Nat.not_lt_zero j)) | exact lt_step hno (fun q => absurd ((clrT_d ha).mp q) (by assumption)))

set_option maxHeartbeats 1000000 in
set_option maxRecDepth 100000 in
theorem ctX8_keep_bad {E : jE} {h : Nat → va_E} {n : Nat} (a : Nat) (xa : Nat) (xb : Nat) (dt : Nat) (mo : Nat) (bn : Nat) (ta : Nat) (tl : Nat) (tk : Nat) (va : Nat) (RF : Nat → Nat) (Q : Nat → Nat) (H0 : h 38 = .inr (7, [.ref (E.1 + 39), .ref (E.1 + 40), .ref (E.1 + 41), .ref (E.1 + 42), .long (lN xa), .long (lN xb), .ref (E.1 + 43), .int (nI dt), .ref (E.1 + 44), .ref (E.1 + 45), .int (nI mo), .ref (E.1 + 46), .ref (E.1 + 47), .int (nI bn), .int (nI ta), .int (nI tl), .int (nI tk), .int (nI va), .ref (E.1 + 48), .ref (E.1 + 49)])) (H1 : h 42 = cI E 3 (nF RF)) (H2 : h 39 = cI E 218 (nF Q)) (hn : 50 ≤ n) (h32a : a < 2 ^ 32) (hn4 : Q 0 ≤ 4) (hbad : ¬ a < Q 0) : jC E mX8_keep (3, 0, 0) [.ref (E.1 + 38), .int (nI a)] h n (jR (some (.int (-2))) (hset h 42 (cI E 3 (nF (updN RF 0 (RF 0 + 1))))) n) := by
  refine J.of (L := [(0, .ref (E.1 + 38)), (1, .int (nI a))]) rfl (by decide +kernel) (Nat.le_of_ble_eq_true rfl) ?_
  obtain ⟨PP, hPP⟩ : ∃ PP : jPost, PP = (jR (some (.int (-2))) (hset h 42 (cI E 3 (nF (updN RF 0 (RF 0 + 1))))) n) := ⟨_, rfl⟩
  rw [← hPP]
  refine J_aload_n dX8_keep_0 rfl ?_
  refine J_iload_n dX8_keep_1 rfl ?_
  refine J_callVr (M' := mX8_isAnvil) (d' := (2, 0, 0)) (rest := []) dX8_keep_2 jmX8_isAnvil jlRX8_107 (ctX8_isAnvil a xa xb dt mo bn ta tl tk va Q H0 H2 (by omega) (by first | assumption | omega) (by first | assumption | omega)) H0 (by omega) jk8.1 rfl rfl (Nat.le_of_ble_eq_true rfl) (Nat.le_of_ble_eq_true rfl) ⟨Nat.le_refl _, Nat.le_refl _⟩ ?_
  refine J_if_neB (tgt := 15) dX8_keep_5 (by decide) (fun c1 => (by exfalso; omega)) (fun c1 => ?_)
  refine J_aload_n dX8_keep_8 rfl ?_
  refine J_bipush (v := (-2)) dX8_keep_9 (by decide +kernel) ?_
  refine J_callVr (M' := mX8_bad) (d' := (1, 0, 0)) (rest := []) dX8_keep_11 jmX8_bad jlRX8_66 (ctX8_bad (-2) xa xb dt mo bn ta tl tk va RF H0 H1 (by omega) ) H0 (by omega) jk8.1 rfl rfl (Nat.le_of_ble_eq_true rfl) (Nat.le_of_ble_eq_true rfl) ⟨Nat.le_refl _, Nat.le_refl _⟩ ?_
  exact J_iret dX8_keep_14 rfl ⟨Nat.le_refl _, Nat.le_refl _⟩ (by rw [hPP]; exact ⟨rfl, rfl, rfl⟩)

set_option maxHeartbeats 1000000 in
set_option maxRecDepth 100000 in
theorem ctX8_keep {E : jE} {h : Nat → va_E} {n : Nat} (a : Nat) (xa : Nat) (xb : Nat) (dt : Nat) (mo : Nat) (bn : Nat) (ta : Nat) (tl : Nat) (tk : Nat) (va : Nat) (Q : Nat → Nat) (H0 : h 38 = .inr (7, [.ref (E.1 + 39), .ref (E.1 + 40), .ref (E.1 + 41), .ref (E.1 + 42), .long (lN xa), .long (lN xb), .ref (E.1 + 43), .int (nI dt), .ref (E.1 + 44), .ref (E.1 + 45), .int (nI mo), .ref (E.1 + 46), .ref (E.1 + 47), .int (nI bn), .int (nI ta), .int (nI tl), .int (nI tk), .int (nI va), .ref (E.1 + 48), .ref (E.1 + 49)])) (H1 : h 39 = cI E 218 (nF Q)) (hn : 50 ≤ n) (hn4 : Q 0 ≤ 4) (hK : ∀ zz, zz < 4 → KQ Q zz ≤ 5) (hM4 : ∀ zz, zz < 16 → Q (4 + zz) ≤ 20) (ha : a < Q 0) : jC E mX8_keep (3, 0, 0) [.ref (E.1 + 38), .int (nI a)] h n (jR (some (.int (oI (keepN (KQ Q) (MV Q) a)))) h n) := by
  refine J.of (L := [(0, .ref (E.1 + 38)), (1, .int (nI a))]) rfl (by decide +kernel) (Nat.le_of_ble_eq_true rfl) ?_
  obtain ⟨PP, hPP⟩ : ∃ PP : jPost, PP = (jR (some (.int (oI (keepN (KQ Q) (MV Q) a)))) h n) := ⟨_, rfl⟩
  rw [← hPP]
  refine J_aload_n dX8_keep_0 rfl ?_
  refine J_iload_n dX8_keep_1 rfl ?_
  refine J_callVr (M' := mX8_isAnvil) (d' := (2, 0, 0)) (rest := []) dX8_keep_2 jmX8_isAnvil jlRX8_107 (ctX8_isAnvil a xa xb dt mo bn ta tl tk va Q H0 H1 (by omega) (by first | assumption | omega) (by first | assumption | omega)) H0 (by omega) jk8.1 rfl rfl (Nat.le_of_ble_eq_true rfl) (Nat.le_of_ble_eq_true rfl) ⟨Nat.le_refl _, Nat.le_refl _⟩ ?_
  refine J_if_neB (tgt := 15) dX8_keep_5 (by decide) (fun c1 => ?_) (fun c1 => (by exfalso; omega))
  refine J_iconst (v := nI 0) dX8_keep_15 (by decide +kernel) ?_
  refine J_istore_n dX8_keep_16 (Nat.le_of_ble_eq_true rfl) (L' := [(2, .int (nI 0)), (0, .ref (E.1 + 38)), (1, .int (nI a))]) rfl ?_
  have CUT17 : ∀ (f17 : Nat) (i : Nat) (hm17 : 10 - i < f17) (hi : i ≤ 10) (hno : ∀ j, j < i → ¬ keptP (KQ Q) (MV Q) a j), J E mX8_keep (3, 0, 0) jS0 PP h n (0, 0) 17 [(2, .int (nI i)), (0, .ref (E.1 + 38)), (1, .int (nI a))] [] := by
    intro f17
    induction f17 with
    | zero => intro i hm17; exact absurd hm17 (Nat.not_lt_zero _)
    | succ f17 ih17 =>
      intro i hm17 hi hno
      have kb := hK a (by omega)
      have mb0 : Q (4 + 4 * a + 0) ≤ 20 := by have z := hM4 (4 * a + 0) (by omega); rwa [← Nat.add_assoc] at z
      have ub0 := upN_le (kd := KQ Q a) (g := i) mb0
      have mb1 : Q (4 + 4 * a + 1) ≤ 20 := by have z := hM4 (4 * a + 1) (by omega); rwa [← Nat.add_assoc] at z
      have ub1 := upN_le (kd := KQ Q a) (g := i) mb1
      have mb2 : Q (4 + 4 * a + 2) ≤ 20 := by have z := hM4 (4 * a + 2) (by omega); rwa [← Nat.add_assoc] at z
      have ub2 := upN_le (kd := KQ Q a) (g := i) mb2
      have mb3 : Q (4 + 4 * a + 3) ≤ 20 := by have z := hM4 (4 * a + 3) (by omega); rwa [← Nat.add_assoc] at z
      have ub3 := upN_le (kd := KQ Q a) (g := i) mb3
      refine J_iload_n dX8_keep_17 rfl ?_
      refine J_bipush (v := nI 10) dX8_keep_18 (by decide +kernel) ?_
      refine J_icmp_geN (tgt := 77) dX8_keep_20 (by decide) (by omega) (by omega) (fun c2 => ?_) (fun c2 => ?_)
      · skip
        refine J_iconst (v := (-1)) dX8_keep_77 (by decide +kernel) ?_
        exact J_iret dX8_keep_78 rfl ⟨Nat.le_refl _, Nat.le_refl _⟩ (by rw [hPP]; exact ⟨(congrArg some (jv_I (by first | exact oI_some (p := keptP (KQ Q) (MV Q) a) (by simp only [keptP, MV, ← Nat.add_assoc]; omega) hno (by omega) | exact oI_none (p := keptP (KQ Q) (MV Q) a) (fun j hj => hno j (by omega))))), rfl, rfl⟩)
      · skip
        refine J_iconst (v := nI 0) dX8_keep_23 (by decide +kernel) ?_
        refine J_istore_n dX8_keep_24 (Nat.le_of_ble_eq_true rfl) (L' := [(3, .int (nI 0)), (2, .int (nI i)), (0, .ref (E.1 + 38)), (1, .int (nI a))]) rfl ?_
        refine J_iconst (v := nI 0) dX8_keep_25 (by decide +kernel) ?_
        refine J_istore dX8_keep_26 (Nat.le_of_ble_eq_true rfl) (L' := [(4, .int (nI 0)), (3, .int (nI 0)), (2, .int (nI i)), (0, .ref (E.1 + 38)), (1, .int (nI a))]) rfl ?_
        refine J_iload dX8_keep_28 rfl ?_
        refine J_iconst (v := nI 4) dX8_keep_30 (by decide +kernel) ?_
        refine J_icmp_geN (tgt := 65) dX8_keep_31 (by decide) (by omega) (by omega) (fun z => absurd z (by decide)) (fun _ => ?_)
        refine J_iload_n dX8_keep_34 rfl ?_
        refine J_aload_n dX8_keep_35 rfl ?_
        refine J_iload_n dX8_keep_36 rfl ?_
        refine J_callVr (M' := mX8_kindOf) (d' := (1, 0, 0)) (rest := [.int (nI 0)]) dX8_keep_37 jmX8_kindOf jlRX8_87 (ctX8_kindOf a xa xb dt mo bn ta tl tk va Q H0 H1 (by omega) (by first | assumption | omega)) H0 (by omega) jk8.1 rfl rfl (Nat.le_of_ble_eq_true rfl) (Nat.le_of_ble_eq_true rfl) ⟨Nat.le_refl _, Nat.le_refl _⟩ ?_
        refine J_aload_n dX8_keep_40 rfl ?_
        refine J_get 0 dX8_keep_41 jk8 (Nat.le_of_ble_eq_true rfl) jfRX8_7 H0 (by omega) rfl ?_
        refine J_iconst (v := nI 4) dX8_keep_44 (by decide +kernel) ?_
        refine J_iconst (v := nI 4) dX8_keep_45 (by decide +kernel) ?_
        refine J_iload_n dX8_keep_46 rfl ?_
        refine J_imulN dX8_keep_47 ?_
        refine J_iaddN dX8_keep_48 ?_
        refine J_iload dX8_keep_49 rfl ?_
        refine J_iaddN dX8_keep_51 ?_
        refine J_ialdN (i := (4 + (4 * a)) + 0) dX8_keep_52 H1 (by omega) (by omega) (by omega) ?_
        refine J_iload_n dX8_keep_53 rfl ?_
        refine J_callSr (M' := mX8_upAs) (d' := (1, 0, 0)) (rest := [.int (nI 0)]) dX8_keep_54 jmX8_upAs jlRX8_90 (ctX8_upAs (KQ Q a) (Q ((4 + (4 * a)) + 0)) i   (by first | assumption | omega) (by first | assumption | omega) (by first | assumption | omega)) rfl rfl (Nat.le_of_ble_eq_true rfl) (Nat.le_of_ble_eq_true rfl) ⟨Nat.le_refl _, Nat.le_refl _⟩ ?_
        refine J_iaddN dX8_keep_57 ?_
        refine J_istore_n dX8_keep_58 (Nat.le_of_ble_eq_true rfl) (L' := [(3, .int (nI (0 + (upN (KQ Q a) (Q ((4 + (4 * a)) + 0)) i)))), (4, .int (nI 0)), (2, .int (nI i)), (0, .ref (E.1 + 38)), (1, .int (nI a))]) rfl ?_
        refine J_iincN (q := 1) (a := 0) (m := 1) dX8_keep_59 rfl (by decide +kernel) (Nat.le_of_ble_eq_true rfl) (L' := [(4, .int (nI 1)), (3, .int (nI (0 + (upN (KQ Q a) (Q ((4 + (4 * a)) + 0)) i)))), (2, .int (nI i)), (0, .ref (E.1 + 38)), (1, .int (nI a))]) rfl ?_
        refine J_goto (tgt := 28) dX8_keep_62 (by decide) ?_
        refine J_iload dX8_keep_28 rfl ?_
        refine J_iconst (v := nI 4) dX8_keep_30 (by decide +kernel) ?_
        refine J_icmp_geN (tgt := 65) dX8_keep_31 (by decide) (by omega) (by omega) (fun z => absurd z (by decide)) (fun _ => ?_)
        refine J_iload_n dX8_keep_34 rfl ?_
        refine J_aload_n dX8_keep_35 rfl ?_
        refine J_iload_n dX8_keep_36 rfl ?_
        refine J_callVr (M' := mX8_kindOf) (d' := (1, 0, 0)) (rest := [.int (nI (0 + (upN (KQ Q a) (Q ((4 + (4 * a)) + 0)) i)))]) dX8_keep_37 jmX8_kindOf jlRX8_87 (ctX8_kindOf a xa xb dt mo bn ta tl tk va Q H0 H1 (by omega) (by first | assumption | omega)) H0 (by omega) jk8.1 rfl rfl (Nat.le_of_ble_eq_true rfl) (Nat.le_of_ble_eq_true rfl) ⟨Nat.le_refl _, Nat.le_refl _⟩ ?_
        refine J_aload_n dX8_keep_40 rfl ?_
        refine J_get 0 dX8_keep_41 jk8 (Nat.le_of_ble_eq_true rfl) jfRX8_7 H0 (by omega) rfl ?_
        refine J_iconst (v := nI 4) dX8_keep_44 (by decide +kernel) ?_
        refine J_iconst (v := nI 4) dX8_keep_45 (by decide +kernel) ?_
        refine J_iload_n dX8_keep_46 rfl ?_
        refine J_imulN dX8_keep_47 ?_
        refine J_iaddN dX8_keep_48 ?_
        refine J_iload dX8_keep_49 rfl ?_
        refine J_iaddN dX8_keep_51 ?_
        refine J_ialdN (i := (4 + (4 * a)) + 1) dX8_keep_52 H1 (by omega) (by omega) (by omega) ?_
        refine J_iload_n dX8_keep_53 rfl ?_
        refine J_callSr (M' := mX8_upAs) (d' := (1, 0, 0)) (rest := [.int (nI (0 + (upN (KQ Q a) (Q ((4 + (4 * a)) + 0)) i)))]) dX8_keep_54 jmX8_upAs jlRX8_90 (ctX8_upAs (KQ Q a) (Q ((4 + (4 * a)) + 1)) i   (by first | assumption | omega) (by first | assumption | omega) (by first | assumption | omega)) rfl rfl (Nat.le_of_ble_eq_true rfl) (Nat.le_of_ble_eq_true rfl) ⟨Nat.le_refl _, Nat.le_refl _⟩ ?_
        refine J_iaddN dX8_keep_57 ?_
        refine J_istore_n dX8_keep_58 (Nat.le_of_ble_eq_true rfl) (L' := [(3, .int (nI ((0 + (upN (KQ Q a) (Q ((4 + (4 * a)) + 0)) i)) + (upN (KQ Q a) (Q ((4 + (4 * a)) + 1)) i)))), (4, .int (nI 1)), (2, .int (nI i)), (0, .ref (E.1 + 38)), (1, .int (nI a))]) rfl ?_
        refine J_iincN (q := 1) (a := 1) (m := 1) dX8_keep_59 rfl (by decide +kernel) (Nat.le_of_ble_eq_true rfl) (L' := [(4, .int (nI 2)), (3, .int (nI ((0 + (upN (KQ Q a) (Q ((4 + (4 * a)) + 0)) i)) + (upN (KQ Q a) (Q ((4 + (4 * a)) + 1)) i)))), (2, .int (nI i)), (0, .ref (E.1 + 38)), (1, .int (nI a))]) rfl ?_
        refine J_goto (tgt := 28) dX8_keep_62 (by decide) ?_
        refine J_iload dX8_keep_28 rfl ?_
        refine J_iconst (v := nI 4) dX8_keep_30 (by decide +kernel) ?_
        refine J_icmp_geN (tgt := 65) dX8_keep_31 (by decide) (by omega) (by omega) (fun z => absurd z (by decide)) (fun _ => ?_)
        refine J_iload_n dX8_keep_34 rfl ?_
        refine J_aload_n dX8_keep_35 rfl ?_
        refine J_iload_n dX8_keep_36 rfl ?_
        refine J_callVr (M' := mX8_kindOf) (d' := (1, 0, 0)) (rest := [.int (nI ((0 + (upN (KQ Q a) (Q ((4 + (4 * a)) + 0)) i)) + (upN (KQ Q a) (Q ((4 + (4 * a)) + 1)) i)))]) dX8_keep_37 jmX8_kindOf jlRX8_87 (ctX8_kindOf a xa xb dt mo bn ta tl tk va Q H0 H1 (by omega) (by first | assumption | omega)) H0 (by omega) jk8.1 rfl rfl (Nat.le_of_ble_eq_true rfl) (Nat.le_of_ble_eq_true rfl) ⟨Nat.le_refl _, Nat.le_refl _⟩ ?_
        refine J_aload_n dX8_keep_40 rfl ?_
        refine J_get 0 dX8_keep_41 jk8 (Nat.le_of_ble_eq_true rfl) jfRX8_7 H0 (by omega) rfl ?_
        refine J_iconst (v := nI 4) dX8_keep_44 (by decide +kernel) ?_
        refine J_iconst (v := nI 4) dX8_keep_45 (by decide +kernel) ?_
        refine J_iload_n dX8_keep_46 rfl ?_
        refine J_imulN dX8_keep_47 ?_
        refine J_iaddN dX8_keep_48 ?_
        refine J_iload dX8_keep_49 rfl ?_
        refine J_iaddN dX8_keep_51 ?_
        refine J_ialdN (i := (4 + (4 * a)) + 2) dX8_keep_52 H1 (by omega) (by omega) (by omega) ?_
        refine J_iload_n dX8_keep_53 rfl ?_
        refine J_callSr (M' := mX8_upAs) (d' := (1, 0, 0)) (rest := [.int (nI ((0 + (upN (KQ Q a) (Q ((4 + (4 * a)) + 0)) i)) + (upN (KQ Q a) (Q ((4 + (4 * a)) + 1)) i)))]) dX8_keep_54 jmX8_upAs jlRX8_90 (ctX8_upAs (KQ Q a) (Q ((4 + (4 * a)) + 2)) i   (by first | assumption | omega) (by first | assumption | omega) (by first | assumption | omega)) rfl rfl (Nat.le_of_ble_eq_true rfl) (Nat.le_of_ble_eq_true rfl) ⟨Nat.le_refl _, Nat.le_refl _⟩ ?_
        refine J_iaddN dX8_keep_57 ?_
        refine J_istore_n dX8_keep_58 (Nat.le_of_ble_eq_true rfl) (L' := [(3, .int (nI (((0 + (upN (KQ Q a) (Q ((4 + (4 * a)) + 0)) i)) + (upN (KQ Q a) (Q ((4 + (4 * a)) + 1)) i)) + (upN (KQ Q a) (Q ((4 + (4 * a)) + 2)) i)))), (4, .int (nI 2)), (2, .int (nI i)), (0, .ref (E.1 + 38)), (1, .int (nI a))]) rfl ?_
        refine J_iincN (q := 1) (a := 2) (m := 1) dX8_keep_59 rfl (by decide +kernel) (Nat.le_of_ble_eq_true rfl) (L' := [(4, .int (nI 3)), (3, .int (nI (((0 + (upN (KQ Q a) (Q ((4 + (4 * a)) + 0)) i)) + (upN (KQ Q a) (Q ((4 + (4 * a)) + 1)) i)) + (upN (KQ Q a) (Q ((4 + (4 * a)) + 2)) i)))), (2, .int (nI i)), (0, .ref (E.1 + 38)), (1, .int (nI a))]) rfl ?_
        refine J_goto (tgt := 28) dX8_keep_62 (by decide) ?_
        refine J_iload dX8_keep_28 rfl ?_
        refine J_iconst (v := nI 4) dX8_keep_30 (by decide +kernel) ?_
        refine J_icmp_geN (tgt := 65) dX8_keep_31 (by decide) (by omega) (by omega) (fun z => absurd z (by decide)) (fun _ => ?_)
        refine J_iload_n dX8_keep_34 rfl ?_
        refine J_aload_n dX8_keep_35 rfl ?_
        refine J_iload_n dX8_keep_36 rfl ?_
        refine J_callVr (M' := mX8_kindOf) (d' := (1, 0, 0)) (rest := [.int (nI (((0 + (upN (KQ Q a) (Q ((4 + (4 * a)) + 0)) i)) + (upN (KQ Q a) (Q ((4 + (4 * a)) + 1)) i)) + (upN (KQ Q a) (Q ((4 + (4 * a)) + 2)) i)))]) dX8_keep_37 jmX8_kindOf jlRX8_87 (ctX8_kindOf a xa xb dt mo bn ta tl tk va Q H0 H1 (by omega) (by first | assumption | omega)) H0 (by omega) jk8.1 rfl rfl (Nat.le_of_ble_eq_true rfl) (Nat.le_of_ble_eq_true rfl) ⟨Nat.le_refl _, Nat.le_refl _⟩ ?_
        refine J_aload_n dX8_keep_40 rfl ?_
        refine J_get 0 dX8_keep_41 jk8 (Nat.le_of_ble_eq_true rfl) jfRX8_7 H0 (by omega) rfl ?_
        refine J_iconst (v := nI 4) dX8_keep_44 (by decide +kernel) ?_
        refine J_iconst (v := nI 4) dX8_keep_45 (by decide +kernel) ?_
        refine J_iload_n dX8_keep_46 rfl ?_
        refine J_imulN dX8_keep_47 ?_
        refine J_iaddN dX8_keep_48 ?_
        refine J_iload dX8_keep_49 rfl ?_
        refine J_iaddN dX8_keep_51 ?_
        refine J_ialdN (i := (4 + (4 * a)) + 3) dX8_keep_52 H1 (by omega) (by omega) (by omega) ?_
        refine J_iload_n dX8_keep_53 rfl ?_
        refine J_callSr (M' := mX8_upAs) (d' := (1, 0, 0)) (rest := [.int (nI (((0 + (upN (KQ Q a) (Q ((4 + (4 * a)) + 0)) i)) + (upN (KQ Q a) (Q ((4 + (4 * a)) + 1)) i)) + (upN (KQ Q a) (Q ((4 + (4 * a)) + 2)) i)))]) dX8_keep_54 jmX8_upAs jlRX8_90 (ctX8_upAs (KQ Q a) (Q ((4 + (4 * a)) + 3)) i   (by first | assumption | omega) (by first | assumption | omega) (by first | assumption | omega)) rfl rfl (Nat.le_of_ble_eq_true rfl) (Nat.le_of_ble_eq_true rfl) ⟨Nat.le_refl _, Nat.le_refl _⟩ ?_
        refine J_iaddN dX8_keep_57 ?_
        refine J_istore_n dX8_keep_58 (Nat.le_of_ble_eq_true rfl) (L' := [(3, .int (nI ((((0 + (upN (KQ Q a) (Q ((4 + (4 * a)) + 0)) i)) + (upN (KQ Q a) (Q ((4 + (4 * a)) + 1)) i)) + (upN (KQ Q a) (Q ((4 + (4 * a)) + 2)) i)) + (upN (KQ Q a) (Q ((4 + (4 * a)) + 3)) i)))), (4, .int (nI 3)), (2, .int (nI i)), (0, .ref (E.1 + 38)), (1, .int (nI a))]) rfl ?_
        refine J_iincN (q := 1) (a := 3) (m := 1) dX8_keep_59 rfl (by decide +kernel) (Nat.le_of_ble_eq_true rfl) (L' := [(4, .int (nI 4)), (3, .int (nI ((((0 + (upN (KQ Q a) (Q ((4 + (4 * a)) + 0)) i)) + (upN (KQ Q a) (Q ((4 + (4 * a)) + 1)) i)) + (upN (KQ Q a) (Q ((4 + (4 * a)) + 2)) i)) + (upN (KQ Q a) (Q ((4 + (4 * a)) + 3)) i)))), (2, .int (nI i)), (0, .ref (E.1 + 38)), (1, .int (nI a))]) rfl ?_
        refine J_goto (tgt := 28) dX8_keep_62 (by decide) ?_
        refine J_iload dX8_keep_28 rfl ?_
        refine J_iconst (v := nI 4) dX8_keep_30 (by decide +kernel) ?_
        refine J_icmp_geN (tgt := 65) dX8_keep_31 (by decide) (by omega) (by omega) (fun _ => ?_) (fun z => absurd z (by decide))
        refine J_iload_n dX8_keep_65 rfl ?_
        refine J_if_neN (tgt := 71) dX8_keep_66 (by decide) (by omega) (fun c8 => ?_) (fun c8 => ?_)
        · skip
          refine J_iincN (q := 2) (a := i) (m := 1) dX8_keep_71 rfl (by decide +kernel) (Nat.le_of_ble_eq_true rfl) (L' := [(2, .int (nI (i + 1))), (4, .int (nI 4)), (3, .int (nI ((((0 + (upN (KQ Q a) (Q ((4 + (4 * a)) + 0)) i)) + (upN (KQ Q a) (Q ((4 + (4 * a)) + 1)) i)) + (upN (KQ Q a) (Q ((4 + (4 * a)) + 2)) i)) + (upN (KQ Q a) (Q ((4 + (4 * a)) + 3)) i)))), (0, .ref (E.1 + 38)), (1, .int (nI a))]) rfl ?_
          refine J_goto (tgt := 17) dX8_keep_74 (by decide) ?_
          refine J.sub [0, 3, 4] (L' := [(2, .int (nI (i + 1))), (0, .ref (E.1 + 38)), (1, .int (nI a))]) rfl ?_
          exact ih17 (i + 1) (by omega) (by first | assumption | omega) (by first | exact (fun j hj => absurd hj (Nat.not_lt_zero j)) | exact lt_step hno (by simp only [keptP, MV, ← Nat.add_assoc]; omega))
        · skip
          refine J_iload_n dX8_keep_69 rfl ?_
          exact J_iret dX8_keep_70 rfl ⟨Nat.le_refl _, Nat.le_refl _⟩ (by rw [hPP]; exact ⟨(congrArg some (jv_I (a := nI i) (by first | exact oI_some (p := keptP (KQ Q) (MV Q) a) (by simp only [keptP, MV, ← Nat.add_assoc]; omega) hno (by omega) | exact oI_none (p := keptP (KQ Q) (MV Q) a) (fun j hj => hno j (by omega))))), rfl, rfl⟩)
  exact CUT17 (10 - 0 + 1) 0 (Nat.lt_succ_self _) (by first | assumption | omega) (by first | exact (fun j hj => absurd hj (Nat.not_lt_zero j)) | exact lt_step hno (by simp only [keptP, MV, ← Nat.add_assoc]; omega))

set_option maxHeartbeats 1000000 in
set_option maxRecDepth 100000 in
theorem ctX8_waits_bad {E : jE} {h : Nat → va_E} {n : Nat} (a : Nat) (t : Nat) (x : Nat) (w : Nat) (xa : Nat) (xb : Nat) (dt : Nat) (mo : Nat) (bn : Nat) (ta : Nat) (tl : Nat) (tk : Nat) (va : Nat) (RF : Nat → Nat) (Q : Nat → Nat) (H0 : h 38 = .inr (7, [.ref (E.1 + 39), .ref (E.1 + 40), .ref (E.1 + 41), .ref (E.1 + 42), .long (lN xa), .long (lN xb), .ref (E.1 + 43), .int (nI dt), .ref (E.1 + 44), .ref (E.1 + 45), .int (nI mo), .ref (E.1 + 46), .ref (E.1 + 47), .int (nI bn), .int (nI ta), .int (nI tl), .int (nI tk), .int (nI va), .ref (E.1 + 48), .ref (E.1 + 49)])) (H1 : h 42 = cI E 3 (nF RF)) (H2 : h 39 = cI E 218 (nF Q)) (hn : 50 ≤ n) (h32a : a < 2 ^ 32) (h32t : t < 2 ^ 32) (h32x : x < 2 ^ 32) (h32w : w < 2 ^ 32) (hn4 : Q 0 ≤ 4) (hbad : ¬ (a < Q 0 ∧ t ≤ 3 ∧ x ≤ 80 ∧ w ≤ 50)) : jC E mX8_waits (4, 0, 0) [.ref (E.1 + 38), .int (nI a), .int (nI t), .int (nI x), .int (nI w)] h n (jR (some (.int (-2))) (hset h 42 (cI E 3 (nF (updN RF 0 (RF 0 + 1))))) n) := by
  refine J.of (L := [(0, .ref (E.1 + 38)), (1, .int (nI a)), (2, .int (nI t)), (3, .int (nI x)), (4, .int (nI w))]) rfl (by decide +kernel) (Nat.le_of_ble_eq_true rfl) ?_
  obtain ⟨PP, hPP⟩ : ∃ PP : jPost, PP = (jR (some (.int (-2))) (hset h 42 (cI E 3 (nF (updN RF 0 (RF 0 + 1))))) n) := ⟨_, rfl⟩
  rw [← hPP]
  refine J_aload_n dX8_waits_0 rfl ?_
  refine J_iload_n dX8_waits_1 rfl ?_
  refine J_callVr (M' := mX8_isAnvil) (d' := (2, 0, 0)) (rest := []) dX8_waits_2 jmX8_isAnvil jlRX8_107 (ctX8_isAnvil a xa xb dt mo bn ta tl tk va Q H0 H2 (by omega) (by first | assumption | omega) (by first | assumption | omega)) H0 (by omega) jk8.1 rfl rfl (Nat.le_of_ble_eq_true rfl) (Nat.le_of_ble_eq_true rfl) ⟨Nat.le_refl _, Nat.le_refl _⟩ ?_
  refine J_if_eqB (tgt := 40) dX8_waits_5 (by decide) (fun c1 => ?_) (fun c1 => ?_)
  · skip
    refine J_aload_n dX8_waits_40 rfl ?_
    refine J_bipush (v := (-2)) dX8_waits_41 (by decide +kernel) ?_
    refine J_callVr (M' := mX8_bad) (d' := (1, 0, 0)) (rest := []) dX8_waits_43 jmX8_bad jlRX8_66 (ctX8_bad (-2) xa xb dt mo bn ta tl tk va RF H0 H1 (by omega) ) H0 (by omega) jk8.1 rfl rfl (Nat.le_of_ble_eq_true rfl) (Nat.le_of_ble_eq_true rfl) ⟨Nat.le_refl _, Nat.le_refl _⟩ ?_
    exact J_iret dX8_waits_46 rfl ⟨Nat.le_refl _, Nat.le_refl _⟩ (by rw [hPP]; exact ⟨rfl, rfl, rfl⟩)
  · skip
    refine J_iload_n dX8_waits_8 rfl ?_
    refine J_callSr (M' := mX8_isTemper) (d' := (2, 0, 0)) (rest := []) dX8_waits_9 jmX8_isTemper jlRX8_110 (ctX8_isTemper t   (by first | assumption | omega)) rfl rfl (Nat.le_of_ble_eq_true rfl) (Nat.le_of_ble_eq_true rfl) ⟨Nat.le_refl _, Nat.le_refl _⟩ ?_
    refine J_if_eqB (tgt := 40) dX8_waits_12 (by decide) (fun c2 => ?_) (fun c2 => ?_)
    · skip
      refine J_aload_n dX8_waits_40 rfl ?_
      refine J_bipush (v := (-2)) dX8_waits_41 (by decide +kernel) ?_
      refine J_callVr (M' := mX8_bad) (d' := (1, 0, 0)) (rest := []) dX8_waits_43 jmX8_bad jlRX8_66 (ctX8_bad (-2) xa xb dt mo bn ta tl tk va RF H0 H1 (by omega) ) H0 (by omega) jk8.1 rfl rfl (Nat.le_of_ble_eq_true rfl) (Nat.le_of_ble_eq_true rfl) ⟨Nat.le_refl _, Nat.le_refl _⟩ ?_
      exact J_iret dX8_waits_46 rfl ⟨Nat.le_refl _, Nat.le_refl _⟩ (by rw [hPP]; exact ⟨rfl, rfl, rfl⟩)
    · skip
      refine J_iload_n dX8_waits_15 rfl ?_
      refine J_i2l (v := (nI x).toInt64) dX8_waits_16 rfl ?_
      refine J_lconst (v := lN 0) dX8_waits_17 (by decide +kernel) ?_
      refine J_ldc2 dX8_waits_18 jqRX8_149 ?_
      refine J.stk (st' := .long (lN 80) :: [.long (lN 0), .long (nI x).toInt64]) rfl ?_
      refine J_callSr (M' := mX8_in) (d' := (1, 0, 0)) (rest := []) dX8_waits_21 jmX8_in jlRX8_56 (ctX8_in x 0 80   (by first | assumption | omega) (by first | assumption | omega) (by first | assumption | omega)) rfl rfl (Nat.le_of_ble_eq_true rfl) (Nat.le_of_ble_eq_true rfl) ⟨Nat.le_refl _, Nat.le_refl _⟩ ?_
      refine J_if_eqB (tgt := 40) dX8_waits_24 (by decide) (fun c3 => ?_) (fun c3 => ?_)
      · skip
        refine J_aload_n dX8_waits_40 rfl ?_
        refine J_bipush (v := (-2)) dX8_waits_41 (by decide +kernel) ?_
        refine J_callVr (M' := mX8_bad) (d' := (1, 0, 0)) (rest := []) dX8_waits_43 jmX8_bad jlRX8_66 (ctX8_bad (-2) xa xb dt mo bn ta tl tk va RF H0 H1 (by omega) ) H0 (by omega) jk8.1 rfl rfl (Nat.le_of_ble_eq_true rfl) (Nat.le_of_ble_eq_true rfl) ⟨Nat.le_refl _, Nat.le_refl _⟩ ?_
        exact J_iret dX8_waits_46 rfl ⟨Nat.le_refl _, Nat.le_refl _⟩ (by rw [hPP]; exact ⟨rfl, rfl, rfl⟩)
      · skip
        refine J_iload dX8_waits_27 rfl ?_
        refine J_i2l (v := (nI w).toInt64) dX8_waits_29 rfl ?_
        refine J_lconst (v := lN 0) dX8_waits_30 (by decide +kernel) ?_
        refine J_ldc2 dX8_waits_31 jqRX8_151 ?_
        refine J.stk (st' := .long (lN 50) :: [.long (lN 0), .long (nI w).toInt64]) rfl ?_
        refine J_callSr (M' := mX8_in) (d' := (1, 0, 0)) (rest := []) dX8_waits_34 jmX8_in jlRX8_56 (ctX8_in w 0 50   (by first | assumption | omega) (by first | assumption | omega) (by first | assumption | omega)) rfl rfl (Nat.le_of_ble_eq_true rfl) (Nat.le_of_ble_eq_true rfl) ⟨Nat.le_refl _, Nat.le_refl _⟩ ?_
        refine J_if_neB (tgt := 47) dX8_waits_37 (by decide) (fun c4 => (by exfalso; omega)) (fun c4 => ?_)
        refine J_aload_n dX8_waits_40 rfl ?_
        refine J_bipush (v := (-2)) dX8_waits_41 (by decide +kernel) ?_
        refine J_callVr (M' := mX8_bad) (d' := (1, 0, 0)) (rest := []) dX8_waits_43 jmX8_bad jlRX8_66 (ctX8_bad (-2) xa xb dt mo bn ta tl tk va RF H0 H1 (by omega) ) H0 (by omega) jk8.1 rfl rfl (Nat.le_of_ble_eq_true rfl) (Nat.le_of_ble_eq_true rfl) ⟨Nat.le_refl _, Nat.le_refl _⟩ ?_
        exact J_iret dX8_waits_46 rfl ⟨Nat.le_refl _, Nat.le_refl _⟩ (by rw [hPP]; exact ⟨rfl, rfl, rfl⟩)

set_option maxHeartbeats 1000000 in
set_option maxRecDepth 100000 in
theorem ctX8_waits {E : jE} {h : Nat → va_E} {n : Nat} (a : Nat) (t : Nat) (x : Nat) (w : Nat) (xa : Nat) (xb : Nat) (dt : Nat) (mo : Nat) (bn : Nat) (ta : Nat) (tl : Nat) (tk : Nat) (va : Nat) (Q : Nat → Nat) (MM : Nat → Nat) (H0 : h 38 = .inr (7, [.ref (E.1 + 39), .ref (E.1 + 40), .ref (E.1 + 41), .ref (E.1 + 42), .long (lN xa), .long (lN xb), .ref (E.1 + 43), .int (nI dt), .ref (E.1 + 44), .ref (E.1 + 45), .int (nI mo), .ref (E.1 + 46), .ref (E.1 + 47), .int (nI bn), .int (nI ta), .int (nI tl), .int (nI tk), .int (nI va), .ref (E.1 + 48), .ref (E.1 + 49)])) (H1 : h 39 = cI E 218 (nF Q)) (H2 : h 43 = cI E 16 (nF MM)) (hn : 50 ≤ n) (hn4 : Q 0 ≤ 4) (hK : ∀ zz, zz < 4 → KQ Q zz ≤ 5) (hM4 : ∀ zz, zz < 16 → Q (4 + zz) ≤ 20) (hg : Q 21 ≤ 9) (hM : ∀ zz, MM zz ≤ 20) (hd9 : Q 20 ≤ 999) (ha : a < Q 0) (ht : t < 4) (hx : x ≤ 80) (hw : w ≤ 50) : jC E mX8_waits (4, 0, 0) [.ref (E.1 + 38), .int (nI a), .int (nI t), .int (nI x), .int (nI w)] h n (fun v h' n' => v = some (.int (oI (waitN (KQ Q) (handM Q MM 16) (Q 21) a t (Q 20) x w))) ∧ n' = n ∧ ∃ (M3 : Nat → Nat) (d3 : Nat), (∀ i, M3 i ≤ 20) ∧ d3 < 2 ^ 31 ∧ h' = (hset (hset h 43 (cI E 16 (nF M3))) 38 (.inr (7, [.ref (E.1 + 39), .ref (E.1 + 40), .ref (E.1 + 41), .ref (E.1 + 42), .long (lN xa), .long (lN xb), .ref (E.1 + 43), .int (nI d3), .ref (E.1 + 44), .ref (E.1 + 45), .int (nI mo), .ref (E.1 + 46), .ref (E.1 + 47), .int (nI bn), .int (nI ta), .int (nI tl), .int (nI tk), .int (nI va), .ref (E.1 + 48), .ref (E.1 + 49)])))) := by
  refine J.of (L := [(0, .ref (E.1 + 38)), (1, .int (nI a)), (2, .int (nI t)), (3, .int (nI x)), (4, .int (nI w))]) rfl (by decide +kernel) (Nat.le_of_ble_eq_true rfl) ?_
  obtain ⟨PP, hPP⟩ : ∃ PP : jPost, PP = (fun v h' n' => v = some (.int (oI (waitN (KQ Q) (handM Q MM 16) (Q 21) a t (Q 20) x w))) ∧ n' = n ∧ ∃ (M3 : Nat → Nat) (d3 : Nat), (∀ i, M3 i ≤ 20) ∧ d3 < 2 ^ 31 ∧ h' = (hset (hset h 43 (cI E 16 (nF M3))) 38 (.inr (7, [.ref (E.1 + 39), .ref (E.1 + 40), .ref (E.1 + 41), .ref (E.1 + 42), .long (lN xa), .long (lN xb), .ref (E.1 + 43), .int (nI d3), .ref (E.1 + 44), .ref (E.1 + 45), .int (nI mo), .ref (E.1 + 46), .ref (E.1 + 47), .int (nI bn), .int (nI ta), .int (nI tl), .int (nI tk), .int (nI va), .ref (E.1 + 48), .ref (E.1 + 49)])))) := ⟨_, rfl⟩
  rw [← hPP]
  refine J_aload_n dX8_waits_0 rfl ?_
  refine J_iload_n dX8_waits_1 rfl ?_
  refine J_callVr (M' := mX8_isAnvil) (d' := (2, 0, 0)) (rest := []) dX8_waits_2 jmX8_isAnvil jlRX8_107 (ctX8_isAnvil a xa xb dt mo bn ta tl tk va Q H0 H1 (by omega) (by first | assumption | omega) (by first | assumption | omega)) H0 (by omega) jk8.1 rfl rfl (Nat.le_of_ble_eq_true rfl) (Nat.le_of_ble_eq_true rfl) ⟨Nat.le_refl _, Nat.le_refl _⟩ ?_
  refine J_if_eqB (tgt := 40) dX8_waits_5 (by decide) (fun c1 => (by exfalso; omega)) (fun c1 => ?_)
  refine J_iload_n dX8_waits_8 rfl ?_
  refine J_callSr (M' := mX8_isTemper) (d' := (2, 0, 0)) (rest := []) dX8_waits_9 jmX8_isTemper jlRX8_110 (ctX8_isTemper t   (by first | assumption | omega)) rfl rfl (Nat.le_of_ble_eq_true rfl) (Nat.le_of_ble_eq_true rfl) ⟨Nat.le_refl _, Nat.le_refl _⟩ ?_
  refine J_if_eqB (tgt := 40) dX8_waits_12 (by decide) (fun c2 => (by exfalso; omega)) (fun c2 => ?_)
  refine J_iload_n dX8_waits_15 rfl ?_
  refine J_i2lN dX8_waits_16 (by omega) ?_
  refine J_lconst (v := lN 0) dX8_waits_17 (by decide +kernel) ?_
  refine J_ldc2 dX8_waits_18 jqRX8_149 ?_
  refine J.stk (st' := .long (lN 80) :: [.long (lN 0), .long (lN x)]) rfl ?_
  refine J_callSr (M' := mX8_in) (d' := (1, 0, 0)) (rest := []) dX8_waits_21 jmX8_in jlRX8_56 (ctX8_inM x 0 80   (by first | assumption | omega) (by first | assumption | omega) (by first | assumption | omega)) rfl rfl (Nat.le_of_ble_eq_true rfl) (Nat.le_of_ble_eq_true rfl) ⟨Nat.le_refl _, Nat.le_refl _⟩ ?_
  refine J_if_eqB (tgt := 40) dX8_waits_24 (by decide) (fun c3 => (by exfalso; omega)) (fun c3 => ?_)
  refine J_iload dX8_waits_27 rfl ?_
  refine J_i2lN dX8_waits_29 (by omega) ?_
  refine J_lconst (v := lN 0) dX8_waits_30 (by decide +kernel) ?_
  refine J_ldc2 dX8_waits_31 jqRX8_151 ?_
  refine J.stk (st' := .long (lN 50) :: [.long (lN 0), .long (lN w)]) rfl ?_
  refine J_callSr (M' := mX8_in) (d' := (1, 0, 0)) (rest := []) dX8_waits_34 jmX8_in jlRX8_56 (ctX8_inM w 0 50   (by first | assumption | omega) (by first | assumption | omega) (by first | assumption | omega)) rfl rfl (Nat.le_of_ble_eq_true rfl) (Nat.le_of_ble_eq_true rfl) ⟨Nat.le_refl _, Nat.le_refl _⟩ ?_
  refine J_if_neB (tgt := 47) dX8_waits_37 (by decide) (fun c4 => ?_) (fun c4 => (by exfalso; omega))
  refine J_aload_n dX8_waits_47 rfl ?_
  refine J_callVn (M' := mX8_layHand) (d' := (1, 0, 0)) (rest := []) dX8_waits_48 jmX8_layHand jlRX8_116 (ctX8_layHand xa xb dt mo bn ta tl tk va Q MM H0 H1 H2 (by omega) ) H0 (by omega) jk8.1 rfl rfl (Nat.le_of_ble_eq_true rfl) (Nat.le_of_ble_eq_true rfl) ⟨Nat.le_refl _, Nat.le_refl _⟩ ?_
  refine J_iconst (v := nI 0) dX8_waits_51 (by decide +kernel) ?_
  refine J_istore dX8_waits_52 (Nat.le_of_ble_eq_true rfl) (L' := [(5, .int (nI 0)), (0, .ref (E.1 + 38)), (1, .int (nI a)), (2, .int (nI t)), (3, .int (nI x)), (4, .int (nI w))]) rfl ?_
  have CUT54 : ∀ (f54 : Nat) (i : Nat) (hm54 : 31 - i < f54) (hi : i ≤ 31) (hno : ∀ j, j < i → ¬ waitP (KQ Q) (handM Q MM 16) (Q 21) a t (Q 20) x w j), J E mX8_waits (4, 0, 0) jS0 PP (hset (hset h 43 (cI E 16 (nF (dayI (KQ Q) (handM Q MM 16) (Q 0) (Q 20) i)))) 38 (.inr (7, [.ref (E.1 + 39), .ref (E.1 + 40), .ref (E.1 + 41), .ref (E.1 + 42), .long (lN xa), .long (lN xb), .ref (E.1 + 43), .int (nI (Q 20 + i)), .ref (E.1 + 44), .ref (E.1 + 45), .int (nI mo), .ref (E.1 + 46), .ref (E.1 + 47), .int (nI bn), .int (nI ta), .int (nI tl), .int (nI tk), .int (nI va), .ref (E.1 + 48), .ref (E.1 + 49)]))) n (0, 0) 54 [(5, .int (nI i)), (0, .ref (E.1 + 38)), (1, .int (nI a)), (2, .int (nI t)), (3, .int (nI x)), (4, .int (nI w))] [] := by
    intro f54
    induction f54 with
    | zero => intro i hm54; exact absurd hm54 (Nat.not_lt_zero _)
    | succ f54 ih54 =>
      intro i hm54 hi hno
      refine J_iload dX8_waits_54 rfl ?_
      refine J_bipush (v := nI 30) dX8_waits_56 (by decide +kernel) ?_
      refine J_icmp_gtN (tgt := 95) dX8_waits_58 (by decide) (by omega) (by omega) (fun c5 => ?_) (fun c5 => ?_)
      · skip
        refine J_iconst (v := (-1)) dX8_waits_95 (by decide +kernel) ?_
        exact J_iret dX8_waits_96 rfl ⟨Nat.le_refl _, Nat.le_refl _⟩ (by rw [hPP]; exact ⟨congrArg (fun z => some (Value.int z)) (by first | exact oI_some (p := waitP (KQ Q) (handM Q MM 16) (Q 21) a t (Q 20) x w) ((waitP_d ha ht).mpr (by omega)) hno (by omega) | exact oI_none (p := waitP (KQ Q) (handM Q MM 16) (Q 21) a t (Q 20) x w) (fun j hj => hno j (by omega))), rfl, (dayI (KQ Q) (handM Q MM 16) (Q 0) (Q 20) i), (Q 20 + i), (by intro j; exact dayI_le (handM_le hM4 hM) _ j), (by omega), rfl⟩)
      · skip
        refine J_aload_n dX8_waits_61 rfl ?_
        refine J_iload_n dX8_waits_62 rfl ?_
        refine J_iload_n dX8_waits_63 rfl ?_
        refine J_callVr (M' := mX8_foreignOf) (d' := (3, 0, 0)) (rest := []) dX8_waits_64 jmX8_foreignOf jlRX8_98 (ctX8_foreignOf a t xa xb (Q 20 + i) mo bn ta tl tk va Q (dayI (KQ Q) (handM Q MM 16) (Q 0) (Q 20) i) hset_eq ((hset_ne (by omega)).trans ((hset_ne (by omega)).trans H1)) ((hset_ne (by omega)).trans hset_eq) (by omega) (by first | assumption | omega) (by first | assumption | omega) (by first | assumption | omega) (by exact dayI_le (handM_le hM4 hM) i) (by first | assumption | omega)) hset_eq (by omega) jk8.1 rfl rfl (Nat.le_of_ble_eq_true rfl) (Nat.le_of_ble_eq_true rfl) ⟨Nat.le_refl _, Nat.le_refl _⟩ ?_
        have fc6 : fgnN (KQ Q) (dayI (KQ Q) (handM Q MM 16) (Q 0) (Q 20) i) (Q 21) a t 4 ≤ 42 * 4 := fgnN_le (show ∀ zz, (dayI (KQ Q) (handM Q MM 16) (Q 0) (Q 20) i) zz ≤ 20 from by exact dayI_le (handM_le hM4 hM) i) 4
        refine J_iload_n dX8_waits_67 rfl ?_
        refine J_icmp_gtN (tgt := 85) dX8_waits_68 (by decide) (by omega) (by omega) (fun c7 => ?_) (fun c7 => ?_)
        · skip
          refine J_aload_n dX8_waits_85 rfl ?_
          refine J_callVn (M' := mX8_goDay) (d' := (2, 0, 0)) (rest := []) dX8_waits_86 jmX8_goDay jlRX8_127 (ctX8_goDay xa xb (Q 20 + i) mo bn ta tl tk va Q (dayI (KQ Q) (handM Q MM 16) (Q 0) (Q 20) i) hset_eq ((hset_ne (by omega)).trans ((hset_ne (by omega)).trans H1)) ((hset_ne (by omega)).trans hset_eq) (by omega) (by first | assumption | omega) (by first | assumption | omega) (by exact dayI_le (handM_le hM4 hM) i) (by first | assumption | omega)) hset_eq (by omega) jk8.1 rfl rfl (Nat.le_of_ble_eq_true rfl) (Nat.le_of_ble_eq_true rfl) ⟨Nat.le_refl _, Nat.le_refl _⟩ ?_
          refine J.cast ((hset_cg ((hset_comm (by omega)).trans (hset_cg hset_hset rfl)) rfl).trans hset_hset) ?_
          refine J_iincN (q := 0) (a := i) (m := 1) dX8_waits_89 rfl (by decide +kernel) (Nat.le_of_ble_eq_true rfl) (L' := [(5, .int (nI (i + 1))), (0, .ref (E.1 + 38)), (1, .int (nI a)), (2, .int (nI t)), (3, .int (nI x)), (4, .int (nI w))]) rfl ?_
          refine J_goto (tgt := 54) dX8_waits_92 (by decide) ?_
          refine J.eqs (h' := (hset (hset h 43 (cI E 16 (nF (dayI (KQ Q) (handM Q MM 16) (Q 0) (Q 20) (i + 1))))) 38 (.inr (7, [.ref (E.1 + 39), .ref (E.1 + 40), .ref (E.1 + 41), .ref (E.1 + 42), .long (lN xa), .long (lN xb), .ref (E.1 + 43), .int (nI (Q 20 + (i + 1))), .ref (E.1 + 44), .ref (E.1 + 45), .int (nI mo), .ref (E.1 + 46), .ref (E.1 + 47), .int (nI bn), .int (nI ta), .int (nI tl), .int (nI tk), .int (nI va), .ref (E.1 + 48), .ref (E.1 + 49)])))) (L' := [(5, .int (nI (i + 1))), (0, .ref (E.1 + 38)), (1, .int (nI a)), (2, .int (nI t)), (3, .int (nI x)), (4, .int (nI w))]) (st' := []) (hset_cg (hset_cg rfl (cI_cg (by intro z; first | rfl | omega))) (congrArg (fun z => (Sum.inr (7, z) : va_E)) (jS_c rfl (jS_c rfl (jS_c rfl (jS_c rfl (jS_c rfl (jS_c rfl (jS_c rfl (jS_c (jv_N (by first | rfl | omega)) (jS_c rfl (jS_c rfl (jS_c rfl (jS_c rfl (jS_c rfl (jS_c rfl (jS_c rfl (jS_c rfl (jS_c rfl (jS_c rfl (jS_c rfl (jS_c rfl rfl)))))))))))))))))))))) rfl rfl ?_
          exact ih54 (i + 1) (by omega) (by first | assumption | omega) (by first | exact (fun j hj => absurd hj (Nat.not_lt_zero j)) | exact lt_step hno (fun q => absurd ((waitP_d ha ht).mp q) (by omega)))
        · skip
          refine J_aload_n dX8_waits_71 rfl ?_
          refine J_iload_n dX8_waits_72 rfl ?_
          refine J_iload_n dX8_waits_73 rfl ?_
          refine J_callVr (M' := mX8_upOf) (d' := (2, 0, 0)) (rest := []) dX8_waits_74 jmX8_upOf jlRX8_94 (ctX8_upOf a t xa xb (Q 20 + i) mo bn ta tl tk va Q (dayI (KQ Q) (handM Q MM 16) (Q 0) (Q 20) i) hset_eq ((hset_ne (by omega)).trans ((hset_ne (by omega)).trans H1)) ((hset_ne (by omega)).trans hset_eq) (by omega) (by first | assumption | omega) (by first | assumption | omega) (by first | assumption | omega) (by exact dayI_le (handM_le hM4 hM) i) (by first | assumption | omega)) hset_eq (by omega) jk8.1 rfl rfl (Nat.le_of_ble_eq_true rfl) (Nat.le_of_ble_eq_true rfl) ⟨Nat.le_refl _, Nat.le_refl _⟩ ?_
          have fc8 : upN (KQ Q a) ((dayI (KQ Q) (handM Q MM 16) (Q 0) (Q 20) i) (4 * a + t)) (Q 21) ≤ 42 := upN_le ((show ∀ zz, (dayI (KQ Q) (handM Q MM 16) (Q 0) (Q 20) i) zz ≤ 20 from by exact dayI_le (handM_le hM4 hM) i) (4 * a + t))
          refine J_iload dX8_waits_77 rfl ?_
          refine J_icmp_ltN (tgt := 85) dX8_waits_79 (by decide) (by omega) (by omega) (fun c9 => ?_) (fun c9 => ?_)
          · skip
            refine J_aload_n dX8_waits_85 rfl ?_
            refine J_callVn (M' := mX8_goDay) (d' := (2, 0, 0)) (rest := []) dX8_waits_86 jmX8_goDay jlRX8_127 (ctX8_goDay xa xb (Q 20 + i) mo bn ta tl tk va Q (dayI (KQ Q) (handM Q MM 16) (Q 0) (Q 20) i) hset_eq ((hset_ne (by omega)).trans ((hset_ne (by omega)).trans H1)) ((hset_ne (by omega)).trans hset_eq) (by omega) (by first | assumption | omega) (by first | assumption | omega) (by exact dayI_le (handM_le hM4 hM) i) (by first | assumption | omega)) hset_eq (by omega) jk8.1 rfl rfl (Nat.le_of_ble_eq_true rfl) (Nat.le_of_ble_eq_true rfl) ⟨Nat.le_refl _, Nat.le_refl _⟩ ?_
            refine J.cast ((hset_cg ((hset_comm (by omega)).trans (hset_cg hset_hset rfl)) rfl).trans hset_hset) ?_
            refine J_iincN (q := 0) (a := i) (m := 1) dX8_waits_89 rfl (by decide +kernel) (Nat.le_of_ble_eq_true rfl) (L' := [(5, .int (nI (i + 1))), (0, .ref (E.1 + 38)), (1, .int (nI a)), (2, .int (nI t)), (3, .int (nI x)), (4, .int (nI w))]) rfl ?_
            refine J_goto (tgt := 54) dX8_waits_92 (by decide) ?_
            refine J.eqs (h' := (hset (hset h 43 (cI E 16 (nF (dayI (KQ Q) (handM Q MM 16) (Q 0) (Q 20) (i + 1))))) 38 (.inr (7, [.ref (E.1 + 39), .ref (E.1 + 40), .ref (E.1 + 41), .ref (E.1 + 42), .long (lN xa), .long (lN xb), .ref (E.1 + 43), .int (nI (Q 20 + (i + 1))), .ref (E.1 + 44), .ref (E.1 + 45), .int (nI mo), .ref (E.1 + 46), .ref (E.1 + 47), .int (nI bn), .int (nI ta), .int (nI tl), .int (nI tk), .int (nI va), .ref (E.1 + 48), .ref (E.1 + 49)])))) (L' := [(5, .int (nI (i + 1))), (0, .ref (E.1 + 38)), (1, .int (nI a)), (2, .int (nI t)), (3, .int (nI x)), (4, .int (nI w))]) (st' := []) (hset_cg (hset_cg rfl (cI_cg (by intro z; first | rfl | omega))) (congrArg (fun z => (Sum.inr (7, z) : va_E)) (jS_c rfl (jS_c rfl (jS_c rfl (jS_c rfl (jS_c rfl (jS_c rfl (jS_c rfl (jS_c (jv_N (by first | rfl | omega)) (jS_c rfl (jS_c rfl (jS_c rfl (jS_c rfl (jS_c rfl (jS_c rfl (jS_c rfl (jS_c rfl (jS_c rfl (jS_c rfl (jS_c rfl (jS_c rfl rfl)))))))))))))))))))))) rfl rfl ?_
            exact ih54 (i + 1) (by omega) (by first | assumption | omega) (by first | exact (fun j hj => absurd hj (Nat.not_lt_zero j)) | exact lt_step hno (fun q => absurd ((waitP_d ha ht).mp q) (by omega)))
          · skip
            refine J_iload dX8_waits_82 rfl ?_
            exact J_iret dX8_waits_84 rfl ⟨Nat.le_refl _, Nat.le_refl _⟩ (by rw [hPP]; exact ⟨congrArg (fun z => some (Value.int z)) (by first | exact oI_some (p := waitP (KQ Q) (handM Q MM 16) (Q 21) a t (Q 20) x w) ((waitP_d ha ht).mpr (by omega)) hno (by omega) | exact oI_none (p := waitP (KQ Q) (handM Q MM 16) (Q 21) a t (Q 20) x w) (fun j hj => hno j (by omega))), rfl, (dayI (KQ Q) (handM Q MM 16) (Q 0) (Q 20) i), (Q 20 + i), (by intro j; exact dayI_le (handM_le hM4 hM) _ j), (by omega), rfl⟩)
  refine J.eqs (h' := (hset (hset h 43 (cI E 16 (nF (dayI (KQ Q) (handM Q MM 16) (Q 0) (Q 20) 0)))) 38 (.inr (7, [.ref (E.1 + 39), .ref (E.1 + 40), .ref (E.1 + 41), .ref (E.1 + 42), .long (lN xa), .long (lN xb), .ref (E.1 + 43), .int (nI (Q 20 + 0)), .ref (E.1 + 44), .ref (E.1 + 45), .int (nI mo), .ref (E.1 + 46), .ref (E.1 + 47), .int (nI bn), .int (nI ta), .int (nI tl), .int (nI tk), .int (nI va), .ref (E.1 + 48), .ref (E.1 + 49)])))) (L' := [(5, .int (nI 0)), (0, .ref (E.1 + 38)), (1, .int (nI a)), (2, .int (nI t)), (3, .int (nI x)), (4, .int (nI w))]) (st' := []) (hset_cg (hset_cg rfl (cI_cg (by intro z; first | rfl | omega))) (congrArg (fun z => (Sum.inr (7, z) : va_E)) (jS_c rfl (jS_c rfl (jS_c rfl (jS_c rfl (jS_c rfl (jS_c rfl (jS_c rfl (jS_c (jv_N (by first | rfl | omega)) (jS_c rfl (jS_c rfl (jS_c rfl (jS_c rfl (jS_c rfl (jS_c rfl (jS_c rfl (jS_c rfl (jS_c rfl (jS_c rfl (jS_c rfl (jS_c rfl rfl)))))))))))))))))))))) rfl rfl ?_
  exact CUT54 (31 - 0 + 1) 0 (Nat.lt_succ_self _) (by first | assumption | omega) (by first | exact (fun j hj => absurd hj (Nat.not_lt_zero j)) | exact lt_step hno (fun q => absurd ((waitP_d ha ht).mp q) (by omega)))

set_option maxHeartbeats 1000000 in
set_option maxRecDepth 100000 in
theorem ctX8_best_bad {E : jE} {h : Nat → va_E} {n : Nat} (t : Nat) (xa : Nat) (xb : Nat) (dt : Nat) (mo : Nat) (bn : Nat) (ta : Nat) (tl : Nat) (tk : Nat) (va : Nat) (RF : Nat → Nat) (H0 : h 38 = .inr (7, [.ref (E.1 + 39), .ref (E.1 + 40), .ref (E.1 + 41), .ref (E.1 + 42), .long (lN xa), .long (lN xb), .ref (E.1 + 43), .int (nI dt), .ref (E.1 + 44), .ref (E.1 + 45), .int (nI mo), .ref (E.1 + 46), .ref (E.1 + 47), .int (nI bn), .int (nI ta), .int (nI tl), .int (nI tk), .int (nI va), .ref (E.1 + 48), .ref (E.1 + 49)])) (H1 : h 42 = cI E 3 (nF RF)) (hn : 50 ≤ n) (h32t : t < 2 ^ 32) (hbad : ¬ t ≤ 3) : jC E mX8_best (4, 0, 0) [.ref (E.1 + 38), .int (nI t)] h n (jR (some (.int (-2))) (hset h 42 (cI E 3 (nF (updN RF 0 (RF 0 + 1))))) n) := by
  refine J.of (L := [(0, .ref (E.1 + 38)), (1, .int (nI t))]) rfl (by decide +kernel) (Nat.le_of_ble_eq_true rfl) ?_
  obtain ⟨PP, hPP⟩ : ∃ PP : jPost, PP = (jR (some (.int (-2))) (hset h 42 (cI E 3 (nF (updN RF 0 (RF 0 + 1))))) n) := ⟨_, rfl⟩
  rw [← hPP]
  refine J_iload_n dX8_best_0 rfl ?_
  refine J_callSr (M' := mX8_isTemper) (d' := (2, 0, 0)) (rest := []) dX8_best_1 jmX8_isTemper jlRX8_110 (ctX8_isTemper t   (by first | assumption | omega)) rfl rfl (Nat.le_of_ble_eq_true rfl) (Nat.le_of_ble_eq_true rfl) ⟨Nat.le_refl _, Nat.le_refl _⟩ ?_
  refine J_if_neB (tgt := 14) dX8_best_4 (by decide) (fun c1 => (by exfalso; omega)) (fun c1 => ?_)
  refine J_aload_n dX8_best_7 rfl ?_
  refine J_bipush (v := (-2)) dX8_best_8 (by decide +kernel) ?_
  refine J_callVr (M' := mX8_bad) (d' := (1, 0, 0)) (rest := []) dX8_best_10 jmX8_bad jlRX8_66 (ctX8_bad (-2) xa xb dt mo bn ta tl tk va RF H0 H1 (by omega) ) H0 (by omega) jk8.1 rfl rfl (Nat.le_of_ble_eq_true rfl) (Nat.le_of_ble_eq_true rfl) ⟨Nat.le_refl _, Nat.le_refl _⟩ ?_
  exact J_iret dX8_best_13 rfl ⟨Nat.le_refl _, Nat.le_refl _⟩ (by rw [hPP]; exact ⟨rfl, rfl, rfl⟩)

set_option maxHeartbeats 1000000 in
set_option maxRecDepth 100000 in
theorem ctX8_best {E : jE} {h : Nat → va_E} {n : Nat} (t : Nat) (xa : Nat) (xb : Nat) (dt : Nat) (mo : Nat) (bn : Nat) (ta : Nat) (tl : Nat) (tk : Nat) (va : Nat) (Q : Nat → Nat) (MM : Nat → Nat) (H0 : h 38 = .inr (7, [.ref (E.1 + 39), .ref (E.1 + 40), .ref (E.1 + 41), .ref (E.1 + 42), .long (lN xa), .long (lN xb), .ref (E.1 + 43), .int (nI dt), .ref (E.1 + 44), .ref (E.1 + 45), .int (nI mo), .ref (E.1 + 46), .ref (E.1 + 47), .int (nI bn), .int (nI ta), .int (nI tl), .int (nI tk), .int (nI va), .ref (E.1 + 48), .ref (E.1 + 49)])) (H1 : h 39 = cI E 218 (nF Q)) (H2 : h 43 = cI E 16 (nF MM)) (hn : 50 ≤ n) (hn4 : Q 0 ≤ 4) (hK : ∀ zz, zz < 4 → KQ Q zz ≤ 5) (hM4 : ∀ zz, zz < 16 → Q (4 + zz) ≤ 20) (hg : Q 21 ≤ 9) (hM : ∀ zz, MM zz ≤ 20) (ht : t < 4) : jC E mX8_best (4, 0, 0) [.ref (E.1 + 38), .int (nI t)] h n (jR (some (.int (oI (bestN (fun a => fgnN (KQ Q) (handM Q MM 16) (Q 21) a t 4) (fun a => upN (KQ Q a) ((handM Q MM 16) (4 * a + t)) (Q 21)) (Q 0))))) (hset (hset h 43 (cI E 16 (nF (handM Q MM 16)))) 38 (.inr (7, [.ref (E.1 + 39), .ref (E.1 + 40), .ref (E.1 + 41), .ref (E.1 + 42), .long (lN xa), .long (lN xb), .ref (E.1 + 43), .int (nI (Q 20)), .ref (E.1 + 44), .ref (E.1 + 45), .int (nI mo), .ref (E.1 + 46), .ref (E.1 + 47), .int (nI bn), .int (nI ta), .int (nI tl), .int (nI tk), .int (nI va), .ref (E.1 + 48), .ref (E.1 + 49)]))) n) := by
  refine J.of (L := [(0, .ref (E.1 + 38)), (1, .int (nI t))]) rfl (by decide +kernel) (Nat.le_of_ble_eq_true rfl) ?_
  obtain ⟨PP, hPP⟩ : ∃ PP : jPost, PP = (jR (some (.int (oI (bestN (fun a => fgnN (KQ Q) (handM Q MM 16) (Q 21) a t 4) (fun a => upN (KQ Q a) ((handM Q MM 16) (4 * a + t)) (Q 21)) (Q 0))))) (hset (hset h 43 (cI E 16 (nF (handM Q MM 16)))) 38 (.inr (7, [.ref (E.1 + 39), .ref (E.1 + 40), .ref (E.1 + 41), .ref (E.1 + 42), .long (lN xa), .long (lN xb), .ref (E.1 + 43), .int (nI (Q 20)), .ref (E.1 + 44), .ref (E.1 + 45), .int (nI mo), .ref (E.1 + 46), .ref (E.1 + 47), .int (nI bn), .int (nI ta), .int (nI tl), .int (nI tk), .int (nI va), .ref (E.1 + 48), .ref (E.1 + 49)]))) n) := ⟨_, rfl⟩
  rw [← hPP]
  refine J_iload_n dX8_best_0 rfl ?_
  refine J_callSr (M' := mX8_isTemper) (d' := (2, 0, 0)) (rest := []) dX8_best_1 jmX8_isTemper jlRX8_110 (ctX8_isTemper t   (by first | assumption | omega)) rfl rfl (Nat.le_of_ble_eq_true rfl) (Nat.le_of_ble_eq_true rfl) ⟨Nat.le_refl _, Nat.le_refl _⟩ ?_
  refine J_if_neB (tgt := 14) dX8_best_4 (by decide) (fun c1 => ?_) (fun c1 => (by exfalso; omega))
  refine J_iconst (v := (-1)) dX8_best_14 (by decide +kernel) ?_
  refine J_istore_n dX8_best_15 (Nat.le_of_ble_eq_true rfl) (L' := [(2, .int (-1)), (0, .ref (E.1 + 38)), (1, .int (nI t))]) rfl ?_
  refine J_aload_n dX8_best_16 rfl ?_
  refine J_callVn (M' := mX8_layHand) (d' := (1, 0, 0)) (rest := []) dX8_best_17 jmX8_layHand jlRX8_116 (ctX8_layHand xa xb dt mo bn ta tl tk va Q MM H0 H1 H2 (by omega) ) H0 (by omega) jk8.1 rfl rfl (Nat.le_of_ble_eq_true rfl) (Nat.le_of_ble_eq_true rfl) ⟨Nat.le_refl _, Nat.le_refl _⟩ ?_
  refine J_iconst (v := nI 0) dX8_best_20 (by decide +kernel) ?_
  refine J_istore_n dX8_best_21 (Nat.le_of_ble_eq_true rfl) (L' := [(3, .int (nI 0)), (2, .int (-1)), (0, .ref (E.1 + 38)), (1, .int (nI t))]) rfl ?_
  refine J_iload_n dX8_best_22 rfl ?_
  refine J_aload_n dX8_best_23 rfl ?_
  refine J_callVr (M' := mX8_many) (d' := (1, 0, 0)) (rest := [.int (nI 0)]) dX8_best_24 jmX8_many jlRX8_52 (ctX8_many xa xb (Q 20) mo bn ta tl tk va Q hset_eq ((hset_ne (by omega)).trans ((hset_ne (by omega)).trans H1)) (by omega) ) hset_eq (by omega) jk8.1 rfl rfl (Nat.le_of_ble_eq_true rfl) (Nat.le_of_ble_eq_true rfl) ⟨Nat.le_refl _, Nat.le_refl _⟩ ?_
  refine J_icmp_geN (tgt := 108) dX8_best_27 (by decide) (by omega) (by omega) (fun c2 => ?_) (fun c2 => ?_)
  · skip
    refine J_iload_n dX8_best_108 rfl ?_
    exact J_iret dX8_best_109 rfl ⟨Nat.le_refl _, Nat.le_refl _⟩ (by rw [hPP]; exact ⟨(congrArg some (jv_I (by first | (rw [show i = Q 0 by omega] at hbest; rw [hbest]; rfl) | (rw [show Q 0 = 0 by omega]; rfl)))), rfl, rfl⟩)
  · skip
    refine J_iload_n dX8_best_30 rfl ?_
    refine J_iconst (v := (-1)) dX8_best_31 (by decide +kernel) ?_
    refine J_icmp_ne (tgt := 39) dX8_best_32 (by decide) (fun z => absurd z (by decide +kernel)) (fun _ => ?_)
    refine J_iconst (v := nI 0) dX8_best_35 (by decide +kernel) ?_
    refine J_goto (tgt := 52) dX8_best_36 (by decide) ?_
    refine J_istore dX8_best_52 (Nat.le_of_ble_eq_true rfl) (L' := [(4, .int (nI 0)), (3, .int (nI 0)), (2, .int (-1)), (0, .ref (E.1 + 38)), (1, .int (nI t))]) rfl ?_
    refine J_iload_n dX8_best_54 rfl ?_
    refine J_iconst (v := (-1)) dX8_best_55 (by decide +kernel) ?_
    refine J_icmp_eq (tgt := 84) dX8_best_56 (by decide) (fun _ => ?_) (fun z => absurd z (by decide +kernel))
    refine J_iconst (v := nI 1) dX8_best_84 (by decide +kernel) ?_
    refine J_goto (tgt := 89) dX8_best_85 (by decide) ?_
    refine J_istore dX8_best_89 (Nat.le_of_ble_eq_true rfl) (L' := [(5, .int (nI 1)), (4, .int (nI 0)), (3, .int (nI 0)), (2, .int (-1)), (0, .ref (E.1 + 38)), (1, .int (nI t))]) rfl ?_
    refine J_iload dX8_best_91 rfl ?_
    refine J_if_eqN (tgt := 100) dX8_best_93 (by decide) (by omega) (fun z => absurd z (by decide)) (fun _ => ?_)
    refine J_iload_n dX8_best_96 rfl ?_
    refine J_goto (tgt := 101) dX8_best_97 (by decide) ?_
    refine J_istore_n dX8_best_101 (Nat.le_of_ble_eq_true rfl) (L' := [(2, .int (nI 0)), (5, .int (nI 1)), (4, .int (nI 0)), (3, .int (nI 0)), (0, .ref (E.1 + 38)), (1, .int (nI t))]) rfl ?_
    refine J_iincN (q := 3) (a := 0) (m := 1) dX8_best_102 rfl (by decide +kernel) (Nat.le_of_ble_eq_true rfl) (L' := [(3, .int (nI 1)), (2, .int (nI 0)), (5, .int (nI 1)), (4, .int (nI 0)), (0, .ref (E.1 + 38)), (1, .int (nI t))]) rfl ?_
    refine J_goto (tgt := 22) dX8_best_105 (by decide) ?_
    have CUT22 : ∀ (f22 : Nat) (i : Nat) (b : Nat) (hm22 : Q 0 - i < f22) (hi : i ≤ Q 0) (hi1 : 1 ≤ i) (hbi : b < i) (hbest : bestN (fun a => fgnN (KQ Q) (handM Q MM 16) (Q 21) a t 4) (fun a => upN (KQ Q a) ((handM Q MM 16) (4 * a + t)) (Q 21)) i = some b), J E mX8_best (4, 0, 0) jS0 PP (hset (hset h 43 (cI E 16 (nF (handM Q MM 16)))) 38 (.inr (7, [.ref (E.1 + 39), .ref (E.1 + 40), .ref (E.1 + 41), .ref (E.1 + 42), .long (lN xa), .long (lN xb), .ref (E.1 + 43), .int (nI (Q 20)), .ref (E.1 + 44), .ref (E.1 + 45), .int (nI mo), .ref (E.1 + 46), .ref (E.1 + 47), .int (nI bn), .int (nI ta), .int (nI tl), .int (nI tk), .int (nI va), .ref (E.1 + 48), .ref (E.1 + 49)]))) n (0, 0) 22 [(3, .int (nI i)), (2, .int (nI b)), (0, .ref (E.1 + 38)), (1, .int (nI t))] [] := by
      intro f22
      induction f22 with
      | zero => intro i b hm22; exact absurd hm22 (Nat.not_lt_zero _)
      | succ f22 ih22 =>
        intro i b hm22 hi hi1 hbi hbest
        refine J_iload_n dX8_best_22 rfl ?_
        refine J_aload_n dX8_best_23 rfl ?_
        refine J_callVr (M' := mX8_many) (d' := (1, 0, 0)) (rest := [.int (nI i)]) dX8_best_24 jmX8_many jlRX8_52 (ctX8_many xa xb (Q 20) mo bn ta tl tk va Q hset_eq ((hset_ne (by omega)).trans ((hset_ne (by omega)).trans H1)) (by omega) ) hset_eq (by omega) jk8.1 rfl rfl (Nat.le_of_ble_eq_true rfl) (Nat.le_of_ble_eq_true rfl) ⟨Nat.le_refl _, Nat.le_refl _⟩ ?_
        refine J_icmp_geN (tgt := 108) dX8_best_27 (by decide) (by omega) (by omega) (fun c4 => ?_) (fun c4 => ?_)
        · skip
          refine J_iload_n dX8_best_108 rfl ?_
          exact J_iret dX8_best_109 rfl ⟨Nat.le_refl _, Nat.le_refl _⟩ (by rw [hPP]; exact ⟨(congrArg some (jv_I (a := nI b) (by first | (rw [show i = Q 0 by omega] at hbest; rw [hbest]; rfl) | (rw [show Q 0 = 0 by omega]; rfl)))), rfl, rfl⟩)
        · skip
          refine J_iload_n dX8_best_30 rfl ?_
          refine J_iconst (v := (-1)) dX8_best_31 (by decide +kernel) ?_
          refine J_icmp_neV (tgt := 39) dX8_best_32 (by decide) (by omega) (fun _ => ?_) (fun z => (by exfalso; omega))
          refine J_aload_n dX8_best_39 rfl ?_
          refine J_iload_n dX8_best_40 rfl ?_
          refine J_iload_n dX8_best_41 rfl ?_
          refine J_callVr (M' := mX8_foreignOf) (d' := (3, 0, 0)) (rest := []) dX8_best_42 jmX8_foreignOf jlRX8_98 (ctX8_foreignOf i t xa xb (Q 20) mo bn ta tl tk va Q (handM Q MM 16) hset_eq ((hset_ne (by omega)).trans ((hset_ne (by omega)).trans H1)) ((hset_ne (by omega)).trans hset_eq) (by omega) (by first | assumption | omega) (by first | assumption | omega) (by first | assumption | omega) (by exact handM_le hM4 hM) (by first | assumption | omega)) hset_eq (by omega) jk8.1 rfl rfl (Nat.le_of_ble_eq_true rfl) (Nat.le_of_ble_eq_true rfl) ⟨Nat.le_refl _, Nat.le_refl _⟩ ?_
          have fc5 : fgnN (KQ Q) (handM Q MM 16) (Q 21) i t 4 ≤ 42 * 4 := fgnN_le (show ∀ zz, (handM Q MM 16) zz ≤ 20 from by exact handM_le hM4 hM) 4
          refine J_aload_n dX8_best_45 rfl ?_
          refine J_iload_n dX8_best_46 rfl ?_
          refine J_iload_n dX8_best_47 rfl ?_
          refine J_callVr (M' := mX8_foreignOf) (d' := (3, 0, 0)) (rest := [.int (nI (fgnN (KQ Q) (handM Q MM 16) (Q 21) i t 4))]) dX8_best_48 jmX8_foreignOf jlRX8_98 (ctX8_foreignOf b t xa xb (Q 20) mo bn ta tl tk va Q (handM Q MM 16) hset_eq ((hset_ne (by omega)).trans ((hset_ne (by omega)).trans H1)) ((hset_ne (by omega)).trans hset_eq) (by omega) (by first | assumption | omega) (by first | assumption | omega) (by first | assumption | omega) (by exact handM_le hM4 hM) (by first | assumption | omega)) hset_eq (by omega) jk8.1 rfl rfl (Nat.le_of_ble_eq_true rfl) (Nat.le_of_ble_eq_true rfl) ⟨Nat.le_refl _, Nat.le_refl _⟩ ?_
          have fc6 : fgnN (KQ Q) (handM Q MM 16) (Q 21) b t 4 ≤ 42 * 4 := fgnN_le (show ∀ zz, (handM Q MM 16) zz ≤ 20 from by exact handM_le hM4 hM) 4
          refine J_isub dX8_best_51 ?_
          refine J_istore dX8_best_52 (Nat.le_of_ble_eq_true rfl) (L' := [(4, .int ((nI (fgnN (KQ Q) (handM Q MM 16) (Q 21) i t 4)) - (nI (fgnN (KQ Q) (handM Q MM 16) (Q 21) b t 4)))), (3, .int (nI i)), (2, .int (nI b)), (0, .ref (E.1 + 38)), (1, .int (nI t))]) rfl ?_
          refine J_iload_n dX8_best_54 rfl ?_
          refine J_iconst (v := (-1)) dX8_best_55 (by decide +kernel) ?_
          refine J_icmp_eqV (tgt := 84) dX8_best_56 (by decide) (by omega) (fun z => (by exfalso; omega)) (fun _ => ?_)
          refine J_iload dX8_best_59 rfl ?_
          refine J_if_lt (tgt := 84) dX8_best_61 (by decide) (fun c7 => ?_) (fun c7 => ?_)
          · skip
            rw [jx_slt (by omega) (by omega)] at c7
            refine J_iconst (v := nI 1) dX8_best_84 (by decide +kernel) ?_
            refine J_goto (tgt := 89) dX8_best_85 (by decide) ?_
            refine J_istore dX8_best_89 (Nat.le_of_ble_eq_true rfl) (L' := [(5, .int (nI 1)), (4, .int ((nI (fgnN (KQ Q) (handM Q MM 16) (Q 21) i t 4)) - (nI (fgnN (KQ Q) (handM Q MM 16) (Q 21) b t 4)))), (3, .int (nI i)), (2, .int (nI b)), (0, .ref (E.1 + 38)), (1, .int (nI t))]) rfl ?_
            refine J_iload dX8_best_91 rfl ?_
            refine J_if_eqN (tgt := 100) dX8_best_93 (by decide) (by omega) (fun z => absurd z (by decide)) (fun _ => ?_)
            refine J_iload_n dX8_best_96 rfl ?_
            refine J_goto (tgt := 101) dX8_best_97 (by decide) ?_
            refine J_istore_n dX8_best_101 (Nat.le_of_ble_eq_true rfl) (L' := [(2, .int (nI i)), (5, .int (nI 1)), (4, .int ((nI (fgnN (KQ Q) (handM Q MM 16) (Q 21) i t 4)) - (nI (fgnN (KQ Q) (handM Q MM 16) (Q 21) b t 4)))), (3, .int (nI i)), (0, .ref (E.1 + 38)), (1, .int (nI t))]) rfl ?_
            refine J_iincN (q := 3) (a := i) (m := 1) dX8_best_102 rfl (by decide +kernel) (Nat.le_of_ble_eq_true rfl) (L' := [(3, .int (nI (i + 1))), (2, .int (nI i)), (5, .int (nI 1)), (4, .int ((nI (fgnN (KQ Q) (handM Q MM 16) (Q 21) i t 4)) - (nI (fgnN (KQ Q) (handM Q MM 16) (Q 21) b t 4)))), (0, .ref (E.1 + 38)), (1, .int (nI t))]) rfl ?_
            refine J_goto (tgt := 22) dX8_best_105 (by decide) ?_
            refine J.sub [0, 1, 4, 5] (L' := [(3, .int (nI (i + 1))), (2, .int (nI i)), (0, .ref (E.1 + 38)), (1, .int (nI t))]) rfl ?_
            exact ih22 (i + 1) i (by omega) (by first | assumption | omega) (by first | assumption | omega) (by first | assumption | omega) (by first | exact bestN_s hbest (by omega) | exact bestN_k hbest (by omega) | exact bestN_1)
          · skip
            rw [show (0 : Int32) = 0 from rfl] at c7
            rw [jx_slt (by omega) (by omega)] at c7
            refine J_iload dX8_best_64 rfl ?_
            refine J_if_ne (tgt := 88) dX8_best_66 (by decide) (fun c9 => ?_) (fun c9 => ?_)
            · skip
              rw [jx_seq (by omega) (by omega)] at c9
              refine J_iconst (v := nI 0) dX8_best_88 (by decide +kernel) ?_
              refine J_istore dX8_best_89 (Nat.le_of_ble_eq_true rfl) (L' := [(5, .int (nI 0)), (4, .int ((nI (fgnN (KQ Q) (handM Q MM 16) (Q 21) i t 4)) - (nI (fgnN (KQ Q) (handM Q MM 16) (Q 21) b t 4)))), (3, .int (nI i)), (2, .int (nI b)), (0, .ref (E.1 + 38)), (1, .int (nI t))]) rfl ?_
              refine J_iload dX8_best_91 rfl ?_
              refine J_if_eqN (tgt := 100) dX8_best_93 (by decide) (by omega) (fun _ => ?_) (fun z => absurd z (by decide))
              refine J_iload_n dX8_best_100 rfl ?_
              refine J_istore_n dX8_best_101 (Nat.le_of_ble_eq_true rfl) (L' := [(2, .int (nI b)), (5, .int (nI 0)), (4, .int ((nI (fgnN (KQ Q) (handM Q MM 16) (Q 21) i t 4)) - (nI (fgnN (KQ Q) (handM Q MM 16) (Q 21) b t 4)))), (3, .int (nI i)), (0, .ref (E.1 + 38)), (1, .int (nI t))]) rfl ?_
              refine J_iincN (q := 3) (a := i) (m := 1) dX8_best_102 rfl (by decide +kernel) (Nat.le_of_ble_eq_true rfl) (L' := [(3, .int (nI (i + 1))), (2, .int (nI b)), (5, .int (nI 0)), (4, .int ((nI (fgnN (KQ Q) (handM Q MM 16) (Q 21) i t 4)) - (nI (fgnN (KQ Q) (handM Q MM 16) (Q 21) b t 4)))), (0, .ref (E.1 + 38)), (1, .int (nI t))]) rfl ?_
              refine J_goto (tgt := 22) dX8_best_105 (by decide) ?_
              refine J.sub [0, 1, 4, 5] (L' := [(3, .int (nI (i + 1))), (2, .int (nI b)), (0, .ref (E.1 + 38)), (1, .int (nI t))]) rfl ?_
              exact ih22 (i + 1) b (by omega) (by first | assumption | omega) (by first | assumption | omega) (by first | assumption | omega) (by first | exact bestN_s hbest (by omega) | exact bestN_k hbest (by omega) | exact bestN_1)
            · skip
              rw [jx_seq (by omega) (by omega)] at c9
              refine J_aload_n dX8_best_69 rfl ?_
              refine J_iload_n dX8_best_70 rfl ?_
              refine J_iload_n dX8_best_71 rfl ?_
              refine J_callVr (M' := mX8_upOf) (d' := (2, 0, 0)) (rest := []) dX8_best_72 jmX8_upOf jlRX8_94 (ctX8_upOf i t xa xb (Q 20) mo bn ta tl tk va Q (handM Q MM 16) hset_eq ((hset_ne (by omega)).trans ((hset_ne (by omega)).trans H1)) ((hset_ne (by omega)).trans hset_eq) (by omega) (by first | assumption | omega) (by first | assumption | omega) (by first | assumption | omega) (by exact handM_le hM4 hM) (by first | assumption | omega)) hset_eq (by omega) jk8.1 rfl rfl (Nat.le_of_ble_eq_true rfl) (Nat.le_of_ble_eq_true rfl) ⟨Nat.le_refl _, Nat.le_refl _⟩ ?_
              have fc11 : upN (KQ Q i) ((handM Q MM 16) (4 * i + t)) (Q 21) ≤ 42 := upN_le ((show ∀ zz, (handM Q MM 16) zz ≤ 20 from by exact handM_le hM4 hM) (4 * i + t))
              refine J_aload_n dX8_best_75 rfl ?_
              refine J_iload_n dX8_best_76 rfl ?_
              refine J_iload_n dX8_best_77 rfl ?_
              refine J_callVr (M' := mX8_upOf) (d' := (2, 0, 0)) (rest := [.int (nI (upN (KQ Q i) ((handM Q MM 16) (4 * i + t)) (Q 21)))]) dX8_best_78 jmX8_upOf jlRX8_94 (ctX8_upOf b t xa xb (Q 20) mo bn ta tl tk va Q (handM Q MM 16) hset_eq ((hset_ne (by omega)).trans ((hset_ne (by omega)).trans H1)) ((hset_ne (by omega)).trans hset_eq) (by omega) (by first | assumption | omega) (by first | assumption | omega) (by first | assumption | omega) (by exact handM_le hM4 hM) (by first | assumption | omega)) hset_eq (by omega) jk8.1 rfl rfl (Nat.le_of_ble_eq_true rfl) (Nat.le_of_ble_eq_true rfl) ⟨Nat.le_refl _, Nat.le_refl _⟩ ?_
              have fc12 : upN (KQ Q b) ((handM Q MM 16) (4 * b + t)) (Q 21) ≤ 42 := upN_le ((show ∀ zz, (handM Q MM 16) zz ≤ 20 from by exact handM_le hM4 hM) (4 * b + t))
              refine J_icmp_leN (tgt := 88) dX8_best_81 (by decide) (by omega) (by omega) (fun c13 => ?_) (fun c13 => ?_)
              · skip
                refine J_iconst (v := nI 0) dX8_best_88 (by decide +kernel) ?_
                refine J_istore dX8_best_89 (Nat.le_of_ble_eq_true rfl) (L' := [(5, .int (nI 0)), (4, .int ((nI (fgnN (KQ Q) (handM Q MM 16) (Q 21) i t 4)) - (nI (fgnN (KQ Q) (handM Q MM 16) (Q 21) b t 4)))), (3, .int (nI i)), (2, .int (nI b)), (0, .ref (E.1 + 38)), (1, .int (nI t))]) rfl ?_
                refine J_iload dX8_best_91 rfl ?_
                refine J_if_eqN (tgt := 100) dX8_best_93 (by decide) (by omega) (fun _ => ?_) (fun z => absurd z (by decide))
                refine J_iload_n dX8_best_100 rfl ?_
                refine J_istore_n dX8_best_101 (Nat.le_of_ble_eq_true rfl) (L' := [(2, .int (nI b)), (5, .int (nI 0)), (4, .int ((nI (fgnN (KQ Q) (handM Q MM 16) (Q 21) i t 4)) - (nI (fgnN (KQ Q) (handM Q MM 16) (Q 21) b t 4)))), (3, .int (nI i)), (0, .ref (E.1 + 38)), (1, .int (nI t))]) rfl ?_
                refine J_iincN (q := 3) (a := i) (m := 1) dX8_best_102 rfl (by decide +kernel) (Nat.le_of_ble_eq_true rfl) (L' := [(3, .int (nI (i + 1))), (2, .int (nI b)), (5, .int (nI 0)), (4, .int ((nI (fgnN (KQ Q) (handM Q MM 16) (Q 21) i t 4)) - (nI (fgnN (KQ Q) (handM Q MM 16) (Q 21) b t 4)))), (0, .ref (E.1 + 38)), (1, .int (nI t))]) rfl ?_
                refine J_goto (tgt := 22) dX8_best_105 (by decide) ?_
                refine J.sub [0, 1, 4, 5] (L' := [(3, .int (nI (i + 1))), (2, .int (nI b)), (0, .ref (E.1 + 38)), (1, .int (nI t))]) rfl ?_
                exact ih22 (i + 1) b (by omega) (by first | assumption | omega) (by first | assumption | omega) (by first | assumption | omega) (by first | exact bestN_s hbest (by omega) | exact bestN_k hbest (by omega) | exact bestN_1)
              · skip
                refine J_iconst (v := nI 1) dX8_best_84 (by decide +kernel) ?_
                refine J_goto (tgt := 89) dX8_best_85 (by decide) ?_
                refine J_istore dX8_best_89 (Nat.le_of_ble_eq_true rfl) (L' := [(5, .int (nI 1)), (4, .int ((nI (fgnN (KQ Q) (handM Q MM 16) (Q 21) i t 4)) - (nI (fgnN (KQ Q) (handM Q MM 16) (Q 21) b t 4)))), (3, .int (nI i)), (2, .int (nI b)), (0, .ref (E.1 + 38)), (1, .int (nI t))]) rfl ?_
                refine J_iload dX8_best_91 rfl ?_
                refine J_if_eqN (tgt := 100) dX8_best_93 (by decide) (by omega) (fun z => absurd z (by decide)) (fun _ => ?_)
                refine J_iload_n dX8_best_96 rfl ?_
                refine J_goto (tgt := 101) dX8_best_97 (by decide) ?_
                refine J_istore_n dX8_best_101 (Nat.le_of_ble_eq_true rfl) (L' := [(2, .int (nI i)), (5, .int (nI 1)), (4, .int ((nI (fgnN (KQ Q) (handM Q MM 16) (Q 21) i t 4)) - (nI (fgnN (KQ Q) (handM Q MM 16) (Q 21) b t 4)))), (3, .int (nI i)), (0, .ref (E.1 + 38)), (1, .int (nI t))]) rfl ?_
                refine J_iincN (q := 3) (a := i) (m := 1) dX8_best_102 rfl (by decide +kernel) (Nat.le_of_ble_eq_true rfl) (L' := [(3, .int (nI (i + 1))), (2, .int (nI i)), (5, .int (nI 1)), (4, .int ((nI (fgnN (KQ Q) (handM Q MM 16) (Q 21) i t 4)) - (nI (fgnN (KQ Q) (handM Q MM 16) (Q 21) b t 4)))), (0, .ref (E.1 + 38)), (1, .int (nI t))]) rfl ?_
                refine J_goto (tgt := 22) dX8_best_105 (by decide) ?_
                refine J.sub [0, 1, 4, 5] (L' := [(3, .int (nI (i + 1))), (2, .int (nI i)), (0, .ref (E.1 + 38)), (1, .int (nI t))]) rfl ?_
                exact ih22 (i + 1) i (by omega) (by first | assumption | omega) (by first | assumption | omega) (by first | assumption | omega) (by first | exact bestN_s hbest (by omega) | exact bestN_k hbest (by omega) | exact bestN_1)
    refine J.sub [0, 1, 4, 5] (L' := [(3, .int (nI 1)), (2, .int (nI 0)), (0, .ref (E.1 + 38)), (1, .int (nI t))]) rfl ?_
    exact CUT22 (Q 0 - 1 + 1) 1 0 (Nat.lt_succ_self _) (by first | assumption | omega) (by first | assumption | omega) (by first | assumption | omega) (by first | exact bestN_s hbest (by omega) | exact bestN_k hbest (by omega) | exact bestN_1)

set_option maxHeartbeats 1000000 in
set_option maxRecDepth 100000 in
theorem ctX8_note_bad {E : jE} {h : Nat → va_E} {n : Nat} (a : Nat) (x : Nat) (y : Nat) (z : Nat) (xa : Nat) (xb : Nat) (dt : Nat) (mo : Nat) (bn : Nat) (ta : Nat) (tl : Nat) (tk : Nat) (va : Nat) (RF : Nat → Nat) (Q : Nat → Nat) (H0 : h 38 = .inr (7, [.ref (E.1 + 39), .ref (E.1 + 40), .ref (E.1 + 41), .ref (E.1 + 42), .long (lN xa), .long (lN xb), .ref (E.1 + 43), .int (nI dt), .ref (E.1 + 44), .ref (E.1 + 45), .int (nI mo), .ref (E.1 + 46), .ref (E.1 + 47), .int (nI bn), .int (nI ta), .int (nI tl), .int (nI tk), .int (nI va), .ref (E.1 + 48), .ref (E.1 + 49)])) (H1 : h 42 = cI E 3 (nF RF)) (H2 : h 39 = cI E 218 (nF Q)) (hn : 50 ≤ n) (h32a : a < 2 ^ 32) (h32x : x < 2 ^ 32) (h32y : y < 2 ^ 32) (h32z : z < 2 ^ 32) (hn4 : Q 0 ≤ 4) (hbad : ¬ (a < Q 0 ∧ x ≤ 20 ∧ y ≤ 99 ∧ z ≤ 20)) : jC E mX8_note (3, 0, 0) [.ref (E.1 + 38), .int (nI a), .int (nI x), .int (nI y), .int (nI z)] h n (jR (some (.int (-2))) (hset h 42 (cI E 3 (nF (updN RF 0 (RF 0 + 1))))) n) := by
  refine J.of (L := [(0, .ref (E.1 + 38)), (1, .int (nI a)), (2, .int (nI x)), (3, .int (nI y)), (4, .int (nI z))]) rfl (by decide +kernel) (Nat.le_of_ble_eq_true rfl) ?_
  obtain ⟨PP, hPP⟩ : ∃ PP : jPost, PP = (jR (some (.int (-2))) (hset h 42 (cI E 3 (nF (updN RF 0 (RF 0 + 1))))) n) := ⟨_, rfl⟩
  rw [← hPP]
  refine J_aload_n dX8_note_0 rfl ?_
  refine J_iload_n dX8_note_1 rfl ?_
  refine J_callVr (M' := mX8_isAnvil) (d' := (2, 0, 0)) (rest := []) dX8_note_2 jmX8_isAnvil jlRX8_107 (ctX8_isAnvil a xa xb dt mo bn ta tl tk va Q H0 H2 (by omega) (by first | assumption | omega) (by first | assumption | omega)) H0 (by omega) jk8.1 rfl rfl (Nat.le_of_ble_eq_true rfl) (Nat.le_of_ble_eq_true rfl) ⟨Nat.le_refl _, Nat.le_refl _⟩ ?_
  refine J_if_eqB (tgt := 35) dX8_note_5 (by decide) (fun c1 => ?_) (fun c1 => ?_)
  · skip
    refine J_aload_n dX8_note_35 rfl ?_
    refine J_bipush (v := (-2)) dX8_note_36 (by decide +kernel) ?_
    refine J_callVr (M' := mX8_bad) (d' := (1, 0, 0)) (rest := []) dX8_note_38 jmX8_bad jlRX8_66 (ctX8_bad (-2) xa xb dt mo bn ta tl tk va RF H0 H1 (by omega) ) H0 (by omega) jk8.1 rfl rfl (Nat.le_of_ble_eq_true rfl) (Nat.le_of_ble_eq_true rfl) ⟨Nat.le_refl _, Nat.le_refl _⟩ ?_
    exact J_iret dX8_note_41 rfl ⟨Nat.le_refl _, Nat.le_refl _⟩ (by rw [hPP]; exact ⟨rfl, rfl, rfl⟩)
  · skip
    refine J_iload_n dX8_note_8 rfl ?_
    refine J_callSr (M' := mX8_isMemory) (d' := (2, 0, 0)) (rest := []) dX8_note_9 jmX8_isMemory jlRX8_72 (ctX8_isMemory x   (by first | assumption | omega)) rfl rfl (Nat.le_of_ble_eq_true rfl) (Nat.le_of_ble_eq_true rfl) ⟨Nat.le_refl _, Nat.le_refl _⟩ ?_
    refine J_if_eqB (tgt := 35) dX8_note_12 (by decide) (fun c2 => ?_) (fun c2 => ?_)
    · skip
      refine J_aload_n dX8_note_35 rfl ?_
      refine J_bipush (v := (-2)) dX8_note_36 (by decide +kernel) ?_
      refine J_callVr (M' := mX8_bad) (d' := (1, 0, 0)) (rest := []) dX8_note_38 jmX8_bad jlRX8_66 (ctX8_bad (-2) xa xb dt mo bn ta tl tk va RF H0 H1 (by omega) ) H0 (by omega) jk8.1 rfl rfl (Nat.le_of_ble_eq_true rfl) (Nat.le_of_ble_eq_true rfl) ⟨Nat.le_refl _, Nat.le_refl _⟩ ?_
      exact J_iret dX8_note_41 rfl ⟨Nat.le_refl _, Nat.le_refl _⟩ (by rw [hPP]; exact ⟨rfl, rfl, rfl⟩)
    · skip
      refine J_iload_n dX8_note_15 rfl ?_
      refine J_i2l (v := (nI y).toInt64) dX8_note_16 rfl ?_
      refine J_lconst (v := lN 0) dX8_note_17 (by decide +kernel) ?_
      refine J_ldc2 dX8_note_18 jqRX8_153 ?_
      refine J.stk (st' := .long (lN 99) :: [.long (lN 0), .long (nI y).toInt64]) rfl ?_
      refine J_callSr (M' := mX8_in) (d' := (1, 0, 0)) (rest := []) dX8_note_21 jmX8_in jlRX8_56 (ctX8_in y 0 99   (by first | assumption | omega) (by first | assumption | omega) (by first | assumption | omega)) rfl rfl (Nat.le_of_ble_eq_true rfl) (Nat.le_of_ble_eq_true rfl) ⟨Nat.le_refl _, Nat.le_refl _⟩ ?_
      refine J_if_eqB (tgt := 35) dX8_note_24 (by decide) (fun c3 => ?_) (fun c3 => ?_)
      · skip
        refine J_aload_n dX8_note_35 rfl ?_
        refine J_bipush (v := (-2)) dX8_note_36 (by decide +kernel) ?_
        refine J_callVr (M' := mX8_bad) (d' := (1, 0, 0)) (rest := []) dX8_note_38 jmX8_bad jlRX8_66 (ctX8_bad (-2) xa xb dt mo bn ta tl tk va RF H0 H1 (by omega) ) H0 (by omega) jk8.1 rfl rfl (Nat.le_of_ble_eq_true rfl) (Nat.le_of_ble_eq_true rfl) ⟨Nat.le_refl _, Nat.le_refl _⟩ ?_
        exact J_iret dX8_note_41 rfl ⟨Nat.le_refl _, Nat.le_refl _⟩ (by rw [hPP]; exact ⟨rfl, rfl, rfl⟩)
      · skip
        refine J_iload dX8_note_27 rfl ?_
        refine J_callSr (M' := mX8_isMemory) (d' := (2, 0, 0)) (rest := []) dX8_note_29 jmX8_isMemory jlRX8_72 (ctX8_isMemory z   (by first | assumption | omega)) rfl rfl (Nat.le_of_ble_eq_true rfl) (Nat.le_of_ble_eq_true rfl) ⟨Nat.le_refl _, Nat.le_refl _⟩ ?_
        refine J_if_neB (tgt := 42) dX8_note_32 (by decide) (fun c4 => (by exfalso; omega)) (fun c4 => ?_)
        refine J_aload_n dX8_note_35 rfl ?_
        refine J_bipush (v := (-2)) dX8_note_36 (by decide +kernel) ?_
        refine J_callVr (M' := mX8_bad) (d' := (1, 0, 0)) (rest := []) dX8_note_38 jmX8_bad jlRX8_66 (ctX8_bad (-2) xa xb dt mo bn ta tl tk va RF H0 H1 (by omega) ) H0 (by omega) jk8.1 rfl rfl (Nat.le_of_ble_eq_true rfl) (Nat.le_of_ble_eq_true rfl) ⟨Nat.le_refl _, Nat.le_refl _⟩ ?_
        exact J_iret dX8_note_41 rfl ⟨Nat.le_refl _, Nat.le_refl _⟩ (by rw [hPP]; exact ⟨rfl, rfl, rfl⟩)

set_option maxHeartbeats 1000000 in
set_option maxRecDepth 100000 in
theorem ctX8_note_full {E : jE} {h : Nat → va_E} {n : Nat} (a : Nat) (x : Nat) (y : Nat) (z : Nat) (xa : Nat) (xb : Nat) (dt : Nat) (mo : Nat) (bn : Nat) (ta : Nat) (tl : Nat) (tk : Nat) (va : Nat) (RF : Nat → Nat) (Q : Nat → Nat) (H0 : h 38 = .inr (7, [.ref (E.1 + 39), .ref (E.1 + 40), .ref (E.1 + 41), .ref (E.1 + 42), .long (lN xa), .long (lN xb), .ref (E.1 + 43), .int (nI dt), .ref (E.1 + 44), .ref (E.1 + 45), .int (nI mo), .ref (E.1 + 46), .ref (E.1 + 47), .int (nI bn), .int (nI ta), .int (nI tl), .int (nI tk), .int (nI va), .ref (E.1 + 48), .ref (E.1 + 49)])) (H1 : h 42 = cI E 3 (nF RF)) (H2 : h 39 = cI E 218 (nF Q)) (hn : 50 ≤ n) (hn4 : Q 0 ≤ 4) (ha : a < Q 0) (hx : x ≤ 20) (hy : y ≤ 99) (hz : z ≤ 20) (hnn : Q 1 = 6) : jC E mX8_note (3, 0, 0) [.ref (E.1 + 38), .int (nI a), .int (nI x), .int (nI y), .int (nI z)] h n (jR (some (.int (-4))) (hset h 42 (cI E 3 (nF (updN RF 2 (RF 2 + 1))))) n) := by
  refine J.of (L := [(0, .ref (E.1 + 38)), (1, .int (nI a)), (2, .int (nI x)), (3, .int (nI y)), (4, .int (nI z))]) rfl (by decide +kernel) (Nat.le_of_ble_eq_true rfl) ?_
  obtain ⟨PP, hPP⟩ : ∃ PP : jPost, PP = (jR (some (.int (-4))) (hset h 42 (cI E 3 (nF (updN RF 2 (RF 2 + 1))))) n) := ⟨_, rfl⟩
  rw [← hPP]
  refine J_aload_n dX8_note_0 rfl ?_
  refine J_iload_n dX8_note_1 rfl ?_
  refine J_callVr (M' := mX8_isAnvil) (d' := (2, 0, 0)) (rest := []) dX8_note_2 jmX8_isAnvil jlRX8_107 (ctX8_isAnvil a xa xb dt mo bn ta tl tk va Q H0 H2 (by omega) (by first | assumption | omega) (by first | assumption | omega)) H0 (by omega) jk8.1 rfl rfl (Nat.le_of_ble_eq_true rfl) (Nat.le_of_ble_eq_true rfl) ⟨Nat.le_refl _, Nat.le_refl _⟩ ?_
  refine J_if_eqB (tgt := 35) dX8_note_5 (by decide) (fun c1 => (by exfalso; omega)) (fun c1 => ?_)
  refine J_iload_n dX8_note_8 rfl ?_
  refine J_callSr (M' := mX8_isMemory) (d' := (2, 0, 0)) (rest := []) dX8_note_9 jmX8_isMemory jlRX8_72 (ctX8_isMemory x   (by first | assumption | omega)) rfl rfl (Nat.le_of_ble_eq_true rfl) (Nat.le_of_ble_eq_true rfl) ⟨Nat.le_refl _, Nat.le_refl _⟩ ?_
  refine J_if_eqB (tgt := 35) dX8_note_12 (by decide) (fun c2 => (by exfalso; omega)) (fun c2 => ?_)
  refine J_iload_n dX8_note_15 rfl ?_
  refine J_i2l (v := (nI y).toInt64) dX8_note_16 rfl ?_
  refine J_lconst (v := lN 0) dX8_note_17 (by decide +kernel) ?_
  refine J_ldc2 dX8_note_18 jqRX8_153 ?_
  refine J.stk (st' := .long (lN 99) :: [.long (lN 0), .long (nI y).toInt64]) rfl ?_
  refine J_callSr (M' := mX8_in) (d' := (1, 0, 0)) (rest := []) dX8_note_21 jmX8_in jlRX8_56 (ctX8_in y 0 99   (by first | assumption | omega) (by first | assumption | omega) (by first | assumption | omega)) rfl rfl (Nat.le_of_ble_eq_true rfl) (Nat.le_of_ble_eq_true rfl) ⟨Nat.le_refl _, Nat.le_refl _⟩ ?_
  refine J_if_eqB (tgt := 35) dX8_note_24 (by decide) (fun c3 => (by exfalso; omega)) (fun c3 => ?_)
  refine J_iload dX8_note_27 rfl ?_
  refine J_callSr (M' := mX8_isMemory) (d' := (2, 0, 0)) (rest := []) dX8_note_29 jmX8_isMemory jlRX8_72 (ctX8_isMemory z   (by first | assumption | omega)) rfl rfl (Nat.le_of_ble_eq_true rfl) (Nat.le_of_ble_eq_true rfl) ⟨Nat.le_refl _, Nat.le_refl _⟩ ?_
  refine J_if_neB (tgt := 42) dX8_note_32 (by decide) (fun c4 => ?_) (fun c4 => (by exfalso; omega))
  refine J_aload_n dX8_note_42 rfl ?_
  refine J_get 0 dX8_note_43 jk8 (Nat.le_of_ble_eq_true rfl) jfRX8_7 H0 (by omega) rfl ?_
  refine J_iconst (v := nI 1) dX8_note_46 (by decide +kernel) ?_
  refine J_ialdN (i := 1) dX8_note_47 H2 (by omega) (by omega) (by omega) ?_
  refine J_bipush (v := nI 6) dX8_note_48 (by decide +kernel) ?_
  refine J_icmp_neN (tgt := 58) dX8_note_50 (by decide) (by omega) (by omega) (fun c5 => (by exfalso; omega)) (fun c5 => ?_)
  refine J_aload_n dX8_note_53 rfl ?_
  refine J_callVr (M' := mX8_full) (d' := (1, 0, 0)) (rest := []) dX8_note_54 jmX8_full jlRX8_76 (ctX8_full xa xb dt mo bn ta tl tk va RF H0 H1 (by omega) ) H0 (by omega) jk8.1 rfl rfl (Nat.le_of_ble_eq_true rfl) (Nat.le_of_ble_eq_true rfl) ⟨Nat.le_refl _, Nat.le_refl _⟩ ?_
  exact J_iret dX8_note_57 rfl ⟨Nat.le_refl _, Nat.le_refl _⟩ (by rw [hPP]; exact ⟨rfl, rfl, rfl⟩)

set_option maxHeartbeats 1000000 in
set_option maxRecDepth 100000 in
theorem ctX8_note {E : jE} {h : Nat → va_E} {n : Nat} (a : Nat) (x : Nat) (y : Nat) (z : Nat) (xa : Nat) (xb : Nat) (dt : Nat) (mo : Nat) (bn : Nat) (ta : Nat) (tl : Nat) (tk : Nat) (va : Nat) (RF : Nat → Nat) (Q : Nat → Nat) (H0 : h 38 = .inr (7, [.ref (E.1 + 39), .ref (E.1 + 40), .ref (E.1 + 41), .ref (E.1 + 42), .long (lN xa), .long (lN xb), .ref (E.1 + 43), .int (nI dt), .ref (E.1 + 44), .ref (E.1 + 45), .int (nI mo), .ref (E.1 + 46), .ref (E.1 + 47), .int (nI bn), .int (nI ta), .int (nI tl), .int (nI tk), .int (nI va), .ref (E.1 + 48), .ref (E.1 + 49)])) (H1 : h 42 = cI E 3 (nF RF)) (H2 : h 39 = cI E 218 (nF Q)) (hn : 50 ≤ n) (hn4 : Q 0 ≤ 4) (ha : a < Q 0) (hx : x ≤ 20) (hy : y ≤ 99) (hz : z ≤ 20) (hnn : Q 1 < 6) : jC E mX8_note (3, 0, 0) [.ref (E.1 + 38), .int (nI a), .int (nI x), .int (nI y), .int (nI z)] h n (jR (some (.int (nI (Q 1 + 1)))) (hset h 39 (cI E 218 (nF (rowQ Q 26 1 a x y z)))) n) := by
  refine J.of (L := [(0, .ref (E.1 + 38)), (1, .int (nI a)), (2, .int (nI x)), (3, .int (nI y)), (4, .int (nI z))]) rfl (by decide +kernel) (Nat.le_of_ble_eq_true rfl) ?_
  obtain ⟨PP, hPP⟩ : ∃ PP : jPost, PP = (jR (some (.int (nI (Q 1 + 1)))) (hset h 39 (cI E 218 (nF (rowQ Q 26 1 a x y z)))) n) := ⟨_, rfl⟩
  rw [← hPP]
  refine J_aload_n dX8_note_0 rfl ?_
  refine J_iload_n dX8_note_1 rfl ?_
  refine J_callVr (M' := mX8_isAnvil) (d' := (2, 0, 0)) (rest := []) dX8_note_2 jmX8_isAnvil jlRX8_107 (ctX8_isAnvil a xa xb dt mo bn ta tl tk va Q H0 H2 (by omega) (by first | assumption | omega) (by first | assumption | omega)) H0 (by omega) jk8.1 rfl rfl (Nat.le_of_ble_eq_true rfl) (Nat.le_of_ble_eq_true rfl) ⟨Nat.le_refl _, Nat.le_refl _⟩ ?_
  refine J_if_eqB (tgt := 35) dX8_note_5 (by decide) (fun c1 => (by exfalso; omega)) (fun c1 => ?_)
  refine J_iload_n dX8_note_8 rfl ?_
  refine J_callSr (M' := mX8_isMemory) (d' := (2, 0, 0)) (rest := []) dX8_note_9 jmX8_isMemory jlRX8_72 (ctX8_isMemory x   (by first | assumption | omega)) rfl rfl (Nat.le_of_ble_eq_true rfl) (Nat.le_of_ble_eq_true rfl) ⟨Nat.le_refl _, Nat.le_refl _⟩ ?_
  refine J_if_eqB (tgt := 35) dX8_note_12 (by decide) (fun c2 => (by exfalso; omega)) (fun c2 => ?_)
  refine J_iload_n dX8_note_15 rfl ?_
  refine J_i2l (v := (nI y).toInt64) dX8_note_16 rfl ?_
  refine J_lconst (v := lN 0) dX8_note_17 (by decide +kernel) ?_
  refine J_ldc2 dX8_note_18 jqRX8_153 ?_
  refine J.stk (st' := .long (lN 99) :: [.long (lN 0), .long (nI y).toInt64]) rfl ?_
  refine J_callSr (M' := mX8_in) (d' := (1, 0, 0)) (rest := []) dX8_note_21 jmX8_in jlRX8_56 (ctX8_in y 0 99   (by first | assumption | omega) (by first | assumption | omega) (by first | assumption | omega)) rfl rfl (Nat.le_of_ble_eq_true rfl) (Nat.le_of_ble_eq_true rfl) ⟨Nat.le_refl _, Nat.le_refl _⟩ ?_
  refine J_if_eqB (tgt := 35) dX8_note_24 (by decide) (fun c3 => (by exfalso; omega)) (fun c3 => ?_)
  refine J_iload dX8_note_27 rfl ?_
  refine J_callSr (M' := mX8_isMemory) (d' := (2, 0, 0)) (rest := []) dX8_note_29 jmX8_isMemory jlRX8_72 (ctX8_isMemory z   (by first | assumption | omega)) rfl rfl (Nat.le_of_ble_eq_true rfl) (Nat.le_of_ble_eq_true rfl) ⟨Nat.le_refl _, Nat.le_refl _⟩ ?_
  refine J_if_neB (tgt := 42) dX8_note_32 (by decide) (fun c4 => ?_) (fun c4 => (by exfalso; omega))
  refine J_aload_n dX8_note_42 rfl ?_
  refine J_get 0 dX8_note_43 jk8 (Nat.le_of_ble_eq_true rfl) jfRX8_7 H0 (by omega) rfl ?_
  refine J_iconst (v := nI 1) dX8_note_46 (by decide +kernel) ?_
  refine J_ialdN (i := 1) dX8_note_47 H2 (by omega) (by omega) (by omega) ?_
  refine J_bipush (v := nI 6) dX8_note_48 (by decide +kernel) ?_
  refine J_icmp_neN (tgt := 58) dX8_note_50 (by decide) (by omega) (by omega) (fun c5 => ?_) (fun c5 => (by exfalso; omega))
  refine J_bipush (v := nI 26) dX8_note_58 (by decide +kernel) ?_
  refine J_iconst (v := nI 4) dX8_note_60 (by decide +kernel) ?_
  refine J_aload_n dX8_note_61 rfl ?_
  refine J_get 0 dX8_note_62 jk8 (Nat.le_of_ble_eq_true rfl) jfRX8_7 H0 (by omega) rfl ?_
  refine J_iconst (v := nI 1) dX8_note_65 (by decide +kernel) ?_
  refine J_ialdN (i := 1) dX8_note_66 H2 (by omega) (by omega) (by omega) ?_
  refine J_imulN dX8_note_67 ?_
  refine J_iaddN dX8_note_68 ?_
  refine J_istore dX8_note_69 (Nat.le_of_ble_eq_true rfl) (L' := [(5, .int (nI (26 + (4 * (Q 1))))), (0, .ref (E.1 + 38)), (1, .int (nI a)), (2, .int (nI x)), (3, .int (nI y)), (4, .int (nI z))]) rfl ?_
  refine J_aload_n dX8_note_71 rfl ?_
  refine J_get 0 dX8_note_72 jk8 (Nat.le_of_ble_eq_true rfl) jfRX8_7 H0 (by omega) rfl ?_
  refine J_iload dX8_note_75 rfl ?_
  refine J_iload_n dX8_note_77 rfl ?_
  refine J_iastN (i := 26 + (4 * (Q 1))) (v := a) dX8_note_78 H2 (by omega) (by omega) (by omega) ?_
  refine J_aload_n dX8_note_79 rfl ?_
  refine J_get 0 dX8_note_80 jk8 (Nat.le_of_ble_eq_true rfl) jfRX8_7 ((hset_ne (by omega)).trans H0) (by omega) rfl ?_
  refine J_iload dX8_note_83 rfl ?_
  refine J_iconst (v := nI 1) dX8_note_85 (by decide +kernel) ?_
  refine J_iaddN dX8_note_86 ?_
  refine J_iload_n dX8_note_87 rfl ?_
  refine J_iastN (i := (26 + (4 * (Q 1))) + 1) (v := x) dX8_note_88 hset_eq (by omega) (by omega) (by omega) ?_
  refine J.cast hset_hset ?_
  refine J_aload_n dX8_note_89 rfl ?_
  refine J_get 0 dX8_note_90 jk8 (Nat.le_of_ble_eq_true rfl) jfRX8_7 ((hset_ne (by omega)).trans H0) (by omega) rfl ?_
  refine J_iload dX8_note_93 rfl ?_
  refine J_iconst (v := nI 2) dX8_note_95 (by decide +kernel) ?_
  refine J_iaddN dX8_note_96 ?_
  refine J_iload_n dX8_note_97 rfl ?_
  refine J_iastN (i := (26 + (4 * (Q 1))) + 2) (v := y) dX8_note_98 hset_eq (by omega) (by omega) (by omega) ?_
  refine J.cast hset_hset ?_
  refine J_aload_n dX8_note_99 rfl ?_
  refine J_get 0 dX8_note_100 jk8 (Nat.le_of_ble_eq_true rfl) jfRX8_7 ((hset_ne (by omega)).trans H0) (by omega) rfl ?_
  refine J_iload dX8_note_103 rfl ?_
  refine J_iconst (v := nI 3) dX8_note_105 (by decide +kernel) ?_
  refine J_iaddN dX8_note_106 ?_
  refine J_iload dX8_note_107 rfl ?_
  refine J_iastN (i := (26 + (4 * (Q 1))) + 3) (v := z) dX8_note_109 hset_eq (by omega) (by omega) (by omega) ?_
  refine J.cast hset_hset ?_
  refine J_aload_n dX8_note_110 rfl ?_
  refine J_get 0 dX8_note_111 jk8 (Nat.le_of_ble_eq_true rfl) jfRX8_7 ((hset_ne (by omega)).trans H0) (by omega) rfl ?_
  refine J_iconst (v := nI 1) dX8_note_114 (by decide +kernel) ?_
  refine J_dup2 dX8_note_115 rfl rfl ?_
  refine J_ialdN (i := 1) dX8_note_116 hset_eq (by omega) (by omega) (by omega) ?_
  refine J_iconst (v := nI 1) dX8_note_117 (by decide +kernel) ?_
  refine J_iaddN dX8_note_118 ?_
  refine J_iastN (i := 1) (v := ((updN (updN (updN (updN Q (26 + (4 * (Q 1))) a) ((26 + (4 * (Q 1))) + 1) x) ((26 + (4 * (Q 1))) + 2) y) ((26 + (4 * (Q 1))) + 3) z) 1) + 1) dX8_note_119 hset_eq (by omega) (by omega) (by omega) ?_
  refine J.cast hset_hset ?_
  refine J_aload_n dX8_note_120 rfl ?_
  refine J_get 0 dX8_note_121 jk8 (Nat.le_of_ble_eq_true rfl) jfRX8_7 ((hset_ne (by omega)).trans H0) (by omega) rfl ?_
  refine J_iconst (v := nI 1) dX8_note_124 (by decide +kernel) ?_
  refine J_ialdN (i := 1) dX8_note_125 hset_eq (by omega) (by omega) (by omega) ?_
  exact J_iret dX8_note_126 rfl ⟨Nat.le_refl _, Nat.le_refl _⟩ (by rw [hPP]; exact ⟨(congrArg some (jv_N (by first | (rw [rowQ_c (by omega)]; rfl) | (simp only [updN, if_true]; exact congrArg (· + 1) (rowQ_c (by omega)))))), (hset_cg rfl (cI_cg (by intro z; first | (rw [rowQ_c (by omega)]; rfl) | (simp only [updN, if_true]; exact congrArg (· + 1) (rowQ_c (by omega)))))), rfl⟩)

set_option maxHeartbeats 1000000 in
set_option maxRecDepth 100000 in
theorem ctX8_came_bad {E : jE} {h : Nat → va_E} {n : Nat} (a : Nat) (t : Nat) (x : Nat) (y : Nat) (xa : Nat) (xb : Nat) (dt : Nat) (mo : Nat) (bn : Nat) (ta : Nat) (tl : Nat) (tk : Nat) (va : Nat) (RF : Nat → Nat) (Q : Nat → Nat) (H0 : h 38 = .inr (7, [.ref (E.1 + 39), .ref (E.1 + 40), .ref (E.1 + 41), .ref (E.1 + 42), .long (lN xa), .long (lN xb), .ref (E.1 + 43), .int (nI dt), .ref (E.1 + 44), .ref (E.1 + 45), .int (nI mo), .ref (E.1 + 46), .ref (E.1 + 47), .int (nI bn), .int (nI ta), .int (nI tl), .int (nI tk), .int (nI va), .ref (E.1 + 48), .ref (E.1 + 49)])) (H1 : h 42 = cI E 3 (nF RF)) (H2 : h 39 = cI E 218 (nF Q)) (hn : 50 ≤ n) (h32a : a < 2 ^ 32) (h32t : t < 2 ^ 32) (h32x : x < 2 ^ 32) (h32y : y < 2 ^ 32) (hn4 : Q 0 ≤ 4) (hbad : ¬ (a < Q 0 ∧ t ≤ 3 ∧ x ≤ 9 ∧ y ≤ 50)) : jC E mX8_came (3, 0, 0) [.ref (E.1 + 38), .int (nI a), .int (nI t), .int (nI x), .int (nI y)] h n (jR (some (.int (-2))) (hset h 42 (cI E 3 (nF (updN RF 0 (RF 0 + 1))))) n) := by
  refine J.of (L := [(0, .ref (E.1 + 38)), (1, .int (nI a)), (2, .int (nI t)), (3, .int (nI x)), (4, .int (nI y))]) rfl (by decide +kernel) (Nat.le_of_ble_eq_true rfl) ?_
  obtain ⟨PP, hPP⟩ : ∃ PP : jPost, PP = (jR (some (.int (-2))) (hset h 42 (cI E 3 (nF (updN RF 0 (RF 0 + 1))))) n) := ⟨_, rfl⟩
  rw [← hPP]
  refine J_aload_n dX8_came_0 rfl ?_
  refine J_iload_n dX8_came_1 rfl ?_
  refine J_callVr (M' := mX8_isAnvil) (d' := (2, 0, 0)) (rest := []) dX8_came_2 jmX8_isAnvil jlRX8_107 (ctX8_isAnvil a xa xb dt mo bn ta tl tk va Q H0 H2 (by omega) (by first | assumption | omega) (by first | assumption | omega)) H0 (by omega) jk8.1 rfl rfl (Nat.le_of_ble_eq_true rfl) (Nat.le_of_ble_eq_true rfl) ⟨Nat.le_refl _, Nat.le_refl _⟩ ?_
  refine J_if_eqB (tgt := 40) dX8_came_5 (by decide) (fun c1 => ?_) (fun c1 => ?_)
  · skip
    refine J_aload_n dX8_came_40 rfl ?_
    refine J_bipush (v := (-2)) dX8_came_41 (by decide +kernel) ?_
    refine J_callVr (M' := mX8_bad) (d' := (1, 0, 0)) (rest := []) dX8_came_43 jmX8_bad jlRX8_66 (ctX8_bad (-2) xa xb dt mo bn ta tl tk va RF H0 H1 (by omega) ) H0 (by omega) jk8.1 rfl rfl (Nat.le_of_ble_eq_true rfl) (Nat.le_of_ble_eq_true rfl) ⟨Nat.le_refl _, Nat.le_refl _⟩ ?_
    exact J_iret dX8_came_46 rfl ⟨Nat.le_refl _, Nat.le_refl _⟩ (by rw [hPP]; exact ⟨rfl, rfl, rfl⟩)
  · skip
    refine J_iload_n dX8_came_8 rfl ?_
    refine J_callSr (M' := mX8_isTemper) (d' := (2, 0, 0)) (rest := []) dX8_came_9 jmX8_isTemper jlRX8_110 (ctX8_isTemper t   (by first | assumption | omega)) rfl rfl (Nat.le_of_ble_eq_true rfl) (Nat.le_of_ble_eq_true rfl) ⟨Nat.le_refl _, Nat.le_refl _⟩ ?_
    refine J_if_eqB (tgt := 40) dX8_came_12 (by decide) (fun c2 => ?_) (fun c2 => ?_)
    · skip
      refine J_aload_n dX8_came_40 rfl ?_
      refine J_bipush (v := (-2)) dX8_came_41 (by decide +kernel) ?_
      refine J_callVr (M' := mX8_bad) (d' := (1, 0, 0)) (rest := []) dX8_came_43 jmX8_bad jlRX8_66 (ctX8_bad (-2) xa xb dt mo bn ta tl tk va RF H0 H1 (by omega) ) H0 (by omega) jk8.1 rfl rfl (Nat.le_of_ble_eq_true rfl) (Nat.le_of_ble_eq_true rfl) ⟨Nat.le_refl _, Nat.le_refl _⟩ ?_
      exact J_iret dX8_came_46 rfl ⟨Nat.le_refl _, Nat.le_refl _⟩ (by rw [hPP]; exact ⟨rfl, rfl, rfl⟩)
    · skip
      refine J_iload_n dX8_came_15 rfl ?_
      refine J_i2l (v := (nI x).toInt64) dX8_came_16 rfl ?_
      refine J_lconst (v := lN 0) dX8_came_17 (by decide +kernel) ?_
      refine J_ldc2 dX8_came_18 jqRX8_64 ?_
      refine J.stk (st' := .long (lN 9) :: [.long (lN 0), .long (nI x).toInt64]) rfl ?_
      refine J_callSr (M' := mX8_in) (d' := (1, 0, 0)) (rest := []) dX8_came_21 jmX8_in jlRX8_56 (ctX8_in x 0 9   (by first | assumption | omega) (by first | assumption | omega) (by first | assumption | omega)) rfl rfl (Nat.le_of_ble_eq_true rfl) (Nat.le_of_ble_eq_true rfl) ⟨Nat.le_refl _, Nat.le_refl _⟩ ?_
      refine J_if_eqB (tgt := 40) dX8_came_24 (by decide) (fun c3 => ?_) (fun c3 => ?_)
      · skip
        refine J_aload_n dX8_came_40 rfl ?_
        refine J_bipush (v := (-2)) dX8_came_41 (by decide +kernel) ?_
        refine J_callVr (M' := mX8_bad) (d' := (1, 0, 0)) (rest := []) dX8_came_43 jmX8_bad jlRX8_66 (ctX8_bad (-2) xa xb dt mo bn ta tl tk va RF H0 H1 (by omega) ) H0 (by omega) jk8.1 rfl rfl (Nat.le_of_ble_eq_true rfl) (Nat.le_of_ble_eq_true rfl) ⟨Nat.le_refl _, Nat.le_refl _⟩ ?_
        exact J_iret dX8_came_46 rfl ⟨Nat.le_refl _, Nat.le_refl _⟩ (by rw [hPP]; exact ⟨rfl, rfl, rfl⟩)
      · skip
        refine J_iload dX8_came_27 rfl ?_
        refine J_i2l (v := (nI y).toInt64) dX8_came_29 rfl ?_
        refine J_lconst (v := lN 0) dX8_came_30 (by decide +kernel) ?_
        refine J_ldc2 dX8_came_31 jqRX8_151 ?_
        refine J.stk (st' := .long (lN 50) :: [.long (lN 0), .long (nI y).toInt64]) rfl ?_
        refine J_callSr (M' := mX8_in) (d' := (1, 0, 0)) (rest := []) dX8_came_34 jmX8_in jlRX8_56 (ctX8_in y 0 50   (by first | assumption | omega) (by first | assumption | omega) (by first | assumption | omega)) rfl rfl (Nat.le_of_ble_eq_true rfl) (Nat.le_of_ble_eq_true rfl) ⟨Nat.le_refl _, Nat.le_refl _⟩ ?_
        refine J_if_neB (tgt := 47) dX8_came_37 (by decide) (fun c4 => (by exfalso; omega)) (fun c4 => ?_)
        refine J_aload_n dX8_came_40 rfl ?_
        refine J_bipush (v := (-2)) dX8_came_41 (by decide +kernel) ?_
        refine J_callVr (M' := mX8_bad) (d' := (1, 0, 0)) (rest := []) dX8_came_43 jmX8_bad jlRX8_66 (ctX8_bad (-2) xa xb dt mo bn ta tl tk va RF H0 H1 (by omega) ) H0 (by omega) jk8.1 rfl rfl (Nat.le_of_ble_eq_true rfl) (Nat.le_of_ble_eq_true rfl) ⟨Nat.le_refl _, Nat.le_refl _⟩ ?_
        exact J_iret dX8_came_46 rfl ⟨Nat.le_refl _, Nat.le_refl _⟩ (by rw [hPP]; exact ⟨rfl, rfl, rfl⟩)

set_option maxHeartbeats 1000000 in
set_option maxRecDepth 100000 in
theorem ctX8_came_full {E : jE} {h : Nat → va_E} {n : Nat} (a : Nat) (t : Nat) (x : Nat) (y : Nat) (xa : Nat) (xb : Nat) (dt : Nat) (mo : Nat) (bn : Nat) (ta : Nat) (tl : Nat) (tk : Nat) (va : Nat) (RF : Nat → Nat) (Q : Nat → Nat) (H0 : h 38 = .inr (7, [.ref (E.1 + 39), .ref (E.1 + 40), .ref (E.1 + 41), .ref (E.1 + 42), .long (lN xa), .long (lN xb), .ref (E.1 + 43), .int (nI dt), .ref (E.1 + 44), .ref (E.1 + 45), .int (nI mo), .ref (E.1 + 46), .ref (E.1 + 47), .int (nI bn), .int (nI ta), .int (nI tl), .int (nI tk), .int (nI va), .ref (E.1 + 48), .ref (E.1 + 49)])) (H1 : h 42 = cI E 3 (nF RF)) (H2 : h 39 = cI E 218 (nF Q)) (hn : 50 ≤ n) (hn4 : Q 0 ≤ 4) (ha : a < Q 0) (ht : t < 4) (hx : x ≤ 9) (hy : y ≤ 50) (hnn : Q 2 = 6) : jC E mX8_came (3, 0, 0) [.ref (E.1 + 38), .int (nI a), .int (nI t), .int (nI x), .int (nI y)] h n (jR (some (.int (-4))) (hset h 42 (cI E 3 (nF (updN RF 2 (RF 2 + 1))))) n) := by
  refine J.of (L := [(0, .ref (E.1 + 38)), (1, .int (nI a)), (2, .int (nI t)), (3, .int (nI x)), (4, .int (nI y))]) rfl (by decide +kernel) (Nat.le_of_ble_eq_true rfl) ?_
  obtain ⟨PP, hPP⟩ : ∃ PP : jPost, PP = (jR (some (.int (-4))) (hset h 42 (cI E 3 (nF (updN RF 2 (RF 2 + 1))))) n) := ⟨_, rfl⟩
  rw [← hPP]
  refine J_aload_n dX8_came_0 rfl ?_
  refine J_iload_n dX8_came_1 rfl ?_
  refine J_callVr (M' := mX8_isAnvil) (d' := (2, 0, 0)) (rest := []) dX8_came_2 jmX8_isAnvil jlRX8_107 (ctX8_isAnvil a xa xb dt mo bn ta tl tk va Q H0 H2 (by omega) (by first | assumption | omega) (by first | assumption | omega)) H0 (by omega) jk8.1 rfl rfl (Nat.le_of_ble_eq_true rfl) (Nat.le_of_ble_eq_true rfl) ⟨Nat.le_refl _, Nat.le_refl _⟩ ?_
  refine J_if_eqB (tgt := 40) dX8_came_5 (by decide) (fun c1 => (by exfalso; omega)) (fun c1 => ?_)
  refine J_iload_n dX8_came_8 rfl ?_
  refine J_callSr (M' := mX8_isTemper) (d' := (2, 0, 0)) (rest := []) dX8_came_9 jmX8_isTemper jlRX8_110 (ctX8_isTemper t   (by first | assumption | omega)) rfl rfl (Nat.le_of_ble_eq_true rfl) (Nat.le_of_ble_eq_true rfl) ⟨Nat.le_refl _, Nat.le_refl _⟩ ?_
  refine J_if_eqB (tgt := 40) dX8_came_12 (by decide) (fun c2 => (by exfalso; omega)) (fun c2 => ?_)
  refine J_iload_n dX8_came_15 rfl ?_
  refine J_i2l (v := (nI x).toInt64) dX8_came_16 rfl ?_
  refine J_lconst (v := lN 0) dX8_came_17 (by decide +kernel) ?_
  refine J_ldc2 dX8_came_18 jqRX8_64 ?_
  refine J.stk (st' := .long (lN 9) :: [.long (lN 0), .long (nI x).toInt64]) rfl ?_
  refine J_callSr (M' := mX8_in) (d' := (1, 0, 0)) (rest := []) dX8_came_21 jmX8_in jlRX8_56 (ctX8_in x 0 9   (by first | assumption | omega) (by first | assumption | omega) (by first | assumption | omega)) rfl rfl (Nat.le_of_ble_eq_true rfl) (Nat.le_of_ble_eq_true rfl) ⟨Nat.le_refl _, Nat.le_refl _⟩ ?_
  refine J_if_eqB (tgt := 40) dX8_came_24 (by decide) (fun c3 => (by exfalso; omega)) (fun c3 => ?_)
  refine J_iload dX8_came_27 rfl ?_
  refine J_i2l (v := (nI y).toInt64) dX8_came_29 rfl ?_
  refine J_lconst (v := lN 0) dX8_came_30 (by decide +kernel) ?_
  refine J_ldc2 dX8_came_31 jqRX8_151 ?_
  refine J.stk (st' := .long (lN 50) :: [.long (lN 0), .long (nI y).toInt64]) rfl ?_
  refine J_callSr (M' := mX8_in) (d' := (1, 0, 0)) (rest := []) dX8_came_34 jmX8_in jlRX8_56 (ctX8_in y 0 50   (by first | assumption | omega) (by first | assumption | omega) (by first | assumption | omega)) rfl rfl (Nat.le_of_ble_eq_true rfl) (Nat.le_of_ble_eq_true rfl) ⟨Nat.le_refl _, Nat.le_refl _⟩ ?_
  refine J_if_neB (tgt := 47) dX8_came_37 (by decide) (fun c4 => ?_) (fun c4 => (by exfalso; omega))
  refine J_aload_n dX8_came_47 rfl ?_
  refine J_get 0 dX8_came_48 jk8 (Nat.le_of_ble_eq_true rfl) jfRX8_7 H0 (by omega) rfl ?_
  refine J_iconst (v := nI 2) dX8_came_51 (by decide +kernel) ?_
  refine J_ialdN (i := 2) dX8_came_52 H2 (by omega) (by omega) (by omega) ?_
  refine J_bipush (v := nI 6) dX8_came_53 (by decide +kernel) ?_
  refine J_icmp_neN (tgt := 63) dX8_came_55 (by decide) (by omega) (by omega) (fun c5 => (by exfalso; omega)) (fun c5 => ?_)
  refine J_aload_n dX8_came_58 rfl ?_
  refine J_callVr (M' := mX8_full) (d' := (1, 0, 0)) (rest := []) dX8_came_59 jmX8_full jlRX8_76 (ctX8_full xa xb dt mo bn ta tl tk va RF H0 H1 (by omega) ) H0 (by omega) jk8.1 rfl rfl (Nat.le_of_ble_eq_true rfl) (Nat.le_of_ble_eq_true rfl) ⟨Nat.le_refl _, Nat.le_refl _⟩ ?_
  exact J_iret dX8_came_62 rfl ⟨Nat.le_refl _, Nat.le_refl _⟩ (by rw [hPP]; exact ⟨rfl, rfl, rfl⟩)

set_option maxHeartbeats 1000000 in
set_option maxRecDepth 100000 in
theorem ctX8_came {E : jE} {h : Nat → va_E} {n : Nat} (a : Nat) (t : Nat) (x : Nat) (y : Nat) (xa : Nat) (xb : Nat) (dt : Nat) (mo : Nat) (bn : Nat) (ta : Nat) (tl : Nat) (tk : Nat) (va : Nat) (RF : Nat → Nat) (Q : Nat → Nat) (H0 : h 38 = .inr (7, [.ref (E.1 + 39), .ref (E.1 + 40), .ref (E.1 + 41), .ref (E.1 + 42), .long (lN xa), .long (lN xb), .ref (E.1 + 43), .int (nI dt), .ref (E.1 + 44), .ref (E.1 + 45), .int (nI mo), .ref (E.1 + 46), .ref (E.1 + 47), .int (nI bn), .int (nI ta), .int (nI tl), .int (nI tk), .int (nI va), .ref (E.1 + 48), .ref (E.1 + 49)])) (H1 : h 42 = cI E 3 (nF RF)) (H2 : h 39 = cI E 218 (nF Q)) (hn : 50 ≤ n) (hn4 : Q 0 ≤ 4) (ha : a < Q 0) (ht : t < 4) (hx : x ≤ 9) (hy : y ≤ 50) (hnn : Q 2 < 6) : jC E mX8_came (3, 0, 0) [.ref (E.1 + 38), .int (nI a), .int (nI t), .int (nI x), .int (nI y)] h n (jR (some (.int (nI (Q 2 + 1)))) (hset h 39 (cI E 218 (nF (rowQ Q 50 2 a t x y)))) n) := by
  refine J.of (L := [(0, .ref (E.1 + 38)), (1, .int (nI a)), (2, .int (nI t)), (3, .int (nI x)), (4, .int (nI y))]) rfl (by decide +kernel) (Nat.le_of_ble_eq_true rfl) ?_
  obtain ⟨PP, hPP⟩ : ∃ PP : jPost, PP = (jR (some (.int (nI (Q 2 + 1)))) (hset h 39 (cI E 218 (nF (rowQ Q 50 2 a t x y)))) n) := ⟨_, rfl⟩
  rw [← hPP]
  refine J_aload_n dX8_came_0 rfl ?_
  refine J_iload_n dX8_came_1 rfl ?_
  refine J_callVr (M' := mX8_isAnvil) (d' := (2, 0, 0)) (rest := []) dX8_came_2 jmX8_isAnvil jlRX8_107 (ctX8_isAnvil a xa xb dt mo bn ta tl tk va Q H0 H2 (by omega) (by first | assumption | omega) (by first | assumption | omega)) H0 (by omega) jk8.1 rfl rfl (Nat.le_of_ble_eq_true rfl) (Nat.le_of_ble_eq_true rfl) ⟨Nat.le_refl _, Nat.le_refl _⟩ ?_
  refine J_if_eqB (tgt := 40) dX8_came_5 (by decide) (fun c1 => (by exfalso; omega)) (fun c1 => ?_)
  refine J_iload_n dX8_came_8 rfl ?_
  refine J_callSr (M' := mX8_isTemper) (d' := (2, 0, 0)) (rest := []) dX8_came_9 jmX8_isTemper jlRX8_110 (ctX8_isTemper t   (by first | assumption | omega)) rfl rfl (Nat.le_of_ble_eq_true rfl) (Nat.le_of_ble_eq_true rfl) ⟨Nat.le_refl _, Nat.le_refl _⟩ ?_
  refine J_if_eqB (tgt := 40) dX8_came_12 (by decide) (fun c2 => (by exfalso; omega)) (fun c2 => ?_)
  refine J_iload_n dX8_came_15 rfl ?_
  refine J_i2l (v := (nI x).toInt64) dX8_came_16 rfl ?_
  refine J_lconst (v := lN 0) dX8_came_17 (by decide +kernel) ?_
  refine J_ldc2 dX8_came_18 jqRX8_64 ?_
  refine J.stk (st' := .long (lN 9) :: [.long (lN 0), .long (nI x).toInt64]) rfl ?_
  refine J_callSr (M' := mX8_in) (d' := (1, 0, 0)) (rest := []) dX8_came_21 jmX8_in jlRX8_56 (ctX8_in x 0 9   (by first | assumption | omega) (by first | assumption | omega) (by first | assumption | omega)) rfl rfl (Nat.le_of_ble_eq_true rfl) (Nat.le_of_ble_eq_true rfl) ⟨Nat.le_refl _, Nat.le_refl _⟩ ?_
  refine J_if_eqB (tgt := 40) dX8_came_24 (by decide) (fun c3 => (by exfalso; omega)) (fun c3 => ?_)
  refine J_iload dX8_came_27 rfl ?_
  refine J_i2l (v := (nI y).toInt64) dX8_came_29 rfl ?_
  refine J_lconst (v := lN 0) dX8_came_30 (by decide +kernel) ?_
  refine J_ldc2 dX8_came_31 jqRX8_151 ?_
  refine J.stk (st' := .long (lN 50) :: [.long (lN 0), .long (nI y).toInt64]) rfl ?_
  refine J_callSr (M' := mX8_in) (d' := (1, 0, 0)) (rest := []) dX8_came_34 jmX8_in jlRX8_56 (ctX8_in y 0 50   (by first | assumption | omega) (by first | assumption | omega) (by first | assumption | omega)) rfl rfl (Nat.le_of_ble_eq_true rfl) (Nat.le_of_ble_eq_true rfl) ⟨Nat.le_refl _, Nat.le_refl _⟩ ?_
  refine J_if_neB (tgt := 47) dX8_came_37 (by decide) (fun c4 => ?_) (fun c4 => (by exfalso; omega))
  refine J_aload_n dX8_came_47 rfl ?_
  refine J_get 0 dX8_came_48 jk8 (Nat.le_of_ble_eq_true rfl) jfRX8_7 H0 (by omega) rfl ?_
  refine J_iconst (v := nI 2) dX8_came_51 (by decide +kernel) ?_
  refine J_ialdN (i := 2) dX8_came_52 H2 (by omega) (by omega) (by omega) ?_
  refine J_bipush (v := nI 6) dX8_came_53 (by decide +kernel) ?_
  refine J_icmp_neN (tgt := 63) dX8_came_55 (by decide) (by omega) (by omega) (fun c5 => ?_) (fun c5 => (by exfalso; omega))
  refine J_bipush (v := nI 50) dX8_came_63 (by decide +kernel) ?_
  refine J_iconst (v := nI 4) dX8_came_65 (by decide +kernel) ?_
  refine J_aload_n dX8_came_66 rfl ?_
  refine J_get 0 dX8_came_67 jk8 (Nat.le_of_ble_eq_true rfl) jfRX8_7 H0 (by omega) rfl ?_
  refine J_iconst (v := nI 2) dX8_came_70 (by decide +kernel) ?_
  refine J_ialdN (i := 2) dX8_came_71 H2 (by omega) (by omega) (by omega) ?_
  refine J_imulN dX8_came_72 ?_
  refine J_iaddN dX8_came_73 ?_
  refine J_istore dX8_came_74 (Nat.le_of_ble_eq_true rfl) (L' := [(5, .int (nI (50 + (4 * (Q 2))))), (0, .ref (E.1 + 38)), (1, .int (nI a)), (2, .int (nI t)), (3, .int (nI x)), (4, .int (nI y))]) rfl ?_
  refine J_aload_n dX8_came_76 rfl ?_
  refine J_get 0 dX8_came_77 jk8 (Nat.le_of_ble_eq_true rfl) jfRX8_7 H0 (by omega) rfl ?_
  refine J_iload dX8_came_80 rfl ?_
  refine J_iload_n dX8_came_82 rfl ?_
  refine J_iastN (i := 50 + (4 * (Q 2))) (v := a) dX8_came_83 H2 (by omega) (by omega) (by omega) ?_
  refine J_aload_n dX8_came_84 rfl ?_
  refine J_get 0 dX8_came_85 jk8 (Nat.le_of_ble_eq_true rfl) jfRX8_7 ((hset_ne (by omega)).trans H0) (by omega) rfl ?_
  refine J_iload dX8_came_88 rfl ?_
  refine J_iconst (v := nI 1) dX8_came_90 (by decide +kernel) ?_
  refine J_iaddN dX8_came_91 ?_
  refine J_iload_n dX8_came_92 rfl ?_
  refine J_iastN (i := (50 + (4 * (Q 2))) + 1) (v := t) dX8_came_93 hset_eq (by omega) (by omega) (by omega) ?_
  refine J.cast hset_hset ?_
  refine J_aload_n dX8_came_94 rfl ?_
  refine J_get 0 dX8_came_95 jk8 (Nat.le_of_ble_eq_true rfl) jfRX8_7 ((hset_ne (by omega)).trans H0) (by omega) rfl ?_
  refine J_iload dX8_came_98 rfl ?_
  refine J_iconst (v := nI 2) dX8_came_100 (by decide +kernel) ?_
  refine J_iaddN dX8_came_101 ?_
  refine J_iload_n dX8_came_102 rfl ?_
  refine J_iastN (i := (50 + (4 * (Q 2))) + 2) (v := x) dX8_came_103 hset_eq (by omega) (by omega) (by omega) ?_
  refine J.cast hset_hset ?_
  refine J_aload_n dX8_came_104 rfl ?_
  refine J_get 0 dX8_came_105 jk8 (Nat.le_of_ble_eq_true rfl) jfRX8_7 ((hset_ne (by omega)).trans H0) (by omega) rfl ?_
  refine J_iload dX8_came_108 rfl ?_
  refine J_iconst (v := nI 3) dX8_came_110 (by decide +kernel) ?_
  refine J_iaddN dX8_came_111 ?_
  refine J_iload dX8_came_112 rfl ?_
  refine J_iastN (i := (50 + (4 * (Q 2))) + 3) (v := y) dX8_came_114 hset_eq (by omega) (by omega) (by omega) ?_
  refine J.cast hset_hset ?_
  refine J_aload_n dX8_came_115 rfl ?_
  refine J_get 0 dX8_came_116 jk8 (Nat.le_of_ble_eq_true rfl) jfRX8_7 ((hset_ne (by omega)).trans H0) (by omega) rfl ?_
  refine J_iconst (v := nI 2) dX8_came_119 (by decide +kernel) ?_
  refine J_dup2 dX8_came_120 rfl rfl ?_
  refine J_ialdN (i := 2) dX8_came_121 hset_eq (by omega) (by omega) (by omega) ?_
  refine J_iconst (v := nI 1) dX8_came_122 (by decide +kernel) ?_
  refine J_iaddN dX8_came_123 ?_
  refine J_iastN (i := 2) (v := ((updN (updN (updN (updN Q (50 + (4 * (Q 2))) a) ((50 + (4 * (Q 2))) + 1) t) ((50 + (4 * (Q 2))) + 2) x) ((50 + (4 * (Q 2))) + 3) y) 2) + 1) dX8_came_124 hset_eq (by omega) (by omega) (by omega) ?_
  refine J.cast hset_hset ?_
  refine J_aload_n dX8_came_125 rfl ?_
  refine J_get 0 dX8_came_126 jk8 (Nat.le_of_ble_eq_true rfl) jfRX8_7 ((hset_ne (by omega)).trans H0) (by omega) rfl ?_
  refine J_iconst (v := nI 2) dX8_came_129 (by decide +kernel) ?_
  refine J_ialdN (i := 2) dX8_came_130 hset_eq (by omega) (by omega) (by omega) ?_
  exact J_iret dX8_came_131 rfl ⟨Nat.le_refl _, Nat.le_refl _⟩ (by rw [hPP]; exact ⟨(congrArg some (jv_N (by first | (rw [rowQ_c (by omega)]; rfl) | (simp only [updN, if_true]; exact congrArg (· + 1) (rowQ_c (by omega)))))), (hset_cg rfl (cI_cg (by intro z; first | (rw [rowQ_c (by omega)]; rfl) | (simp only [updN, if_true]; exact congrArg (· + 1) (rowQ_c (by omega)))))), rfl⟩)

set_option maxHeartbeats 1000000 in
set_option maxRecDepth 100000 in
theorem ctX8_forget_bad {E : jE} {h : Nat → va_E} {n : Nat} (x : Nat) (xa : Nat) (xb : Nat) (dt : Nat) (mo : Nat) (bn : Nat) (ta : Nat) (tl : Nat) (tk : Nat) (va : Nat) (RF : Nat → Nat) (H0 : h 38 = .inr (7, [.ref (E.1 + 39), .ref (E.1 + 40), .ref (E.1 + 41), .ref (E.1 + 42), .long (lN xa), .long (lN xb), .ref (E.1 + 43), .int (nI dt), .ref (E.1 + 44), .ref (E.1 + 45), .int (nI mo), .ref (E.1 + 46), .ref (E.1 + 47), .int (nI bn), .int (nI ta), .int (nI tl), .int (nI tk), .int (nI va), .ref (E.1 + 48), .ref (E.1 + 49)])) (H1 : h 42 = cI E 3 (nF RF)) (hn : 50 ≤ n) (h32x : x < 2 ^ 32) (hbad : ¬ x ≤ 1) : jC E mX8_forget (2, 0, 0) [.ref (E.1 + 38), .int (nI x)] h n (jR (some (.int (-2))) (hset h 42 (cI E 3 (nF (updN RF 0 (RF 0 + 1))))) n) := by
  refine J.of (L := [(0, .ref (E.1 + 38)), (1, .int (nI x))]) rfl (by decide +kernel) (Nat.le_of_ble_eq_true rfl) ?_
  obtain ⟨PP, hPP⟩ : ∃ PP : jPost, PP = (jR (some (.int (-2))) (hset h 42 (cI E 3 (nF (updN RF 0 (RF 0 + 1))))) n) := ⟨_, rfl⟩
  rw [← hPP]
  refine J_iload_n dX8_forget_0 rfl ?_
  refine J_i2l (v := (nI x).toInt64) dX8_forget_1 rfl ?_
  refine J_lconst (v := lN 0) dX8_forget_2 (by decide +kernel) ?_
  refine J_lconst (v := lN 1) dX8_forget_3 (by decide +kernel) ?_
  refine J_callSr (M' := mX8_in) (d' := (1, 0, 0)) (rest := []) dX8_forget_4 jmX8_in jlRX8_56 (ctX8_in x 0 1   (by first | assumption | omega) (by first | assumption | omega) (by first | assumption | omega)) rfl rfl (Nat.le_of_ble_eq_true rfl) (Nat.le_of_ble_eq_true rfl) ⟨Nat.le_refl _, Nat.le_refl _⟩ ?_
  refine J_if_neB (tgt := 17) dX8_forget_7 (by decide) (fun c1 => (by exfalso; omega)) (fun c1 => ?_)
  refine J_aload_n dX8_forget_10 rfl ?_
  refine J_bipush (v := (-2)) dX8_forget_11 (by decide +kernel) ?_
  refine J_callVr (M' := mX8_bad) (d' := (1, 0, 0)) (rest := []) dX8_forget_13 jmX8_bad jlRX8_66 (ctX8_bad (-2) xa xb dt mo bn ta tl tk va RF H0 H1 (by omega) ) H0 (by omega) jk8.1 rfl rfl (Nat.le_of_ble_eq_true rfl) (Nat.le_of_ble_eq_true rfl) ⟨Nat.le_refl _, Nat.le_refl _⟩ ?_
  exact J_iret dX8_forget_16 rfl ⟨Nat.le_refl _, Nat.le_refl _⟩ (by rw [hPP]; exact ⟨rfl, rfl, rfl⟩)

set_option maxHeartbeats 1000000 in
set_option maxRecDepth 100000 in
theorem ctX8_forget_0 {E : jE} {h : Nat → va_E} {n : Nat} (xa : Nat) (xb : Nat) (dt : Nat) (mo : Nat) (bn : Nat) (ta : Nat) (tl : Nat) (tk : Nat) (va : Nat) (Q : Nat → Nat) (H0 : h 38 = .inr (7, [.ref (E.1 + 39), .ref (E.1 + 40), .ref (E.1 + 41), .ref (E.1 + 42), .long (lN xa), .long (lN xb), .ref (E.1 + 43), .int (nI dt), .ref (E.1 + 44), .ref (E.1 + 45), .int (nI mo), .ref (E.1 + 46), .ref (E.1 + 47), .int (nI bn), .int (nI ta), .int (nI tl), .int (nI tk), .int (nI va), .ref (E.1 + 48), .ref (E.1 + 49)])) (H1 : h 39 = cI E 218 (nF Q)) (hn : 50 ≤ n) : jC E mX8_forget (2, 0, 0) [.ref (E.1 + 38), .int (nI 0)] h n (jR (some (.int (nI (Q 1)))) (hset h 39 (cI E 218 (nF (updN Q 1 0)))) n) := by
  refine J.of (L := [(0, .ref (E.1 + 38)), (1, .int (nI 0))]) rfl (by decide +kernel) (Nat.le_of_ble_eq_true rfl) ?_
  obtain ⟨PP, hPP⟩ : ∃ PP : jPost, PP = (jR (some (.int (nI (Q 1)))) (hset h 39 (cI E 218 (nF (updN Q 1 0)))) n) := ⟨_, rfl⟩
  rw [← hPP]
  refine J_iload_n dX8_forget_0 rfl ?_
  refine J_i2lN dX8_forget_1 (by omega) ?_
  refine J_lconst (v := lN 0) dX8_forget_2 (by decide +kernel) ?_
  refine J_lconst (v := lN 1) dX8_forget_3 (by decide +kernel) ?_
  refine J_callSr (M' := mX8_in) (d' := (1, 0, 0)) (rest := []) dX8_forget_4 jmX8_in jlRX8_56 (ctX8_inM 0 0 1   (by first | assumption | omega) (by first | assumption | omega) (by first | assumption | omega)) rfl rfl (Nat.le_of_ble_eq_true rfl) (Nat.le_of_ble_eq_true rfl) ⟨Nat.le_refl _, Nat.le_refl _⟩ ?_
  refine J_if_neB (tgt := 17) dX8_forget_7 (by decide) (fun c1 => ?_) (fun c1 => (by exfalso; omega))
  refine J_aload_n dX8_forget_17 rfl ?_
  refine J_get 0 dX8_forget_18 jk8 (Nat.le_of_ble_eq_true rfl) jfRX8_7 H0 (by omega) rfl ?_
  refine J_iconst (v := nI 1) dX8_forget_21 (by decide +kernel) ?_
  refine J_iload_n dX8_forget_22 rfl ?_
  refine J_iaddN dX8_forget_23 ?_
  refine J.stk (st' := [.int (nI 1), .ref (E.1 + 39)]) rfl ?_
  refine J_ialdN (i := 1) dX8_forget_24 H1 (by omega) (by omega) (by omega) ?_
  refine J_istore_n dX8_forget_25 (Nat.le_of_ble_eq_true rfl) (L' := [(2, .int (nI (Q 1))), (0, .ref (E.1 + 38)), (1, .int (nI 0))]) rfl ?_
  refine J_aload_n dX8_forget_26 rfl ?_
  refine J_get 0 dX8_forget_27 jk8 (Nat.le_of_ble_eq_true rfl) jfRX8_7 H0 (by omega) rfl ?_
  refine J_iconst (v := nI 1) dX8_forget_30 (by decide +kernel) ?_
  refine J_iload_n dX8_forget_31 rfl ?_
  refine J_iaddN dX8_forget_32 ?_
  refine J.stk (st' := [.int (nI 1), .ref (E.1 + 39)]) rfl ?_
  refine J_iconst (v := nI 0) dX8_forget_33 (by decide +kernel) ?_
  refine J_iastN (i := 1) (v := 0) dX8_forget_34 H1 (by omega) (by omega) (by omega) ?_
  refine J_iload_n dX8_forget_35 rfl ?_
  exact J_iret dX8_forget_36 rfl ⟨Nat.le_refl _, Nat.le_refl _⟩ (by rw [hPP]; exact ⟨rfl, rfl, rfl⟩)

set_option maxHeartbeats 1000000 in
set_option maxRecDepth 100000 in
theorem ctX8_forget_1 {E : jE} {h : Nat → va_E} {n : Nat} (xa : Nat) (xb : Nat) (dt : Nat) (mo : Nat) (bn : Nat) (ta : Nat) (tl : Nat) (tk : Nat) (va : Nat) (Q : Nat → Nat) (H0 : h 38 = .inr (7, [.ref (E.1 + 39), .ref (E.1 + 40), .ref (E.1 + 41), .ref (E.1 + 42), .long (lN xa), .long (lN xb), .ref (E.1 + 43), .int (nI dt), .ref (E.1 + 44), .ref (E.1 + 45), .int (nI mo), .ref (E.1 + 46), .ref (E.1 + 47), .int (nI bn), .int (nI ta), .int (nI tl), .int (nI tk), .int (nI va), .ref (E.1 + 48), .ref (E.1 + 49)])) (H1 : h 39 = cI E 218 (nF Q)) (hn : 50 ≤ n) : jC E mX8_forget (2, 0, 0) [.ref (E.1 + 38), .int (nI 1)] h n (jR (some (.int (nI (Q 2)))) (hset h 39 (cI E 218 (nF (updN Q 2 0)))) n) := by
  refine J.of (L := [(0, .ref (E.1 + 38)), (1, .int (nI 1))]) rfl (by decide +kernel) (Nat.le_of_ble_eq_true rfl) ?_
  obtain ⟨PP, hPP⟩ : ∃ PP : jPost, PP = (jR (some (.int (nI (Q 2)))) (hset h 39 (cI E 218 (nF (updN Q 2 0)))) n) := ⟨_, rfl⟩
  rw [← hPP]
  refine J_iload_n dX8_forget_0 rfl ?_
  refine J_i2lN dX8_forget_1 (by omega) ?_
  refine J_lconst (v := lN 0) dX8_forget_2 (by decide +kernel) ?_
  refine J_lconst (v := lN 1) dX8_forget_3 (by decide +kernel) ?_
  refine J_callSr (M' := mX8_in) (d' := (1, 0, 0)) (rest := []) dX8_forget_4 jmX8_in jlRX8_56 (ctX8_inM 1 0 1   (by first | assumption | omega) (by first | assumption | omega) (by first | assumption | omega)) rfl rfl (Nat.le_of_ble_eq_true rfl) (Nat.le_of_ble_eq_true rfl) ⟨Nat.le_refl _, Nat.le_refl _⟩ ?_
  refine J_if_neB (tgt := 17) dX8_forget_7 (by decide) (fun c1 => ?_) (fun c1 => (by exfalso; omega))
  refine J_aload_n dX8_forget_17 rfl ?_
  refine J_get 0 dX8_forget_18 jk8 (Nat.le_of_ble_eq_true rfl) jfRX8_7 H0 (by omega) rfl ?_
  refine J_iconst (v := nI 1) dX8_forget_21 (by decide +kernel) ?_
  refine J_iload_n dX8_forget_22 rfl ?_
  refine J_iaddN dX8_forget_23 ?_
  refine J.stk (st' := [.int (nI 2), .ref (E.1 + 39)]) rfl ?_
  refine J_ialdN (i := 2) dX8_forget_24 H1 (by omega) (by omega) (by omega) ?_
  refine J_istore_n dX8_forget_25 (Nat.le_of_ble_eq_true rfl) (L' := [(2, .int (nI (Q 2))), (0, .ref (E.1 + 38)), (1, .int (nI 1))]) rfl ?_
  refine J_aload_n dX8_forget_26 rfl ?_
  refine J_get 0 dX8_forget_27 jk8 (Nat.le_of_ble_eq_true rfl) jfRX8_7 H0 (by omega) rfl ?_
  refine J_iconst (v := nI 1) dX8_forget_30 (by decide +kernel) ?_
  refine J_iload_n dX8_forget_31 rfl ?_
  refine J_iaddN dX8_forget_32 ?_
  refine J.stk (st' := [.int (nI 2), .ref (E.1 + 39)]) rfl ?_
  refine J_iconst (v := nI 0) dX8_forget_33 (by decide +kernel) ?_
  refine J_iastN (i := 2) (v := 0) dX8_forget_34 H1 (by omega) (by omega) (by omega) ?_
  refine J_iload_n dX8_forget_35 rfl ?_
  exact J_iret dX8_forget_36 rfl ⟨Nat.le_refl _, Nat.le_refl _⟩ (by rw [hPP]; exact ⟨rfl, rfl, rfl⟩)

set_option maxHeartbeats 1000000 in
set_option maxRecDepth 100000 in
theorem ctX8_kindsOf {E : jE} {h : Nat → va_E} {n : Nat} (a : Nat) (xa : Nat) (xb : Nat) (dt : Nat) (mo : Nat) (bn : Nat) (ta : Nat) (tl : Nat) (tk : Nat) (va : Nat) (Q : Nat → Nat) (H0 : h 38 = .inr (7, [.ref (E.1 + 39), .ref (E.1 + 40), .ref (E.1 + 41), .ref (E.1 + 42), .long (lN xa), .long (lN xb), .ref (E.1 + 43), .int (nI dt), .ref (E.1 + 44), .ref (E.1 + 45), .int (nI mo), .ref (E.1 + 46), .ref (E.1 + 47), .int (nI bn), .int (nI ta), .int (nI tl), .int (nI tk), .int (nI va), .ref (E.1 + 48), .ref (E.1 + 49)])) (H1 : h 39 = cI E 218 (nF Q)) (hn : 50 ≤ n) (ha : a < 4) (hn1 : Q 1 ≤ 6) (hNQ : ∀ zz, zz < 24 → Q (26 + zz) ≤ 99) : jC E mX8_kindsOf (2, 0, 0) [.ref (E.1 + 38), .int (nI a)] h n (jR (some (.int (nI (bitsN (fun kd => noteR Q a kd (Q 1)) 6)))) h n) := by
  refine J.of (L := [(0, .ref (E.1 + 38)), (1, .int (nI a))]) rfl (by decide +kernel) (Nat.le_of_ble_eq_true rfl) ?_
  obtain ⟨PP, hPP⟩ : ∃ PP : jPost, PP = (jR (some (.int (nI (bitsN (fun kd => noteR Q a kd (Q 1)) 6)))) h n) := ⟨_, rfl⟩
  rw [← hPP]
  refine J_iconst (v := nI 0) dX8_kindsOf_0 (by decide +kernel) ?_
  refine J_istore_n dX8_kindsOf_1 (Nat.le_of_ble_eq_true rfl) (L' := [(2, .int (nI 0)), (0, .ref (E.1 + 38)), (1, .int (nI a))]) rfl ?_
  refine J_iconst (v := nI 0) dX8_kindsOf_2 (by decide +kernel) ?_
  refine J_istore_n dX8_kindsOf_3 (Nat.le_of_ble_eq_true rfl) (L' := [(3, .int (nI 0)), (2, .int (nI 0)), (0, .ref (E.1 + 38)), (1, .int (nI a))]) rfl ?_
  have CUT4 : ∀ (f4 : Nat) (i : Nat) (hm4 : 6 - i < f4) (hi : i ≤ 6), J E mX8_kindsOf (2, 0, 0) jS0 PP h n (0, 0) 4 [(3, .int (nI i)), (2, .int (nI (bitsN (fun kd => noteR Q a kd (Q 1)) i))), (0, .ref (E.1 + 38)), (1, .int (nI a))] [] := by
    intro f4
    induction f4 with
    | zero => intro i hm4; exact absurd hm4 (Nat.not_lt_zero _)
    | succ f4 ih4 =>
      intro i hm4 hi
      refine J_iload_n dX8_kindsOf_4 rfl ?_
      refine J_bipush (v := nI 6) dX8_kindsOf_5 (by decide +kernel) ?_
      refine J_icmp_geN (tgt := 120) dX8_kindsOf_7 (by decide) (by omega) (by omega) (fun c1 => ?_) (fun c1 => ?_)
      · skip
        refine J_iload_n dX8_kindsOf_120 rfl ?_
        exact J_iret dX8_kindsOf_121 rfl ⟨Nat.le_refl _, Nat.le_refl _⟩ (by rw [hPP]; exact ⟨(congrArg some (jv_N (by rw [show i = 6 by omega]))), rfl, rfl⟩)
      · skip
        refine J_iconst (v := nI 1) dX8_kindsOf_10 (by decide +kernel) ?_
        refine J_istore dX8_kindsOf_11 (Nat.le_of_ble_eq_true rfl) (L' := [(4, .int (nI 1)), (3, .int (nI i)), (2, .int (nI (bitsN (fun kd => noteR Q a kd (Q 1)) i))), (0, .ref (E.1 + 38)), (1, .int (nI a))]) rfl ?_
        refine J_iconst (v := nI 0) dX8_kindsOf_13 (by decide +kernel) ?_
        refine J_istore dX8_kindsOf_14 (Nat.le_of_ble_eq_true rfl) (L' := [(5, .int (nI 0)), (4, .int (nI 1)), (3, .int (nI i)), (2, .int (nI (bitsN (fun kd => noteR Q a kd (Q 1)) i))), (0, .ref (E.1 + 38)), (1, .int (nI a))]) rfl ?_
        have CUT16 : ∀ (f16 : Nat) (j : Nat) (hm16 : Q 1 - j < f16) (hj : j ≤ Q 1), J E mX8_kindsOf (2, 0, 0) jS0 PP h n (0, 0) 16 [(5, .int (nI j)), (4, .int (jb (noteR Q a i j))), (3, .int (nI i)), (2, .int (nI (bitsN (fun kd => noteR Q a kd (Q 1)) i))), (0, .ref (E.1 + 38)), (1, .int (nI a))] [] := by
          intro f16
          induction f16 with
          | zero => intro j hm16; exact absurd hm16 (Nat.not_lt_zero _)
          | succ f16 ih16 =>
            intro j hm16 hj
            have nb0 : j < 6 → Q (26 + 4 * j) ≤ 99 := fun hj6 => Nat.le_trans (hNQ (4 * j) (by omega)) (by omega)
            have nb1 : j < 6 → Q (26 + 4 * j + 1) ≤ 99 := fun hj6 => by have z := hNQ (4 * j + 1) (by omega); rw [← Nat.add_assoc] at z; omega
            have nb2 : j < 6 → Q (26 + 4 * j + 2) ≤ 99 := fun hj6 => by have z := hNQ (4 * j + 2) (by omega); rw [← Nat.add_assoc] at z; omega
            have nb3 : j < 6 → Q (26 + 4 * j + 3) ≤ 99 := fun hj6 => by have z := hNQ (4 * j + 3) (by omega); rw [← Nat.add_assoc] at z; omega
            have nl := leftN_le i (Q (26 + 4 * j + 1)) (Q (26 + 4 * j + 2))
            refine J_iload dX8_kindsOf_16 rfl ?_
            refine J_aload_n dX8_kindsOf_18 rfl ?_
            refine J_get 0 dX8_kindsOf_19 jk8 (Nat.le_of_ble_eq_true rfl) jfRX8_7 H0 (by omega) rfl ?_
            refine J_iconst (v := nI 1) dX8_kindsOf_22 (by decide +kernel) ?_
            refine J_ialdN (i := 1) dX8_kindsOf_23 H1 (by omega) (by omega) (by omega) ?_
            refine J_icmp_geN (tgt := 99) dX8_kindsOf_24 (by decide) (by omega) (by omega) (fun c2 => ?_) (fun c2 => ?_)
            · skip
              refine J_iload_n dX8_kindsOf_99 rfl ?_
              refine J_iload dX8_kindsOf_100 rfl ?_
              refine J_if_eqB (tgt := 111) dX8_kindsOf_102 (by decide) (fun c3 => ?_) (fun c3 => ?_)
              · skip
                refine J_iconst (v := nI 0) dX8_kindsOf_111 (by decide +kernel) ?_
                refine J_iorN dX8_kindsOf_112 ?_
                refine J_istore_n dX8_kindsOf_113 (Nat.le_of_ble_eq_true rfl) (L' := [(2, .int (nI ((bitsN (fun kd => noteR Q a kd (Q 1)) i) ||| 0))), (5, .int (nI j)), (4, .int (jb (noteR Q a i j))), (3, .int (nI i)), (0, .ref (E.1 + 38)), (1, .int (nI a))]) rfl ?_
                refine J_iincN (q := 3) (a := i) (m := 1) dX8_kindsOf_114 rfl (by decide +kernel) (Nat.le_of_ble_eq_true rfl) (L' := [(3, .int (nI (i + 1))), (2, .int (nI ((bitsN (fun kd => noteR Q a kd (Q 1)) i) ||| 0))), (5, .int (nI j)), (4, .int (jb (noteR Q a i j))), (0, .ref (E.1 + 38)), (1, .int (nI a))]) rfl ?_
                refine J_goto (tgt := 4) dX8_kindsOf_117 (by decide) ?_
                refine J.sub [0, 1, 4, 5] (L' := [(3, .int (nI (i + 1))), (2, .int (nI ((bitsN (fun kd => noteR Q a kd (Q 1)) i) ||| 0))), (0, .ref (E.1 + 38)), (1, .int (nI a))]) rfl ?_
                refine J.eqs (h' := h) (L' := [(3, .int (nI (i + 1))), (2, .int (nI (bitsN (fun kd => noteR Q a kd (Q 1)) (i + 1)))), (0, .ref (E.1 + 38)), (1, .int (nI a))]) (st' := []) rfl (jL_c rfl (jL_c (jv_N (by first | rfl | exact bitsN_t (p := fun kd => noteR Q a kd (Q 1)) (by rw [show Q 1 = j by omega]; assumption) | exact bitsN_f0 (p := fun kd => noteR Q a kd (Q 1)) (by rw [show Q 1 = j by omega]; assumption))) (jL_c rfl (jL_c rfl rfl)))) rfl ?_
                exact ih4 (i + 1) (by omega) (by first | assumption | omega)
              · skip
                refine J_iconst (v := nI 1) dX8_kindsOf_105 (by decide +kernel) ?_
                refine J_iload_n dX8_kindsOf_106 rfl ?_
                refine J_ishlN dX8_kindsOf_107 (by omega) (by have q5 : 2 ^ i ≤ 2 ^ 6 := Nat.pow_le_pow_right (by omega) (by omega); omega) ?_
                refine J_goto (tgt := 112) dX8_kindsOf_108 (by decide) ?_
                refine J_iorN dX8_kindsOf_112 ?_
                refine J_istore_n dX8_kindsOf_113 (Nat.le_of_ble_eq_true rfl) (L' := [(2, .int (nI ((bitsN (fun kd => noteR Q a kd (Q 1)) i) ||| (1 * 2 ^ i)))), (5, .int (nI j)), (4, .int (jb (noteR Q a i j))), (3, .int (nI i)), (0, .ref (E.1 + 38)), (1, .int (nI a))]) rfl ?_
                refine J_iincN (q := 3) (a := i) (m := 1) dX8_kindsOf_114 rfl (by decide +kernel) (Nat.le_of_ble_eq_true rfl) (L' := [(3, .int (nI (i + 1))), (2, .int (nI ((bitsN (fun kd => noteR Q a kd (Q 1)) i) ||| (1 * 2 ^ i)))), (5, .int (nI j)), (4, .int (jb (noteR Q a i j))), (0, .ref (E.1 + 38)), (1, .int (nI a))]) rfl ?_
                refine J_goto (tgt := 4) dX8_kindsOf_117 (by decide) ?_
                refine J.sub [0, 1, 4, 5] (L' := [(3, .int (nI (i + 1))), (2, .int (nI ((bitsN (fun kd => noteR Q a kd (Q 1)) i) ||| (1 * 2 ^ i)))), (0, .ref (E.1 + 38)), (1, .int (nI a))]) rfl ?_
                refine J.eqs (h' := h) (L' := [(3, .int (nI (i + 1))), (2, .int (nI (bitsN (fun kd => noteR Q a kd (Q 1)) (i + 1)))), (0, .ref (E.1 + 38)), (1, .int (nI a))]) (st' := []) rfl (jL_c rfl (jL_c (jv_N (by first | rfl | exact bitsN_t (p := fun kd => noteR Q a kd (Q 1)) (by rw [show Q 1 = j by omega]; assumption) | exact bitsN_f0 (p := fun kd => noteR Q a kd (Q 1)) (by rw [show Q 1 = j by omega]; assumption))) (jL_c rfl (jL_c rfl rfl)))) rfl ?_
                exact ih4 (i + 1) (by omega) (by first | assumption | omega)
            · skip
              refine J_bipush (v := nI 26) dX8_kindsOf_27 (by decide +kernel) ?_
              refine J_iconst (v := nI 4) dX8_kindsOf_29 (by decide +kernel) ?_
              refine J_iload dX8_kindsOf_30 rfl ?_
              refine J_imulN dX8_kindsOf_32 ?_
              refine J_iaddN dX8_kindsOf_33 ?_
              refine J_istore dX8_kindsOf_34 (Nat.le_of_ble_eq_true rfl) (L' := [(6, .int (nI (26 + (4 * j)))), (5, .int (nI j)), (4, .int (jb (noteR Q a i j))), (3, .int (nI i)), (2, .int (nI (bitsN (fun kd => noteR Q a kd (Q 1)) i))), (0, .ref (E.1 + 38)), (1, .int (nI a))]) rfl ?_
              refine J_iload dX8_kindsOf_36 rfl ?_
              refine J_if_eqB (tgt := 90) dX8_kindsOf_38 (by decide) (fun c4 => ?_) (fun c4 => ?_)
              · skip
                refine J_iconst (v := nI 0) dX8_kindsOf_90 (by decide +kernel) ?_
                refine J_istore dX8_kindsOf_91 (Nat.le_of_ble_eq_true rfl) (L' := [(4, .int (nI 0)), (6, .int (nI (26 + (4 * j)))), (5, .int (nI j)), (3, .int (nI i)), (2, .int (nI (bitsN (fun kd => noteR Q a kd (Q 1)) i))), (0, .ref (E.1 + 38)), (1, .int (nI a))]) rfl ?_
                refine J_iincN (q := 2) (a := j) (m := 1) dX8_kindsOf_93 rfl (by decide +kernel) (Nat.le_of_ble_eq_true rfl) (L' := [(5, .int (nI (j + 1))), (4, .int (nI 0)), (6, .int (nI (26 + (4 * j)))), (3, .int (nI i)), (2, .int (nI (bitsN (fun kd => noteR Q a kd (Q 1)) i))), (0, .ref (E.1 + 38)), (1, .int (nI a))]) rfl ?_
                refine J_goto (tgt := 16) dX8_kindsOf_96 (by decide) ?_
                refine J.sub [0, 1, 3, 4, 5, 6] (L' := [(5, .int (nI (j + 1))), (4, .int (nI 0)), (3, .int (nI i)), (2, .int (nI (bitsN (fun kd => noteR Q a kd (Q 1)) i))), (0, .ref (E.1 + 38)), (1, .int (nI a))]) rfl ?_
                refine J.eqs (h' := h) (L' := [(5, .int (nI (j + 1))), (4, .int (jb (noteR Q a i (j + 1)))), (3, .int (nI i)), (2, .int (nI (bitsN (fun kd => noteR Q a kd (Q 1)) i))), (0, .ref (E.1 + 38)), (1, .int (nI a))]) (st' := []) rfl (jL_c rfl (jL_c (Option.some.inj (jret_B0 (by first | rfl | exact (fun k hk => absurd hk (Nat.not_lt_zero k)) | (refine noteR_s (by assumption) ?_; omega) | exact noteR_n (by assumption) | (refine noteR_f ?_; omega)))) (jL_c rfl (jL_c rfl (jL_c rfl (jL_c rfl rfl)))))) rfl ?_
                exact ih16 (j + 1) (by omega) (by first | assumption | omega)
              · skip
                refine J_aload_n dX8_kindsOf_41 rfl ?_
                refine J_get 0 dX8_kindsOf_42 jk8 (Nat.le_of_ble_eq_true rfl) jfRX8_7 H0 (by omega) rfl ?_
                refine J_iload dX8_kindsOf_45 rfl ?_
                refine J_ialdN (i := 26 + (4 * j)) dX8_kindsOf_47 H1 (by omega) (by omega) (by omega) ?_
                refine J_iload_n dX8_kindsOf_48 rfl ?_
                refine J_icmp_neN (tgt := 86) dX8_kindsOf_49 (by decide) (by omega) (by omega) (fun c5 => ?_) (fun c5 => ?_)
                · skip
                  refine J_iconst (v := nI 1) dX8_kindsOf_86 (by decide +kernel) ?_
                  refine J_goto (tgt := 91) dX8_kindsOf_87 (by decide) ?_
                  refine J_istore dX8_kindsOf_91 (Nat.le_of_ble_eq_true rfl) (L' := [(4, .int (nI 1)), (6, .int (nI (26 + (4 * j)))), (5, .int (nI j)), (3, .int (nI i)), (2, .int (nI (bitsN (fun kd => noteR Q a kd (Q 1)) i))), (0, .ref (E.1 + 38)), (1, .int (nI a))]) rfl ?_
                  refine J_iincN (q := 2) (a := j) (m := 1) dX8_kindsOf_93 rfl (by decide +kernel) (Nat.le_of_ble_eq_true rfl) (L' := [(5, .int (nI (j + 1))), (4, .int (nI 1)), (6, .int (nI (26 + (4 * j)))), (3, .int (nI i)), (2, .int (nI (bitsN (fun kd => noteR Q a kd (Q 1)) i))), (0, .ref (E.1 + 38)), (1, .int (nI a))]) rfl ?_
                  refine J_goto (tgt := 16) dX8_kindsOf_96 (by decide) ?_
                  refine J.sub [0, 1, 3, 4, 5, 6] (L' := [(5, .int (nI (j + 1))), (4, .int (nI 1)), (3, .int (nI i)), (2, .int (nI (bitsN (fun kd => noteR Q a kd (Q 1)) i))), (0, .ref (E.1 + 38)), (1, .int (nI a))]) rfl ?_
                  refine J.eqs (h' := h) (L' := [(5, .int (nI (j + 1))), (4, .int (jb (noteR Q a i (j + 1)))), (3, .int (nI i)), (2, .int (nI (bitsN (fun kd => noteR Q a kd (Q 1)) i))), (0, .ref (E.1 + 38)), (1, .int (nI a))]) (st' := []) rfl (jL_c rfl (jL_c (Option.some.inj (jret_B1 (by first | rfl | exact (fun k hk => absurd hk (Nat.not_lt_zero k)) | (refine noteR_s (by assumption) ?_; omega) | exact noteR_n (by assumption) | (refine noteR_f ?_; omega)))) (jL_c rfl (jL_c rfl (jL_c rfl (jL_c rfl rfl)))))) rfl ?_
                  exact ih16 (j + 1) (by omega) (by first | assumption | omega)
                · skip
                  refine J_iload_n dX8_kindsOf_52 rfl ?_
                  refine J_aload_n dX8_kindsOf_53 rfl ?_
                  refine J_get 0 dX8_kindsOf_54 jk8 (Nat.le_of_ble_eq_true rfl) jfRX8_7 H0 (by omega) rfl ?_
                  refine J_iload dX8_kindsOf_57 rfl ?_
                  refine J_iconst (v := nI 1) dX8_kindsOf_59 (by decide +kernel) ?_
                  refine J_iaddN dX8_kindsOf_60 ?_
                  refine J_ialdN (i := (26 + (4 * j)) + 1) dX8_kindsOf_61 H1 (by omega) (by omega) (by omega) ?_
                  refine J_aload_n dX8_kindsOf_62 rfl ?_
                  refine J_get 0 dX8_kindsOf_63 jk8 (Nat.le_of_ble_eq_true rfl) jfRX8_7 H0 (by omega) rfl ?_
                  refine J_iload dX8_kindsOf_66 rfl ?_
                  refine J_iconst (v := nI 2) dX8_kindsOf_68 (by decide +kernel) ?_
                  refine J_iaddN dX8_kindsOf_69 ?_
                  refine J_ialdN (i := (26 + (4 * j)) + 2) dX8_kindsOf_70 H1 (by omega) (by omega) (by omega) ?_
                  refine J_callSr (M' := mX8_leftAs) (d' := (1, 0, 0)) (rest := []) dX8_kindsOf_71 jmX8_leftAs jlRX8_104 (ctX8_leftAs i (Q ((26 + (4 * j)) + 1)) (Q ((26 + (4 * j)) + 2))   (by first | assumption | omega) (by first | assumption | omega) (by first | assumption | omega)) rfl rfl (Nat.le_of_ble_eq_true rfl) (Nat.le_of_ble_eq_true rfl) ⟨Nat.le_refl _, Nat.le_refl _⟩ ?_
                  refine J_aload_n dX8_kindsOf_74 rfl ?_
                  refine J_get 0 dX8_kindsOf_75 jk8 (Nat.le_of_ble_eq_true rfl) jfRX8_7 H0 (by omega) rfl ?_
                  refine J_iload dX8_kindsOf_78 rfl ?_
                  refine J_iconst (v := nI 3) dX8_kindsOf_80 (by decide +kernel) ?_
                  refine J_iaddN dX8_kindsOf_81 ?_
                  refine J_ialdN (i := (26 + (4 * j)) + 3) dX8_kindsOf_82 H1 (by omega) (by omega) (by omega) ?_
                  refine J_icmp_neN (tgt := 90) dX8_kindsOf_83 (by decide) (by omega) (by omega) (fun c6 => ?_) (fun c6 => ?_)
                  · skip
                    refine J_iconst (v := nI 0) dX8_kindsOf_90 (by decide +kernel) ?_
                    refine J_istore dX8_kindsOf_91 (Nat.le_of_ble_eq_true rfl) (L' := [(4, .int (nI 0)), (6, .int (nI (26 + (4 * j)))), (5, .int (nI j)), (3, .int (nI i)), (2, .int (nI (bitsN (fun kd => noteR Q a kd (Q 1)) i))), (0, .ref (E.1 + 38)), (1, .int (nI a))]) rfl ?_
                    refine J_iincN (q := 2) (a := j) (m := 1) dX8_kindsOf_93 rfl (by decide +kernel) (Nat.le_of_ble_eq_true rfl) (L' := [(5, .int (nI (j + 1))), (4, .int (nI 0)), (6, .int (nI (26 + (4 * j)))), (3, .int (nI i)), (2, .int (nI (bitsN (fun kd => noteR Q a kd (Q 1)) i))), (0, .ref (E.1 + 38)), (1, .int (nI a))]) rfl ?_
                    refine J_goto (tgt := 16) dX8_kindsOf_96 (by decide) ?_
                    refine J.sub [0, 1, 3, 4, 5, 6] (L' := [(5, .int (nI (j + 1))), (4, .int (nI 0)), (3, .int (nI i)), (2, .int (nI (bitsN (fun kd => noteR Q a kd (Q 1)) i))), (0, .ref (E.1 + 38)), (1, .int (nI a))]) rfl ?_
                    refine J.eqs (h' := h) (L' := [(5, .int (nI (j + 1))), (4, .int (jb (noteR Q a i (j + 1)))), (3, .int (nI i)), (2, .int (nI (bitsN (fun kd => noteR Q a kd (Q 1)) i))), (0, .ref (E.1 + 38)), (1, .int (nI a))]) (st' := []) rfl (jL_c rfl (jL_c (Option.some.inj (jret_B0 (by first | rfl | exact (fun k hk => absurd hk (Nat.not_lt_zero k)) | (refine noteR_s (by assumption) ?_; omega) | exact noteR_n (by assumption) | (refine noteR_f ?_; omega)))) (jL_c rfl (jL_c rfl (jL_c rfl (jL_c rfl rfl)))))) rfl ?_
                    exact ih16 (j + 1) (by omega) (by first | assumption | omega)
                  · skip
                    refine J_iconst (v := nI 1) dX8_kindsOf_86 (by decide +kernel) ?_
                    refine J_goto (tgt := 91) dX8_kindsOf_87 (by decide) ?_
                    refine J_istore dX8_kindsOf_91 (Nat.le_of_ble_eq_true rfl) (L' := [(4, .int (nI 1)), (6, .int (nI (26 + (4 * j)))), (5, .int (nI j)), (3, .int (nI i)), (2, .int (nI (bitsN (fun kd => noteR Q a kd (Q 1)) i))), (0, .ref (E.1 + 38)), (1, .int (nI a))]) rfl ?_
                    refine J_iincN (q := 2) (a := j) (m := 1) dX8_kindsOf_93 rfl (by decide +kernel) (Nat.le_of_ble_eq_true rfl) (L' := [(5, .int (nI (j + 1))), (4, .int (nI 1)), (6, .int (nI (26 + (4 * j)))), (3, .int (nI i)), (2, .int (nI (bitsN (fun kd => noteR Q a kd (Q 1)) i))), (0, .ref (E.1 + 38)), (1, .int (nI a))]) rfl ?_
                    refine J_goto (tgt := 16) dX8_kindsOf_96 (by decide) ?_
                    refine J.sub [0, 1, 3, 4, 5, 6] (L' := [(5, .int (nI (j + 1))), (4, .int (nI 1)), (3, .int (nI i)), (2, .int (nI (bitsN (fun kd => noteR Q a kd (Q 1)) i))), (0, .ref (E.1 + 38)), (1, .int (nI a))]) rfl ?_
                    refine J.eqs (h' := h) (L' := [(5, .int (nI (j + 1))), (4, .int (jb (noteR Q a i (j + 1)))), (3, .int (nI i)), (2, .int (nI (bitsN (fun kd => noteR Q a kd (Q 1)) i))), (0, .ref (E.1 + 38)), (1, .int (nI a))]) (st' := []) rfl (jL_c rfl (jL_c (Option.some.inj (jret_B1 (by first | rfl | exact (fun k hk => absurd hk (Nat.not_lt_zero k)) | (refine noteR_s (by assumption) ?_; omega) | exact noteR_n (by assumption) | (refine noteR_f ?_; omega)))) (jL_c rfl (jL_c rfl (jL_c rfl (jL_c rfl rfl)))))) rfl ?_
                    exact ih16 (j + 1) (by omega) (by first | assumption | omega)
        refine J.eqs (h' := h) (L' := [(5, .int (nI 0)), (4, .int (jb (noteR Q a i 0))), (3, .int (nI i)), (2, .int (nI (bitsN (fun kd => noteR Q a kd (Q 1)) i))), (0, .ref (E.1 + 38)), (1, .int (nI a))]) (st' := []) rfl (jL_c rfl (jL_c (Option.some.inj (jret_B1 (by first | rfl | exact (fun k hk => absurd hk (Nat.not_lt_zero k)) | (refine noteR_s (by assumption) ?_; omega) | exact noteR_n (by assumption) | (refine noteR_f ?_; omega)))) (jL_c rfl (jL_c rfl (jL_c rfl (jL_c rfl rfl)))))) rfl ?_
        exact CUT16 (Q 1 - 0 + 1) 0 (Nat.lt_succ_self _) (by first | assumption | omega)
  refine J.eqs (h' := h) (L' := [(3, .int (nI 0)), (2, .int (nI (bitsN (fun kd => noteR Q a kd (Q 1)) 0))), (0, .ref (E.1 + 38)), (1, .int (nI a))]) (st' := []) rfl (jL_c rfl (jL_c (jv_N (by first | rfl | exact bitsN_t (p := fun kd => noteR Q a kd (Q 1)) (by rw [show Q 1 = j by omega]; assumption) | exact bitsN_f0 (p := fun kd => noteR Q a kd (Q 1)) (by rw [show Q 1 = j by omega]; assumption))) (jL_c rfl (jL_c rfl rfl)))) rfl ?_
  exact CUT4 (6 - 0 + 1) 0 (Nat.lt_succ_self _) (by first | assumption | omega)

set_option maxHeartbeats 1000000 in
set_option maxRecDepth 100000 in
theorem ctX8_is_bad {E : jE} {h : Nat → va_E} {n : Nat} (a : Nat) (xa : Nat) (xb : Nat) (dt : Nat) (mo : Nat) (bn : Nat) (ta : Nat) (tl : Nat) (tk : Nat) (va : Nat) (RF : Nat → Nat) (Q : Nat → Nat) (H0 : h 38 = .inr (7, [.ref (E.1 + 39), .ref (E.1 + 40), .ref (E.1 + 41), .ref (E.1 + 42), .long (lN xa), .long (lN xb), .ref (E.1 + 43), .int (nI dt), .ref (E.1 + 44), .ref (E.1 + 45), .int (nI mo), .ref (E.1 + 46), .ref (E.1 + 47), .int (nI bn), .int (nI ta), .int (nI tl), .int (nI tk), .int (nI va), .ref (E.1 + 48), .ref (E.1 + 49)])) (H1 : h 42 = cI E 3 (nF RF)) (H2 : h 39 = cI E 218 (nF Q)) (hn : 50 ≤ n) (h32a : a < 2 ^ 32) (hn4 : Q 0 ≤ 4) (hbad : ¬ a < Q 0) : jC E mX8_is (3, 0, 0) [.ref (E.1 + 38), .int (nI a)] h n (jR (some (.int (-2))) (hset h 42 (cI E 3 (nF (updN RF 0 (RF 0 + 1))))) n) := by
  refine J.of (L := [(0, .ref (E.1 + 38)), (1, .int (nI a))]) rfl (by decide +kernel) (Nat.le_of_ble_eq_true rfl) ?_
  obtain ⟨PP, hPP⟩ : ∃ PP : jPost, PP = (jR (some (.int (-2))) (hset h 42 (cI E 3 (nF (updN RF 0 (RF 0 + 1))))) n) := ⟨_, rfl⟩
  rw [← hPP]
  refine J_aload_n dX8_is_0 rfl ?_
  refine J_iload_n dX8_is_1 rfl ?_
  refine J_callVr (M' := mX8_isAnvil) (d' := (2, 0, 0)) (rest := []) dX8_is_2 jmX8_isAnvil jlRX8_107 (ctX8_isAnvil a xa xb dt mo bn ta tl tk va Q H0 H2 (by omega) (by first | assumption | omega) (by first | assumption | omega)) H0 (by omega) jk8.1 rfl rfl (Nat.le_of_ble_eq_true rfl) (Nat.le_of_ble_eq_true rfl) ⟨Nat.le_refl _, Nat.le_refl _⟩ ?_
  refine J_if_eqB (tgt := 16) dX8_is_5 (by decide) (fun c1 => ?_) (fun c1 => (by exfalso; omega))
  refine J_aload_n dX8_is_16 rfl ?_
  refine J_bipush (v := (-2)) dX8_is_17 (by decide +kernel) ?_
  refine J_callVr (M' := mX8_bad) (d' := (1, 0, 0)) (rest := []) dX8_is_19 jmX8_bad jlRX8_66 (ctX8_bad (-2) xa xb dt mo bn ta tl tk va RF H0 H1 (by omega) ) H0 (by omega) jk8.1 rfl rfl (Nat.le_of_ble_eq_true rfl) (Nat.le_of_ble_eq_true rfl) ⟨Nat.le_refl _, Nat.le_refl _⟩ ?_
  exact J_iret dX8_is_22 rfl ⟨Nat.le_refl _, Nat.le_refl _⟩ (by rw [hPP]; exact ⟨rfl, rfl, rfl⟩)

set_option maxHeartbeats 1000000 in
set_option maxRecDepth 100000 in
theorem ctX8_is {E : jE} {h : Nat → va_E} {n : Nat} (a : Nat) (xa : Nat) (xb : Nat) (dt : Nat) (mo : Nat) (bn : Nat) (ta : Nat) (tl : Nat) (tk : Nat) (va : Nat) (Q : Nat → Nat) (H0 : h 38 = .inr (7, [.ref (E.1 + 39), .ref (E.1 + 40), .ref (E.1 + 41), .ref (E.1 + 42), .long (lN xa), .long (lN xb), .ref (E.1 + 43), .int (nI dt), .ref (E.1 + 44), .ref (E.1 + 45), .int (nI mo), .ref (E.1 + 46), .ref (E.1 + 47), .int (nI bn), .int (nI ta), .int (nI tl), .int (nI tk), .int (nI va), .ref (E.1 + 48), .ref (E.1 + 49)])) (H1 : h 39 = cI E 218 (nF Q)) (hn : 50 ≤ n) (hn4 : Q 0 ≤ 4) (ha : a < Q 0) (hn1 : Q 1 ≤ 6) (hNQ : ∀ zz, zz < 24 → Q (26 + zz) ≤ 99) : jC E mX8_is (3, 0, 0) [.ref (E.1 + 38), .int (nI a)] h n (jR (some (.int (nI (bitsN (fun kd => noteR Q a kd (Q 1)) 6)))) h n) := by
  refine J.of (L := [(0, .ref (E.1 + 38)), (1, .int (nI a))]) rfl (by decide +kernel) (Nat.le_of_ble_eq_true rfl) ?_
  obtain ⟨PP, hPP⟩ : ∃ PP : jPost, PP = (jR (some (.int (nI (bitsN (fun kd => noteR Q a kd (Q 1)) 6)))) h n) := ⟨_, rfl⟩
  rw [← hPP]
  refine J_aload_n dX8_is_0 rfl ?_
  refine J_iload_n dX8_is_1 rfl ?_
  refine J_callVr (M' := mX8_isAnvil) (d' := (2, 0, 0)) (rest := []) dX8_is_2 jmX8_isAnvil jlRX8_107 (ctX8_isAnvil a xa xb dt mo bn ta tl tk va Q H0 H1 (by omega) (by first | assumption | omega) (by first | assumption | omega)) H0 (by omega) jk8.1 rfl rfl (Nat.le_of_ble_eq_true rfl) (Nat.le_of_ble_eq_true rfl) ⟨Nat.le_refl _, Nat.le_refl _⟩ ?_
  refine J_if_eqB (tgt := 16) dX8_is_5 (by decide) (fun c1 => (by exfalso; omega)) (fun c1 => ?_)
  refine J_aload_n dX8_is_8 rfl ?_
  refine J_iload_n dX8_is_9 rfl ?_
  refine J_callVr (M' := mX8_kindsOf) (d' := (2, 0, 0)) (rest := []) dX8_is_10 jmX8_kindsOf jlRX8_155 (ctX8_kindsOf a xa xb dt mo bn ta tl tk va Q H0 H1 (by omega) (by first | assumption | omega) (by first | assumption | omega) (by first | assumption | omega)) H0 (by omega) jk8.1 rfl rfl (Nat.le_of_ble_eq_true rfl) (Nat.le_of_ble_eq_true rfl) ⟨Nat.le_refl _, Nat.le_refl _⟩ ?_
  have fc2 : bitsN (fun kd => noteR Q a kd (Q 1)) 6 < 2 ^ 6 := bitsN_lt 6
  refine J_goto (tgt := 22) dX8_is_13 (by decide) ?_
  exact J_iret dX8_is_22 rfl ⟨Nat.le_refl _, Nat.le_refl _⟩ (by rw [hPP]; exact ⟨rfl, rfl, rfl⟩)

set_option maxHeartbeats 1000000 in
set_option maxRecDepth 100000 in
theorem ctX8_memory_bad {E : jE} {h : Nat → va_E} {n : Nat} (a : Nat) (t : Nat) (xa : Nat) (xb : Nat) (dt : Nat) (mo : Nat) (bn : Nat) (ta : Nat) (tl : Nat) (tk : Nat) (va : Nat) (RF : Nat → Nat) (Q : Nat → Nat) (H0 : h 38 = .inr (7, [.ref (E.1 + 39), .ref (E.1 + 40), .ref (E.1 + 41), .ref (E.1 + 42), .long (lN xa), .long (lN xb), .ref (E.1 + 43), .int (nI dt), .ref (E.1 + 44), .ref (E.1 + 45), .int (nI mo), .ref (E.1 + 46), .ref (E.1 + 47), .int (nI bn), .int (nI ta), .int (nI tl), .int (nI tk), .int (nI va), .ref (E.1 + 48), .ref (E.1 + 49)])) (H1 : h 42 = cI E 3 (nF RF)) (H2 : h 39 = cI E 218 (nF Q)) (hn : 50 ≤ n) (h32a : a < 2 ^ 32) (h32t : t < 2 ^ 32) (hn4 : Q 0 ≤ 4) (hbad : ¬ (a < Q 0 ∧ t ≤ 3)) : jC E mX8_memory (3, 0, 0) [.ref (E.1 + 38), .int (nI a), .int (nI t)] h n (jR (some (.int (-2))) (hset h 42 (cI E 3 (nF (updN RF 0 (RF 0 + 1))))) n) := by
  refine J.of (L := [(0, .ref (E.1 + 38)), (1, .int (nI a)), (2, .int (nI t))]) rfl (by decide +kernel) (Nat.le_of_ble_eq_true rfl) ?_
  obtain ⟨PP, hPP⟩ : ∃ PP : jPost, PP = (jR (some (.int (-2))) (hset h 42 (cI E 3 (nF (updN RF 0 (RF 0 + 1))))) n) := ⟨_, rfl⟩
  rw [← hPP]
  refine J_aload_n dX8_memory_0 rfl ?_
  refine J_iload_n dX8_memory_1 rfl ?_
  refine J_callVr (M' := mX8_isAnvil) (d' := (2, 0, 0)) (rest := []) dX8_memory_2 jmX8_isAnvil jlRX8_107 (ctX8_isAnvil a xa xb dt mo bn ta tl tk va Q H0 H2 (by omega) (by first | assumption | omega) (by first | assumption | omega)) H0 (by omega) jk8.1 rfl rfl (Nat.le_of_ble_eq_true rfl) (Nat.le_of_ble_eq_true rfl) ⟨Nat.le_refl _, Nat.le_refl _⟩ ?_
  refine J_if_eqB (tgt := 15) dX8_memory_5 (by decide) (fun c1 => ?_) (fun c1 => ?_)
  · skip
    refine J_aload_n dX8_memory_15 rfl ?_
    refine J_bipush (v := (-2)) dX8_memory_16 (by decide +kernel) ?_
    refine J_callVr (M' := mX8_bad) (d' := (1, 0, 0)) (rest := []) dX8_memory_18 jmX8_bad jlRX8_66 (ctX8_bad (-2) xa xb dt mo bn ta tl tk va RF H0 H1 (by omega) ) H0 (by omega) jk8.1 rfl rfl (Nat.le_of_ble_eq_true rfl) (Nat.le_of_ble_eq_true rfl) ⟨Nat.le_refl _, Nat.le_refl _⟩ ?_
    exact J_iret dX8_memory_21 rfl ⟨Nat.le_refl _, Nat.le_refl _⟩ (by rw [hPP]; exact ⟨rfl, rfl, rfl⟩)
  · skip
    refine J_iload_n dX8_memory_8 rfl ?_
    refine J_callSr (M' := mX8_isTemper) (d' := (2, 0, 0)) (rest := []) dX8_memory_9 jmX8_isTemper jlRX8_110 (ctX8_isTemper t   (by first | assumption | omega)) rfl rfl (Nat.le_of_ble_eq_true rfl) (Nat.le_of_ble_eq_true rfl) ⟨Nat.le_refl _, Nat.le_refl _⟩ ?_
    refine J_if_neB (tgt := 22) dX8_memory_12 (by decide) (fun c2 => (by exfalso; omega)) (fun c2 => ?_)
    refine J_aload_n dX8_memory_15 rfl ?_
    refine J_bipush (v := (-2)) dX8_memory_16 (by decide +kernel) ?_
    refine J_callVr (M' := mX8_bad) (d' := (1, 0, 0)) (rest := []) dX8_memory_18 jmX8_bad jlRX8_66 (ctX8_bad (-2) xa xb dt mo bn ta tl tk va RF H0 H1 (by omega) ) H0 (by omega) jk8.1 rfl rfl (Nat.le_of_ble_eq_true rfl) (Nat.le_of_ble_eq_true rfl) ⟨Nat.le_refl _, Nat.le_refl _⟩ ?_
    exact J_iret dX8_memory_21 rfl ⟨Nat.le_refl _, Nat.le_refl _⟩ (by rw [hPP]; exact ⟨rfl, rfl, rfl⟩)

set_option maxHeartbeats 1000000 in
set_option maxRecDepth 100000 in
theorem ctX8_memory {E : jE} {h : Nat → va_E} {n : Nat} (a : Nat) (t : Nat) (xa : Nat) (xb : Nat) (dt : Nat) (mo : Nat) (bn : Nat) (ta : Nat) (tl : Nat) (tk : Nat) (va : Nat) (Q : Nat → Nat) (H0 : h 38 = .inr (7, [.ref (E.1 + 39), .ref (E.1 + 40), .ref (E.1 + 41), .ref (E.1 + 42), .long (lN xa), .long (lN xb), .ref (E.1 + 43), .int (nI dt), .ref (E.1 + 44), .ref (E.1 + 45), .int (nI mo), .ref (E.1 + 46), .ref (E.1 + 47), .int (nI bn), .int (nI ta), .int (nI tl), .int (nI tk), .int (nI va), .ref (E.1 + 48), .ref (E.1 + 49)])) (H1 : h 39 = cI E 218 (nF Q)) (hn : 50 ≤ n) (hn4 : Q 0 ≤ 4) (hK : ∀ zz, zz < 4 → KQ Q zz ≤ 5) (ha : a < Q 0) (ht : t < 4) (hc2 : Q 2 ≤ 6) (hCQ : ∀ zz, zz < 24 → Q (50 + zz) ≤ 50) : jC E mX8_memory (3, 0, 0) [.ref (E.1 + 38), .int (nI a), .int (nI t)] h n (jR (some (.int (nI (bitsN (fun m => cameR Q a t m (Q 2)) 21)))) h n) := by
  refine J.of (L := [(0, .ref (E.1 + 38)), (1, .int (nI a)), (2, .int (nI t))]) rfl (by decide +kernel) (Nat.le_of_ble_eq_true rfl) ?_
  obtain ⟨PP, hPP⟩ : ∃ PP : jPost, PP = (jR (some (.int (nI (bitsN (fun m => cameR Q a t m (Q 2)) 21)))) h n) := ⟨_, rfl⟩
  rw [← hPP]
  refine J_aload_n dX8_memory_0 rfl ?_
  refine J_iload_n dX8_memory_1 rfl ?_
  refine J_callVr (M' := mX8_isAnvil) (d' := (2, 0, 0)) (rest := []) dX8_memory_2 jmX8_isAnvil jlRX8_107 (ctX8_isAnvil a xa xb dt mo bn ta tl tk va Q H0 H1 (by omega) (by first | assumption | omega) (by first | assumption | omega)) H0 (by omega) jk8.1 rfl rfl (Nat.le_of_ble_eq_true rfl) (Nat.le_of_ble_eq_true rfl) ⟨Nat.le_refl _, Nat.le_refl _⟩ ?_
  refine J_if_eqB (tgt := 15) dX8_memory_5 (by decide) (fun c1 => (by exfalso; omega)) (fun c1 => ?_)
  refine J_iload_n dX8_memory_8 rfl ?_
  refine J_callSr (M' := mX8_isTemper) (d' := (2, 0, 0)) (rest := []) dX8_memory_9 jmX8_isTemper jlRX8_110 (ctX8_isTemper t   (by first | assumption | omega)) rfl rfl (Nat.le_of_ble_eq_true rfl) (Nat.le_of_ble_eq_true rfl) ⟨Nat.le_refl _, Nat.le_refl _⟩ ?_
  refine J_if_neB (tgt := 22) dX8_memory_12 (by decide) (fun c2 => ?_) (fun c2 => (by exfalso; omega))
  refine J_iconst (v := nI 0) dX8_memory_22 (by decide +kernel) ?_
  refine J_istore_n dX8_memory_23 (Nat.le_of_ble_eq_true rfl) (L' := [(3, .int (nI 0)), (0, .ref (E.1 + 38)), (1, .int (nI a)), (2, .int (nI t))]) rfl ?_
  refine J_iconst (v := nI 0) dX8_memory_24 (by decide +kernel) ?_
  refine J_istore dX8_memory_25 (Nat.le_of_ble_eq_true rfl) (L' := [(4, .int (nI 0)), (3, .int (nI 0)), (0, .ref (E.1 + 38)), (1, .int (nI a)), (2, .int (nI t))]) rfl ?_
  have CUT27 : ∀ (f27 : Nat) (i : Nat) (hm27 : 21 - i < f27) (hi : i ≤ 21), J E mX8_memory (3, 0, 0) jS0 PP h n (0, 0) 27 [(4, .int (nI i)), (3, .int (nI (bitsN (fun m => cameR Q a t m (Q 2)) i))), (0, .ref (E.1 + 38)), (1, .int (nI a)), (2, .int (nI t))] [] := by
    intro f27
    induction f27 with
    | zero => intro i hm27; exact absurd hm27 (Nat.not_lt_zero _)
    | succ f27 ih27 =>
      intro i hm27 hi
      refine J_iload dX8_memory_27 rfl ?_
      refine J_bipush (v := nI 20) dX8_memory_29 (by decide +kernel) ?_
      refine J_icmp_gtN (tgt := 167) dX8_memory_31 (by decide) (by omega) (by omega) (fun c3 => ?_) (fun c3 => ?_)
      · skip
        refine J_iload_n dX8_memory_167 rfl ?_
        exact J_iret dX8_memory_168 rfl ⟨Nat.le_refl _, Nat.le_refl _⟩ (by rw [hPP]; exact ⟨(congrArg some (jv_N (by rw [show i = 21 by omega]))), rfl, rfl⟩)
      · skip
        refine J_iconst (v := nI 1) dX8_memory_34 (by decide +kernel) ?_
        refine J_istore dX8_memory_35 (Nat.le_of_ble_eq_true rfl) (L' := [(5, .int (nI 1)), (4, .int (nI i)), (3, .int (nI (bitsN (fun m => cameR Q a t m (Q 2)) i))), (0, .ref (E.1 + 38)), (1, .int (nI a)), (2, .int (nI t))]) rfl ?_
        refine J_iconst (v := nI 0) dX8_memory_37 (by decide +kernel) ?_
        refine J_istore dX8_memory_38 (Nat.le_of_ble_eq_true rfl) (L' := [(6, .int (nI 0)), (5, .int (nI 1)), (4, .int (nI i)), (3, .int (nI (bitsN (fun m => cameR Q a t m (Q 2)) i))), (0, .ref (E.1 + 38)), (1, .int (nI a)), (2, .int (nI t))]) rfl ?_
        have CUT40 : ∀ (f40 : Nat) (j : Nat) (hm40 : Q 2 - j < f40) (hj : j ≤ Q 2), J E mX8_memory (3, 0, 0) jS0 PP h n (0, 0) 40 [(6, .int (nI j)), (5, .int (jb (cameR Q a t i j))), (4, .int (nI i)), (3, .int (nI (bitsN (fun m => cameR Q a t m (Q 2)) i))), (0, .ref (E.1 + 38)), (1, .int (nI a)), (2, .int (nI t))] [] := by
          intro f40
          induction f40 with
          | zero => intro j hm40; exact absurd hm40 (Nat.not_lt_zero _)
          | succ f40 ih40 =>
            intro j hm40 hj
            have kb := hK a (by omega)
            have nb0 : j < 6 → Q (50 + 4 * j) ≤ 99 := fun hj6 => Nat.le_trans (hCQ (4 * j) (by omega)) (by omega)
            have nb1 : j < 6 → Q (50 + 4 * j + 1) ≤ 99 := fun hj6 => by have z := hCQ (4 * j + 1) (by omega); rw [← Nat.add_assoc] at z; omega
            have nb2 : j < 6 → Q (50 + 4 * j + 2) ≤ 99 := fun hj6 => by have z := hCQ (4 * j + 2) (by omega); rw [← Nat.add_assoc] at z; omega
            have nb3 : j < 6 → Q (50 + 4 * j + 3) ≤ 99 := fun hj6 => by have z := hCQ (4 * j + 3) (by omega); rw [← Nat.add_assoc] at z; omega
            have nl : i ≤ 20 → upN (KQ Q a) i (Q (50 + 4 * j + 2)) ≤ 42 := fun z => upN_le z
            refine J_iload dX8_memory_40 rfl ?_
            refine J_aload_n dX8_memory_42 rfl ?_
            refine J_get 0 dX8_memory_43 jk8 (Nat.le_of_ble_eq_true rfl) jfRX8_7 H0 (by omega) rfl ?_
            refine J_iconst (v := nI 2) dX8_memory_46 (by decide +kernel) ?_
            refine J_ialdN (i := 2) dX8_memory_47 H1 (by omega) (by omega) (by omega) ?_
            refine J_icmp_geN (tgt := 145) dX8_memory_48 (by decide) (by omega) (by omega) (fun c4 => ?_) (fun c4 => ?_)
            · skip
              refine J_iload_n dX8_memory_145 rfl ?_
              refine J_iload dX8_memory_146 rfl ?_
              refine J_if_eqB (tgt := 158) dX8_memory_148 (by decide) (fun c5 => ?_) (fun c5 => ?_)
              · skip
                refine J_iconst (v := nI 0) dX8_memory_158 (by decide +kernel) ?_
                refine J_iorN dX8_memory_159 ?_
                refine J_istore_n dX8_memory_160 (Nat.le_of_ble_eq_true rfl) (L' := [(3, .int (nI ((bitsN (fun m => cameR Q a t m (Q 2)) i) ||| 0))), (6, .int (nI j)), (5, .int (jb (cameR Q a t i j))), (4, .int (nI i)), (0, .ref (E.1 + 38)), (1, .int (nI a)), (2, .int (nI t))]) rfl ?_
                refine J_iincN (q := 3) (a := i) (m := 1) dX8_memory_161 rfl (by decide +kernel) (Nat.le_of_ble_eq_true rfl) (L' := [(4, .int (nI (i + 1))), (3, .int (nI ((bitsN (fun m => cameR Q a t m (Q 2)) i) ||| 0))), (6, .int (nI j)), (5, .int (jb (cameR Q a t i j))), (0, .ref (E.1 + 38)), (1, .int (nI a)), (2, .int (nI t))]) rfl ?_
                refine J_goto (tgt := 27) dX8_memory_164 (by decide) ?_
                refine J.sub [0, 1, 4, 5, 6] (L' := [(4, .int (nI (i + 1))), (3, .int (nI ((bitsN (fun m => cameR Q a t m (Q 2)) i) ||| 0))), (0, .ref (E.1 + 38)), (1, .int (nI a)), (2, .int (nI t))]) rfl ?_
                refine J.eqs (h' := h) (L' := [(4, .int (nI (i + 1))), (3, .int (nI (bitsN (fun m => cameR Q a t m (Q 2)) (i + 1)))), (0, .ref (E.1 + 38)), (1, .int (nI a)), (2, .int (nI t))]) (st' := []) rfl (jL_c rfl (jL_c (jv_N (by first | rfl | exact bitsN_t (p := fun m => cameR Q a t m (Q 2)) (by rw [show Q 2 = j by omega]; assumption) | exact bitsN_f0 (p := fun m => cameR Q a t m (Q 2)) (by rw [show Q 2 = j by omega]; assumption))) (jL_c rfl (jL_c rfl (jL_c rfl rfl))))) rfl ?_
                exact ih27 (i + 1) (by omega) (by first | assumption | omega)
              · skip
                refine J_iconst (v := nI 1) dX8_memory_151 (by decide +kernel) ?_
                refine J_iload dX8_memory_152 rfl ?_
                refine J_ishlN dX8_memory_154 (by omega) (by have q5 : 2 ^ i ≤ 2 ^ 21 := Nat.pow_le_pow_right (by omega) (by omega); omega) ?_
                refine J_goto (tgt := 159) dX8_memory_155 (by decide) ?_
                refine J_iorN dX8_memory_159 ?_
                refine J_istore_n dX8_memory_160 (Nat.le_of_ble_eq_true rfl) (L' := [(3, .int (nI ((bitsN (fun m => cameR Q a t m (Q 2)) i) ||| (1 * 2 ^ i)))), (6, .int (nI j)), (5, .int (jb (cameR Q a t i j))), (4, .int (nI i)), (0, .ref (E.1 + 38)), (1, .int (nI a)), (2, .int (nI t))]) rfl ?_
                refine J_iincN (q := 3) (a := i) (m := 1) dX8_memory_161 rfl (by decide +kernel) (Nat.le_of_ble_eq_true rfl) (L' := [(4, .int (nI (i + 1))), (3, .int (nI ((bitsN (fun m => cameR Q a t m (Q 2)) i) ||| (1 * 2 ^ i)))), (6, .int (nI j)), (5, .int (jb (cameR Q a t i j))), (0, .ref (E.1 + 38)), (1, .int (nI a)), (2, .int (nI t))]) rfl ?_
                refine J_goto (tgt := 27) dX8_memory_164 (by decide) ?_
                refine J.sub [0, 1, 4, 5, 6] (L' := [(4, .int (nI (i + 1))), (3, .int (nI ((bitsN (fun m => cameR Q a t m (Q 2)) i) ||| (1 * 2 ^ i)))), (0, .ref (E.1 + 38)), (1, .int (nI a)), (2, .int (nI t))]) rfl ?_
                refine J.eqs (h' := h) (L' := [(4, .int (nI (i + 1))), (3, .int (nI (bitsN (fun m => cameR Q a t m (Q 2)) (i + 1)))), (0, .ref (E.1 + 38)), (1, .int (nI a)), (2, .int (nI t))]) (st' := []) rfl (jL_c rfl (jL_c (jv_N (by first | rfl | exact bitsN_t (p := fun m => cameR Q a t m (Q 2)) (by rw [show Q 2 = j by omega]; assumption) | exact bitsN_f0 (p := fun m => cameR Q a t m (Q 2)) (by rw [show Q 2 = j by omega]; assumption))) (jL_c rfl (jL_c rfl (jL_c rfl rfl))))) rfl ?_
                exact ih27 (i + 1) (by omega) (by first | assumption | omega)
            · skip
              refine J_bipush (v := nI 50) dX8_memory_51 (by decide +kernel) ?_
              refine J_iconst (v := nI 4) dX8_memory_53 (by decide +kernel) ?_
              refine J_iload dX8_memory_54 rfl ?_
              refine J_imulN dX8_memory_56 ?_
              refine J_iaddN dX8_memory_57 ?_
              refine J_istore dX8_memory_58 (Nat.le_of_ble_eq_true rfl) (L' := [(7, .int (nI (50 + (4 * j)))), (6, .int (nI j)), (5, .int (jb (cameR Q a t i j))), (4, .int (nI i)), (3, .int (nI (bitsN (fun m => cameR Q a t m (Q 2)) i))), (0, .ref (E.1 + 38)), (1, .int (nI a)), (2, .int (nI t))]) rfl ?_
              refine J_aload_n dX8_memory_60 rfl ?_
              refine J_get 0 dX8_memory_61 jk8 (Nat.le_of_ble_eq_true rfl) jfRX8_7 H0 (by omega) rfl ?_
              refine J_iload dX8_memory_64 rfl ?_
              refine J_ialdN (i := 50 + (4 * j)) dX8_memory_66 H1 (by omega) (by omega) (by omega) ?_
              refine J_iload_n dX8_memory_67 rfl ?_
              refine J_icmp_neN (tgt := 88) dX8_memory_68 (by decide) (by omega) (by omega) (fun c6 => ?_) (fun c6 => ?_)
              · skip
                refine J_iconst (v := nI 0) dX8_memory_88 (by decide +kernel) ?_
                refine J_istore dX8_memory_89 (Nat.le_of_ble_eq_true rfl) (L' := [(8, .int (nI 0)), (7, .int (nI (50 + (4 * j)))), (6, .int (nI j)), (5, .int (jb (cameR Q a t i j))), (4, .int (nI i)), (3, .int (nI (bitsN (fun m => cameR Q a t m (Q 2)) i))), (0, .ref (E.1 + 38)), (1, .int (nI a)), (2, .int (nI t))]) rfl ?_
                refine J_iload dX8_memory_91 rfl ?_
                refine J_if_eqB (tgt := 136) dX8_memory_93 (by decide) (fun c7 => ?_) (fun c7 => ?_)
                · skip
                  refine J_iconst (v := nI 0) dX8_memory_136 (by decide +kernel) ?_
                  refine J_istore dX8_memory_137 (Nat.le_of_ble_eq_true rfl) (L' := [(5, .int (nI 0)), (8, .int (nI 0)), (7, .int (nI (50 + (4 * j)))), (6, .int (nI j)), (4, .int (nI i)), (3, .int (nI (bitsN (fun m => cameR Q a t m (Q 2)) i))), (0, .ref (E.1 + 38)), (1, .int (nI a)), (2, .int (nI t))]) rfl ?_
                  refine J_iincN (q := 3) (a := j) (m := 1) dX8_memory_139 rfl (by decide +kernel) (Nat.le_of_ble_eq_true rfl) (L' := [(6, .int (nI (j + 1))), (5, .int (nI 0)), (8, .int (nI 0)), (7, .int (nI (50 + (4 * j)))), (4, .int (nI i)), (3, .int (nI (bitsN (fun m => cameR Q a t m (Q 2)) i))), (0, .ref (E.1 + 38)), (1, .int (nI a)), (2, .int (nI t))]) rfl ?_
                  refine J_goto (tgt := 40) dX8_memory_142 (by decide) ?_
                  refine J.sub [0, 1, 4, 5, 6, 7, 8] (L' := [(6, .int (nI (j + 1))), (5, .int (nI 0)), (4, .int (nI i)), (3, .int (nI (bitsN (fun m => cameR Q a t m (Q 2)) i))), (0, .ref (E.1 + 38)), (1, .int (nI a)), (2, .int (nI t))]) rfl ?_
                  refine J.eqs (h' := h) (L' := [(6, .int (nI (j + 1))), (5, .int (jb (cameR Q a t i (j + 1)))), (4, .int (nI i)), (3, .int (nI (bitsN (fun m => cameR Q a t m (Q 2)) i))), (0, .ref (E.1 + 38)), (1, .int (nI a)), (2, .int (nI t))]) (st' := []) rfl (jL_c rfl (jL_c (Option.some.inj (jret_B0 (by first | rfl | exact (fun k hk => absurd hk (Nat.not_lt_zero k)) | (refine cameR_s (by assumption) ?_; omega) | exact cameR_n (by assumption) | (refine cameR_f ?_; omega)))) (jL_c rfl (jL_c rfl (jL_c rfl (jL_c rfl (jL_c rfl rfl))))))) rfl ?_
                  exact ih40 (j + 1) (by omega) (by first | assumption | omega)
                · skip
                  refine J_iload dX8_memory_96 rfl ?_
                  refine J_if_eqN (tgt := 132) dX8_memory_98 (by decide) (by omega) (fun _ => ?_) (fun z => absurd z (by decide))
                  refine J_iconst (v := nI 1) dX8_memory_132 (by decide +kernel) ?_
                  refine J_goto (tgt := 137) dX8_memory_133 (by decide) ?_
                  refine J_istore dX8_memory_137 (Nat.le_of_ble_eq_true rfl) (L' := [(5, .int (nI 1)), (8, .int (nI 0)), (7, .int (nI (50 + (4 * j)))), (6, .int (nI j)), (4, .int (nI i)), (3, .int (nI (bitsN (fun m => cameR Q a t m (Q 2)) i))), (0, .ref (E.1 + 38)), (1, .int (nI a)), (2, .int (nI t))]) rfl ?_
                  refine J_iincN (q := 3) (a := j) (m := 1) dX8_memory_139 rfl (by decide +kernel) (Nat.le_of_ble_eq_true rfl) (L' := [(6, .int (nI (j + 1))), (5, .int (nI 1)), (8, .int (nI 0)), (7, .int (nI (50 + (4 * j)))), (4, .int (nI i)), (3, .int (nI (bitsN (fun m => cameR Q a t m (Q 2)) i))), (0, .ref (E.1 + 38)), (1, .int (nI a)), (2, .int (nI t))]) rfl ?_
                  refine J_goto (tgt := 40) dX8_memory_142 (by decide) ?_
                  refine J.sub [0, 1, 4, 5, 6, 7, 8] (L' := [(6, .int (nI (j + 1))), (5, .int (nI 1)), (4, .int (nI i)), (3, .int (nI (bitsN (fun m => cameR Q a t m (Q 2)) i))), (0, .ref (E.1 + 38)), (1, .int (nI a)), (2, .int (nI t))]) rfl ?_
                  refine J.eqs (h' := h) (L' := [(6, .int (nI (j + 1))), (5, .int (jb (cameR Q a t i (j + 1)))), (4, .int (nI i)), (3, .int (nI (bitsN (fun m => cameR Q a t m (Q 2)) i))), (0, .ref (E.1 + 38)), (1, .int (nI a)), (2, .int (nI t))]) (st' := []) rfl (jL_c rfl (jL_c (Option.some.inj (jret_B1 (by first | rfl | exact (fun k hk => absurd hk (Nat.not_lt_zero k)) | (refine cameR_s (by assumption) ?_; omega) | exact cameR_n (by assumption) | (refine cameR_f ?_; omega)))) (jL_c rfl (jL_c rfl (jL_c rfl (jL_c rfl (jL_c rfl rfl))))))) rfl ?_
                  exact ih40 (j + 1) (by omega) (by first | assumption | omega)
              · skip
                refine J_aload_n dX8_memory_71 rfl ?_
                refine J_get 0 dX8_memory_72 jk8 (Nat.le_of_ble_eq_true rfl) jfRX8_7 H0 (by omega) rfl ?_
                refine J_iload dX8_memory_75 rfl ?_
                refine J_iconst (v := nI 1) dX8_memory_77 (by decide +kernel) ?_
                refine J_iaddN dX8_memory_78 ?_
                refine J_ialdN (i := (50 + (4 * j)) + 1) dX8_memory_79 H1 (by omega) (by omega) (by omega) ?_
                refine J_iload_n dX8_memory_80 rfl ?_
                refine J_icmp_neN (tgt := 88) dX8_memory_81 (by decide) (by omega) (by omega) (fun c9 => ?_) (fun c9 => ?_)
                · skip
                  refine J_iconst (v := nI 0) dX8_memory_88 (by decide +kernel) ?_
                  refine J_istore dX8_memory_89 (Nat.le_of_ble_eq_true rfl) (L' := [(8, .int (nI 0)), (7, .int (nI (50 + (4 * j)))), (6, .int (nI j)), (5, .int (jb (cameR Q a t i j))), (4, .int (nI i)), (3, .int (nI (bitsN (fun m => cameR Q a t m (Q 2)) i))), (0, .ref (E.1 + 38)), (1, .int (nI a)), (2, .int (nI t))]) rfl ?_
                  refine J_iload dX8_memory_91 rfl ?_
                  refine J_if_eqB (tgt := 136) dX8_memory_93 (by decide) (fun c10 => ?_) (fun c10 => ?_)
                  · skip
                    refine J_iconst (v := nI 0) dX8_memory_136 (by decide +kernel) ?_
                    refine J_istore dX8_memory_137 (Nat.le_of_ble_eq_true rfl) (L' := [(5, .int (nI 0)), (8, .int (nI 0)), (7, .int (nI (50 + (4 * j)))), (6, .int (nI j)), (4, .int (nI i)), (3, .int (nI (bitsN (fun m => cameR Q a t m (Q 2)) i))), (0, .ref (E.1 + 38)), (1, .int (nI a)), (2, .int (nI t))]) rfl ?_
                    refine J_iincN (q := 3) (a := j) (m := 1) dX8_memory_139 rfl (by decide +kernel) (Nat.le_of_ble_eq_true rfl) (L' := [(6, .int (nI (j + 1))), (5, .int (nI 0)), (8, .int (nI 0)), (7, .int (nI (50 + (4 * j)))), (4, .int (nI i)), (3, .int (nI (bitsN (fun m => cameR Q a t m (Q 2)) i))), (0, .ref (E.1 + 38)), (1, .int (nI a)), (2, .int (nI t))]) rfl ?_
                    refine J_goto (tgt := 40) dX8_memory_142 (by decide) ?_
                    refine J.sub [0, 1, 4, 5, 6, 7, 8] (L' := [(6, .int (nI (j + 1))), (5, .int (nI 0)), (4, .int (nI i)), (3, .int (nI (bitsN (fun m => cameR Q a t m (Q 2)) i))), (0, .ref (E.1 + 38)), (1, .int (nI a)), (2, .int (nI t))]) rfl ?_
                    refine J.eqs (h' := h) (L' := [(6, .int (nI (j + 1))), (5, .int (jb (cameR Q a t i (j + 1)))), (4, .int (nI i)), (3, .int (nI (bitsN (fun m => cameR Q a t m (Q 2)) i))), (0, .ref (E.1 + 38)), (1, .int (nI a)), (2, .int (nI t))]) (st' := []) rfl (jL_c rfl (jL_c (Option.some.inj (jret_B0 (by first | rfl | exact (fun k hk => absurd hk (Nat.not_lt_zero k)) | (refine cameR_s (by assumption) ?_; omega) | exact cameR_n (by assumption) | (refine cameR_f ?_; omega)))) (jL_c rfl (jL_c rfl (jL_c rfl (jL_c rfl (jL_c rfl rfl))))))) rfl ?_
                    exact ih40 (j + 1) (by omega) (by first | assumption | omega)
                  · skip
                    refine J_iload dX8_memory_96 rfl ?_
                    refine J_if_eqN (tgt := 132) dX8_memory_98 (by decide) (by omega) (fun _ => ?_) (fun z => absurd z (by decide))
                    refine J_iconst (v := nI 1) dX8_memory_132 (by decide +kernel) ?_
                    refine J_goto (tgt := 137) dX8_memory_133 (by decide) ?_
                    refine J_istore dX8_memory_137 (Nat.le_of_ble_eq_true rfl) (L' := [(5, .int (nI 1)), (8, .int (nI 0)), (7, .int (nI (50 + (4 * j)))), (6, .int (nI j)), (4, .int (nI i)), (3, .int (nI (bitsN (fun m => cameR Q a t m (Q 2)) i))), (0, .ref (E.1 + 38)), (1, .int (nI a)), (2, .int (nI t))]) rfl ?_
                    refine J_iincN (q := 3) (a := j) (m := 1) dX8_memory_139 rfl (by decide +kernel) (Nat.le_of_ble_eq_true rfl) (L' := [(6, .int (nI (j + 1))), (5, .int (nI 1)), (8, .int (nI 0)), (7, .int (nI (50 + (4 * j)))), (4, .int (nI i)), (3, .int (nI (bitsN (fun m => cameR Q a t m (Q 2)) i))), (0, .ref (E.1 + 38)), (1, .int (nI a)), (2, .int (nI t))]) rfl ?_
                    refine J_goto (tgt := 40) dX8_memory_142 (by decide) ?_
                    refine J.sub [0, 1, 4, 5, 6, 7, 8] (L' := [(6, .int (nI (j + 1))), (5, .int (nI 1)), (4, .int (nI i)), (3, .int (nI (bitsN (fun m => cameR Q a t m (Q 2)) i))), (0, .ref (E.1 + 38)), (1, .int (nI a)), (2, .int (nI t))]) rfl ?_
                    refine J.eqs (h' := h) (L' := [(6, .int (nI (j + 1))), (5, .int (jb (cameR Q a t i (j + 1)))), (4, .int (nI i)), (3, .int (nI (bitsN (fun m => cameR Q a t m (Q 2)) i))), (0, .ref (E.1 + 38)), (1, .int (nI a)), (2, .int (nI t))]) (st' := []) rfl (jL_c rfl (jL_c (Option.some.inj (jret_B1 (by first | rfl | exact (fun k hk => absurd hk (Nat.not_lt_zero k)) | (refine cameR_s (by assumption) ?_; omega) | exact cameR_n (by assumption) | (refine cameR_f ?_; omega)))) (jL_c rfl (jL_c rfl (jL_c rfl (jL_c rfl (jL_c rfl rfl))))))) rfl ?_
                    exact ih40 (j + 1) (by omega) (by first | assumption | omega)
                · skip
                  refine J_iconst (v := nI 1) dX8_memory_84 (by decide +kernel) ?_
                  refine J_goto (tgt := 89) dX8_memory_85 (by decide) ?_
                  refine J_istore dX8_memory_89 (Nat.le_of_ble_eq_true rfl) (L' := [(8, .int (nI 1)), (7, .int (nI (50 + (4 * j)))), (6, .int (nI j)), (5, .int (jb (cameR Q a t i j))), (4, .int (nI i)), (3, .int (nI (bitsN (fun m => cameR Q a t m (Q 2)) i))), (0, .ref (E.1 + 38)), (1, .int (nI a)), (2, .int (nI t))]) rfl ?_
                  refine J_iload dX8_memory_91 rfl ?_
                  refine J_if_eqB (tgt := 136) dX8_memory_93 (by decide) (fun c12 => ?_) (fun c12 => ?_)
                  · skip
                    refine J_iconst (v := nI 0) dX8_memory_136 (by decide +kernel) ?_
                    refine J_istore dX8_memory_137 (Nat.le_of_ble_eq_true rfl) (L' := [(5, .int (nI 0)), (8, .int (nI 1)), (7, .int (nI (50 + (4 * j)))), (6, .int (nI j)), (4, .int (nI i)), (3, .int (nI (bitsN (fun m => cameR Q a t m (Q 2)) i))), (0, .ref (E.1 + 38)), (1, .int (nI a)), (2, .int (nI t))]) rfl ?_
                    refine J_iincN (q := 3) (a := j) (m := 1) dX8_memory_139 rfl (by decide +kernel) (Nat.le_of_ble_eq_true rfl) (L' := [(6, .int (nI (j + 1))), (5, .int (nI 0)), (8, .int (nI 1)), (7, .int (nI (50 + (4 * j)))), (4, .int (nI i)), (3, .int (nI (bitsN (fun m => cameR Q a t m (Q 2)) i))), (0, .ref (E.1 + 38)), (1, .int (nI a)), (2, .int (nI t))]) rfl ?_
                    refine J_goto (tgt := 40) dX8_memory_142 (by decide) ?_
                    refine J.sub [0, 1, 4, 5, 6, 7, 8] (L' := [(6, .int (nI (j + 1))), (5, .int (nI 0)), (4, .int (nI i)), (3, .int (nI (bitsN (fun m => cameR Q a t m (Q 2)) i))), (0, .ref (E.1 + 38)), (1, .int (nI a)), (2, .int (nI t))]) rfl ?_
                    refine J.eqs (h' := h) (L' := [(6, .int (nI (j + 1))), (5, .int (jb (cameR Q a t i (j + 1)))), (4, .int (nI i)), (3, .int (nI (bitsN (fun m => cameR Q a t m (Q 2)) i))), (0, .ref (E.1 + 38)), (1, .int (nI a)), (2, .int (nI t))]) (st' := []) rfl (jL_c rfl (jL_c (Option.some.inj (jret_B0 (by first | rfl | exact (fun k hk => absurd hk (Nat.not_lt_zero k)) | (refine cameR_s (by assumption) ?_; omega) | exact cameR_n (by assumption) | (refine cameR_f ?_; omega)))) (jL_c rfl (jL_c rfl (jL_c rfl (jL_c rfl (jL_c rfl rfl))))))) rfl ?_
                    exact ih40 (j + 1) (by omega) (by first | assumption | omega)
                  · skip
                    refine J_iload dX8_memory_96 rfl ?_
                    refine J_if_eqN (tgt := 132) dX8_memory_98 (by decide) (by omega) (fun z => absurd z (by decide)) (fun _ => ?_)
                    refine J_aload_n dX8_memory_101 rfl ?_
                    refine J_iload_n dX8_memory_102 rfl ?_
                    refine J_callVr (M' := mX8_kindOf) (d' := (1, 0, 0)) (rest := []) dX8_memory_103 jmX8_kindOf jlRX8_87 (ctX8_kindOf a xa xb dt mo bn ta tl tk va Q H0 H1 (by omega) (by first | assumption | omega)) H0 (by omega) jk8.1 rfl rfl (Nat.le_of_ble_eq_true rfl) (Nat.le_of_ble_eq_true rfl) ⟨Nat.le_refl _, Nat.le_refl _⟩ ?_
                    refine J_iload dX8_memory_106 rfl ?_
                    refine J_aload_n dX8_memory_108 rfl ?_
                    refine J_get 0 dX8_memory_109 jk8 (Nat.le_of_ble_eq_true rfl) jfRX8_7 H0 (by omega) rfl ?_
                    refine J_iload dX8_memory_112 rfl ?_
                    refine J_iconst (v := nI 2) dX8_memory_114 (by decide +kernel) ?_
                    refine J_iaddN dX8_memory_115 ?_
                    refine J_ialdN (i := (50 + (4 * j)) + 2) dX8_memory_116 H1 (by omega) (by omega) (by omega) ?_
                    refine J_callSr (M' := mX8_upAs) (d' := (1, 0, 0)) (rest := []) dX8_memory_117 jmX8_upAs jlRX8_90 (ctX8_upAs (KQ Q a) i (Q ((50 + (4 * j)) + 2))   (by first | assumption | omega) (by first | assumption | omega) (by first | assumption | omega)) rfl rfl (Nat.le_of_ble_eq_true rfl) (Nat.le_of_ble_eq_true rfl) ⟨Nat.le_refl _, Nat.le_refl _⟩ ?_
                    refine J_aload_n dX8_memory_120 rfl ?_
                    refine J_get 0 dX8_memory_121 jk8 (Nat.le_of_ble_eq_true rfl) jfRX8_7 H0 (by omega) rfl ?_
                    refine J_iload dX8_memory_124 rfl ?_
                    refine J_iconst (v := nI 3) dX8_memory_126 (by decide +kernel) ?_
                    refine J_iaddN dX8_memory_127 ?_
                    refine J_ialdN (i := (50 + (4 * j)) + 3) dX8_memory_128 H1 (by omega) (by omega) (by omega) ?_
                    refine J_icmp_neN (tgt := 136) dX8_memory_129 (by decide) (by omega) (by omega) (fun c14 => ?_) (fun c14 => ?_)
                    · skip
                      refine J_iconst (v := nI 0) dX8_memory_136 (by decide +kernel) ?_
                      refine J_istore dX8_memory_137 (Nat.le_of_ble_eq_true rfl) (L' := [(5, .int (nI 0)), (8, .int (nI 1)), (7, .int (nI (50 + (4 * j)))), (6, .int (nI j)), (4, .int (nI i)), (3, .int (nI (bitsN (fun m => cameR Q a t m (Q 2)) i))), (0, .ref (E.1 + 38)), (1, .int (nI a)), (2, .int (nI t))]) rfl ?_
                      refine J_iincN (q := 3) (a := j) (m := 1) dX8_memory_139 rfl (by decide +kernel) (Nat.le_of_ble_eq_true rfl) (L' := [(6, .int (nI (j + 1))), (5, .int (nI 0)), (8, .int (nI 1)), (7, .int (nI (50 + (4 * j)))), (4, .int (nI i)), (3, .int (nI (bitsN (fun m => cameR Q a t m (Q 2)) i))), (0, .ref (E.1 + 38)), (1, .int (nI a)), (2, .int (nI t))]) rfl ?_
                      refine J_goto (tgt := 40) dX8_memory_142 (by decide) ?_
                      refine J.sub [0, 1, 4, 5, 6, 7, 8] (L' := [(6, .int (nI (j + 1))), (5, .int (nI 0)), (4, .int (nI i)), (3, .int (nI (bitsN (fun m => cameR Q a t m (Q 2)) i))), (0, .ref (E.1 + 38)), (1, .int (nI a)), (2, .int (nI t))]) rfl ?_
                      refine J.eqs (h' := h) (L' := [(6, .int (nI (j + 1))), (5, .int (jb (cameR Q a t i (j + 1)))), (4, .int (nI i)), (3, .int (nI (bitsN (fun m => cameR Q a t m (Q 2)) i))), (0, .ref (E.1 + 38)), (1, .int (nI a)), (2, .int (nI t))]) (st' := []) rfl (jL_c rfl (jL_c (Option.some.inj (jret_B0 (by first | rfl | exact (fun k hk => absurd hk (Nat.not_lt_zero k)) | (refine cameR_s (by assumption) ?_; omega) | exact cameR_n (by assumption) | (refine cameR_f ?_; omega)))) (jL_c rfl (jL_c rfl (jL_c rfl (jL_c rfl (jL_c rfl rfl))))))) rfl ?_
                      exact ih40 (j + 1) (by omega) (by first | assumption | omega)
                    · skip
                      refine J_iconst (v := nI 1) dX8_memory_132 (by decide +kernel) ?_
                      refine J_goto (tgt := 137) dX8_memory_133 (by decide) ?_
                      refine J_istore dX8_memory_137 (Nat.le_of_ble_eq_true rfl) (L' := [(5, .int (nI 1)), (8, .int (nI 1)), (7, .int (nI (50 + (4 * j)))), (6, .int (nI j)), (4, .int (nI i)), (3, .int (nI (bitsN (fun m => cameR Q a t m (Q 2)) i))), (0, .ref (E.1 + 38)), (1, .int (nI a)), (2, .int (nI t))]) rfl ?_
                      refine J_iincN (q := 3) (a := j) (m := 1) dX8_memory_139 rfl (by decide +kernel) (Nat.le_of_ble_eq_true rfl) (L' := [(6, .int (nI (j + 1))), (5, .int (nI 1)), (8, .int (nI 1)), (7, .int (nI (50 + (4 * j)))), (4, .int (nI i)), (3, .int (nI (bitsN (fun m => cameR Q a t m (Q 2)) i))), (0, .ref (E.1 + 38)), (1, .int (nI a)), (2, .int (nI t))]) rfl ?_
                      refine J_goto (tgt := 40) dX8_memory_142 (by decide) ?_
                      refine J.sub [0, 1, 4, 5, 6, 7, 8] (L' := [(6, .int (nI (j + 1))), (5, .int (nI 1)), (4, .int (nI i)), (3, .int (nI (bitsN (fun m => cameR Q a t m (Q 2)) i))), (0, .ref (E.1 + 38)), (1, .int (nI a)), (2, .int (nI t))]) rfl ?_
                      refine J.eqs (h' := h) (L' := [(6, .int (nI (j + 1))), (5, .int (jb (cameR Q a t i (j + 1)))), (4, .int (nI i)), (3, .int (nI (bitsN (fun m => cameR Q a t m (Q 2)) i))), (0, .ref (E.1 + 38)), (1, .int (nI a)), (2, .int (nI t))]) (st' := []) rfl (jL_c rfl (jL_c (Option.some.inj (jret_B1 (by first | rfl | exact (fun k hk => absurd hk (Nat.not_lt_zero k)) | (refine cameR_s (by assumption) ?_; omega) | exact cameR_n (by assumption) | (refine cameR_f ?_; omega)))) (jL_c rfl (jL_c rfl (jL_c rfl (jL_c rfl (jL_c rfl rfl))))))) rfl ?_
                      exact ih40 (j + 1) (by omega) (by first | assumption | omega)
        refine J.eqs (h' := h) (L' := [(6, .int (nI 0)), (5, .int (jb (cameR Q a t i 0))), (4, .int (nI i)), (3, .int (nI (bitsN (fun m => cameR Q a t m (Q 2)) i))), (0, .ref (E.1 + 38)), (1, .int (nI a)), (2, .int (nI t))]) (st' := []) rfl (jL_c rfl (jL_c (Option.some.inj (jret_B1 (by first | rfl | exact (fun k hk => absurd hk (Nat.not_lt_zero k)) | (refine cameR_s (by assumption) ?_; omega) | exact cameR_n (by assumption) | (refine cameR_f ?_; omega)))) (jL_c rfl (jL_c rfl (jL_c rfl (jL_c rfl (jL_c rfl rfl))))))) rfl ?_
        exact CUT40 (Q 2 - 0 + 1) 0 (Nat.lt_succ_self _) (by first | assumption | omega)
  refine J.eqs (h' := h) (L' := [(4, .int (nI 0)), (3, .int (nI (bitsN (fun m => cameR Q a t m (Q 2)) 0))), (0, .ref (E.1 + 38)), (1, .int (nI a)), (2, .int (nI t))]) (st' := []) rfl (jL_c rfl (jL_c (jv_N (by first | rfl | exact bitsN_t (p := fun m => cameR Q a t m (Q 2)) (by rw [show Q 2 = j by omega]; assumption) | exact bitsN_f0 (p := fun m => cameR Q a t m (Q 2)) (by rw [show Q 2 = j by omega]; assumption))) (jL_c rfl (jL_c rfl (jL_c rfl rfl))))) rfl ?_
  exact CUT27 (21 - 0 + 1) 0 (Nat.lt_succ_self _) (by first | assumption | omega)

set_option maxHeartbeats 1000000 in
set_option maxRecDepth 100000 in
theorem ctX8_whose_bad {E : jE} {h : Nat → va_E} {n : Nat} (x0 : Nat) (x1 : Nat) (x2 : Nat) (x3 : Nat) (xa : Nat) (xb : Nat) (dt : Nat) (mo : Nat) (bn : Nat) (ta : Nat) (tl : Nat) (tk : Nat) (va : Nat) (RF : Nat → Nat) (H0 : h 38 = .inr (7, [.ref (E.1 + 39), .ref (E.1 + 40), .ref (E.1 + 41), .ref (E.1 + 42), .long (lN xa), .long (lN xb), .ref (E.1 + 43), .int (nI dt), .ref (E.1 + 44), .ref (E.1 + 45), .int (nI mo), .ref (E.1 + 46), .ref (E.1 + 47), .int (nI bn), .int (nI ta), .int (nI tl), .int (nI tk), .int (nI va), .ref (E.1 + 48), .ref (E.1 + 49)])) (H1 : h 42 = cI E 3 (nF RF)) (hn : 50 ≤ n) (h32x0 : x0 < 2 ^ 32) (h32x1 : x1 < 2 ^ 32) (h32x2 : x2 < 2 ^ 32) (h32x3 : x3 < 2 ^ 32) (hbad : ¬ (x0 ≤ 50 ∧ x1 ≤ 50 ∧ x2 ≤ 50 ∧ x3 ≤ 50)) : jC E mX8_whose (3, 0, 0) [.ref (E.1 + 38), .int (nI x0), .int (nI x1), .int (nI x2), .int (nI x3)] h n (jR (some (.int (-2))) (hset h 42 (cI E 3 (nF (updN RF 0 (RF 0 + 1))))) n) := by
  refine J.of (L := [(0, .ref (E.1 + 38)), (1, .int (nI x0)), (2, .int (nI x1)), (3, .int (nI x2)), (4, .int (nI x3))]) rfl (by decide +kernel) (Nat.le_of_ble_eq_true rfl) ?_
  obtain ⟨PP, hPP⟩ : ∃ PP : jPost, PP = (jR (some (.int (-2))) (hset h 42 (cI E 3 (nF (updN RF 0 (RF 0 + 1))))) n) := ⟨_, rfl⟩
  rw [← hPP]
  refine J_iload_n dX8_whose_0 rfl ?_
  refine J_i2l (v := (nI x0).toInt64) dX8_whose_1 rfl ?_
  refine J_lconst (v := lN 0) dX8_whose_2 (by decide +kernel) ?_
  refine J_ldc2 dX8_whose_3 jqRX8_151 ?_
  refine J.stk (st' := .long (lN 50) :: [.long (lN 0), .long (nI x0).toInt64]) rfl ?_
  refine J_callSr (M' := mX8_in) (d' := (1, 0, 0)) (rest := []) dX8_whose_6 jmX8_in jlRX8_56 (ctX8_in x0 0 50   (by first | assumption | omega) (by first | assumption | omega) (by first | assumption | omega)) rfl rfl (Nat.le_of_ble_eq_true rfl) (Nat.le_of_ble_eq_true rfl) ⟨Nat.le_refl _, Nat.le_refl _⟩ ?_
  refine J_if_eqB (tgt := 49) dX8_whose_9 (by decide) (fun c1 => ?_) (fun c1 => ?_)
  · skip
    refine J_aload_n dX8_whose_49 rfl ?_
    refine J_bipush (v := (-2)) dX8_whose_50 (by decide +kernel) ?_
    refine J_callVr (M' := mX8_bad) (d' := (1, 0, 0)) (rest := []) dX8_whose_52 jmX8_bad jlRX8_66 (ctX8_bad (-2) xa xb dt mo bn ta tl tk va RF H0 H1 (by omega) ) H0 (by omega) jk8.1 rfl rfl (Nat.le_of_ble_eq_true rfl) (Nat.le_of_ble_eq_true rfl) ⟨Nat.le_refl _, Nat.le_refl _⟩ ?_
    exact J_iret dX8_whose_55 rfl ⟨Nat.le_refl _, Nat.le_refl _⟩ (by rw [hPP]; exact ⟨rfl, rfl, rfl⟩)
  · skip
    refine J_iload_n dX8_whose_12 rfl ?_
    refine J_i2l (v := (nI x1).toInt64) dX8_whose_13 rfl ?_
    refine J_lconst (v := lN 0) dX8_whose_14 (by decide +kernel) ?_
    refine J_ldc2 dX8_whose_15 jqRX8_151 ?_
    refine J.stk (st' := .long (lN 50) :: [.long (lN 0), .long (nI x1).toInt64]) rfl ?_
    refine J_callSr (M' := mX8_in) (d' := (1, 0, 0)) (rest := []) dX8_whose_18 jmX8_in jlRX8_56 (ctX8_in x1 0 50   (by first | assumption | omega) (by first | assumption | omega) (by first | assumption | omega)) rfl rfl (Nat.le_of_ble_eq_true rfl) (Nat.le_of_ble_eq_true rfl) ⟨Nat.le_refl _, Nat.le_refl _⟩ ?_
    refine J_if_eqB (tgt := 49) dX8_whose_21 (by decide) (fun c2 => ?_) (fun c2 => ?_)
    · skip
      refine J_aload_n dX8_whose_49 rfl ?_
      refine J_bipush (v := (-2)) dX8_whose_50 (by decide +kernel) ?_
      refine J_callVr (M' := mX8_bad) (d' := (1, 0, 0)) (rest := []) dX8_whose_52 jmX8_bad jlRX8_66 (ctX8_bad (-2) xa xb dt mo bn ta tl tk va RF H0 H1 (by omega) ) H0 (by omega) jk8.1 rfl rfl (Nat.le_of_ble_eq_true rfl) (Nat.le_of_ble_eq_true rfl) ⟨Nat.le_refl _, Nat.le_refl _⟩ ?_
      exact J_iret dX8_whose_55 rfl ⟨Nat.le_refl _, Nat.le_refl _⟩ (by rw [hPP]; exact ⟨rfl, rfl, rfl⟩)
    · skip
      refine J_iload_n dX8_whose_24 rfl ?_
      refine J_i2l (v := (nI x2).toInt64) dX8_whose_25 rfl ?_
      refine J_lconst (v := lN 0) dX8_whose_26 (by decide +kernel) ?_
      refine J_ldc2 dX8_whose_27 jqRX8_151 ?_
      refine J.stk (st' := .long (lN 50) :: [.long (lN 0), .long (nI x2).toInt64]) rfl ?_
      refine J_callSr (M' := mX8_in) (d' := (1, 0, 0)) (rest := []) dX8_whose_30 jmX8_in jlRX8_56 (ctX8_in x2 0 50   (by first | assumption | omega) (by first | assumption | omega) (by first | assumption | omega)) rfl rfl (Nat.le_of_ble_eq_true rfl) (Nat.le_of_ble_eq_true rfl) ⟨Nat.le_refl _, Nat.le_refl _⟩ ?_
      refine J_if_eqB (tgt := 49) dX8_whose_33 (by decide) (fun c3 => ?_) (fun c3 => ?_)
      · skip
        refine J_aload_n dX8_whose_49 rfl ?_
        refine J_bipush (v := (-2)) dX8_whose_50 (by decide +kernel) ?_
        refine J_callVr (M' := mX8_bad) (d' := (1, 0, 0)) (rest := []) dX8_whose_52 jmX8_bad jlRX8_66 (ctX8_bad (-2) xa xb dt mo bn ta tl tk va RF H0 H1 (by omega) ) H0 (by omega) jk8.1 rfl rfl (Nat.le_of_ble_eq_true rfl) (Nat.le_of_ble_eq_true rfl) ⟨Nat.le_refl _, Nat.le_refl _⟩ ?_
        exact J_iret dX8_whose_55 rfl ⟨Nat.le_refl _, Nat.le_refl _⟩ (by rw [hPP]; exact ⟨rfl, rfl, rfl⟩)
      · skip
        refine J_iload dX8_whose_36 rfl ?_
        refine J_i2l (v := (nI x3).toInt64) dX8_whose_38 rfl ?_
        refine J_lconst (v := lN 0) dX8_whose_39 (by decide +kernel) ?_
        refine J_ldc2 dX8_whose_40 jqRX8_151 ?_
        refine J.stk (st' := .long (lN 50) :: [.long (lN 0), .long (nI x3).toInt64]) rfl ?_
        refine J_callSr (M' := mX8_in) (d' := (1, 0, 0)) (rest := []) dX8_whose_43 jmX8_in jlRX8_56 (ctX8_in x3 0 50   (by first | assumption | omega) (by first | assumption | omega) (by first | assumption | omega)) rfl rfl (Nat.le_of_ble_eq_true rfl) (Nat.le_of_ble_eq_true rfl) ⟨Nat.le_refl _, Nat.le_refl _⟩ ?_
        refine J_if_neB (tgt := 56) dX8_whose_46 (by decide) (fun c4 => (by exfalso; omega)) (fun c4 => ?_)
        refine J_aload_n dX8_whose_49 rfl ?_
        refine J_bipush (v := (-2)) dX8_whose_50 (by decide +kernel) ?_
        refine J_callVr (M' := mX8_bad) (d' := (1, 0, 0)) (rest := []) dX8_whose_52 jmX8_bad jlRX8_66 (ctX8_bad (-2) xa xb dt mo bn ta tl tk va RF H0 H1 (by omega) ) H0 (by omega) jk8.1 rfl rfl (Nat.le_of_ble_eq_true rfl) (Nat.le_of_ble_eq_true rfl) ⟨Nat.le_refl _, Nat.le_refl _⟩ ?_
        exact J_iret dX8_whose_55 rfl ⟨Nat.le_refl _, Nat.le_refl _⟩ (by rw [hPP]; exact ⟨rfl, rfl, rfl⟩)

set_option maxHeartbeats 1000000 in
set_option maxRecDepth 100000 in
theorem ctX8_whose {E : jE} {h : Nat → va_E} {n : Nat} (x0 : Nat) (x1 : Nat) (x2 : Nat) (x3 : Nat) (xa : Nat) (xb : Nat) (dt : Nat) (mo : Nat) (bn : Nat) (ta : Nat) (tl : Nat) (tk : Nat) (va : Nat) (Q : Nat → Nat) (MM : Nat → Nat) (H0 : h 38 = .inr (7, [.ref (E.1 + 39), .ref (E.1 + 40), .ref (E.1 + 41), .ref (E.1 + 42), .long (lN xa), .long (lN xb), .ref (E.1 + 43), .int (nI dt), .ref (E.1 + 44), .ref (E.1 + 45), .int (nI mo), .ref (E.1 + 46), .ref (E.1 + 47), .int (nI bn), .int (nI ta), .int (nI tl), .int (nI tk), .int (nI va), .ref (E.1 + 48), .ref (E.1 + 49)])) (H1 : h 39 = cI E 218 (nF Q)) (H2 : h 43 = cI E 16 (nF MM)) (hn : 50 ≤ n) (hn4 : Q 0 ≤ 4) (hK : ∀ zz, zz < 4 → KQ Q zz ≤ 5) (hM4 : ∀ zz, zz < 16 → Q (4 + zz) ≤ 20) (hg : Q 21 ≤ 9) (hM : ∀ zz, MM zz ≤ 20) (hx0 : x0 ≤ 50) (hx1 : x1 ≤ 50) (hx2 : x2 ≤ 50) (hx3 : x3 ≤ 50) : jC E mX8_whose (3, 0, 0) [.ref (E.1 + 38), .int (nI x0), .int (nI x1), .int (nI x2), .int (nI x3)] h n (jR (some (.int (nI (whoseN (KQ Q) (handM Q MM 16) (Q 21) (Q 0) x0 x1 x2 x3)))) (hset (hset h 43 (cI E 16 (nF (handM Q MM 16)))) 38 (.inr (7, [.ref (E.1 + 39), .ref (E.1 + 40), .ref (E.1 + 41), .ref (E.1 + 42), .long (lN xa), .long (lN xb), .ref (E.1 + 43), .int (nI (Q 20)), .ref (E.1 + 44), .ref (E.1 + 45), .int (nI mo), .ref (E.1 + 46), .ref (E.1 + 47), .int (nI bn), .int (nI ta), .int (nI tl), .int (nI tk), .int (nI va), .ref (E.1 + 48), .ref (E.1 + 49)]))) n) := by
  refine J.of (L := [(0, .ref (E.1 + 38)), (1, .int (nI x0)), (2, .int (nI x1)), (3, .int (nI x2)), (4, .int (nI x3))]) rfl (by decide +kernel) (Nat.le_of_ble_eq_true rfl) ?_
  obtain ⟨PP, hPP⟩ : ∃ PP : jPost, PP = (jR (some (.int (nI (whoseN (KQ Q) (handM Q MM 16) (Q 21) (Q 0) x0 x1 x2 x3)))) (hset (hset h 43 (cI E 16 (nF (handM Q MM 16)))) 38 (.inr (7, [.ref (E.1 + 39), .ref (E.1 + 40), .ref (E.1 + 41), .ref (E.1 + 42), .long (lN xa), .long (lN xb), .ref (E.1 + 43), .int (nI (Q 20)), .ref (E.1 + 44), .ref (E.1 + 45), .int (nI mo), .ref (E.1 + 46), .ref (E.1 + 47), .int (nI bn), .int (nI ta), .int (nI tl), .int (nI tk), .int (nI va), .ref (E.1 + 48), .ref (E.1 + 49)]))) n) := ⟨_, rfl⟩
  rw [← hPP]
  refine J_iload_n dX8_whose_0 rfl ?_
  refine J_i2lN dX8_whose_1 (by omega) ?_
  refine J_lconst (v := lN 0) dX8_whose_2 (by decide +kernel) ?_
  refine J_ldc2 dX8_whose_3 jqRX8_151 ?_
  refine J.stk (st' := .long (lN 50) :: [.long (lN 0), .long (lN x0)]) rfl ?_
  refine J_callSr (M' := mX8_in) (d' := (1, 0, 0)) (rest := []) dX8_whose_6 jmX8_in jlRX8_56 (ctX8_inM x0 0 50   (by first | assumption | omega) (by first | assumption | omega) (by first | assumption | omega)) rfl rfl (Nat.le_of_ble_eq_true rfl) (Nat.le_of_ble_eq_true rfl) ⟨Nat.le_refl _, Nat.le_refl _⟩ ?_
  refine J_if_eqB (tgt := 49) dX8_whose_9 (by decide) (fun c1 => (by exfalso; omega)) (fun c1 => ?_)
  refine J_iload_n dX8_whose_12 rfl ?_
  refine J_i2lN dX8_whose_13 (by omega) ?_
  refine J_lconst (v := lN 0) dX8_whose_14 (by decide +kernel) ?_
  refine J_ldc2 dX8_whose_15 jqRX8_151 ?_
  refine J.stk (st' := .long (lN 50) :: [.long (lN 0), .long (lN x1)]) rfl ?_
  refine J_callSr (M' := mX8_in) (d' := (1, 0, 0)) (rest := []) dX8_whose_18 jmX8_in jlRX8_56 (ctX8_inM x1 0 50   (by first | assumption | omega) (by first | assumption | omega) (by first | assumption | omega)) rfl rfl (Nat.le_of_ble_eq_true rfl) (Nat.le_of_ble_eq_true rfl) ⟨Nat.le_refl _, Nat.le_refl _⟩ ?_
  refine J_if_eqB (tgt := 49) dX8_whose_21 (by decide) (fun c2 => (by exfalso; omega)) (fun c2 => ?_)
  refine J_iload_n dX8_whose_24 rfl ?_
  refine J_i2lN dX8_whose_25 (by omega) ?_
  refine J_lconst (v := lN 0) dX8_whose_26 (by decide +kernel) ?_
  refine J_ldc2 dX8_whose_27 jqRX8_151 ?_
  refine J.stk (st' := .long (lN 50) :: [.long (lN 0), .long (lN x2)]) rfl ?_
  refine J_callSr (M' := mX8_in) (d' := (1, 0, 0)) (rest := []) dX8_whose_30 jmX8_in jlRX8_56 (ctX8_inM x2 0 50   (by first | assumption | omega) (by first | assumption | omega) (by first | assumption | omega)) rfl rfl (Nat.le_of_ble_eq_true rfl) (Nat.le_of_ble_eq_true rfl) ⟨Nat.le_refl _, Nat.le_refl _⟩ ?_
  refine J_if_eqB (tgt := 49) dX8_whose_33 (by decide) (fun c3 => (by exfalso; omega)) (fun c3 => ?_)
  refine J_iload dX8_whose_36 rfl ?_
  refine J_i2lN dX8_whose_38 (by omega) ?_
  refine J_lconst (v := lN 0) dX8_whose_39 (by decide +kernel) ?_
  refine J_ldc2 dX8_whose_40 jqRX8_151 ?_
  refine J.stk (st' := .long (lN 50) :: [.long (lN 0), .long (lN x3)]) rfl ?_
  refine J_callSr (M' := mX8_in) (d' := (1, 0, 0)) (rest := []) dX8_whose_43 jmX8_in jlRX8_56 (ctX8_inM x3 0 50   (by first | assumption | omega) (by first | assumption | omega) (by first | assumption | omega)) rfl rfl (Nat.le_of_ble_eq_true rfl) (Nat.le_of_ble_eq_true rfl) ⟨Nat.le_refl _, Nat.le_refl _⟩ ?_
  refine J_if_neB (tgt := 56) dX8_whose_46 (by decide) (fun c4 => ?_) (fun c4 => (by exfalso; omega))
  refine J_iconst (v := nI 0) dX8_whose_56 (by decide +kernel) ?_
  refine J_istore dX8_whose_57 (Nat.le_of_ble_eq_true rfl) (L' := [(5, .int (nI 0)), (0, .ref (E.1 + 38)), (1, .int (nI x0)), (2, .int (nI x1)), (3, .int (nI x2)), (4, .int (nI x3))]) rfl ?_
  refine J_aload_n dX8_whose_59 rfl ?_
  refine J_callVn (M' := mX8_layHand) (d' := (1, 0, 0)) (rest := []) dX8_whose_60 jmX8_layHand jlRX8_116 (ctX8_layHand xa xb dt mo bn ta tl tk va Q MM H0 H1 H2 (by omega) ) H0 (by omega) jk8.1 rfl rfl (Nat.le_of_ble_eq_true rfl) (Nat.le_of_ble_eq_true rfl) ⟨Nat.le_refl _, Nat.le_refl _⟩ ?_
  refine J_iconst (v := nI 0) dX8_whose_63 (by decide +kernel) ?_
  refine J_istore dX8_whose_64 (Nat.le_of_ble_eq_true rfl) (L' := [(6, .int (nI 0)), (5, .int (nI 0)), (0, .ref (E.1 + 38)), (1, .int (nI x0)), (2, .int (nI x1)), (3, .int (nI x2)), (4, .int (nI x3))]) rfl ?_
  have CUT66 : ∀ (f66 : Nat) (i : Nat) (hm66 : Q 0 - i < f66) (hi : i ≤ Q 0), J E mX8_whose (3, 0, 0) jS0 PP (hset (hset h 43 (cI E 16 (nF (handM Q MM 16)))) 38 (.inr (7, [.ref (E.1 + 39), .ref (E.1 + 40), .ref (E.1 + 41), .ref (E.1 + 42), .long (lN xa), .long (lN xb), .ref (E.1 + 43), .int (nI (Q 20)), .ref (E.1 + 44), .ref (E.1 + 45), .int (nI mo), .ref (E.1 + 46), .ref (E.1 + 47), .int (nI bn), .int (nI ta), .int (nI tl), .int (nI tk), .int (nI va), .ref (E.1 + 48), .ref (E.1 + 49)]))) n (0, 0) 66 [(6, .int (nI i)), (5, .int (nI (bitsN (whoseP (KQ Q) (handM Q MM 16) (Q 21) x0 x1 x2 x3) i))), (0, .ref (E.1 + 38)), (1, .int (nI x0)), (2, .int (nI x1)), (3, .int (nI x2)), (4, .int (nI x3))] [] := by
    intro f66
    induction f66 with
    | zero => intro i hm66; exact absurd hm66 (Nat.not_lt_zero _)
    | succ f66 ih66 =>
      intro i hm66 hi
      refine J_iload dX8_whose_66 rfl ?_
      refine J_aload_n dX8_whose_68 rfl ?_
      refine J_callVr (M' := mX8_many) (d' := (1, 0, 0)) (rest := [.int (nI i)]) dX8_whose_69 jmX8_many jlRX8_52 (ctX8_many xa xb (Q 20) mo bn ta tl tk va Q hset_eq ((hset_ne (by omega)).trans ((hset_ne (by omega)).trans H1)) (by omega) ) hset_eq (by omega) jk8.1 rfl rfl (Nat.le_of_ble_eq_true rfl) (Nat.le_of_ble_eq_true rfl) ⟨Nat.le_refl _, Nat.le_refl _⟩ ?_
      refine J_icmp_geN (tgt := 151) dX8_whose_72 (by decide) (by omega) (by omega) (fun c5 => ?_) (fun c5 => ?_)
      · skip
        refine J_iload dX8_whose_151 rfl ?_
        exact J_iret dX8_whose_153 rfl ⟨Nat.le_refl _, Nat.le_refl _⟩ (by rw [hPP]; exact ⟨(congrArg some (jv_N (by rw [show i = Q 0 by omega]; rfl))), rfl, rfl⟩)
      · skip
        refine J_aload_n dX8_whose_75 rfl ?_
        refine J_iload dX8_whose_76 rfl ?_
        refine J_iconst (v := nI 0) dX8_whose_78 (by decide +kernel) ?_
        refine J_callVr (M' := mX8_upOf) (d' := (2, 0, 0)) (rest := []) dX8_whose_79 jmX8_upOf jlRX8_94 (ctX8_upOf i 0 xa xb (Q 20) mo bn ta tl tk va Q (handM Q MM 16) hset_eq ((hset_ne (by omega)).trans ((hset_ne (by omega)).trans H1)) ((hset_ne (by omega)).trans hset_eq) (by omega) (by first | assumption | omega) (by first | assumption | omega) (by first | assumption | omega) (by exact handM_le hM4 hM) (by first | assumption | omega)) hset_eq (by omega) jk8.1 rfl rfl (Nat.le_of_ble_eq_true rfl) (Nat.le_of_ble_eq_true rfl) ⟨Nat.le_refl _, Nat.le_refl _⟩ ?_
        have fc6 : upN (KQ Q i) ((handM Q MM 16) (4 * i + 0)) (Q 21) ≤ 42 := upN_le ((show ∀ zz, (handM Q MM 16) zz ≤ 20 from by exact handM_le hM4 hM) (4 * i + 0))
        refine J_iload_n dX8_whose_82 rfl ?_
        refine J_icmp_neN (tgt := 124) dX8_whose_83 (by decide) (by omega) (by omega) (fun c7 => ?_) (fun c7 => ?_)
        · skip
          refine J_iconst (v := nI 0) dX8_whose_124 (by decide +kernel) ?_
          refine J_istore dX8_whose_125 (Nat.le_of_ble_eq_true rfl) (L' := [(7, .int (nI 0)), (6, .int (nI i)), (5, .int (nI (bitsN (whoseP (KQ Q) (handM Q MM 16) (Q 21) x0 x1 x2 x3) i))), (0, .ref (E.1 + 38)), (1, .int (nI x0)), (2, .int (nI x1)), (3, .int (nI x2)), (4, .int (nI x3))]) rfl ?_
          refine J_iload dX8_whose_127 rfl ?_
          refine J_iload dX8_whose_129 rfl ?_
          refine J_if_eqN (tgt := 141) dX8_whose_131 (by decide) (by omega) (fun _ => ?_) (fun z => absurd z (by decide))
          refine J_iconst (v := nI 0) dX8_whose_141 (by decide +kernel) ?_
          refine J_iorN dX8_whose_142 ?_
          refine J_istore dX8_whose_143 (Nat.le_of_ble_eq_true rfl) (L' := [(5, .int (nI ((bitsN (whoseP (KQ Q) (handM Q MM 16) (Q 21) x0 x1 x2 x3) i) ||| 0))), (7, .int (nI 0)), (6, .int (nI i)), (0, .ref (E.1 + 38)), (1, .int (nI x0)), (2, .int (nI x1)), (3, .int (nI x2)), (4, .int (nI x3))]) rfl ?_
          refine J_iincN (q := 2) (a := i) (m := 1) dX8_whose_145 rfl (by decide +kernel) (Nat.le_of_ble_eq_true rfl) (L' := [(6, .int (nI (i + 1))), (5, .int (nI ((bitsN (whoseP (KQ Q) (handM Q MM 16) (Q 21) x0 x1 x2 x3) i) ||| 0))), (7, .int (nI 0)), (0, .ref (E.1 + 38)), (1, .int (nI x0)), (2, .int (nI x1)), (3, .int (nI x2)), (4, .int (nI x3))]) rfl ?_
          refine J_goto (tgt := 66) dX8_whose_148 (by decide) ?_
          refine J.sub [0, 1, 3, 4, 5, 6, 7] (L' := [(6, .int (nI (i + 1))), (5, .int (nI ((bitsN (whoseP (KQ Q) (handM Q MM 16) (Q 21) x0 x1 x2 x3) i) ||| 0))), (0, .ref (E.1 + 38)), (1, .int (nI x0)), (2, .int (nI x1)), (3, .int (nI x2)), (4, .int (nI x3))]) rfl ?_
          refine J.eqs (h' := (hset (hset h 43 (cI E 16 (nF (handM Q MM 16)))) 38 (.inr (7, [.ref (E.1 + 39), .ref (E.1 + 40), .ref (E.1 + 41), .ref (E.1 + 42), .long (lN xa), .long (lN xb), .ref (E.1 + 43), .int (nI (Q 20)), .ref (E.1 + 44), .ref (E.1 + 45), .int (nI mo), .ref (E.1 + 46), .ref (E.1 + 47), .int (nI bn), .int (nI ta), .int (nI tl), .int (nI tk), .int (nI va), .ref (E.1 + 48), .ref (E.1 + 49)])))) (L' := [(6, .int (nI (i + 1))), (5, .int (nI (bitsN (whoseP (KQ Q) (handM Q MM 16) (Q 21) x0 x1 x2 x3) (i + 1)))), (0, .ref (E.1 + 38)), (1, .int (nI x0)), (2, .int (nI x1)), (3, .int (nI x2)), (4, .int (nI x3))]) (st' := []) rfl (jL_c rfl (jL_c (jv_N (by first | rfl | (refine bitsN_t ?_; refine ⟨?_, ?_, ?_, ?_⟩ <;> omega) | (refine bitsN_f0 (fun q => ?_); obtain ⟨q0, q1, q2, q3⟩ := q; omega))) (jL_c rfl (jL_c rfl (jL_c rfl (jL_c rfl (jL_c rfl rfl))))))) rfl ?_
          exact ih66 (i + 1) (by omega) (by first | assumption | omega)
        · skip
          refine J_aload_n dX8_whose_86 rfl ?_
          refine J_iload dX8_whose_87 rfl ?_
          refine J_iconst (v := nI 1) dX8_whose_89 (by decide +kernel) ?_
          refine J_callVr (M' := mX8_upOf) (d' := (2, 0, 0)) (rest := []) dX8_whose_90 jmX8_upOf jlRX8_94 (ctX8_upOf i 1 xa xb (Q 20) mo bn ta tl tk va Q (handM Q MM 16) hset_eq ((hset_ne (by omega)).trans ((hset_ne (by omega)).trans H1)) ((hset_ne (by omega)).trans hset_eq) (by omega) (by first | assumption | omega) (by first | assumption | omega) (by first | assumption | omega) (by exact handM_le hM4 hM) (by first | assumption | omega)) hset_eq (by omega) jk8.1 rfl rfl (Nat.le_of_ble_eq_true rfl) (Nat.le_of_ble_eq_true rfl) ⟨Nat.le_refl _, Nat.le_refl _⟩ ?_
          have fc9 : upN (KQ Q i) ((handM Q MM 16) (4 * i + 1)) (Q 21) ≤ 42 := upN_le ((show ∀ zz, (handM Q MM 16) zz ≤ 20 from by exact handM_le hM4 hM) (4 * i + 1))
          refine J_iload_n dX8_whose_93 rfl ?_
          refine J_icmp_neN (tgt := 124) dX8_whose_94 (by decide) (by omega) (by omega) (fun c10 => ?_) (fun c10 => ?_)
          · skip
            refine J_iconst (v := nI 0) dX8_whose_124 (by decide +kernel) ?_
            refine J_istore dX8_whose_125 (Nat.le_of_ble_eq_true rfl) (L' := [(7, .int (nI 0)), (6, .int (nI i)), (5, .int (nI (bitsN (whoseP (KQ Q) (handM Q MM 16) (Q 21) x0 x1 x2 x3) i))), (0, .ref (E.1 + 38)), (1, .int (nI x0)), (2, .int (nI x1)), (3, .int (nI x2)), (4, .int (nI x3))]) rfl ?_
            refine J_iload dX8_whose_127 rfl ?_
            refine J_iload dX8_whose_129 rfl ?_
            refine J_if_eqN (tgt := 141) dX8_whose_131 (by decide) (by omega) (fun _ => ?_) (fun z => absurd z (by decide))
            refine J_iconst (v := nI 0) dX8_whose_141 (by decide +kernel) ?_
            refine J_iorN dX8_whose_142 ?_
            refine J_istore dX8_whose_143 (Nat.le_of_ble_eq_true rfl) (L' := [(5, .int (nI ((bitsN (whoseP (KQ Q) (handM Q MM 16) (Q 21) x0 x1 x2 x3) i) ||| 0))), (7, .int (nI 0)), (6, .int (nI i)), (0, .ref (E.1 + 38)), (1, .int (nI x0)), (2, .int (nI x1)), (3, .int (nI x2)), (4, .int (nI x3))]) rfl ?_
            refine J_iincN (q := 2) (a := i) (m := 1) dX8_whose_145 rfl (by decide +kernel) (Nat.le_of_ble_eq_true rfl) (L' := [(6, .int (nI (i + 1))), (5, .int (nI ((bitsN (whoseP (KQ Q) (handM Q MM 16) (Q 21) x0 x1 x2 x3) i) ||| 0))), (7, .int (nI 0)), (0, .ref (E.1 + 38)), (1, .int (nI x0)), (2, .int (nI x1)), (3, .int (nI x2)), (4, .int (nI x3))]) rfl ?_
            refine J_goto (tgt := 66) dX8_whose_148 (by decide) ?_
            refine J.sub [0, 1, 3, 4, 5, 6, 7] (L' := [(6, .int (nI (i + 1))), (5, .int (nI ((bitsN (whoseP (KQ Q) (handM Q MM 16) (Q 21) x0 x1 x2 x3) i) ||| 0))), (0, .ref (E.1 + 38)), (1, .int (nI x0)), (2, .int (nI x1)), (3, .int (nI x2)), (4, .int (nI x3))]) rfl ?_
            refine J.eqs (h' := (hset (hset h 43 (cI E 16 (nF (handM Q MM 16)))) 38 (.inr (7, [.ref (E.1 + 39), .ref (E.1 + 40), .ref (E.1 + 41), .ref (E.1 + 42), .long (lN xa), .long (lN xb), .ref (E.1 + 43), .int (nI (Q 20)), .ref (E.1 + 44), .ref (E.1 + 45), .int (nI mo), .ref (E.1 + 46), .ref (E.1 + 47), .int (nI bn), .int (nI ta), .int (nI tl), .int (nI tk), .int (nI va), .ref (E.1 + 48), .ref (E.1 + 49)])))) (L' := [(6, .int (nI (i + 1))), (5, .int (nI (bitsN (whoseP (KQ Q) (handM Q MM 16) (Q 21) x0 x1 x2 x3) (i + 1)))), (0, .ref (E.1 + 38)), (1, .int (nI x0)), (2, .int (nI x1)), (3, .int (nI x2)), (4, .int (nI x3))]) (st' := []) rfl (jL_c rfl (jL_c (jv_N (by first | rfl | (refine bitsN_t ?_; refine ⟨?_, ?_, ?_, ?_⟩ <;> omega) | (refine bitsN_f0 (fun q => ?_); obtain ⟨q0, q1, q2, q3⟩ := q; omega))) (jL_c rfl (jL_c rfl (jL_c rfl (jL_c rfl (jL_c rfl rfl))))))) rfl ?_
            exact ih66 (i + 1) (by omega) (by first | assumption | omega)
          · skip
            refine J_aload_n dX8_whose_97 rfl ?_
            refine J_iload dX8_whose_98 rfl ?_
            refine J_iconst (v := nI 2) dX8_whose_100 (by decide +kernel) ?_
            refine J_callVr (M' := mX8_upOf) (d' := (2, 0, 0)) (rest := []) dX8_whose_101 jmX8_upOf jlRX8_94 (ctX8_upOf i 2 xa xb (Q 20) mo bn ta tl tk va Q (handM Q MM 16) hset_eq ((hset_ne (by omega)).trans ((hset_ne (by omega)).trans H1)) ((hset_ne (by omega)).trans hset_eq) (by omega) (by first | assumption | omega) (by first | assumption | omega) (by first | assumption | omega) (by exact handM_le hM4 hM) (by first | assumption | omega)) hset_eq (by omega) jk8.1 rfl rfl (Nat.le_of_ble_eq_true rfl) (Nat.le_of_ble_eq_true rfl) ⟨Nat.le_refl _, Nat.le_refl _⟩ ?_
            have fc12 : upN (KQ Q i) ((handM Q MM 16) (4 * i + 2)) (Q 21) ≤ 42 := upN_le ((show ∀ zz, (handM Q MM 16) zz ≤ 20 from by exact handM_le hM4 hM) (4 * i + 2))
            refine J_iload_n dX8_whose_104 rfl ?_
            refine J_icmp_neN (tgt := 124) dX8_whose_105 (by decide) (by omega) (by omega) (fun c13 => ?_) (fun c13 => ?_)
            · skip
              refine J_iconst (v := nI 0) dX8_whose_124 (by decide +kernel) ?_
              refine J_istore dX8_whose_125 (Nat.le_of_ble_eq_true rfl) (L' := [(7, .int (nI 0)), (6, .int (nI i)), (5, .int (nI (bitsN (whoseP (KQ Q) (handM Q MM 16) (Q 21) x0 x1 x2 x3) i))), (0, .ref (E.1 + 38)), (1, .int (nI x0)), (2, .int (nI x1)), (3, .int (nI x2)), (4, .int (nI x3))]) rfl ?_
              refine J_iload dX8_whose_127 rfl ?_
              refine J_iload dX8_whose_129 rfl ?_
              refine J_if_eqN (tgt := 141) dX8_whose_131 (by decide) (by omega) (fun _ => ?_) (fun z => absurd z (by decide))
              refine J_iconst (v := nI 0) dX8_whose_141 (by decide +kernel) ?_
              refine J_iorN dX8_whose_142 ?_
              refine J_istore dX8_whose_143 (Nat.le_of_ble_eq_true rfl) (L' := [(5, .int (nI ((bitsN (whoseP (KQ Q) (handM Q MM 16) (Q 21) x0 x1 x2 x3) i) ||| 0))), (7, .int (nI 0)), (6, .int (nI i)), (0, .ref (E.1 + 38)), (1, .int (nI x0)), (2, .int (nI x1)), (3, .int (nI x2)), (4, .int (nI x3))]) rfl ?_
              refine J_iincN (q := 2) (a := i) (m := 1) dX8_whose_145 rfl (by decide +kernel) (Nat.le_of_ble_eq_true rfl) (L' := [(6, .int (nI (i + 1))), (5, .int (nI ((bitsN (whoseP (KQ Q) (handM Q MM 16) (Q 21) x0 x1 x2 x3) i) ||| 0))), (7, .int (nI 0)), (0, .ref (E.1 + 38)), (1, .int (nI x0)), (2, .int (nI x1)), (3, .int (nI x2)), (4, .int (nI x3))]) rfl ?_
              refine J_goto (tgt := 66) dX8_whose_148 (by decide) ?_
              refine J.sub [0, 1, 3, 4, 5, 6, 7] (L' := [(6, .int (nI (i + 1))), (5, .int (nI ((bitsN (whoseP (KQ Q) (handM Q MM 16) (Q 21) x0 x1 x2 x3) i) ||| 0))), (0, .ref (E.1 + 38)), (1, .int (nI x0)), (2, .int (nI x1)), (3, .int (nI x2)), (4, .int (nI x3))]) rfl ?_
              refine J.eqs (h' := (hset (hset h 43 (cI E 16 (nF (handM Q MM 16)))) 38 (.inr (7, [.ref (E.1 + 39), .ref (E.1 + 40), .ref (E.1 + 41), .ref (E.1 + 42), .long (lN xa), .long (lN xb), .ref (E.1 + 43), .int (nI (Q 20)), .ref (E.1 + 44), .ref (E.1 + 45), .int (nI mo), .ref (E.1 + 46), .ref (E.1 + 47), .int (nI bn), .int (nI ta), .int (nI tl), .int (nI tk), .int (nI va), .ref (E.1 + 48), .ref (E.1 + 49)])))) (L' := [(6, .int (nI (i + 1))), (5, .int (nI (bitsN (whoseP (KQ Q) (handM Q MM 16) (Q 21) x0 x1 x2 x3) (i + 1)))), (0, .ref (E.1 + 38)), (1, .int (nI x0)), (2, .int (nI x1)), (3, .int (nI x2)), (4, .int (nI x3))]) (st' := []) rfl (jL_c rfl (jL_c (jv_N (by first | rfl | (refine bitsN_t ?_; refine ⟨?_, ?_, ?_, ?_⟩ <;> omega) | (refine bitsN_f0 (fun q => ?_); obtain ⟨q0, q1, q2, q3⟩ := q; omega))) (jL_c rfl (jL_c rfl (jL_c rfl (jL_c rfl (jL_c rfl rfl))))))) rfl ?_
              exact ih66 (i + 1) (by omega) (by first | assumption | omega)
            · skip
              refine J_aload_n dX8_whose_108 rfl ?_
              refine J_iload dX8_whose_109 rfl ?_
              refine J_iconst (v := nI 3) dX8_whose_111 (by decide +kernel) ?_
              refine J_callVr (M' := mX8_upOf) (d' := (2, 0, 0)) (rest := []) dX8_whose_112 jmX8_upOf jlRX8_94 (ctX8_upOf i 3 xa xb (Q 20) mo bn ta tl tk va Q (handM Q MM 16) hset_eq ((hset_ne (by omega)).trans ((hset_ne (by omega)).trans H1)) ((hset_ne (by omega)).trans hset_eq) (by omega) (by first | assumption | omega) (by first | assumption | omega) (by first | assumption | omega) (by exact handM_le hM4 hM) (by first | assumption | omega)) hset_eq (by omega) jk8.1 rfl rfl (Nat.le_of_ble_eq_true rfl) (Nat.le_of_ble_eq_true rfl) ⟨Nat.le_refl _, Nat.le_refl _⟩ ?_
              have fc15 : upN (KQ Q i) ((handM Q MM 16) (4 * i + 3)) (Q 21) ≤ 42 := upN_le ((show ∀ zz, (handM Q MM 16) zz ≤ 20 from by exact handM_le hM4 hM) (4 * i + 3))
              refine J_iload dX8_whose_115 rfl ?_
              refine J_icmp_neN (tgt := 124) dX8_whose_117 (by decide) (by omega) (by omega) (fun c16 => ?_) (fun c16 => ?_)
              · skip
                refine J_iconst (v := nI 0) dX8_whose_124 (by decide +kernel) ?_
                refine J_istore dX8_whose_125 (Nat.le_of_ble_eq_true rfl) (L' := [(7, .int (nI 0)), (6, .int (nI i)), (5, .int (nI (bitsN (whoseP (KQ Q) (handM Q MM 16) (Q 21) x0 x1 x2 x3) i))), (0, .ref (E.1 + 38)), (1, .int (nI x0)), (2, .int (nI x1)), (3, .int (nI x2)), (4, .int (nI x3))]) rfl ?_
                refine J_iload dX8_whose_127 rfl ?_
                refine J_iload dX8_whose_129 rfl ?_
                refine J_if_eqN (tgt := 141) dX8_whose_131 (by decide) (by omega) (fun _ => ?_) (fun z => absurd z (by decide))
                refine J_iconst (v := nI 0) dX8_whose_141 (by decide +kernel) ?_
                refine J_iorN dX8_whose_142 ?_
                refine J_istore dX8_whose_143 (Nat.le_of_ble_eq_true rfl) (L' := [(5, .int (nI ((bitsN (whoseP (KQ Q) (handM Q MM 16) (Q 21) x0 x1 x2 x3) i) ||| 0))), (7, .int (nI 0)), (6, .int (nI i)), (0, .ref (E.1 + 38)), (1, .int (nI x0)), (2, .int (nI x1)), (3, .int (nI x2)), (4, .int (nI x3))]) rfl ?_
                refine J_iincN (q := 2) (a := i) (m := 1) dX8_whose_145 rfl (by decide +kernel) (Nat.le_of_ble_eq_true rfl) (L' := [(6, .int (nI (i + 1))), (5, .int (nI ((bitsN (whoseP (KQ Q) (handM Q MM 16) (Q 21) x0 x1 x2 x3) i) ||| 0))), (7, .int (nI 0)), (0, .ref (E.1 + 38)), (1, .int (nI x0)), (2, .int (nI x1)), (3, .int (nI x2)), (4, .int (nI x3))]) rfl ?_
                refine J_goto (tgt := 66) dX8_whose_148 (by decide) ?_
                refine J.sub [0, 1, 3, 4, 5, 6, 7] (L' := [(6, .int (nI (i + 1))), (5, .int (nI ((bitsN (whoseP (KQ Q) (handM Q MM 16) (Q 21) x0 x1 x2 x3) i) ||| 0))), (0, .ref (E.1 + 38)), (1, .int (nI x0)), (2, .int (nI x1)), (3, .int (nI x2)), (4, .int (nI x3))]) rfl ?_
                refine J.eqs (h' := (hset (hset h 43 (cI E 16 (nF (handM Q MM 16)))) 38 (.inr (7, [.ref (E.1 + 39), .ref (E.1 + 40), .ref (E.1 + 41), .ref (E.1 + 42), .long (lN xa), .long (lN xb), .ref (E.1 + 43), .int (nI (Q 20)), .ref (E.1 + 44), .ref (E.1 + 45), .int (nI mo), .ref (E.1 + 46), .ref (E.1 + 47), .int (nI bn), .int (nI ta), .int (nI tl), .int (nI tk), .int (nI va), .ref (E.1 + 48), .ref (E.1 + 49)])))) (L' := [(6, .int (nI (i + 1))), (5, .int (nI (bitsN (whoseP (KQ Q) (handM Q MM 16) (Q 21) x0 x1 x2 x3) (i + 1)))), (0, .ref (E.1 + 38)), (1, .int (nI x0)), (2, .int (nI x1)), (3, .int (nI x2)), (4, .int (nI x3))]) (st' := []) rfl (jL_c rfl (jL_c (jv_N (by first | rfl | (refine bitsN_t ?_; refine ⟨?_, ?_, ?_, ?_⟩ <;> omega) | (refine bitsN_f0 (fun q => ?_); obtain ⟨q0, q1, q2, q3⟩ := q; omega))) (jL_c rfl (jL_c rfl (jL_c rfl (jL_c rfl (jL_c rfl rfl))))))) rfl ?_
                exact ih66 (i + 1) (by omega) (by first | assumption | omega)
              · skip
                refine J_iconst (v := nI 1) dX8_whose_120 (by decide +kernel) ?_
                refine J_goto (tgt := 125) dX8_whose_121 (by decide) ?_
                refine J_istore dX8_whose_125 (Nat.le_of_ble_eq_true rfl) (L' := [(7, .int (nI 1)), (6, .int (nI i)), (5, .int (nI (bitsN (whoseP (KQ Q) (handM Q MM 16) (Q 21) x0 x1 x2 x3) i))), (0, .ref (E.1 + 38)), (1, .int (nI x0)), (2, .int (nI x1)), (3, .int (nI x2)), (4, .int (nI x3))]) rfl ?_
                refine J_iload dX8_whose_127 rfl ?_
                refine J_iload dX8_whose_129 rfl ?_
                refine J_if_eqN (tgt := 141) dX8_whose_131 (by decide) (by omega) (fun z => absurd z (by decide)) (fun _ => ?_)
                refine J_iconst (v := nI 1) dX8_whose_134 (by decide +kernel) ?_
                refine J_iload dX8_whose_135 rfl ?_
                refine J_ishlN dX8_whose_137 (by omega) (by have q5 : 2 ^ i ≤ 2 ^ 4 := Nat.pow_le_pow_right (by omega) (by omega); omega) ?_
                refine J_goto (tgt := 142) dX8_whose_138 (by decide) ?_
                refine J_iorN dX8_whose_142 ?_
                refine J_istore dX8_whose_143 (Nat.le_of_ble_eq_true rfl) (L' := [(5, .int (nI ((bitsN (whoseP (KQ Q) (handM Q MM 16) (Q 21) x0 x1 x2 x3) i) ||| (1 * 2 ^ i)))), (7, .int (nI 1)), (6, .int (nI i)), (0, .ref (E.1 + 38)), (1, .int (nI x0)), (2, .int (nI x1)), (3, .int (nI x2)), (4, .int (nI x3))]) rfl ?_
                refine J_iincN (q := 2) (a := i) (m := 1) dX8_whose_145 rfl (by decide +kernel) (Nat.le_of_ble_eq_true rfl) (L' := [(6, .int (nI (i + 1))), (5, .int (nI ((bitsN (whoseP (KQ Q) (handM Q MM 16) (Q 21) x0 x1 x2 x3) i) ||| (1 * 2 ^ i)))), (7, .int (nI 1)), (0, .ref (E.1 + 38)), (1, .int (nI x0)), (2, .int (nI x1)), (3, .int (nI x2)), (4, .int (nI x3))]) rfl ?_
                refine J_goto (tgt := 66) dX8_whose_148 (by decide) ?_
                refine J.sub [0, 1, 3, 4, 5, 6, 7] (L' := [(6, .int (nI (i + 1))), (5, .int (nI ((bitsN (whoseP (KQ Q) (handM Q MM 16) (Q 21) x0 x1 x2 x3) i) ||| (1 * 2 ^ i)))), (0, .ref (E.1 + 38)), (1, .int (nI x0)), (2, .int (nI x1)), (3, .int (nI x2)), (4, .int (nI x3))]) rfl ?_
                refine J.eqs (h' := (hset (hset h 43 (cI E 16 (nF (handM Q MM 16)))) 38 (.inr (7, [.ref (E.1 + 39), .ref (E.1 + 40), .ref (E.1 + 41), .ref (E.1 + 42), .long (lN xa), .long (lN xb), .ref (E.1 + 43), .int (nI (Q 20)), .ref (E.1 + 44), .ref (E.1 + 45), .int (nI mo), .ref (E.1 + 46), .ref (E.1 + 47), .int (nI bn), .int (nI ta), .int (nI tl), .int (nI tk), .int (nI va), .ref (E.1 + 48), .ref (E.1 + 49)])))) (L' := [(6, .int (nI (i + 1))), (5, .int (nI (bitsN (whoseP (KQ Q) (handM Q MM 16) (Q 21) x0 x1 x2 x3) (i + 1)))), (0, .ref (E.1 + 38)), (1, .int (nI x0)), (2, .int (nI x1)), (3, .int (nI x2)), (4, .int (nI x3))]) (st' := []) rfl (jL_c rfl (jL_c (jv_N (by first | rfl | (refine bitsN_t ?_; refine ⟨?_, ?_, ?_, ?_⟩ <;> omega) | (refine bitsN_f0 (fun q => ?_); obtain ⟨q0, q1, q2, q3⟩ := q; omega))) (jL_c rfl (jL_c rfl (jL_c rfl (jL_c rfl (jL_c rfl rfl))))))) rfl ?_
                exact ih66 (i + 1) (by omega) (by first | assumption | omega)
  refine J.eqs (h' := (hset (hset h 43 (cI E 16 (nF (handM Q MM 16)))) 38 (.inr (7, [.ref (E.1 + 39), .ref (E.1 + 40), .ref (E.1 + 41), .ref (E.1 + 42), .long (lN xa), .long (lN xb), .ref (E.1 + 43), .int (nI (Q 20)), .ref (E.1 + 44), .ref (E.1 + 45), .int (nI mo), .ref (E.1 + 46), .ref (E.1 + 47), .int (nI bn), .int (nI ta), .int (nI tl), .int (nI tk), .int (nI va), .ref (E.1 + 48), .ref (E.1 + 49)])))) (L' := [(6, .int (nI 0)), (5, .int (nI (bitsN (whoseP (KQ Q) (handM Q MM 16) (Q 21) x0 x1 x2 x3) 0))), (0, .ref (E.1 + 38)), (1, .int (nI x0)), (2, .int (nI x1)), (3, .int (nI x2)), (4, .int (nI x3))]) (st' := []) rfl (jL_c rfl (jL_c (jv_N (by first | rfl | (refine bitsN_t ?_; refine ⟨?_, ?_, ?_, ?_⟩ <;> omega) | (refine bitsN_f0 (fun q => ?_); obtain ⟨q0, q1, q2, q3⟩ := q; omega))) (jL_c rfl (jL_c rfl (jL_c rfl (jL_c rfl (jL_c rfl rfl))))))) rfl ?_
  exact CUT66 (Q 0 - 0 + 1) 0 (Nat.lt_succ_self _) (by first | assumption | omega)
