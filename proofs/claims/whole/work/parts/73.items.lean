set_option maxHeartbeats 1000000 in
set_option maxRecDepth 100000 in
theorem ctX8_takesStreet_0 {E : jE} {h : Nat → va_E} {n : Nat} (xa : Nat) (xb : Nat) (dt : Nat) (mo : Nat) (bn : Nat) (ta : Nat) (tl : Nat) (tk : Nat) (va : Nat) (BY : Nat → Nat) (F : Nat → Nat) (VA : Nat → Nat) (AN : Nat → Nat) (H0 : h 38 = .inr (7, [.ref (E.1 + 39), .ref (E.1 + 40), .ref (E.1 + 41), .ref (E.1 + 42), .long (lN xa), .long (lN xb), .ref (E.1 + 43), .int (nI dt), .ref (E.1 + 44), .ref (E.1 + 45), .int (nI mo), .ref (E.1 + 46), .ref (E.1 + 47), .int (nI bn), .int (nI ta), .int (nI tl), .int (nI tk), .int (nI va), .ref (E.1 + 48), .ref (E.1 + 49)])) (H1 : h 47 = cI E 150 (nF BY)) (H2 : h 49 = cI E 5 (nF VA)) (H3 : h 48 = cI E 74 (nF AN)) (hn : 50 ≤ n) (hBY : ∀ zz, zz < bn → BY zz = F zz ∧ F zz ≤ 127) (hbn : bn ≤ 150) (hst : stQ F bn 0 ta tl tk va) (h0 : ¬ kT F bn 0 = 1) : jC E mX8_takesStreet (6, 0, 0) [.ref (E.1 + 38)] h n (jR (some (.int (nI 0))) h n) := by
  refine J.of (L := [(0, .ref (E.1 + 38))]) rfl (by decide +kernel) (Nat.le_of_ble_eq_true rfl) ?_
  obtain ⟨PP, hPP⟩ : ∃ PP : jPost, PP = (jR (some (.int (nI 0))) h n) := ⟨_, rfl⟩
  rw [← hPP]
  refine J_aload_n dX8_takesStreet_0 rfl ?_
  refine J_bipush (v := nI 6) dX8_takesStreet_1 (by decide +kernel) ?_
  refine J_bipush (v := nI 115) dX8_takesStreet_3 (by decide +kernel) ?_
  refine J_bipush (v := nI 116) dX8_takesStreet_5 (by decide +kernel) ?_
  refine J_bipush (v := nI 114) dX8_takesStreet_7 (by decide +kernel) ?_
  refine J_bipush (v := nI 101) dX8_takesStreet_9 (by decide +kernel) ?_
  refine J_bipush (v := nI 101) dX8_takesStreet_11 (by decide +kernel) ?_
  refine J_bipush (v := nI 116) dX8_takesStreet_13 (by decide +kernel) ?_
  refine J_callVr (M' := mX8_spells) (d' := (1, 0, 0)) (rest := []) dX8_takesStreet_15 jmX8_spells jlRX8_230 (ctX8_spells_0 0 xa xb dt mo bn ta tl tk va BY F H0 H1 (by omega) (by first | assumption | omega) (by first | assumption | omega) (by first | assumption | omega)) H0 (by omega) jk8.1 rfl rfl (Nat.le_of_ble_eq_true rfl) (Nat.le_of_ble_eq_true rfl) ⟨Nat.le_refl _, Nat.le_refl _⟩ ?_
  refine J_if_neB (tgt := 23) dX8_takesStreet_18 (by decide) (fun c1 => (by exfalso; omega)) (fun c1 => ?_)
  refine J_iconst (v := nI 0) dX8_takesStreet_21 (by decide +kernel) ?_
  exact J_zret dX8_takesStreet_22 rfl rfl ⟨Nat.le_refl _, Nat.le_refl _⟩ (by rw [hPP]; exact ⟨rfl, rfl, rfl⟩)

set_option maxHeartbeats 1000000 in
set_option maxRecDepth 100000 in
theorem ctX8_takesStreet_1 {E : jE} {h : Nat → va_E} {n : Nat} (xa : Nat) (xb : Nat) (dt : Nat) (mo : Nat) (bn : Nat) (ta : Nat) (tl : Nat) (tk : Nat) (va : Nat) (BY : Nat → Nat) (F : Nat → Nat) (VA : Nat → Nat) (AN : Nat → Nat) (H0 : h 38 = .inr (7, [.ref (E.1 + 39), .ref (E.1 + 40), .ref (E.1 + 41), .ref (E.1 + 42), .long (lN xa), .long (lN xb), .ref (E.1 + 43), .int (nI dt), .ref (E.1 + 44), .ref (E.1 + 45), .int (nI mo), .ref (E.1 + 46), .ref (E.1 + 47), .int (nI bn), .int (nI ta), .int (nI tl), .int (nI tk), .int (nI va), .ref (E.1 + 48), .ref (E.1 + 49)])) (H1 : h 47 = cI E 150 (nF BY)) (H2 : h 49 = cI E 5 (nF VA)) (H3 : h 48 = cI E 74 (nF AN)) (hn : 50 ≤ n) (hBY : ∀ zz, zz < bn → BY zz = F zz ∧ F zz ≤ 127) (hbn : bn ≤ 150) (hst : stQ F bn 0 ta tl tk va) (h0 : kT F bn 0 = 1) (h1 : ¬ (kT F bn 1 = 5 ∧ vT F bn 1 ≤ 9)) : jC E mX8_takesStreet (6, 0, 0) [.ref (E.1 + 38)] h n (fun v h' n' => v = some (.int (nI 0)) ∧ n' = n ∧ ∃ (VA1 : Nat → Nat) (ta1 : Nat) (tl1 : Nat) (tk1 : Nat) (va1 : Nat), h' = (hset (hset h 38 (.inr (7, [.ref (E.1 + 39), .ref (E.1 + 40), .ref (E.1 + 41), .ref (E.1 + 42), .long (lN xa), .long (lN xb), .ref (E.1 + 43), .int (nI dt), .ref (E.1 + 44), .ref (E.1 + 45), .int (nI mo), .ref (E.1 + 46), .ref (E.1 + 47), .int (nI bn), .int (nI ta1), .int (nI tl1), .int (nI tk1), .int (nI va1), .ref (E.1 + 48), .ref (E.1 + 49)]))) 49 (cI E 5 (nF VA1))) ∧ (stQ F bn 1 ta1 tl1 tk1 va1)) := by
  refine J.of (L := [(0, .ref (E.1 + 38))]) rfl (by decide +kernel) (Nat.le_of_ble_eq_true rfl) ?_
  obtain ⟨PP, hPP⟩ : ∃ PP : jPost, PP = (fun v h' n' => v = some (.int (nI 0)) ∧ n' = n ∧ ∃ (VA1 : Nat → Nat) (ta1 : Nat) (tl1 : Nat) (tk1 : Nat) (va1 : Nat), h' = (hset (hset h 38 (.inr (7, [.ref (E.1 + 39), .ref (E.1 + 40), .ref (E.1 + 41), .ref (E.1 + 42), .long (lN xa), .long (lN xb), .ref (E.1 + 43), .int (nI dt), .ref (E.1 + 44), .ref (E.1 + 45), .int (nI mo), .ref (E.1 + 46), .ref (E.1 + 47), .int (nI bn), .int (nI ta1), .int (nI tl1), .int (nI tk1), .int (nI va1), .ref (E.1 + 48), .ref (E.1 + 49)]))) 49 (cI E 5 (nF VA1))) ∧ (stQ F bn 1 ta1 tl1 tk1 va1)) := ⟨_, rfl⟩
  rw [← hPP]
  refine J_aload_n dX8_takesStreet_0 rfl ?_
  refine J_bipush (v := nI 6) dX8_takesStreet_1 (by decide +kernel) ?_
  refine J_bipush (v := nI 115) dX8_takesStreet_3 (by decide +kernel) ?_
  refine J_bipush (v := nI 116) dX8_takesStreet_5 (by decide +kernel) ?_
  refine J_bipush (v := nI 114) dX8_takesStreet_7 (by decide +kernel) ?_
  refine J_bipush (v := nI 101) dX8_takesStreet_9 (by decide +kernel) ?_
  refine J_bipush (v := nI 101) dX8_takesStreet_11 (by decide +kernel) ?_
  refine J_bipush (v := nI 116) dX8_takesStreet_13 (by decide +kernel) ?_
  refine J_callVr (M' := mX8_spells) (d' := (1, 0, 0)) (rest := []) dX8_takesStreet_15 jmX8_spells jlRX8_230 (ctX8_spells_0 0 xa xb dt mo bn ta tl tk va BY F H0 H1 (by omega) (by first | assumption | omega) (by first | assumption | omega) (by first | assumption | omega)) H0 (by omega) jk8.1 rfl rfl (Nat.le_of_ble_eq_true rfl) (Nat.le_of_ble_eq_true rfl) ⟨Nat.le_refl _, Nat.le_refl _⟩ ?_
  refine J_if_neB (tgt := 23) dX8_takesStreet_18 (by decide) (fun c1 => ?_) (fun c1 => (by exfalso; omega))
  refine J_aload_n dX8_takesStreet_23 rfl ?_
  refine J_callV (M' := mX8_goBehind) (d' := (4, 0, 0)) (rest := []) dX8_takesStreet_24 jmX8_goBehind jlRX8_227 (ctX8_goBehind 0 xa xb dt mo bn ta tl tk va BY F H0 H1 (by omega) (by first | assumption | omega) (by first | assumption | omega) (by first | assumption | omega)) H0 (by omega) jk8.1 rfl rfl (Nat.le_of_ble_eq_true rfl) (Nat.le_of_ble_eq_true rfl) (by constructor <;> decide +kernel) (fun v9 h9 n9 q9 => ?_)
  obtain ⟨rfl, hn9, ta1_2, tl1_3, tk1_4, va1_5, rfl, hst1_6⟩ := q9
  replace hn9 := hn9.symm
  subst hn9
  refine J.stk (st' := []) rfl ?_
  refine J_aload_n dX8_takesStreet_27 rfl ?_
  refine J_iconst (v := nI 0) dX8_takesStreet_28 (by decide +kernel) ?_
  refine J_iconst (v := nI 0) dX8_takesStreet_29 (by decide +kernel) ?_
  refine J_bipush (v := nI 9) dX8_takesStreet_30 (by decide +kernel) ?_
  refine J_callVr (M' := mX8_takes) (d' := (5, 0, 0)) (rest := []) dX8_takesStreet_32 jmX8_takes jlRX8_234 (ctX8_takes_no 0 0 9 1 xa xb dt mo bn ta1_2 tl1_3 tk1_4 va1_5 BY F VA hset_eq ((hset_ne (by omega)).trans H1) ((hset_ne (by omega)).trans H2) (by omega) (by first | assumption | omega) (by first | assumption | omega) (by first | assumption | omega) (by first | assumption | omega) (by first | assumption | omega) (by first | assumption | omega)) hset_eq (by omega) jk8.1 rfl rfl (Nat.le_of_ble_eq_true rfl) (Nat.le_of_ble_eq_true rfl) ⟨Nat.le_refl _, Nat.le_refl _⟩ ?_
  refine J_if_neN (tgt := 40) dX8_takesStreet_35 (by decide) (by omega) (fun z => absurd z (by decide)) (fun _ => ?_)
  refine J_iconst (v := nI 0) dX8_takesStreet_38 (by decide +kernel) ?_
  exact J_zret dX8_takesStreet_39 rfl rfl ⟨Nat.le_refl _, Nat.le_refl _⟩ (by rw [hPP]; exact ⟨rfl, rfl, VA, ta1_2, tl1_3, tk1_4, va1_5, ((show (hset h 38 (.inr (7, [.ref (E.1 + 39), .ref (E.1 + 40), .ref (E.1 + 41), .ref (E.1 + 42), .long (lN xa), .long (lN xb), .ref (E.1 + 43), .int (nI dt), .ref (E.1 + 44), .ref (E.1 + 45), .int (nI mo), .ref (E.1 + 46), .ref (E.1 + 47), .int (nI bn), .int (nI ta1_2), .int (nI tl1_3), .int (nI tk1_4), .int (nI va1_5), .ref (E.1 + 48), .ref (E.1 + 49)]))) = (hset (hset h 38 (.inr (7, [.ref (E.1 + 39), .ref (E.1 + 40), .ref (E.1 + 41), .ref (E.1 + 42), .long (lN xa), .long (lN xb), .ref (E.1 + 43), .int (nI dt), .ref (E.1 + 44), .ref (E.1 + 45), .int (nI mo), .ref (E.1 + 46), .ref (E.1 + 47), .int (nI bn), .int (nI ta1_2), .int (nI tl1_3), .int (nI tk1_4), .int (nI va1_5), .ref (E.1 + 48), .ref (E.1 + 49)]))) 49 (cI E 5 (nF VA))) by funext z; simp only [hset]; (repeat' split) <;> first | rfl | (exfalso; omega) | (subst_vars; first | exact H2)).trans (hset_cg (hset_cg rfl rfl) rfl)), (by assumption)⟩)

set_option maxHeartbeats 1000000 in
set_option maxRecDepth 100000 in
theorem ctX8_takesStreet {E : jE} {h : Nat → va_E} {n : Nat} (xa : Nat) (xb : Nat) (dt : Nat) (mo : Nat) (bn : Nat) (ta : Nat) (tl : Nat) (tk : Nat) (va : Nat) (BY : Nat → Nat) (F : Nat → Nat) (VA : Nat → Nat) (AN : Nat → Nat) (H0 : h 38 = .inr (7, [.ref (E.1 + 39), .ref (E.1 + 40), .ref (E.1 + 41), .ref (E.1 + 42), .long (lN xa), .long (lN xb), .ref (E.1 + 43), .int (nI dt), .ref (E.1 + 44), .ref (E.1 + 45), .int (nI mo), .ref (E.1 + 46), .ref (E.1 + 47), .int (nI bn), .int (nI ta), .int (nI tl), .int (nI tk), .int (nI va), .ref (E.1 + 48), .ref (E.1 + 49)])) (H1 : h 47 = cI E 150 (nF BY)) (H2 : h 49 = cI E 5 (nF VA)) (H3 : h 48 = cI E 74 (nF AN)) (hn : 50 ≤ n) (hBY : ∀ zz, zz < bn → BY zz = F zz ∧ F zz ≤ 127) (hbn : bn ≤ 150) (hst : stQ F bn 0 ta tl tk va) (h0 : kT F bn 0 = 1) (h1 : kT F bn 1 = 5 ∧ vT F bn 1 ≤ 9) : jC E mX8_takesStreet (6, 0, 0) [.ref (E.1 + 38)] h n (fun v h' n' => v = some (.int (jb (kT F bn 2 = 6))) ∧ n' = n ∧ ∃ (VA1 : Nat → Nat) (ta1 : Nat) (tl1 : Nat) (tk1 : Nat) (va1 : Nat), h' = (hset (hset (hset h 38 (.inr (7, [.ref (E.1 + 39), .ref (E.1 + 40), .ref (E.1 + 41), .ref (E.1 + 42), .long (lN xa), .long (lN xb), .ref (E.1 + 43), .int (nI dt), .ref (E.1 + 44), .ref (E.1 + 45), .int (nI mo), .ref (E.1 + 46), .ref (E.1 + 47), .int (nI bn), .int (nI ta1), .int (nI tl1), .int (nI tk1), .int (nI va1), .ref (E.1 + 48), .ref (E.1 + 49)]))) 49 (cI E 5 (nF VA1))) 48 (cI E 74 (nF (beginQ AN (vT F bn 1))))) ∧ (stQ F bn 2 ta1 tl1 tk1 va1)) := by
  refine J.of (L := [(0, .ref (E.1 + 38))]) rfl (by decide +kernel) (Nat.le_of_ble_eq_true rfl) ?_
  obtain ⟨PP, hPP⟩ : ∃ PP : jPost, PP = (fun v h' n' => v = some (.int (jb (kT F bn 2 = 6))) ∧ n' = n ∧ ∃ (VA1 : Nat → Nat) (ta1 : Nat) (tl1 : Nat) (tk1 : Nat) (va1 : Nat), h' = (hset (hset (hset h 38 (.inr (7, [.ref (E.1 + 39), .ref (E.1 + 40), .ref (E.1 + 41), .ref (E.1 + 42), .long (lN xa), .long (lN xb), .ref (E.1 + 43), .int (nI dt), .ref (E.1 + 44), .ref (E.1 + 45), .int (nI mo), .ref (E.1 + 46), .ref (E.1 + 47), .int (nI bn), .int (nI ta1), .int (nI tl1), .int (nI tk1), .int (nI va1), .ref (E.1 + 48), .ref (E.1 + 49)]))) 49 (cI E 5 (nF VA1))) 48 (cI E 74 (nF (beginQ AN (vT F bn 1))))) ∧ (stQ F bn 2 ta1 tl1 tk1 va1)) := ⟨_, rfl⟩
  rw [← hPP]
  refine J_aload_n dX8_takesStreet_0 rfl ?_
  refine J_bipush (v := nI 6) dX8_takesStreet_1 (by decide +kernel) ?_
  refine J_bipush (v := nI 115) dX8_takesStreet_3 (by decide +kernel) ?_
  refine J_bipush (v := nI 116) dX8_takesStreet_5 (by decide +kernel) ?_
  refine J_bipush (v := nI 114) dX8_takesStreet_7 (by decide +kernel) ?_
  refine J_bipush (v := nI 101) dX8_takesStreet_9 (by decide +kernel) ?_
  refine J_bipush (v := nI 101) dX8_takesStreet_11 (by decide +kernel) ?_
  refine J_bipush (v := nI 116) dX8_takesStreet_13 (by decide +kernel) ?_
  refine J_callVr (M' := mX8_spells) (d' := (1, 0, 0)) (rest := []) dX8_takesStreet_15 jmX8_spells jlRX8_230 (ctX8_spells_0 0 xa xb dt mo bn ta tl tk va BY F H0 H1 (by omega) (by first | assumption | omega) (by first | assumption | omega) (by first | assumption | omega)) H0 (by omega) jk8.1 rfl rfl (Nat.le_of_ble_eq_true rfl) (Nat.le_of_ble_eq_true rfl) ⟨Nat.le_refl _, Nat.le_refl _⟩ ?_
  refine J_if_neB (tgt := 23) dX8_takesStreet_18 (by decide) (fun c1 => ?_) (fun c1 => (by exfalso; omega))
  refine J_aload_n dX8_takesStreet_23 rfl ?_
  refine J_callV (M' := mX8_goBehind) (d' := (4, 0, 0)) (rest := []) dX8_takesStreet_24 jmX8_goBehind jlRX8_227 (ctX8_goBehind 0 xa xb dt mo bn ta tl tk va BY F H0 H1 (by omega) (by first | assumption | omega) (by first | assumption | omega) (by first | assumption | omega)) H0 (by omega) jk8.1 rfl rfl (Nat.le_of_ble_eq_true rfl) (Nat.le_of_ble_eq_true rfl) (by constructor <;> decide +kernel) (fun v9 h9 n9 q9 => ?_)
  obtain ⟨rfl, hn9, ta1_2, tl1_3, tk1_4, va1_5, rfl, hst1_6⟩ := q9
  replace hn9 := hn9.symm
  subst hn9
  refine J.stk (st' := []) rfl ?_
  refine J_aload_n dX8_takesStreet_27 rfl ?_
  refine J_iconst (v := nI 0) dX8_takesStreet_28 (by decide +kernel) ?_
  refine J_iconst (v := nI 0) dX8_takesStreet_29 (by decide +kernel) ?_
  refine J_bipush (v := nI 9) dX8_takesStreet_30 (by decide +kernel) ?_
  refine J_callV (M' := mX8_takes) (d' := (5, 0, 0)) (rest := []) dX8_takesStreet_32 jmX8_takes jlRX8_234 (ctX8_takes 0 0 9 1 xa xb dt mo bn ta1_2 tl1_3 tk1_4 va1_5 BY F VA hset_eq ((hset_ne (by omega)).trans H1) ((hset_ne (by omega)).trans H2) (by omega) (by first | assumption | omega) (by first | assumption | omega) (by first | assumption | omega) (by first | assumption | omega) (by first | assumption | omega) (by first | assumption | omega) (by first | assumption | omega)) hset_eq (by omega) jk8.1 rfl rfl (Nat.le_of_ble_eq_true rfl) (Nat.le_of_ble_eq_true rfl) (by constructor <;> decide +kernel) (fun v9 h9 n9 q9 => ?_)
  obtain ⟨rfl, hn9, ta1_7, tl1_8, tk1_9, va1_10, rfl, hst1_11⟩ := q9
  replace hn9 := hn9.symm
  subst hn9
  refine J.cast ((hset_comm (by omega)).trans (hset_cg hset_hset rfl)) ?_
  refine J.stk (st' := [.int (nI 1)]) rfl ?_
  have hs9 := hst1_11
  have h9 := tk_3 hs9
  have h94 := hs9.2.2.2.2.1
  replace h9 := (show _ ↔ kT F bn 2 = 6 from h9)
  refine J_if_neN (tgt := 40) dX8_takesStreet_35 (by decide) (by omega) (fun _ => ?_) (fun z => absurd z (by decide))
  refine J_aload_n dX8_takesStreet_40 rfl ?_
  refine J_get 18 dX8_takesStreet_41 jk8 (Nat.le_of_ble_eq_true rfl) jfRX8_42 ((hset_ne (by omega)).trans hset_eq) (by omega) rfl ?_
  refine J_aload_n dX8_takesStreet_44 rfl ?_
  refine J_get 19 dX8_takesStreet_45 jk8 (Nat.le_of_ble_eq_true rfl) jfRX8_45 ((hset_ne (by omega)).trans hset_eq) (by omega) rfl ?_
  refine J_iconst (v := nI 0) dX8_takesStreet_48 (by decide +kernel) ?_
  refine J_ialdN (i := 0) dX8_takesStreet_49 hset_eq (by omega) (by omega) (by omega) ?_
  refine J_callSn (M' := mX8_begin) (d' := (1, 0, 0)) (rest := []) dX8_takesStreet_50 jmX8_begin jlRX8_48 (ctX8_begin 48 74 ((updN VA 0 (vT F bn 1)) 0) AN ((hset_ne (by omega)).trans ((hset_ne (by omega)).trans H3)) (by omega) (by first | assumption | omega) (by first | assumption | omega)) rfl rfl (Nat.le_of_ble_eq_true rfl) (Nat.le_of_ble_eq_true rfl) ⟨Nat.le_refl _, Nat.le_refl _⟩ ?_
  refine J_aload_n dX8_takesStreet_53 rfl ?_
  refine J_get 16 dX8_takesStreet_54 jk8 (Nat.le_of_ble_eq_true rfl) jfRX8_211 ((hset_ne (by omega)).trans ((hset_ne (by omega)).trans hset_eq)) (by omega) rfl ?_
  refine J_iconst (v := nI 3) dX8_takesStreet_57 (by decide +kernel) ?_
  refine J_icmp_neN (tgt := 65) dX8_takesStreet_58 (by decide) (by omega) (by omega) (fun c13 => ?_) (fun c13 => ?_)
  · skip
    refine J_iconst (v := nI 0) dX8_takesStreet_65 (by decide +kernel) ?_
    exact J_zret dX8_takesStreet_66 rfl rfl ⟨Nat.le_refl _, Nat.le_refl _⟩ (by rw [hPP]; exact ⟨(congrArg some (Option.some.inj (jret_B0 (by first | rfl | omega)))), rfl, (updN VA 0 (vT F bn 1)), ta1_7, tl1_8, tk1_9, va1_10, (hset_cg (hset_cg (hset_cg rfl rfl) rfl) (cI_cg (by intro z; first | rfl | omega))), (by assumption)⟩)
  · skip
    refine J_iconst (v := nI 1) dX8_takesStreet_61 (by decide +kernel) ?_
    refine J_goto (tgt := 66) dX8_takesStreet_62 (by decide) ?_
    exact J_zret dX8_takesStreet_66 rfl rfl ⟨Nat.le_refl _, Nat.le_refl _⟩ (by rw [hPP]; exact ⟨(congrArg some (Option.some.inj (jret_B1 (by first | rfl | omega)))), rfl, (updN VA 0 (vT F bn 1)), ta1_7, tl1_8, tk1_9, va1_10, (hset_cg (hset_cg (hset_cg rfl rfl) rfl) (cI_cg (by intro z; first | rfl | omega))), (by assumption)⟩)

set_option maxHeartbeats 1000000 in
set_option maxRecDepth 100000 in
theorem ctX8_takesAnvil_full {E : jE} {h : Nat → va_E} {n : Nat} (i : Nat) (xa : Nat) (xb : Nat) (dt : Nat) (mo : Nat) (bn : Nat) (ta : Nat) (tl : Nat) (tk : Nat) (va : Nat) (BY : Nat → Nat) (F : Nat → Nat) (VA : Nat → Nat) (AN : Nat → Nat) (H0 : h 38 = .inr (7, [.ref (E.1 + 39), .ref (E.1 + 40), .ref (E.1 + 41), .ref (E.1 + 42), .long (lN xa), .long (lN xb), .ref (E.1 + 43), .int (nI dt), .ref (E.1 + 44), .ref (E.1 + 45), .int (nI mo), .ref (E.1 + 46), .ref (E.1 + 47), .int (nI bn), .int (nI ta), .int (nI tl), .int (nI tk), .int (nI va), .ref (E.1 + 48), .ref (E.1 + 49)])) (H1 : h 47 = cI E 150 (nF BY)) (H2 : h 49 = cI E 5 (nF VA)) (H3 : h 48 = cI E 74 (nF AN)) (hn : 50 ≤ n) (han : AN 0 = 4) : jC E mX8_takesAnvil (6, 0, 0) [.ref (E.1 + 38)] h n (jR (some (.int (nI 0))) h n) := by
  refine J.of (L := [(0, .ref (E.1 + 38))]) rfl (by decide +kernel) (Nat.le_of_ble_eq_true rfl) ?_
  obtain ⟨PP, hPP⟩ : ∃ PP : jPost, PP = (jR (some (.int (nI 0))) h n) := ⟨_, rfl⟩
  rw [← hPP]
  refine J_aload_n dX8_takesAnvil_0 rfl ?_
  refine J_get 18 dX8_takesAnvil_1 jk8 (Nat.le_of_ble_eq_true rfl) jfRX8_42 H0 (by omega) rfl ?_
  refine J_iconst (v := nI 0) dX8_takesAnvil_4 (by decide +kernel) ?_
  refine J_ialdN (i := 0) dX8_takesAnvil_5 H3 (by omega) (by omega) (by omega) ?_
  refine J_iconst (v := nI 4) dX8_takesAnvil_6 (by decide +kernel) ?_
  refine J_icmp_neN (tgt := 12) dX8_takesAnvil_7 (by decide) (by omega) (by omega) (fun c1 => (by exfalso; omega)) (fun c1 => ?_)
  refine J_iconst (v := nI 0) dX8_takesAnvil_10 (by decide +kernel) ?_
  exact J_zret dX8_takesAnvil_11 rfl rfl ⟨Nat.le_refl _, Nat.le_refl _⟩ (by rw [hPP]; exact ⟨rfl, rfl, rfl⟩)

set_option maxHeartbeats 1000000 in
set_option maxRecDepth 100000 in
theorem ctX8_takesAnvil_no {E : jE} {h : Nat → va_E} {n : Nat} (i : Nat) (xa : Nat) (xb : Nat) (dt : Nat) (mo : Nat) (bn : Nat) (ta : Nat) (tl : Nat) (tk : Nat) (va : Nat) (BY : Nat → Nat) (F : Nat → Nat) (VA : Nat → Nat) (AN : Nat → Nat) (H0 : h 38 = .inr (7, [.ref (E.1 + 39), .ref (E.1 + 40), .ref (E.1 + 41), .ref (E.1 + 42), .long (lN xa), .long (lN xb), .ref (E.1 + 43), .int (nI dt), .ref (E.1 + 44), .ref (E.1 + 45), .int (nI mo), .ref (E.1 + 46), .ref (E.1 + 47), .int (nI bn), .int (nI ta), .int (nI tl), .int (nI tk), .int (nI va), .ref (E.1 + 48), .ref (E.1 + 49)])) (H1 : h 47 = cI E 150 (nF BY)) (H2 : h 49 = cI E 5 (nF VA)) (H3 : h 48 = cI E 74 (nF AN)) (hn : 50 ≤ n) (hBY : ∀ zz, zz < bn → BY zz = F zz ∧ F zz ≤ 127) (hbn : bn ≤ 150) (hst : stQ F bn i ta tl tk va) (han : AN 0 < 4) (hno : ¬ anvOK (kT F bn) (vT F bn) i) : jC E mX8_takesAnvil (6, 0, 0) [.ref (E.1 + 38)] h n (fun v h' n' => v = some (.int (nI 0)) ∧ n' = n ∧ ∃ (VA1 : Nat → Nat) (ta1 : Nat) (tl1 : Nat) (tk1 : Nat) (va1 : Nat), h' = (hset (hset h 38 (.inr (7, [.ref (E.1 + 39), .ref (E.1 + 40), .ref (E.1 + 41), .ref (E.1 + 42), .long (lN xa), .long (lN xb), .ref (E.1 + 43), .int (nI dt), .ref (E.1 + 44), .ref (E.1 + 45), .int (nI mo), .ref (E.1 + 46), .ref (E.1 + 47), .int (nI bn), .int (nI ta1), .int (nI tl1), .int (nI tk1), .int (nI va1), .ref (E.1 + 48), .ref (E.1 + 49)]))) 49 (cI E 5 (nF VA1))) ∧ (stQ F bn (anvJ (kT F bn) (vT F bn) i) ta1 tl1 tk1 va1)) := by
  refine J.of (L := [(0, .ref (E.1 + 38))]) rfl (by decide +kernel) (Nat.le_of_ble_eq_true rfl) ?_
  obtain ⟨PP, hPP⟩ : ∃ PP : jPost, PP = (fun v h' n' => v = some (.int (nI 0)) ∧ n' = n ∧ ∃ (VA1 : Nat → Nat) (ta1 : Nat) (tl1 : Nat) (tk1 : Nat) (va1 : Nat), h' = (hset (hset h 38 (.inr (7, [.ref (E.1 + 39), .ref (E.1 + 40), .ref (E.1 + 41), .ref (E.1 + 42), .long (lN xa), .long (lN xb), .ref (E.1 + 43), .int (nI dt), .ref (E.1 + 44), .ref (E.1 + 45), .int (nI mo), .ref (E.1 + 46), .ref (E.1 + 47), .int (nI bn), .int (nI ta1), .int (nI tl1), .int (nI tk1), .int (nI va1), .ref (E.1 + 48), .ref (E.1 + 49)]))) 49 (cI E 5 (nF VA1))) ∧ (stQ F bn (anvJ (kT F bn) (vT F bn) i) ta1 tl1 tk1 va1)) := ⟨_, rfl⟩
  rw [← hPP]
  refine J_aload_n dX8_takesAnvil_0 rfl ?_
  refine J_get 18 dX8_takesAnvil_1 jk8 (Nat.le_of_ble_eq_true rfl) jfRX8_42 H0 (by omega) rfl ?_
  refine J_iconst (v := nI 0) dX8_takesAnvil_4 (by decide +kernel) ?_
  refine J_ialdN (i := 0) dX8_takesAnvil_5 H3 (by omega) (by omega) (by omega) ?_
  refine J_iconst (v := nI 4) dX8_takesAnvil_6 (by decide +kernel) ?_
  refine J_icmp_neN (tgt := 12) dX8_takesAnvil_7 (by decide) (by omega) (by omega) (fun c1 => ?_) (fun c1 => (by exfalso; omega))
  refine J_aload_n dX8_takesAnvil_12 rfl ?_
  refine J_callV (M' := mX8_goBehind) (d' := (4, 0, 0)) (rest := []) dX8_takesAnvil_13 jmX8_goBehind jlRX8_227 (ctX8_goBehind i xa xb dt mo bn ta tl tk va BY F H0 H1 (by omega) (by first | assumption | omega) (by first | assumption | omega) (by first | assumption | omega)) H0 (by omega) jk8.1 rfl rfl (Nat.le_of_ble_eq_true rfl) (Nat.le_of_ble_eq_true rfl) (by constructor <;> decide +kernel) (fun v9 h9 n9 q9 => ?_)
  obtain ⟨rfl, hn9, ta1_2, tl1_3, tk1_4, va1_5, rfl, hst1_6⟩ := q9
  replace hn9 := hn9.symm
  subst hn9
  refine J.stk (st' := []) rfl ?_
  refine J_aload_n dX8_takesAnvil_16 rfl ?_
  refine J_iconst (v := nI 0) dX8_takesAnvil_17 (by decide +kernel) ?_
  refine J_iconst (v := nI 0) dX8_takesAnvil_18 (by decide +kernel) ?_
  refine J_iconst (v := nI 5) dX8_takesAnvil_19 (by decide +kernel) ?_
  have sp7 : (kT F bn (i + 1) = 5 ∧ 0 ≤ vT F bn (i + 1) ∧ vT F bn (i + 1) ≤ 5) ∨ (¬ (kT F bn (i + 1) = 5 ∧ 0 ≤ vT F bn (i + 1) ∧ vT F bn (i + 1) ≤ 5)) := by exact Classical.em _
  rcases sp7 with sp7 | sp7
  · skip
    refine J_callV (M' := mX8_takes) (d' := (5, 0, 0)) (rest := []) dX8_takesAnvil_20 jmX8_takes jlRX8_234 (ctX8_takes 0 0 5 (i + 1) xa xb dt mo bn ta1_2 tl1_3 tk1_4 va1_5 BY F VA hset_eq ((hset_ne (by omega)).trans H1) ((hset_ne (by omega)).trans H2) (by omega) (by first | assumption | omega) (by first | assumption | omega) (by first | assumption | omega) (by first | assumption | omega) (by first | assumption | omega) (by first | assumption | omega) (by first | assumption | omega)) hset_eq (by omega) jk8.1 rfl rfl (Nat.le_of_ble_eq_true rfl) (Nat.le_of_ble_eq_true rfl) (by constructor <;> decide +kernel) (fun v9 h9 n9 q9 => ?_)
    obtain ⟨rfl, hn9, ta1_8, tl1_9, tk1_10, va1_11, rfl, hst1_12⟩ := q9
    replace hn9 := hn9.symm
    subst hn9
    refine J.cast ((hset_comm (by omega)).trans (hset_cg hset_hset rfl)) ?_
    refine J.stk (st' := [.int (nI 1)]) rfl ?_
    refine J_if_eqN (tgt := 70) dX8_takesAnvil_23 (by decide) (by omega) (fun z => absurd z (by decide)) (fun _ => ?_)
    refine J_aload_n dX8_takesAnvil_26 rfl ?_
    refine J_iconst (v := nI 1) dX8_takesAnvil_27 (by decide +kernel) ?_
    refine J_iconst (v := nI 0) dX8_takesAnvil_28 (by decide +kernel) ?_
    refine J_bipush (v := nI 20) dX8_takesAnvil_29 (by decide +kernel) ?_
    have sp14 : (kT F bn (i + 1 + 1) = 5 ∧ 0 ≤ vT F bn (i + 1 + 1) ∧ vT F bn (i + 1 + 1) ≤ 20) ∨ (¬ (kT F bn (i + 1 + 1) = 5 ∧ 0 ≤ vT F bn (i + 1 + 1) ∧ vT F bn (i + 1 + 1) ≤ 20)) := by exact Classical.em _
    rcases sp14 with sp14 | sp14
    · skip
      refine J_callV (M' := mX8_takes) (d' := (5, 0, 0)) (rest := []) dX8_takesAnvil_31 jmX8_takes jlRX8_234 (ctX8_takes 1 0 20 (i + 1 + 1) xa xb dt mo bn ta1_8 tl1_9 tk1_10 va1_11 BY F (updN VA 0 (vT F bn (i + 1))) ((hset_ne (by omega)).trans hset_eq) ((hset_ne (by omega)).trans ((hset_ne (by omega)).trans H1)) hset_eq (by omega) (by first | assumption | omega) (by first | assumption | omega) (by first | assumption | omega) (by first | assumption | omega) (by first | assumption | omega) (by first | assumption | omega) (by first | assumption | omega)) ((hset_ne (by omega)).trans hset_eq) (by omega) jk8.1 rfl rfl (Nat.le_of_ble_eq_true rfl) (Nat.le_of_ble_eq_true rfl) (by constructor <;> decide +kernel) (fun v9 h9 n9 q9 => ?_)
      obtain ⟨rfl, hn9, ta1_15, tl1_16, tk1_17, va1_18, rfl, hst1_19⟩ := q9
      replace hn9 := hn9.symm
      subst hn9
      refine J.cast ((hset_cg hset_hset rfl).trans ((hset_comm (by omega)).trans (hset_cg hset_hset rfl))) ?_
      refine J.stk (st' := [.int (nI 1)]) rfl ?_
      refine J_if_eqN (tgt := 70) dX8_takesAnvil_34 (by decide) (by omega) (fun z => absurd z (by decide)) (fun _ => ?_)
      refine J_aload_n dX8_takesAnvil_37 rfl ?_
      refine J_iconst (v := nI 2) dX8_takesAnvil_38 (by decide +kernel) ?_
      refine J_iconst (v := nI 0) dX8_takesAnvil_39 (by decide +kernel) ?_
      refine J_bipush (v := nI 20) dX8_takesAnvil_40 (by decide +kernel) ?_
      have sp21 : (kT F bn (i + 1 + 1 + 1) = 5 ∧ 0 ≤ vT F bn (i + 1 + 1 + 1) ∧ vT F bn (i + 1 + 1 + 1) ≤ 20) ∨ (¬ (kT F bn (i + 1 + 1 + 1) = 5 ∧ 0 ≤ vT F bn (i + 1 + 1 + 1) ∧ vT F bn (i + 1 + 1 + 1) ≤ 20)) := by exact Classical.em _
      rcases sp21 with sp21 | sp21
      · skip
        refine J_callV (M' := mX8_takes) (d' := (5, 0, 0)) (rest := []) dX8_takesAnvil_42 jmX8_takes jlRX8_234 (ctX8_takes 2 0 20 (i + 1 + 1 + 1) xa xb dt mo bn ta1_15 tl1_16 tk1_17 va1_18 BY F (updN (updN VA 0 (vT F bn (i + 1))) 1 (vT F bn (i + 1 + 1))) ((hset_ne (by omega)).trans hset_eq) ((hset_ne (by omega)).trans ((hset_ne (by omega)).trans H1)) hset_eq (by omega) (by first | assumption | omega) (by first | assumption | omega) (by first | assumption | omega) (by first | assumption | omega) (by first | assumption | omega) (by first | assumption | omega) (by first | assumption | omega)) ((hset_ne (by omega)).trans hset_eq) (by omega) jk8.1 rfl rfl (Nat.le_of_ble_eq_true rfl) (Nat.le_of_ble_eq_true rfl) (by constructor <;> decide +kernel) (fun v9 h9 n9 q9 => ?_)
        obtain ⟨rfl, hn9, ta1_22, tl1_23, tk1_24, va1_25, rfl, hst1_26⟩ := q9
        replace hn9 := hn9.symm
        subst hn9
        refine J.cast ((hset_cg hset_hset rfl).trans ((hset_comm (by omega)).trans (hset_cg hset_hset rfl))) ?_
        refine J.stk (st' := [.int (nI 1)]) rfl ?_
        refine J_if_eqN (tgt := 70) dX8_takesAnvil_45 (by decide) (by omega) (fun z => absurd z (by decide)) (fun _ => ?_)
        refine J_aload_n dX8_takesAnvil_48 rfl ?_
        refine J_iconst (v := nI 3) dX8_takesAnvil_49 (by decide +kernel) ?_
        refine J_iconst (v := nI 0) dX8_takesAnvil_50 (by decide +kernel) ?_
        refine J_bipush (v := nI 20) dX8_takesAnvil_51 (by decide +kernel) ?_
        have sp28 : (kT F bn (i + 1 + 1 + 1 + 1) = 5 ∧ 0 ≤ vT F bn (i + 1 + 1 + 1 + 1) ∧ vT F bn (i + 1 + 1 + 1 + 1) ≤ 20) ∨ (¬ (kT F bn (i + 1 + 1 + 1 + 1) = 5 ∧ 0 ≤ vT F bn (i + 1 + 1 + 1 + 1) ∧ vT F bn (i + 1 + 1 + 1 + 1) ≤ 20)) := by exact Classical.em _
        rcases sp28 with sp28 | sp28
        · skip
          refine J_callV (M' := mX8_takes) (d' := (5, 0, 0)) (rest := []) dX8_takesAnvil_53 jmX8_takes jlRX8_234 (ctX8_takes 3 0 20 (i + 1 + 1 + 1 + 1) xa xb dt mo bn ta1_22 tl1_23 tk1_24 va1_25 BY F (updN (updN (updN VA 0 (vT F bn (i + 1))) 1 (vT F bn (i + 1 + 1))) 2 (vT F bn (i + 1 + 1 + 1))) ((hset_ne (by omega)).trans hset_eq) ((hset_ne (by omega)).trans ((hset_ne (by omega)).trans H1)) hset_eq (by omega) (by first | assumption | omega) (by first | assumption | omega) (by first | assumption | omega) (by first | assumption | omega) (by first | assumption | omega) (by first | assumption | omega) (by first | assumption | omega)) ((hset_ne (by omega)).trans hset_eq) (by omega) jk8.1 rfl rfl (Nat.le_of_ble_eq_true rfl) (Nat.le_of_ble_eq_true rfl) (by constructor <;> decide +kernel) (fun v9 h9 n9 q9 => ?_)
          obtain ⟨rfl, hn9, ta1_29, tl1_30, tk1_31, va1_32, rfl, hst1_33⟩ := q9
          replace hn9 := hn9.symm
          subst hn9
          refine J.cast ((hset_cg hset_hset rfl).trans ((hset_comm (by omega)).trans (hset_cg hset_hset rfl))) ?_
          refine J.stk (st' := [.int (nI 1)]) rfl ?_
          refine J_if_eqN (tgt := 70) dX8_takesAnvil_56 (by decide) (by omega) (fun z => absurd z (by decide)) (fun _ => ?_)
          refine J_aload_n dX8_takesAnvil_59 rfl ?_
          refine J_iconst (v := nI 4) dX8_takesAnvil_60 (by decide +kernel) ?_
          refine J_iconst (v := nI 0) dX8_takesAnvil_61 (by decide +kernel) ?_
          refine J_bipush (v := nI 20) dX8_takesAnvil_62 (by decide +kernel) ?_
          have sp35 : (kT F bn (i + 1 + 1 + 1 + 1 + 1) = 5 ∧ 0 ≤ vT F bn (i + 1 + 1 + 1 + 1 + 1) ∧ vT F bn (i + 1 + 1 + 1 + 1 + 1) ≤ 20) ∨ (¬ (kT F bn (i + 1 + 1 + 1 + 1 + 1) = 5 ∧ 0 ≤ vT F bn (i + 1 + 1 + 1 + 1 + 1) ∧ vT F bn (i + 1 + 1 + 1 + 1 + 1) ≤ 20)) := by exact Classical.em _
          rcases sp35 with sp35 | sp35
          · skip
            refine J_callV (M' := mX8_takes) (d' := (5, 0, 0)) (rest := []) dX8_takesAnvil_64 jmX8_takes jlRX8_234 (ctX8_takes 4 0 20 (i + 1 + 1 + 1 + 1 + 1) xa xb dt mo bn ta1_29 tl1_30 tk1_31 va1_32 BY F (updN (updN (updN (updN VA 0 (vT F bn (i + 1))) 1 (vT F bn (i + 1 + 1))) 2 (vT F bn (i + 1 + 1 + 1))) 3 (vT F bn (i + 1 + 1 + 1 + 1))) ((hset_ne (by omega)).trans hset_eq) ((hset_ne (by omega)).trans ((hset_ne (by omega)).trans H1)) hset_eq (by omega) (by first | assumption | omega) (by first | assumption | omega) (by first | assumption | omega) (by first | assumption | omega) (by first | assumption | omega) (by first | assumption | omega) (by first | assumption | omega)) ((hset_ne (by omega)).trans hset_eq) (by omega) jk8.1 rfl rfl (Nat.le_of_ble_eq_true rfl) (Nat.le_of_ble_eq_true rfl) (by constructor <;> decide +kernel) (fun v9 h9 n9 q9 => ?_)
            obtain ⟨rfl, hn9, ta1_36, tl1_37, tk1_38, va1_39, rfl, hst1_40⟩ := q9
            replace hn9 := hn9.symm
            subst hn9
            refine J.cast ((hset_cg hset_hset rfl).trans ((hset_comm (by omega)).trans (hset_cg hset_hset rfl))) ?_
            refine J.stk (st' := [.int (nI 1)]) rfl ?_
            refine J_if_neN (tgt := 72) dX8_takesAnvil_67 (by decide) (by omega) (fun _ => ?_) (fun z => absurd z (by decide))
            exact absurd (show anvOK (kT F bn) (vT F bn) i from ⟨⟨by omega, by omega⟩, ⟨by omega, by omega⟩, ⟨by omega, by omega⟩, ⟨by omega, by omega⟩, ⟨by omega, by omega⟩⟩) hno
          · skip
            refine J_callVr (M' := mX8_takes) (d' := (5, 0, 0)) (rest := []) dX8_takesAnvil_64 jmX8_takes jlRX8_234 (ctX8_takes_no 4 0 20 (i + 1 + 1 + 1 + 1 + 1) xa xb dt mo bn ta1_29 tl1_30 tk1_31 va1_32 BY F (updN (updN (updN (updN VA 0 (vT F bn (i + 1))) 1 (vT F bn (i + 1 + 1))) 2 (vT F bn (i + 1 + 1 + 1))) 3 (vT F bn (i + 1 + 1 + 1 + 1))) ((hset_ne (by omega)).trans hset_eq) ((hset_ne (by omega)).trans ((hset_ne (by omega)).trans H1)) hset_eq (by omega) (by first | assumption | omega) (by first | assumption | omega) (by first | assumption | omega) (by first | assumption | omega) (by first | assumption | omega) (by first | assumption | omega)) ((hset_ne (by omega)).trans hset_eq) (by omega) jk8.1 rfl rfl (Nat.le_of_ble_eq_true rfl) (Nat.le_of_ble_eq_true rfl) ⟨Nat.le_refl _, Nat.le_refl _⟩ ?_
            refine J_if_neN (tgt := 72) dX8_takesAnvil_67 (by decide) (by omega) (fun z => absurd z (by decide)) (fun _ => ?_)
            refine J_iconst (v := nI 0) dX8_takesAnvil_70 (by decide +kernel) ?_
            exact J_zret dX8_takesAnvil_71 rfl rfl ⟨Nat.le_refl _, Nat.le_refl _⟩ (by rw [hPP]; exact ⟨rfl, rfl, (updN (updN (updN (updN VA 0 (vT F bn (i + 1))) 1 (vT F bn (i + 1 + 1))) 2 (vT F bn (i + 1 + 1 + 1))) 3 (vT F bn (i + 1 + 1 + 1 + 1))), ta1_29, tl1_30, tk1_31, va1_32, rfl, (by first | (rw [← anvJ_1 (k := kT F bn) (v := vT F bn) (i := i) (by omega)]; assumption) | (rw [← anvJ_2 (k := kT F bn) (v := vT F bn) (i := i) (by omega) (by omega)]; assumption) | (rw [← anvJ_3 (k := kT F bn) (v := vT F bn) (i := i) (by omega) (by omega) (by omega)]; assumption) | (rw [← anvJ_4 (k := kT F bn) (v := vT F bn) (i := i) (by omega) (by omega) (by omega) (by omega)]; assumption) | (rw [← anvJ_5 (k := kT F bn) (v := vT F bn) (i := i) (by omega) (by omega) (by omega) (by omega)]; assumption))⟩)
        · skip
          refine J_callVr (M' := mX8_takes) (d' := (5, 0, 0)) (rest := []) dX8_takesAnvil_53 jmX8_takes jlRX8_234 (ctX8_takes_no 3 0 20 (i + 1 + 1 + 1 + 1) xa xb dt mo bn ta1_22 tl1_23 tk1_24 va1_25 BY F (updN (updN (updN VA 0 (vT F bn (i + 1))) 1 (vT F bn (i + 1 + 1))) 2 (vT F bn (i + 1 + 1 + 1))) ((hset_ne (by omega)).trans hset_eq) ((hset_ne (by omega)).trans ((hset_ne (by omega)).trans H1)) hset_eq (by omega) (by first | assumption | omega) (by first | assumption | omega) (by first | assumption | omega) (by first | assumption | omega) (by first | assumption | omega) (by first | assumption | omega)) ((hset_ne (by omega)).trans hset_eq) (by omega) jk8.1 rfl rfl (Nat.le_of_ble_eq_true rfl) (Nat.le_of_ble_eq_true rfl) ⟨Nat.le_refl _, Nat.le_refl _⟩ ?_
          refine J_if_eqN (tgt := 70) dX8_takesAnvil_56 (by decide) (by omega) (fun _ => ?_) (fun z => absurd z (by decide))
          refine J_iconst (v := nI 0) dX8_takesAnvil_70 (by decide +kernel) ?_
          exact J_zret dX8_takesAnvil_71 rfl rfl ⟨Nat.le_refl _, Nat.le_refl _⟩ (by rw [hPP]; exact ⟨rfl, rfl, (updN (updN (updN VA 0 (vT F bn (i + 1))) 1 (vT F bn (i + 1 + 1))) 2 (vT F bn (i + 1 + 1 + 1))), ta1_22, tl1_23, tk1_24, va1_25, rfl, (by first | (rw [← anvJ_1 (k := kT F bn) (v := vT F bn) (i := i) (by omega)]; assumption) | (rw [← anvJ_2 (k := kT F bn) (v := vT F bn) (i := i) (by omega) (by omega)]; assumption) | (rw [← anvJ_3 (k := kT F bn) (v := vT F bn) (i := i) (by omega) (by omega) (by omega)]; assumption) | (rw [← anvJ_4 (k := kT F bn) (v := vT F bn) (i := i) (by omega) (by omega) (by omega) (by omega)]; assumption) | (rw [← anvJ_5 (k := kT F bn) (v := vT F bn) (i := i) (by omega) (by omega) (by omega) (by omega)]; assumption))⟩)
      · skip
        refine J_callVr (M' := mX8_takes) (d' := (5, 0, 0)) (rest := []) dX8_takesAnvil_42 jmX8_takes jlRX8_234 (ctX8_takes_no 2 0 20 (i + 1 + 1 + 1) xa xb dt mo bn ta1_15 tl1_16 tk1_17 va1_18 BY F (updN (updN VA 0 (vT F bn (i + 1))) 1 (vT F bn (i + 1 + 1))) ((hset_ne (by omega)).trans hset_eq) ((hset_ne (by omega)).trans ((hset_ne (by omega)).trans H1)) hset_eq (by omega) (by first | assumption | omega) (by first | assumption | omega) (by first | assumption | omega) (by first | assumption | omega) (by first | assumption | omega) (by first | assumption | omega)) ((hset_ne (by omega)).trans hset_eq) (by omega) jk8.1 rfl rfl (Nat.le_of_ble_eq_true rfl) (Nat.le_of_ble_eq_true rfl) ⟨Nat.le_refl _, Nat.le_refl _⟩ ?_
        refine J_if_eqN (tgt := 70) dX8_takesAnvil_45 (by decide) (by omega) (fun _ => ?_) (fun z => absurd z (by decide))
        refine J_iconst (v := nI 0) dX8_takesAnvil_70 (by decide +kernel) ?_
        exact J_zret dX8_takesAnvil_71 rfl rfl ⟨Nat.le_refl _, Nat.le_refl _⟩ (by rw [hPP]; exact ⟨rfl, rfl, (updN (updN VA 0 (vT F bn (i + 1))) 1 (vT F bn (i + 1 + 1))), ta1_15, tl1_16, tk1_17, va1_18, rfl, (by first | (rw [← anvJ_1 (k := kT F bn) (v := vT F bn) (i := i) (by omega)]; assumption) | (rw [← anvJ_2 (k := kT F bn) (v := vT F bn) (i := i) (by omega) (by omega)]; assumption) | (rw [← anvJ_3 (k := kT F bn) (v := vT F bn) (i := i) (by omega) (by omega) (by omega)]; assumption) | (rw [← anvJ_4 (k := kT F bn) (v := vT F bn) (i := i) (by omega) (by omega) (by omega) (by omega)]; assumption) | (rw [← anvJ_5 (k := kT F bn) (v := vT F bn) (i := i) (by omega) (by omega) (by omega) (by omega)]; assumption))⟩)
    · skip
      refine J_callVr (M' := mX8_takes) (d' := (5, 0, 0)) (rest := []) dX8_takesAnvil_31 jmX8_takes jlRX8_234 (ctX8_takes_no 1 0 20 (i + 1 + 1) xa xb dt mo bn ta1_8 tl1_9 tk1_10 va1_11 BY F (updN VA 0 (vT F bn (i + 1))) ((hset_ne (by omega)).trans hset_eq) ((hset_ne (by omega)).trans ((hset_ne (by omega)).trans H1)) hset_eq (by omega) (by first | assumption | omega) (by first | assumption | omega) (by first | assumption | omega) (by first | assumption | omega) (by first | assumption | omega) (by first | assumption | omega)) ((hset_ne (by omega)).trans hset_eq) (by omega) jk8.1 rfl rfl (Nat.le_of_ble_eq_true rfl) (Nat.le_of_ble_eq_true rfl) ⟨Nat.le_refl _, Nat.le_refl _⟩ ?_
      refine J_if_eqN (tgt := 70) dX8_takesAnvil_34 (by decide) (by omega) (fun _ => ?_) (fun z => absurd z (by decide))
      refine J_iconst (v := nI 0) dX8_takesAnvil_70 (by decide +kernel) ?_
      exact J_zret dX8_takesAnvil_71 rfl rfl ⟨Nat.le_refl _, Nat.le_refl _⟩ (by rw [hPP]; exact ⟨rfl, rfl, (updN VA 0 (vT F bn (i + 1))), ta1_8, tl1_9, tk1_10, va1_11, rfl, (by first | (rw [← anvJ_1 (k := kT F bn) (v := vT F bn) (i := i) (by omega)]; assumption) | (rw [← anvJ_2 (k := kT F bn) (v := vT F bn) (i := i) (by omega) (by omega)]; assumption) | (rw [← anvJ_3 (k := kT F bn) (v := vT F bn) (i := i) (by omega) (by omega) (by omega)]; assumption) | (rw [← anvJ_4 (k := kT F bn) (v := vT F bn) (i := i) (by omega) (by omega) (by omega) (by omega)]; assumption) | (rw [← anvJ_5 (k := kT F bn) (v := vT F bn) (i := i) (by omega) (by omega) (by omega) (by omega)]; assumption))⟩)
  · skip
    refine J_callVr (M' := mX8_takes) (d' := (5, 0, 0)) (rest := []) dX8_takesAnvil_20 jmX8_takes jlRX8_234 (ctX8_takes_no 0 0 5 (i + 1) xa xb dt mo bn ta1_2 tl1_3 tk1_4 va1_5 BY F VA hset_eq ((hset_ne (by omega)).trans H1) ((hset_ne (by omega)).trans H2) (by omega) (by first | assumption | omega) (by first | assumption | omega) (by first | assumption | omega) (by first | assumption | omega) (by first | assumption | omega) (by first | assumption | omega)) hset_eq (by omega) jk8.1 rfl rfl (Nat.le_of_ble_eq_true rfl) (Nat.le_of_ble_eq_true rfl) ⟨Nat.le_refl _, Nat.le_refl _⟩ ?_
    refine J_if_eqN (tgt := 70) dX8_takesAnvil_23 (by decide) (by omega) (fun _ => ?_) (fun z => absurd z (by decide))
    refine J_iconst (v := nI 0) dX8_takesAnvil_70 (by decide +kernel) ?_
    exact J_zret dX8_takesAnvil_71 rfl rfl ⟨Nat.le_refl _, Nat.le_refl _⟩ (by rw [hPP]; exact ⟨rfl, rfl, VA, ta1_2, tl1_3, tk1_4, va1_5, ((show (hset h 38 (.inr (7, [.ref (E.1 + 39), .ref (E.1 + 40), .ref (E.1 + 41), .ref (E.1 + 42), .long (lN xa), .long (lN xb), .ref (E.1 + 43), .int (nI dt), .ref (E.1 + 44), .ref (E.1 + 45), .int (nI mo), .ref (E.1 + 46), .ref (E.1 + 47), .int (nI bn), .int (nI ta1_2), .int (nI tl1_3), .int (nI tk1_4), .int (nI va1_5), .ref (E.1 + 48), .ref (E.1 + 49)]))) = (hset (hset h 38 (.inr (7, [.ref (E.1 + 39), .ref (E.1 + 40), .ref (E.1 + 41), .ref (E.1 + 42), .long (lN xa), .long (lN xb), .ref (E.1 + 43), .int (nI dt), .ref (E.1 + 44), .ref (E.1 + 45), .int (nI mo), .ref (E.1 + 46), .ref (E.1 + 47), .int (nI bn), .int (nI ta1_2), .int (nI tl1_3), .int (nI tk1_4), .int (nI va1_5), .ref (E.1 + 48), .ref (E.1 + 49)]))) 49 (cI E 5 (nF VA))) by funext z; simp only [hset]; (repeat' split) <;> first | rfl | (exfalso; omega) | (subst_vars; first | exact H2)).trans (hset_cg (hset_cg rfl rfl) rfl)), (by first | (rw [← anvJ_1 (k := kT F bn) (v := vT F bn) (i := i) (by omega)]; assumption) | (rw [← anvJ_2 (k := kT F bn) (v := vT F bn) (i := i) (by omega) (by omega)]; assumption) | (rw [← anvJ_3 (k := kT F bn) (v := vT F bn) (i := i) (by omega) (by omega) (by omega)]; assumption) | (rw [← anvJ_4 (k := kT F bn) (v := vT F bn) (i := i) (by omega) (by omega) (by omega) (by omega)]; assumption) | (rw [← anvJ_5 (k := kT F bn) (v := vT F bn) (i := i) (by omega) (by omega) (by omega) (by omega)]; assumption))⟩)

set_option maxHeartbeats 1000000 in
set_option maxRecDepth 100000 in
theorem ctX8_takesAnvil {E : jE} {h : Nat → va_E} {n : Nat} (i : Nat) (xa : Nat) (xb : Nat) (dt : Nat) (mo : Nat) (bn : Nat) (ta : Nat) (tl : Nat) (tk : Nat) (va : Nat) (BY : Nat → Nat) (F : Nat → Nat) (VA : Nat → Nat) (AN : Nat → Nat) (H0 : h 38 = .inr (7, [.ref (E.1 + 39), .ref (E.1 + 40), .ref (E.1 + 41), .ref (E.1 + 42), .long (lN xa), .long (lN xb), .ref (E.1 + 43), .int (nI dt), .ref (E.1 + 44), .ref (E.1 + 45), .int (nI mo), .ref (E.1 + 46), .ref (E.1 + 47), .int (nI bn), .int (nI ta), .int (nI tl), .int (nI tk), .int (nI va), .ref (E.1 + 48), .ref (E.1 + 49)])) (H1 : h 47 = cI E 150 (nF BY)) (H2 : h 49 = cI E 5 (nF VA)) (H3 : h 48 = cI E 74 (nF AN)) (hn : 50 ≤ n) (hBY : ∀ zz, zz < bn → BY zz = F zz ∧ F zz ≤ 127) (hbn : bn ≤ 150) (hst : stQ F bn i ta tl tk va) (han : AN 0 < 4) (hok : anvOK (kT F bn) (vT F bn) i) : jC E mX8_takesAnvil (6, 0, 0) [.ref (E.1 + 38)] h n (fun v h' n' => v = some (.int (nI 1)) ∧ n' = n ∧ ∃ (VA1 : Nat → Nat) (ta1 : Nat) (tl1 : Nat) (tk1 : Nat) (va1 : Nat), h' = (hset (hset (hset h 38 (.inr (7, [.ref (E.1 + 39), .ref (E.1 + 40), .ref (E.1 + 41), .ref (E.1 + 42), .long (lN xa), .long (lN xb), .ref (E.1 + 43), .int (nI dt), .ref (E.1 + 44), .ref (E.1 + 45), .int (nI mo), .ref (E.1 + 46), .ref (E.1 + 47), .int (nI bn), .int (nI ta1), .int (nI tl1), .int (nI tk1), .int (nI va1), .ref (E.1 + 48), .ref (E.1 + 49)]))) 49 (cI E 5 (nF VA1))) 48 (cI E 74 (nF (layQ AN (vT F bn (i + 1)) (vT F bn (i + 1 + 1)) (vT F bn (i + 1 + 1 + 1)) (vT F bn (i + 1 + 1 + 1 + 1)) (vT F bn (i + 1 + 1 + 1 + 1 + 1)))))) ∧ (stQ F bn (i + 1 + 1 + 1 + 1 + 1 + 1) ta1 tl1 tk1 va1)) := by
  refine J.of (L := [(0, .ref (E.1 + 38))]) rfl (by decide +kernel) (Nat.le_of_ble_eq_true rfl) ?_
  obtain ⟨PP, hPP⟩ : ∃ PP : jPost, PP = (fun v h' n' => v = some (.int (nI 1)) ∧ n' = n ∧ ∃ (VA1 : Nat → Nat) (ta1 : Nat) (tl1 : Nat) (tk1 : Nat) (va1 : Nat), h' = (hset (hset (hset h 38 (.inr (7, [.ref (E.1 + 39), .ref (E.1 + 40), .ref (E.1 + 41), .ref (E.1 + 42), .long (lN xa), .long (lN xb), .ref (E.1 + 43), .int (nI dt), .ref (E.1 + 44), .ref (E.1 + 45), .int (nI mo), .ref (E.1 + 46), .ref (E.1 + 47), .int (nI bn), .int (nI ta1), .int (nI tl1), .int (nI tk1), .int (nI va1), .ref (E.1 + 48), .ref (E.1 + 49)]))) 49 (cI E 5 (nF VA1))) 48 (cI E 74 (nF (layQ AN (vT F bn (i + 1)) (vT F bn (i + 1 + 1)) (vT F bn (i + 1 + 1 + 1)) (vT F bn (i + 1 + 1 + 1 + 1)) (vT F bn (i + 1 + 1 + 1 + 1 + 1)))))) ∧ (stQ F bn (i + 1 + 1 + 1 + 1 + 1 + 1) ta1 tl1 tk1 va1)) := ⟨_, rfl⟩
  rw [← hPP]
  obtain ⟨⟨a1, b1⟩, ⟨a2, b2⟩, ⟨a3, b3⟩, ⟨a4, b4⟩, ⟨a5, b5⟩⟩ := id hok
  refine J_aload_n dX8_takesAnvil_0 rfl ?_
  refine J_get 18 dX8_takesAnvil_1 jk8 (Nat.le_of_ble_eq_true rfl) jfRX8_42 H0 (by omega) rfl ?_
  refine J_iconst (v := nI 0) dX8_takesAnvil_4 (by decide +kernel) ?_
  refine J_ialdN (i := 0) dX8_takesAnvil_5 H3 (by omega) (by omega) (by omega) ?_
  refine J_iconst (v := nI 4) dX8_takesAnvil_6 (by decide +kernel) ?_
  refine J_icmp_neN (tgt := 12) dX8_takesAnvil_7 (by decide) (by omega) (by omega) (fun c1 => ?_) (fun c1 => (by exfalso; omega))
  refine J_aload_n dX8_takesAnvil_12 rfl ?_
  refine J_callV (M' := mX8_goBehind) (d' := (4, 0, 0)) (rest := []) dX8_takesAnvil_13 jmX8_goBehind jlRX8_227 (ctX8_goBehind i xa xb dt mo bn ta tl tk va BY F H0 H1 (by omega) (by first | assumption | omega) (by first | assumption | omega) (by first | assumption | omega)) H0 (by omega) jk8.1 rfl rfl (Nat.le_of_ble_eq_true rfl) (Nat.le_of_ble_eq_true rfl) (by constructor <;> decide +kernel) (fun v9 h9 n9 q9 => ?_)
  obtain ⟨rfl, hn9, ta1_2, tl1_3, tk1_4, va1_5, rfl, hst1_6⟩ := q9
  replace hn9 := hn9.symm
  subst hn9
  refine J.stk (st' := []) rfl ?_
  refine J_aload_n dX8_takesAnvil_16 rfl ?_
  refine J_iconst (v := nI 0) dX8_takesAnvil_17 (by decide +kernel) ?_
  refine J_iconst (v := nI 0) dX8_takesAnvil_18 (by decide +kernel) ?_
  refine J_iconst (v := nI 5) dX8_takesAnvil_19 (by decide +kernel) ?_
  refine J_callV (M' := mX8_takes) (d' := (5, 0, 0)) (rest := []) dX8_takesAnvil_20 jmX8_takes jlRX8_234 (ctX8_takes 0 0 5 (i + 1) xa xb dt mo bn ta1_2 tl1_3 tk1_4 va1_5 BY F VA hset_eq ((hset_ne (by omega)).trans H1) ((hset_ne (by omega)).trans H2) (by omega) (by first | assumption | omega) (by first | assumption | omega) (by first | assumption | omega) (by first | assumption | omega) (by first | assumption | omega) (by first | assumption | omega) (by first | assumption | omega)) hset_eq (by omega) jk8.1 rfl rfl (Nat.le_of_ble_eq_true rfl) (Nat.le_of_ble_eq_true rfl) (by constructor <;> decide +kernel) (fun v9 h9 n9 q9 => ?_)
  obtain ⟨rfl, hn9, ta1_7, tl1_8, tk1_9, va1_10, rfl, hst1_11⟩ := q9
  replace hn9 := hn9.symm
  subst hn9
  refine J.cast ((hset_comm (by omega)).trans (hset_cg hset_hset rfl)) ?_
  refine J.stk (st' := [.int (nI 1)]) rfl ?_
  refine J_if_eqN (tgt := 70) dX8_takesAnvil_23 (by decide) (by omega) (fun z => absurd z (by decide)) (fun _ => ?_)
  refine J_aload_n dX8_takesAnvil_26 rfl ?_
  refine J_iconst (v := nI 1) dX8_takesAnvil_27 (by decide +kernel) ?_
  refine J_iconst (v := nI 0) dX8_takesAnvil_28 (by decide +kernel) ?_
  refine J_bipush (v := nI 20) dX8_takesAnvil_29 (by decide +kernel) ?_
  refine J_callV (M' := mX8_takes) (d' := (5, 0, 0)) (rest := []) dX8_takesAnvil_31 jmX8_takes jlRX8_234 (ctX8_takes 1 0 20 (i + 1 + 1) xa xb dt mo bn ta1_7 tl1_8 tk1_9 va1_10 BY F (updN VA 0 (vT F bn (i + 1))) ((hset_ne (by omega)).trans hset_eq) ((hset_ne (by omega)).trans ((hset_ne (by omega)).trans H1)) hset_eq (by omega) (by first | assumption | omega) (by first | assumption | omega) (by first | assumption | omega) (by first | assumption | omega) (by first | assumption | omega) (by first | assumption | omega) (by first | assumption | omega)) ((hset_ne (by omega)).trans hset_eq) (by omega) jk8.1 rfl rfl (Nat.le_of_ble_eq_true rfl) (Nat.le_of_ble_eq_true rfl) (by constructor <;> decide +kernel) (fun v9 h9 n9 q9 => ?_)
  obtain ⟨rfl, hn9, ta1_13, tl1_14, tk1_15, va1_16, rfl, hst1_17⟩ := q9
  replace hn9 := hn9.symm
  subst hn9
  refine J.cast ((hset_cg hset_hset rfl).trans ((hset_comm (by omega)).trans (hset_cg hset_hset rfl))) ?_
  refine J.stk (st' := [.int (nI 1)]) rfl ?_
  refine J_if_eqN (tgt := 70) dX8_takesAnvil_34 (by decide) (by omega) (fun z => absurd z (by decide)) (fun _ => ?_)
  refine J_aload_n dX8_takesAnvil_37 rfl ?_
  refine J_iconst (v := nI 2) dX8_takesAnvil_38 (by decide +kernel) ?_
  refine J_iconst (v := nI 0) dX8_takesAnvil_39 (by decide +kernel) ?_
  refine J_bipush (v := nI 20) dX8_takesAnvil_40 (by decide +kernel) ?_
  refine J_callV (M' := mX8_takes) (d' := (5, 0, 0)) (rest := []) dX8_takesAnvil_42 jmX8_takes jlRX8_234 (ctX8_takes 2 0 20 (i + 1 + 1 + 1) xa xb dt mo bn ta1_13 tl1_14 tk1_15 va1_16 BY F (updN (updN VA 0 (vT F bn (i + 1))) 1 (vT F bn (i + 1 + 1))) ((hset_ne (by omega)).trans hset_eq) ((hset_ne (by omega)).trans ((hset_ne (by omega)).trans H1)) hset_eq (by omega) (by first | assumption | omega) (by first | assumption | omega) (by first | assumption | omega) (by first | assumption | omega) (by first | assumption | omega) (by first | assumption | omega) (by first | assumption | omega)) ((hset_ne (by omega)).trans hset_eq) (by omega) jk8.1 rfl rfl (Nat.le_of_ble_eq_true rfl) (Nat.le_of_ble_eq_true rfl) (by constructor <;> decide +kernel) (fun v9 h9 n9 q9 => ?_)
  obtain ⟨rfl, hn9, ta1_19, tl1_20, tk1_21, va1_22, rfl, hst1_23⟩ := q9
  replace hn9 := hn9.symm
  subst hn9
  refine J.cast ((hset_cg hset_hset rfl).trans ((hset_comm (by omega)).trans (hset_cg hset_hset rfl))) ?_
  refine J.stk (st' := [.int (nI 1)]) rfl ?_
  refine J_if_eqN (tgt := 70) dX8_takesAnvil_45 (by decide) (by omega) (fun z => absurd z (by decide)) (fun _ => ?_)
  refine J_aload_n dX8_takesAnvil_48 rfl ?_
  refine J_iconst (v := nI 3) dX8_takesAnvil_49 (by decide +kernel) ?_
  refine J_iconst (v := nI 0) dX8_takesAnvil_50 (by decide +kernel) ?_
  refine J_bipush (v := nI 20) dX8_takesAnvil_51 (by decide +kernel) ?_
  refine J_callV (M' := mX8_takes) (d' := (5, 0, 0)) (rest := []) dX8_takesAnvil_53 jmX8_takes jlRX8_234 (ctX8_takes 3 0 20 (i + 1 + 1 + 1 + 1) xa xb dt mo bn ta1_19 tl1_20 tk1_21 va1_22 BY F (updN (updN (updN VA 0 (vT F bn (i + 1))) 1 (vT F bn (i + 1 + 1))) 2 (vT F bn (i + 1 + 1 + 1))) ((hset_ne (by omega)).trans hset_eq) ((hset_ne (by omega)).trans ((hset_ne (by omega)).trans H1)) hset_eq (by omega) (by first | assumption | omega) (by first | assumption | omega) (by first | assumption | omega) (by first | assumption | omega) (by first | assumption | omega) (by first | assumption | omega) (by first | assumption | omega)) ((hset_ne (by omega)).trans hset_eq) (by omega) jk8.1 rfl rfl (Nat.le_of_ble_eq_true rfl) (Nat.le_of_ble_eq_true rfl) (by constructor <;> decide +kernel) (fun v9 h9 n9 q9 => ?_)
  obtain ⟨rfl, hn9, ta1_25, tl1_26, tk1_27, va1_28, rfl, hst1_29⟩ := q9
  replace hn9 := hn9.symm
  subst hn9
  refine J.cast ((hset_cg hset_hset rfl).trans ((hset_comm (by omega)).trans (hset_cg hset_hset rfl))) ?_
  refine J.stk (st' := [.int (nI 1)]) rfl ?_
  refine J_if_eqN (tgt := 70) dX8_takesAnvil_56 (by decide) (by omega) (fun z => absurd z (by decide)) (fun _ => ?_)
  refine J_aload_n dX8_takesAnvil_59 rfl ?_
  refine J_iconst (v := nI 4) dX8_takesAnvil_60 (by decide +kernel) ?_
  refine J_iconst (v := nI 0) dX8_takesAnvil_61 (by decide +kernel) ?_
  refine J_bipush (v := nI 20) dX8_takesAnvil_62 (by decide +kernel) ?_
  refine J_callV (M' := mX8_takes) (d' := (5, 0, 0)) (rest := []) dX8_takesAnvil_64 jmX8_takes jlRX8_234 (ctX8_takes 4 0 20 (i + 1 + 1 + 1 + 1 + 1) xa xb dt mo bn ta1_25 tl1_26 tk1_27 va1_28 BY F (updN (updN (updN (updN VA 0 (vT F bn (i + 1))) 1 (vT F bn (i + 1 + 1))) 2 (vT F bn (i + 1 + 1 + 1))) 3 (vT F bn (i + 1 + 1 + 1 + 1))) ((hset_ne (by omega)).trans hset_eq) ((hset_ne (by omega)).trans ((hset_ne (by omega)).trans H1)) hset_eq (by omega) (by first | assumption | omega) (by first | assumption | omega) (by first | assumption | omega) (by first | assumption | omega) (by first | assumption | omega) (by first | assumption | omega) (by first | assumption | omega)) ((hset_ne (by omega)).trans hset_eq) (by omega) jk8.1 rfl rfl (Nat.le_of_ble_eq_true rfl) (Nat.le_of_ble_eq_true rfl) (by constructor <;> decide +kernel) (fun v9 h9 n9 q9 => ?_)
  obtain ⟨rfl, hn9, ta1_31, tl1_32, tk1_33, va1_34, rfl, hst1_35⟩ := q9
  replace hn9 := hn9.symm
  subst hn9
  refine J.cast ((hset_cg hset_hset rfl).trans ((hset_comm (by omega)).trans (hset_cg hset_hset rfl))) ?_
  refine J.stk (st' := [.int (nI 1)]) rfl ?_
  refine J_if_neN (tgt := 72) dX8_takesAnvil_67 (by decide) (by omega) (fun _ => ?_) (fun z => absurd z (by decide))
  refine J_aload_n dX8_takesAnvil_72 rfl ?_
  refine J_get 18 dX8_takesAnvil_73 jk8 (Nat.le_of_ble_eq_true rfl) jfRX8_42 ((hset_ne (by omega)).trans hset_eq) (by omega) rfl ?_
  refine J_aload_n dX8_takesAnvil_76 rfl ?_
  refine J_get 19 dX8_takesAnvil_77 jk8 (Nat.le_of_ble_eq_true rfl) jfRX8_45 ((hset_ne (by omega)).trans hset_eq) (by omega) rfl ?_
  refine J_iconst (v := nI 0) dX8_takesAnvil_80 (by decide +kernel) ?_
  refine J_ialdN (i := 0) dX8_takesAnvil_81 hset_eq (by omega) (by omega) (by omega) ?_
  refine J_aload_n dX8_takesAnvil_82 rfl ?_
  refine J_get 19 dX8_takesAnvil_83 jk8 (Nat.le_of_ble_eq_true rfl) jfRX8_45 ((hset_ne (by omega)).trans hset_eq) (by omega) rfl ?_
  refine J_iconst (v := nI 1) dX8_takesAnvil_86 (by decide +kernel) ?_
  refine J_ialdN (i := 1) dX8_takesAnvil_87 hset_eq (by omega) (by omega) (by omega) ?_
  refine J_aload_n dX8_takesAnvil_88 rfl ?_
  refine J_get 19 dX8_takesAnvil_89 jk8 (Nat.le_of_ble_eq_true rfl) jfRX8_45 ((hset_ne (by omega)).trans hset_eq) (by omega) rfl ?_
  refine J_iconst (v := nI 2) dX8_takesAnvil_92 (by decide +kernel) ?_
  refine J_ialdN (i := 2) dX8_takesAnvil_93 hset_eq (by omega) (by omega) (by omega) ?_
  refine J_aload_n dX8_takesAnvil_94 rfl ?_
  refine J_get 19 dX8_takesAnvil_95 jk8 (Nat.le_of_ble_eq_true rfl) jfRX8_45 ((hset_ne (by omega)).trans hset_eq) (by omega) rfl ?_
  refine J_iconst (v := nI 3) dX8_takesAnvil_98 (by decide +kernel) ?_
  refine J_ialdN (i := 3) dX8_takesAnvil_99 hset_eq (by omega) (by omega) (by omega) ?_
  refine J_aload_n dX8_takesAnvil_100 rfl ?_
  refine J_get 19 dX8_takesAnvil_101 jk8 (Nat.le_of_ble_eq_true rfl) jfRX8_45 ((hset_ne (by omega)).trans hset_eq) (by omega) rfl ?_
  refine J_iconst (v := nI 4) dX8_takesAnvil_104 (by decide +kernel) ?_
  refine J_ialdN (i := 4) dX8_takesAnvil_105 hset_eq (by omega) (by omega) (by omega) ?_
  refine J_callSn (M' := mX8_layAnvil) (d' := (1, 0, 0)) (rest := []) dX8_takesAnvil_106 jmX8_layAnvil jlRX8_79 (ctX8_layAnvil 48 74 ((updN (updN (updN (updN (updN VA 0 (vT F bn (i + 1))) 1 (vT F bn (i + 1 + 1))) 2 (vT F bn (i + 1 + 1 + 1))) 3 (vT F bn (i + 1 + 1 + 1 + 1))) 4 (vT F bn (i + 1 + 1 + 1 + 1 + 1))) 0) ((updN (updN (updN (updN (updN VA 0 (vT F bn (i + 1))) 1 (vT F bn (i + 1 + 1))) 2 (vT F bn (i + 1 + 1 + 1))) 3 (vT F bn (i + 1 + 1 + 1 + 1))) 4 (vT F bn (i + 1 + 1 + 1 + 1 + 1))) 1) ((updN (updN (updN (updN (updN VA 0 (vT F bn (i + 1))) 1 (vT F bn (i + 1 + 1))) 2 (vT F bn (i + 1 + 1 + 1))) 3 (vT F bn (i + 1 + 1 + 1 + 1))) 4 (vT F bn (i + 1 + 1 + 1 + 1 + 1))) 2) ((updN (updN (updN (updN (updN VA 0 (vT F bn (i + 1))) 1 (vT F bn (i + 1 + 1))) 2 (vT F bn (i + 1 + 1 + 1))) 3 (vT F bn (i + 1 + 1 + 1 + 1))) 4 (vT F bn (i + 1 + 1 + 1 + 1 + 1))) 3) ((updN (updN (updN (updN (updN VA 0 (vT F bn (i + 1))) 1 (vT F bn (i + 1 + 1))) 2 (vT F bn (i + 1 + 1 + 1))) 3 (vT F bn (i + 1 + 1 + 1 + 1))) 4 (vT F bn (i + 1 + 1 + 1 + 1 + 1))) 4) AN ((hset_ne (by omega)).trans ((hset_ne (by omega)).trans H3)) (by omega) (by first | assumption | omega) (by first | assumption | omega) (by first | assumption | omega)) rfl rfl (Nat.le_of_ble_eq_true rfl) (Nat.le_of_ble_eq_true rfl) ⟨Nat.le_refl _, Nat.le_refl _⟩ ?_
  refine J_iconst (v := nI 1) dX8_takesAnvil_109 (by decide +kernel) ?_
  exact J_zret dX8_takesAnvil_110 rfl rfl ⟨Nat.le_refl _, Nat.le_refl _⟩ (by rw [hPP]; exact ⟨rfl, rfl, (updN (updN (updN (updN (updN VA 0 (vT F bn (i + 1))) 1 (vT F bn (i + 1 + 1))) 2 (vT F bn (i + 1 + 1 + 1))) 3 (vT F bn (i + 1 + 1 + 1 + 1))) 4 (vT F bn (i + 1 + 1 + 1 + 1 + 1))), ta1_31, tl1_32, tk1_33, va1_34, (hset_cg (hset_cg (hset_cg rfl rfl) rfl) (cI_cg (by intro z; rfl))), (by assumption)⟩)

set_option maxHeartbeats 1000000 in
set_option maxRecDepth 100000 in
theorem ctX8_takesWork_n0 {E : jE} {h : Nat → va_E} {n : Nat} (i : Nat) (xa : Nat) (xb : Nat) (dt : Nat) (mo : Nat) (bn : Nat) (ta : Nat) (tl : Nat) (tk : Nat) (va : Nat) (BY : Nat → Nat) (F : Nat → Nat) (VA : Nat → Nat) (AN : Nat → Nat) (H0 : h 38 = .inr (7, [.ref (E.1 + 39), .ref (E.1 + 40), .ref (E.1 + 41), .ref (E.1 + 42), .long (lN xa), .long (lN xb), .ref (E.1 + 43), .int (nI dt), .ref (E.1 + 44), .ref (E.1 + 45), .int (nI mo), .ref (E.1 + 46), .ref (E.1 + 47), .int (nI bn), .int (nI ta), .int (nI tl), .int (nI tk), .int (nI va), .ref (E.1 + 48), .ref (E.1 + 49)])) (H1 : h 47 = cI E 150 (nF BY)) (H2 : h 49 = cI E 5 (nF VA)) (H3 : h 48 = cI E 74 (nF AN)) (hn : 50 ≤ n) (hBY : ∀ zz, zz < bn → BY zz = F zz ∧ F zz ≤ 127) (hbn : bn ≤ 150) (hst : stQ F bn i ta tl tk va) (han : AN 0 = 0) : jC E mX8_takesWork (6, 0, 0) [.ref (E.1 + 38)] h n (fun v h' n' => v = some (.int (nI 0)) ∧ n' = n ∧ ∃ (VA1 : Nat → Nat) (ta1 : Nat) (tl1 : Nat) (tk1 : Nat) (va1 : Nat), h' = (hset (hset h 38 (.inr (7, [.ref (E.1 + 39), .ref (E.1 + 40), .ref (E.1 + 41), .ref (E.1 + 42), .long (lN xa), .long (lN xb), .ref (E.1 + 43), .int (nI dt), .ref (E.1 + 44), .ref (E.1 + 45), .int (nI mo), .ref (E.1 + 46), .ref (E.1 + 47), .int (nI bn), .int (nI ta1), .int (nI tl1), .int (nI tk1), .int (nI va1), .ref (E.1 + 48), .ref (E.1 + 49)]))) 49 (cI E 5 (nF VA1))) ∧ (stQ F bn (i + 1) ta1 tl1 tk1 va1)) := by
  refine J.of (L := [(0, .ref (E.1 + 38))]) rfl (by decide +kernel) (Nat.le_of_ble_eq_true rfl) ?_
  obtain ⟨PP, hPP⟩ : ∃ PP : jPost, PP = (fun v h' n' => v = some (.int (nI 0)) ∧ n' = n ∧ ∃ (VA1 : Nat → Nat) (ta1 : Nat) (tl1 : Nat) (tk1 : Nat) (va1 : Nat), h' = (hset (hset h 38 (.inr (7, [.ref (E.1 + 39), .ref (E.1 + 40), .ref (E.1 + 41), .ref (E.1 + 42), .long (lN xa), .long (lN xb), .ref (E.1 + 43), .int (nI dt), .ref (E.1 + 44), .ref (E.1 + 45), .int (nI mo), .ref (E.1 + 46), .ref (E.1 + 47), .int (nI bn), .int (nI ta1), .int (nI tl1), .int (nI tk1), .int (nI va1), .ref (E.1 + 48), .ref (E.1 + 49)]))) 49 (cI E 5 (nF VA1))) ∧ (stQ F bn (i + 1) ta1 tl1 tk1 va1)) := ⟨_, rfl⟩
  rw [← hPP]
  refine J_aload_n dX8_takesWork_0 rfl ?_
  refine J_callV (M' := mX8_goBehind) (d' := (4, 0, 0)) (rest := []) dX8_takesWork_1 jmX8_goBehind jlRX8_227 (ctX8_goBehind i xa xb dt mo bn ta tl tk va BY F H0 H1 (by omega) (by first | assumption | omega) (by first | assumption | omega) (by first | assumption | omega)) H0 (by omega) jk8.1 rfl rfl (Nat.le_of_ble_eq_true rfl) (Nat.le_of_ble_eq_true rfl) (by constructor <;> decide +kernel) (fun v9 h9 n9 q9 => ?_)
  obtain ⟨rfl, hn9, ta1_1, tl1_2, tk1_3, va1_4, rfl, hst1_5⟩ := q9
  replace hn9 := hn9.symm
  subst hn9
  refine J.stk (st' := []) rfl ?_
  refine J_aload_n dX8_takesWork_4 rfl ?_
  refine J_iconst (v := nI 0) dX8_takesWork_5 (by decide +kernel) ?_
  refine J_iconst (v := nI 0) dX8_takesWork_6 (by decide +kernel) ?_
  refine J_aload_n dX8_takesWork_7 rfl ?_
  refine J_get 18 dX8_takesWork_8 jk8 (Nat.le_of_ble_eq_true rfl) jfRX8_42 hset_eq (by omega) rfl ?_
  refine J_iconst (v := nI 0) dX8_takesWork_11 (by decide +kernel) ?_
  refine J_ialdN (i := 0) dX8_takesWork_12 ((hset_ne (by omega)).trans H3) (by omega) (by omega) (by omega) ?_
  refine J_iconst (v := nI 1) dX8_takesWork_13 (by decide +kernel) ?_
  refine J_isub dX8_takesWork_14 ?_
  refine J_callVr (M' := mX8_takes) (d' := (5, 0, 0)) (rest := []) dX8_takesWork_15 jmX8_takes jlRX8_234 (ctX8_takes_neg ((nI (AN 0)) - (nI 1)) 0 (i + 1) xa xb dt mo bn ta1_1 tl1_2 tk1_3 va1_4 BY F VA hset_eq ((hset_ne (by omega)).trans H1) ((hset_ne (by omega)).trans H2) (by omega) (by first | assumption | omega) (by first | assumption | omega) (by first | assumption | omega) (by rw [show AN 0 = 0 by omega]; decide +kernel)) hset_eq (by omega) jk8.1 rfl rfl (Nat.le_of_ble_eq_true rfl) (Nat.le_of_ble_eq_true rfl) ⟨Nat.le_refl _, Nat.le_refl _⟩ ?_
  refine J_if_eqN (tgt := 41) dX8_takesWork_18 (by decide) (by omega) (fun _ => ?_) (fun z => absurd z (by decide))
  refine J_iconst (v := nI 0) dX8_takesWork_41 (by decide +kernel) ?_
  exact J_zret dX8_takesWork_42 rfl rfl ⟨Nat.le_refl _, Nat.le_refl _⟩ (by rw [hPP]; exact ⟨rfl, rfl, VA, ta1_1, tl1_2, tk1_3, va1_4, ((show (hset h 38 (.inr (7, [.ref (E.1 + 39), .ref (E.1 + 40), .ref (E.1 + 41), .ref (E.1 + 42), .long (lN xa), .long (lN xb), .ref (E.1 + 43), .int (nI dt), .ref (E.1 + 44), .ref (E.1 + 45), .int (nI mo), .ref (E.1 + 46), .ref (E.1 + 47), .int (nI bn), .int (nI ta1_1), .int (nI tl1_2), .int (nI tk1_3), .int (nI va1_4), .ref (E.1 + 48), .ref (E.1 + 49)]))) = (hset (hset h 38 (.inr (7, [.ref (E.1 + 39), .ref (E.1 + 40), .ref (E.1 + 41), .ref (E.1 + 42), .long (lN xa), .long (lN xb), .ref (E.1 + 43), .int (nI dt), .ref (E.1 + 44), .ref (E.1 + 45), .int (nI mo), .ref (E.1 + 46), .ref (E.1 + 47), .int (nI bn), .int (nI ta1_1), .int (nI tl1_2), .int (nI tk1_3), .int (nI va1_4), .ref (E.1 + 48), .ref (E.1 + 49)]))) 49 (cI E 5 (nF VA))) by funext z; simp only [hset]; (repeat' split) <;> first | rfl | (exfalso; omega) | (subst_vars; first | exact H2)).trans (hset_cg (hset_cg rfl rfl) rfl)), (by assumption)⟩)

set_option maxHeartbeats 1000000 in
set_option maxRecDepth 100000 in
theorem ctX8_takesWork_no {E : jE} {h : Nat → va_E} {n : Nat} (i : Nat) (xa : Nat) (xb : Nat) (dt : Nat) (mo : Nat) (bn : Nat) (ta : Nat) (tl : Nat) (tk : Nat) (va : Nat) (BY : Nat → Nat) (F : Nat → Nat) (VA : Nat → Nat) (AN : Nat → Nat) (H0 : h 38 = .inr (7, [.ref (E.1 + 39), .ref (E.1 + 40), .ref (E.1 + 41), .ref (E.1 + 42), .long (lN xa), .long (lN xb), .ref (E.1 + 43), .int (nI dt), .ref (E.1 + 44), .ref (E.1 + 45), .int (nI mo), .ref (E.1 + 46), .ref (E.1 + 47), .int (nI bn), .int (nI ta), .int (nI tl), .int (nI tk), .int (nI va), .ref (E.1 + 48), .ref (E.1 + 49)])) (H1 : h 47 = cI E 150 (nF BY)) (H2 : h 49 = cI E 5 (nF VA)) (H3 : h 48 = cI E 74 (nF AN)) (hn : 50 ≤ n) (hBY : ∀ zz, zz < bn → BY zz = F zz ∧ F zz ≤ 127) (hbn : bn ≤ 150) (hst : stQ F bn i ta tl tk va) (han1 : 1 ≤ AN 0) (han : AN 0 ≤ 4) (hno : ¬ wrkOK (kT F bn) (vT F bn) (AN 0) i) : jC E mX8_takesWork (6, 0, 0) [.ref (E.1 + 38)] h n (fun v h' n' => v = some (.int (nI 0)) ∧ n' = n ∧ ∃ (VA1 : Nat → Nat) (ta1 : Nat) (tl1 : Nat) (tk1 : Nat) (va1 : Nat), h' = (hset (hset h 38 (.inr (7, [.ref (E.1 + 39), .ref (E.1 + 40), .ref (E.1 + 41), .ref (E.1 + 42), .long (lN xa), .long (lN xb), .ref (E.1 + 43), .int (nI dt), .ref (E.1 + 44), .ref (E.1 + 45), .int (nI mo), .ref (E.1 + 46), .ref (E.1 + 47), .int (nI bn), .int (nI ta1), .int (nI tl1), .int (nI tk1), .int (nI va1), .ref (E.1 + 48), .ref (E.1 + 49)]))) 49 (cI E 5 (nF VA1))) ∧ (stQ F bn (wrkJ (kT F bn) (vT F bn) (AN 0) i) ta1 tl1 tk1 va1)) := by
  refine J.of (L := [(0, .ref (E.1 + 38))]) rfl (by decide +kernel) (Nat.le_of_ble_eq_true rfl) ?_
  obtain ⟨PP, hPP⟩ : ∃ PP : jPost, PP = (fun v h' n' => v = some (.int (nI 0)) ∧ n' = n ∧ ∃ (VA1 : Nat → Nat) (ta1 : Nat) (tl1 : Nat) (tk1 : Nat) (va1 : Nat), h' = (hset (hset h 38 (.inr (7, [.ref (E.1 + 39), .ref (E.1 + 40), .ref (E.1 + 41), .ref (E.1 + 42), .long (lN xa), .long (lN xb), .ref (E.1 + 43), .int (nI dt), .ref (E.1 + 44), .ref (E.1 + 45), .int (nI mo), .ref (E.1 + 46), .ref (E.1 + 47), .int (nI bn), .int (nI ta1), .int (nI tl1), .int (nI tk1), .int (nI va1), .ref (E.1 + 48), .ref (E.1 + 49)]))) 49 (cI E 5 (nF VA1))) ∧ (stQ F bn (wrkJ (kT F bn) (vT F bn) (AN 0) i) ta1 tl1 tk1 va1)) := ⟨_, rfl⟩
  rw [← hPP]
  refine J_aload_n dX8_takesWork_0 rfl ?_
  refine J_callV (M' := mX8_goBehind) (d' := (4, 0, 0)) (rest := []) dX8_takesWork_1 jmX8_goBehind jlRX8_227 (ctX8_goBehind i xa xb dt mo bn ta tl tk va BY F H0 H1 (by omega) (by first | assumption | omega) (by first | assumption | omega) (by first | assumption | omega)) H0 (by omega) jk8.1 rfl rfl (Nat.le_of_ble_eq_true rfl) (Nat.le_of_ble_eq_true rfl) (by constructor <;> decide +kernel) (fun v9 h9 n9 q9 => ?_)
  obtain ⟨rfl, hn9, ta1_1, tl1_2, tk1_3, va1_4, rfl, hst1_5⟩ := q9
  replace hn9 := hn9.symm
  subst hn9
  refine J.stk (st' := []) rfl ?_
  refine J_aload_n dX8_takesWork_4 rfl ?_
  refine J_iconst (v := nI 0) dX8_takesWork_5 (by decide +kernel) ?_
  refine J_iconst (v := nI 0) dX8_takesWork_6 (by decide +kernel) ?_
  refine J_aload_n dX8_takesWork_7 rfl ?_
  refine J_get 18 dX8_takesWork_8 jk8 (Nat.le_of_ble_eq_true rfl) jfRX8_42 hset_eq (by omega) rfl ?_
  refine J_iconst (v := nI 0) dX8_takesWork_11 (by decide +kernel) ?_
  refine J_ialdN (i := 0) dX8_takesWork_12 ((hset_ne (by omega)).trans H3) (by omega) (by omega) (by omega) ?_
  refine J_iconst (v := nI 1) dX8_takesWork_13 (by decide +kernel) ?_
  refine J_isubN dX8_takesWork_14 (by omega) ?_
  have sp6 : (kT F bn (i + 1) = 5 ∧ 0 ≤ vT F bn (i + 1) ∧ vT F bn (i + 1) ≤ AN 0 - 1) ∨ (¬ (kT F bn (i + 1) = 5 ∧ 0 ≤ vT F bn (i + 1) ∧ vT F bn (i + 1) ≤ AN 0 - 1)) := by exact Classical.em _
  rcases sp6 with sp6 | sp6
  · skip
    refine J_callV (M' := mX8_takes) (d' := (5, 0, 0)) (rest := []) dX8_takesWork_15 jmX8_takes jlRX8_234 (ctX8_takes 0 0 ((AN 0) - 1) (i + 1) xa xb dt mo bn ta1_1 tl1_2 tk1_3 va1_4 BY F VA hset_eq ((hset_ne (by omega)).trans H1) ((hset_ne (by omega)).trans H2) (by omega) (by first | assumption | omega) (by first | assumption | omega) (by first | assumption | omega) (by first | assumption | omega) (by first | assumption | omega) (by first | assumption | omega) (by first | assumption | omega)) hset_eq (by omega) jk8.1 rfl rfl (Nat.le_of_ble_eq_true rfl) (Nat.le_of_ble_eq_true rfl) (by constructor <;> decide +kernel) (fun v9 h9 n9 q9 => ?_)
    obtain ⟨rfl, hn9, ta1_7, tl1_8, tk1_9, va1_10, rfl, hst1_11⟩ := q9
    replace hn9 := hn9.symm
    subst hn9
    refine J.cast ((hset_comm (by omega)).trans (hset_cg hset_hset rfl)) ?_
    refine J.stk (st' := [.int (nI 1)]) rfl ?_
    refine J_if_eqN (tgt := 41) dX8_takesWork_18 (by decide) (by omega) (fun z => absurd z (by decide)) (fun _ => ?_)
    refine J_aload_n dX8_takesWork_21 rfl ?_
    refine J_iconst (v := nI 1) dX8_takesWork_22 (by decide +kernel) ?_
    refine J_iconst (v := nI 0) dX8_takesWork_23 (by decide +kernel) ?_
    refine J_iconst (v := nI 3) dX8_takesWork_24 (by decide +kernel) ?_
    have sp13 : (kT F bn (i + 1 + 1) = 5 ∧ 0 ≤ vT F bn (i + 1 + 1) ∧ vT F bn (i + 1 + 1) ≤ 3) ∨ (¬ (kT F bn (i + 1 + 1) = 5 ∧ 0 ≤ vT F bn (i + 1 + 1) ∧ vT F bn (i + 1 + 1) ≤ 3)) := by exact Classical.em _
    rcases sp13 with sp13 | sp13
    · skip
      refine J_callV (M' := mX8_takes) (d' := (5, 0, 0)) (rest := []) dX8_takesWork_25 jmX8_takes jlRX8_234 (ctX8_takes 1 0 3 (i + 1 + 1) xa xb dt mo bn ta1_7 tl1_8 tk1_9 va1_10 BY F (updN VA 0 (vT F bn (i + 1))) ((hset_ne (by omega)).trans hset_eq) ((hset_ne (by omega)).trans ((hset_ne (by omega)).trans H1)) hset_eq (by omega) (by first | assumption | omega) (by first | assumption | omega) (by first | assumption | omega) (by first | assumption | omega) (by first | assumption | omega) (by first | assumption | omega) (by first | assumption | omega)) ((hset_ne (by omega)).trans hset_eq) (by omega) jk8.1 rfl rfl (Nat.le_of_ble_eq_true rfl) (Nat.le_of_ble_eq_true rfl) (by constructor <;> decide +kernel) (fun v9 h9 n9 q9 => ?_)
      obtain ⟨rfl, hn9, ta1_14, tl1_15, tk1_16, va1_17, rfl, hst1_18⟩ := q9
      replace hn9 := hn9.symm
      subst hn9
      refine J.cast ((hset_cg hset_hset rfl).trans ((hset_comm (by omega)).trans (hset_cg hset_hset rfl))) ?_
      refine J.stk (st' := [.int (nI 1)]) rfl ?_
      refine J_if_eqN (tgt := 41) dX8_takesWork_28 (by decide) (by omega) (fun z => absurd z (by decide)) (fun _ => ?_)
      refine J_aload_n dX8_takesWork_31 rfl ?_
      refine J_iconst (v := nI 2) dX8_takesWork_32 (by decide +kernel) ?_
      refine J_iconst (v := nI 1) dX8_takesWork_33 (by decide +kernel) ?_
      refine J_iconst (v := nI 5) dX8_takesWork_34 (by decide +kernel) ?_
      have sp20 : (kT F bn (i + 1 + 1 + 1) = 5 ∧ 1 ≤ vT F bn (i + 1 + 1 + 1) ∧ vT F bn (i + 1 + 1 + 1) ≤ 5) ∨ (¬ (kT F bn (i + 1 + 1 + 1) = 5 ∧ 1 ≤ vT F bn (i + 1 + 1 + 1) ∧ vT F bn (i + 1 + 1 + 1) ≤ 5)) := by exact Classical.em _
      rcases sp20 with sp20 | sp20
      · skip
        refine J_callV (M' := mX8_takes) (d' := (5, 0, 0)) (rest := []) dX8_takesWork_35 jmX8_takes jlRX8_234 (ctX8_takes 2 1 5 (i + 1 + 1 + 1) xa xb dt mo bn ta1_14 tl1_15 tk1_16 va1_17 BY F (updN (updN VA 0 (vT F bn (i + 1))) 1 (vT F bn (i + 1 + 1))) ((hset_ne (by omega)).trans hset_eq) ((hset_ne (by omega)).trans ((hset_ne (by omega)).trans H1)) hset_eq (by omega) (by first | assumption | omega) (by first | assumption | omega) (by first | assumption | omega) (by first | assumption | omega) (by first | assumption | omega) (by first | assumption | omega) (by first | assumption | omega)) ((hset_ne (by omega)).trans hset_eq) (by omega) jk8.1 rfl rfl (Nat.le_of_ble_eq_true rfl) (Nat.le_of_ble_eq_true rfl) (by constructor <;> decide +kernel) (fun v9 h9 n9 q9 => ?_)
        obtain ⟨rfl, hn9, ta1_21, tl1_22, tk1_23, va1_24, rfl, hst1_25⟩ := q9
        replace hn9 := hn9.symm
        subst hn9
        refine J.cast ((hset_cg hset_hset rfl).trans ((hset_comm (by omega)).trans (hset_cg hset_hset rfl))) ?_
        refine J.stk (st' := [.int (nI 1)]) rfl ?_
        refine J_if_neN (tgt := 43) dX8_takesWork_38 (by decide) (by omega) (fun _ => ?_) (fun z => absurd z (by decide))
        exact absurd (show wrkOK (kT F bn) (vT F bn) (AN 0) i from ⟨⟨by omega, by omega⟩, ⟨by omega, by omega⟩, ⟨by omega, by omega⟩, by omega⟩) hno
      · skip
        refine J_callVr (M' := mX8_takes) (d' := (5, 0, 0)) (rest := []) dX8_takesWork_35 jmX8_takes jlRX8_234 (ctX8_takes_no 2 1 5 (i + 1 + 1 + 1) xa xb dt mo bn ta1_14 tl1_15 tk1_16 va1_17 BY F (updN (updN VA 0 (vT F bn (i + 1))) 1 (vT F bn (i + 1 + 1))) ((hset_ne (by omega)).trans hset_eq) ((hset_ne (by omega)).trans ((hset_ne (by omega)).trans H1)) hset_eq (by omega) (by first | assumption | omega) (by first | assumption | omega) (by first | assumption | omega) (by first | assumption | omega) (by first | assumption | omega) (by first | assumption | omega)) ((hset_ne (by omega)).trans hset_eq) (by omega) jk8.1 rfl rfl (Nat.le_of_ble_eq_true rfl) (Nat.le_of_ble_eq_true rfl) ⟨Nat.le_refl _, Nat.le_refl _⟩ ?_
        refine J_if_neN (tgt := 43) dX8_takesWork_38 (by decide) (by omega) (fun z => absurd z (by decide)) (fun _ => ?_)
        refine J_iconst (v := nI 0) dX8_takesWork_41 (by decide +kernel) ?_
        exact J_zret dX8_takesWork_42 rfl rfl ⟨Nat.le_refl _, Nat.le_refl _⟩ (by rw [hPP]; exact ⟨rfl, rfl, (updN (updN VA 0 (vT F bn (i + 1))) 1 (vT F bn (i + 1 + 1))), ta1_14, tl1_15, tk1_16, va1_17, rfl, (by first | (rw [← wrkJ_1 (k := kT F bn) (v := vT F bn) (an := AN 0) (i := i) (by omega)]; assumption) | (rw [← wrkJ_2 (k := kT F bn) (v := vT F bn) (an := AN 0) (i := i) (by omega) (by omega)]; assumption) | (rw [← wrkJ_3 (k := kT F bn) (v := vT F bn) (an := AN 0) (i := i) (by omega) (by omega)]; assumption))⟩)
    · skip
      refine J_callVr (M' := mX8_takes) (d' := (5, 0, 0)) (rest := []) dX8_takesWork_25 jmX8_takes jlRX8_234 (ctX8_takes_no 1 0 3 (i + 1 + 1) xa xb dt mo bn ta1_7 tl1_8 tk1_9 va1_10 BY F (updN VA 0 (vT F bn (i + 1))) ((hset_ne (by omega)).trans hset_eq) ((hset_ne (by omega)).trans ((hset_ne (by omega)).trans H1)) hset_eq (by omega) (by first | assumption | omega) (by first | assumption | omega) (by first | assumption | omega) (by first | assumption | omega) (by first | assumption | omega) (by first | assumption | omega)) ((hset_ne (by omega)).trans hset_eq) (by omega) jk8.1 rfl rfl (Nat.le_of_ble_eq_true rfl) (Nat.le_of_ble_eq_true rfl) ⟨Nat.le_refl _, Nat.le_refl _⟩ ?_
      refine J_if_eqN (tgt := 41) dX8_takesWork_28 (by decide) (by omega) (fun _ => ?_) (fun z => absurd z (by decide))
      refine J_iconst (v := nI 0) dX8_takesWork_41 (by decide +kernel) ?_
      exact J_zret dX8_takesWork_42 rfl rfl ⟨Nat.le_refl _, Nat.le_refl _⟩ (by rw [hPP]; exact ⟨rfl, rfl, (updN VA 0 (vT F bn (i + 1))), ta1_7, tl1_8, tk1_9, va1_10, rfl, (by first | (rw [← wrkJ_1 (k := kT F bn) (v := vT F bn) (an := AN 0) (i := i) (by omega)]; assumption) | (rw [← wrkJ_2 (k := kT F bn) (v := vT F bn) (an := AN 0) (i := i) (by omega) (by omega)]; assumption) | (rw [← wrkJ_3 (k := kT F bn) (v := vT F bn) (an := AN 0) (i := i) (by omega) (by omega)]; assumption))⟩)
  · skip
    refine J_callVr (M' := mX8_takes) (d' := (5, 0, 0)) (rest := []) dX8_takesWork_15 jmX8_takes jlRX8_234 (ctX8_takes_no 0 0 ((AN 0) - 1) (i + 1) xa xb dt mo bn ta1_1 tl1_2 tk1_3 va1_4 BY F VA hset_eq ((hset_ne (by omega)).trans H1) ((hset_ne (by omega)).trans H2) (by omega) (by first | assumption | omega) (by first | assumption | omega) (by first | assumption | omega) (by first | assumption | omega) (by first | assumption | omega) (by first | assumption | omega)) hset_eq (by omega) jk8.1 rfl rfl (Nat.le_of_ble_eq_true rfl) (Nat.le_of_ble_eq_true rfl) ⟨Nat.le_refl _, Nat.le_refl _⟩ ?_
    refine J_if_eqN (tgt := 41) dX8_takesWork_18 (by decide) (by omega) (fun _ => ?_) (fun z => absurd z (by decide))
    refine J_iconst (v := nI 0) dX8_takesWork_41 (by decide +kernel) ?_
    exact J_zret dX8_takesWork_42 rfl rfl ⟨Nat.le_refl _, Nat.le_refl _⟩ (by rw [hPP]; exact ⟨rfl, rfl, VA, ta1_1, tl1_2, tk1_3, va1_4, ((show (hset h 38 (.inr (7, [.ref (E.1 + 39), .ref (E.1 + 40), .ref (E.1 + 41), .ref (E.1 + 42), .long (lN xa), .long (lN xb), .ref (E.1 + 43), .int (nI dt), .ref (E.1 + 44), .ref (E.1 + 45), .int (nI mo), .ref (E.1 + 46), .ref (E.1 + 47), .int (nI bn), .int (nI ta1_1), .int (nI tl1_2), .int (nI tk1_3), .int (nI va1_4), .ref (E.1 + 48), .ref (E.1 + 49)]))) = (hset (hset h 38 (.inr (7, [.ref (E.1 + 39), .ref (E.1 + 40), .ref (E.1 + 41), .ref (E.1 + 42), .long (lN xa), .long (lN xb), .ref (E.1 + 43), .int (nI dt), .ref (E.1 + 44), .ref (E.1 + 45), .int (nI mo), .ref (E.1 + 46), .ref (E.1 + 47), .int (nI bn), .int (nI ta1_1), .int (nI tl1_2), .int (nI tk1_3), .int (nI va1_4), .ref (E.1 + 48), .ref (E.1 + 49)]))) 49 (cI E 5 (nF VA))) by funext z; simp only [hset]; (repeat' split) <;> first | rfl | (exfalso; omega) | (subst_vars; first | exact H2)).trans (hset_cg (hset_cg rfl rfl) rfl)), (by first | (rw [← wrkJ_1 (k := kT F bn) (v := vT F bn) (an := AN 0) (i := i) (by omega)]; assumption) | (rw [← wrkJ_2 (k := kT F bn) (v := vT F bn) (an := AN 0) (i := i) (by omega) (by omega)]; assumption) | (rw [← wrkJ_3 (k := kT F bn) (v := vT F bn) (an := AN 0) (i := i) (by omega) (by omega)]; assumption))⟩)

set_option maxHeartbeats 1000000 in
set_option maxRecDepth 100000 in
theorem ctX8_takesWork {E : jE} {h : Nat → va_E} {n : Nat} (i : Nat) (xa : Nat) (xb : Nat) (dt : Nat) (mo : Nat) (bn : Nat) (ta : Nat) (tl : Nat) (tk : Nat) (va : Nat) (BY : Nat → Nat) (F : Nat → Nat) (VA : Nat → Nat) (AN : Nat → Nat) (H0 : h 38 = .inr (7, [.ref (E.1 + 39), .ref (E.1 + 40), .ref (E.1 + 41), .ref (E.1 + 42), .long (lN xa), .long (lN xb), .ref (E.1 + 43), .int (nI dt), .ref (E.1 + 44), .ref (E.1 + 45), .int (nI mo), .ref (E.1 + 46), .ref (E.1 + 47), .int (nI bn), .int (nI ta), .int (nI tl), .int (nI tk), .int (nI va), .ref (E.1 + 48), .ref (E.1 + 49)])) (H1 : h 47 = cI E 150 (nF BY)) (H2 : h 49 = cI E 5 (nF VA)) (H3 : h 48 = cI E 74 (nF AN)) (hn : 50 ≤ n) (hBY : ∀ zz, zz < bn → BY zz = F zz ∧ F zz ≤ 127) (hbn : bn ≤ 150) (hst : stQ F bn i ta tl tk va) (han : AN 0 ≤ 4) (hA22 : ∀ zz, zz < 4 → AN (22 + zz) ≤ 5) (hA4 : ∀ zz, zz < 16 → AN (4 + zz) ≤ 20) (hok : wrkOK (kT F bn) (vT F bn) (AN 0) i) : jC E mX8_takesWork (6, 0, 0) [.ref (E.1 + 38)] h n (fun v h' n' => v = some (.int (nI 1)) ∧ n' = n ∧ ∃ (VA1 : Nat → Nat) (ta1 : Nat) (tl1 : Nat) (tk1 : Nat) (va1 : Nat), h' = (hset (hset (hset h 38 (.inr (7, [.ref (E.1 + 39), .ref (E.1 + 40), .ref (E.1 + 41), .ref (E.1 + 42), .long (lN xa), .long (lN xb), .ref (E.1 + 43), .int (nI dt), .ref (E.1 + 44), .ref (E.1 + 45), .int (nI mo), .ref (E.1 + 46), .ref (E.1 + 47), .int (nI bn), .int (nI ta1), .int (nI tl1), .int (nI tk1), .int (nI va1), .ref (E.1 + 48), .ref (E.1 + 49)]))) 49 (cI E 5 (nF VA1))) 48 (cI E 74 (nF (wrkQ AN (vT F bn (i + 1)) (vT F bn (i + 1 + 1)) (vT F bn (i + 1 + 1 + 1)))))) ∧ (stQ F bn (i + 1 + 1 + 1 + 1) ta1 tl1 tk1 va1)) := by
  refine J.of (L := [(0, .ref (E.1 + 38))]) rfl (by decide +kernel) (Nat.le_of_ble_eq_true rfl) ?_
  obtain ⟨PP, hPP⟩ : ∃ PP : jPost, PP = (fun v h' n' => v = some (.int (nI 1)) ∧ n' = n ∧ ∃ (VA1 : Nat → Nat) (ta1 : Nat) (tl1 : Nat) (tk1 : Nat) (va1 : Nat), h' = (hset (hset (hset h 38 (.inr (7, [.ref (E.1 + 39), .ref (E.1 + 40), .ref (E.1 + 41), .ref (E.1 + 42), .long (lN xa), .long (lN xb), .ref (E.1 + 43), .int (nI dt), .ref (E.1 + 44), .ref (E.1 + 45), .int (nI mo), .ref (E.1 + 46), .ref (E.1 + 47), .int (nI bn), .int (nI ta1), .int (nI tl1), .int (nI tk1), .int (nI va1), .ref (E.1 + 48), .ref (E.1 + 49)]))) 49 (cI E 5 (nF VA1))) 48 (cI E 74 (nF (wrkQ AN (vT F bn (i + 1)) (vT F bn (i + 1 + 1)) (vT F bn (i + 1 + 1 + 1)))))) ∧ (stQ F bn (i + 1 + 1 + 1 + 1) ta1 tl1 tk1 va1)) := ⟨_, rfl⟩
  rw [← hPP]
  obtain ⟨⟨a1, b1⟩, ⟨a2, b2⟩, ⟨a3, b3⟩, b4⟩ := id hok
  refine J_aload_n dX8_takesWork_0 rfl ?_
  refine J_callV (M' := mX8_goBehind) (d' := (4, 0, 0)) (rest := []) dX8_takesWork_1 jmX8_goBehind jlRX8_227 (ctX8_goBehind i xa xb dt mo bn ta tl tk va BY F H0 H1 (by omega) (by first | assumption | omega) (by first | assumption | omega) (by first | assumption | omega)) H0 (by omega) jk8.1 rfl rfl (Nat.le_of_ble_eq_true rfl) (Nat.le_of_ble_eq_true rfl) (by constructor <;> decide +kernel) (fun v9 h9 n9 q9 => ?_)
  obtain ⟨rfl, hn9, ta1_1, tl1_2, tk1_3, va1_4, rfl, hst1_5⟩ := q9
  replace hn9 := hn9.symm
  subst hn9
  refine J.stk (st' := []) rfl ?_
  refine J_aload_n dX8_takesWork_4 rfl ?_
  refine J_iconst (v := nI 0) dX8_takesWork_5 (by decide +kernel) ?_
  refine J_iconst (v := nI 0) dX8_takesWork_6 (by decide +kernel) ?_
  refine J_aload_n dX8_takesWork_7 rfl ?_
  refine J_get 18 dX8_takesWork_8 jk8 (Nat.le_of_ble_eq_true rfl) jfRX8_42 hset_eq (by omega) rfl ?_
  refine J_iconst (v := nI 0) dX8_takesWork_11 (by decide +kernel) ?_
  refine J_ialdN (i := 0) dX8_takesWork_12 ((hset_ne (by omega)).trans H3) (by omega) (by omega) (by omega) ?_
  refine J_iconst (v := nI 1) dX8_takesWork_13 (by decide +kernel) ?_
  refine J_isubN dX8_takesWork_14 (by omega) ?_
  refine J_callV (M' := mX8_takes) (d' := (5, 0, 0)) (rest := []) dX8_takesWork_15 jmX8_takes jlRX8_234 (ctX8_takes 0 0 ((AN 0) - 1) (i + 1) xa xb dt mo bn ta1_1 tl1_2 tk1_3 va1_4 BY F VA hset_eq ((hset_ne (by omega)).trans H1) ((hset_ne (by omega)).trans H2) (by omega) (by first | assumption | omega) (by first | assumption | omega) (by first | assumption | omega) (by first | assumption | omega) (by first | assumption | omega) (by first | assumption | omega) (by first | assumption | omega)) hset_eq (by omega) jk8.1 rfl rfl (Nat.le_of_ble_eq_true rfl) (Nat.le_of_ble_eq_true rfl) (by constructor <;> decide +kernel) (fun v9 h9 n9 q9 => ?_)
  obtain ⟨rfl, hn9, ta1_6, tl1_7, tk1_8, va1_9, rfl, hst1_10⟩ := q9
  replace hn9 := hn9.symm
  subst hn9
  refine J.cast ((hset_comm (by omega)).trans (hset_cg hset_hset rfl)) ?_
  refine J.stk (st' := [.int (nI 1)]) rfl ?_
  refine J_if_eqN (tgt := 41) dX8_takesWork_18 (by decide) (by omega) (fun z => absurd z (by decide)) (fun _ => ?_)
  refine J_aload_n dX8_takesWork_21 rfl ?_
  refine J_iconst (v := nI 1) dX8_takesWork_22 (by decide +kernel) ?_
  refine J_iconst (v := nI 0) dX8_takesWork_23 (by decide +kernel) ?_
  refine J_iconst (v := nI 3) dX8_takesWork_24 (by decide +kernel) ?_
  refine J_callV (M' := mX8_takes) (d' := (5, 0, 0)) (rest := []) dX8_takesWork_25 jmX8_takes jlRX8_234 (ctX8_takes 1 0 3 (i + 1 + 1) xa xb dt mo bn ta1_6 tl1_7 tk1_8 va1_9 BY F (updN VA 0 (vT F bn (i + 1))) ((hset_ne (by omega)).trans hset_eq) ((hset_ne (by omega)).trans ((hset_ne (by omega)).trans H1)) hset_eq (by omega) (by first | assumption | omega) (by first | assumption | omega) (by first | assumption | omega) (by first | assumption | omega) (by first | assumption | omega) (by first | assumption | omega) (by first | assumption | omega)) ((hset_ne (by omega)).trans hset_eq) (by omega) jk8.1 rfl rfl (Nat.le_of_ble_eq_true rfl) (Nat.le_of_ble_eq_true rfl) (by constructor <;> decide +kernel) (fun v9 h9 n9 q9 => ?_)
  obtain ⟨rfl, hn9, ta1_12, tl1_13, tk1_14, va1_15, rfl, hst1_16⟩ := q9
  replace hn9 := hn9.symm
  subst hn9
  refine J.cast ((hset_cg hset_hset rfl).trans ((hset_comm (by omega)).trans (hset_cg hset_hset rfl))) ?_
  refine J.stk (st' := [.int (nI 1)]) rfl ?_
  refine J_if_eqN (tgt := 41) dX8_takesWork_28 (by decide) (by omega) (fun z => absurd z (by decide)) (fun _ => ?_)
  refine J_aload_n dX8_takesWork_31 rfl ?_
  refine J_iconst (v := nI 2) dX8_takesWork_32 (by decide +kernel) ?_
  refine J_iconst (v := nI 1) dX8_takesWork_33 (by decide +kernel) ?_
  refine J_iconst (v := nI 5) dX8_takesWork_34 (by decide +kernel) ?_
  refine J_callV (M' := mX8_takes) (d' := (5, 0, 0)) (rest := []) dX8_takesWork_35 jmX8_takes jlRX8_234 (ctX8_takes 2 1 5 (i + 1 + 1 + 1) xa xb dt mo bn ta1_12 tl1_13 tk1_14 va1_15 BY F (updN (updN VA 0 (vT F bn (i + 1))) 1 (vT F bn (i + 1 + 1))) ((hset_ne (by omega)).trans hset_eq) ((hset_ne (by omega)).trans ((hset_ne (by omega)).trans H1)) hset_eq (by omega) (by first | assumption | omega) (by first | assumption | omega) (by first | assumption | omega) (by first | assumption | omega) (by first | assumption | omega) (by first | assumption | omega) (by first | assumption | omega)) ((hset_ne (by omega)).trans hset_eq) (by omega) jk8.1 rfl rfl (Nat.le_of_ble_eq_true rfl) (Nat.le_of_ble_eq_true rfl) (by constructor <;> decide +kernel) (fun v9 h9 n9 q9 => ?_)
  obtain ⟨rfl, hn9, ta1_18, tl1_19, tk1_20, va1_21, rfl, hst1_22⟩ := q9
  replace hn9 := hn9.symm
  subst hn9
  refine J.cast ((hset_cg hset_hset rfl).trans ((hset_comm (by omega)).trans (hset_cg hset_hset rfl))) ?_
  refine J.stk (st' := [.int (nI 1)]) rfl ?_
  refine J_if_neN (tgt := 43) dX8_takesWork_38 (by decide) (by omega) (fun _ => ?_) (fun z => absurd z (by decide))
  refine J_iconst (v := nI 4) dX8_takesWork_43 (by decide +kernel) ?_
  refine J_iconst (v := nI 4) dX8_takesWork_44 (by decide +kernel) ?_
  refine J_aload_n dX8_takesWork_45 rfl ?_
  refine J_get 19 dX8_takesWork_46 jk8 (Nat.le_of_ble_eq_true rfl) jfRX8_45 ((hset_ne (by omega)).trans hset_eq) (by omega) rfl ?_
  refine J_iconst (v := nI 0) dX8_takesWork_49 (by decide +kernel) ?_
  refine J_ialdN (i := 0) dX8_takesWork_50 hset_eq (by omega) (by omega) (by omega) ?_
  refine J.stk (st' := [.int (nI (vT F bn (i + 1))), .int (nI 4), .int (nI 4)]) (congrArg (fun z => Value.int (nI z) :: [.int (nI 4), .int (nI 4)]) (by rfl)) ?_
  refine J_imulN dX8_takesWork_51 ?_
  refine J_iaddN dX8_takesWork_52 ?_
  refine J_aload_n dX8_takesWork_53 rfl ?_
  refine J_get 19 dX8_takesWork_54 jk8 (Nat.le_of_ble_eq_true rfl) jfRX8_45 ((hset_ne (by omega)).trans hset_eq) (by omega) rfl ?_
  refine J_iconst (v := nI 1) dX8_takesWork_57 (by decide +kernel) ?_
  refine J_ialdN (i := 1) dX8_takesWork_58 hset_eq (by omega) (by omega) (by omega) ?_
  refine J.stk (st' := [.int (nI (vT F bn (i + 1 + 1))), .int (nI (4 + (4 * (vT F bn (i + 1)))))]) (congrArg (fun z => Value.int (nI z) :: [.int (nI (4 + (4 * (vT F bn (i + 1)))))]) (by rfl)) ?_
  refine J_iaddN dX8_takesWork_59 ?_
  refine J_istore_n dX8_takesWork_60 (Nat.le_of_ble_eq_true rfl) (L' := [(1, .int (nI ((4 + (4 * (vT F bn (i + 1)))) + (vT F bn (i + 1 + 1))))), (0, .ref (E.1 + 38))]) rfl ?_
  have m1 := hA4 (4 * vT F bn (i + 1) + vT F bn (i + 1 + 1)) (by omega)
  rw [show 4 + (4 * vT F bn (i + 1) + vT F bn (i + 1 + 1)) = 4 + 4 * vT F bn (i + 1) + vT F bn (i + 1 + 1) by omega] at m1
  have m2 := hA22 (vT F bn (i + 1)) (by omega)
  have m3 := moreN_le (kd := AN (22 + vT F bn (i + 1))) (b := vT F bn (i + 1 + 1 + 1)) (by omega)
  refine J_aload_n dX8_takesWork_61 rfl ?_
  refine J_get 18 dX8_takesWork_62 jk8 (Nat.le_of_ble_eq_true rfl) jfRX8_42 ((hset_ne (by omega)).trans hset_eq) (by omega) rfl ?_
  refine J_iload_n dX8_takesWork_65 rfl ?_
  refine J_ialdN (i := (4 + (4 * (vT F bn (i + 1)))) + (vT F bn (i + 1 + 1))) dX8_takesWork_66 ((hset_ne (by omega)).trans ((hset_ne (by omega)).trans H3)) (by omega) (by omega) (by omega) ?_
  refine J_aload_n dX8_takesWork_67 rfl ?_
  refine J_get 18 dX8_takesWork_68 jk8 (Nat.le_of_ble_eq_true rfl) jfRX8_42 ((hset_ne (by omega)).trans hset_eq) (by omega) rfl ?_
  refine J_bipush (v := nI 22) dX8_takesWork_71 (by decide +kernel) ?_
  refine J_aload_n dX8_takesWork_73 rfl ?_
  refine J_get 19 dX8_takesWork_74 jk8 (Nat.le_of_ble_eq_true rfl) jfRX8_45 ((hset_ne (by omega)).trans hset_eq) (by omega) rfl ?_
  refine J_iconst (v := nI 0) dX8_takesWork_77 (by decide +kernel) ?_
  refine J_ialdN (i := 0) dX8_takesWork_78 hset_eq (by omega) (by omega) (by omega) ?_
  refine J.stk (st' := [.int (nI (vT F bn (i + 1))), .int (nI 22), .ref (E.1 + 48), .int (nI (AN ((4 + (4 * (vT F bn (i + 1)))) + (vT F bn (i + 1 + 1)))))]) (congrArg (fun z => Value.int (nI z) :: [.int (nI 22), .ref (E.1 + 48), .int (nI (AN ((4 + (4 * (vT F bn (i + 1)))) + (vT F bn (i + 1 + 1)))))]) (by rfl)) ?_
  refine J_iaddN dX8_takesWork_79 ?_
  refine J_ialdN (i := 22 + (vT F bn (i + 1))) dX8_takesWork_80 ((hset_ne (by omega)).trans ((hset_ne (by omega)).trans H3)) (by omega) (by omega) (by omega) ?_
  refine J_aload_n dX8_takesWork_81 rfl ?_
  refine J_get 19 dX8_takesWork_82 jk8 (Nat.le_of_ble_eq_true rfl) jfRX8_45 ((hset_ne (by omega)).trans hset_eq) (by omega) rfl ?_
  refine J_iconst (v := nI 2) dX8_takesWork_85 (by decide +kernel) ?_
  refine J_ialdN (i := 2) dX8_takesWork_86 hset_eq (by omega) (by omega) (by omega) ?_
  refine J.stk (st' := [.int (nI (vT F bn (i + 1 + 1 + 1))), .int (nI (AN (22 + (vT F bn (i + 1))))), .int (nI (AN ((4 + (4 * (vT F bn (i + 1)))) + (vT F bn (i + 1 + 1)))))]) (congrArg (fun z => Value.int (nI z) :: [.int (nI (AN (22 + (vT F bn (i + 1))))), .int (nI (AN ((4 + (4 * (vT F bn (i + 1)))) + (vT F bn (i + 1 + 1)))))]) (by rfl)) ?_
  refine J_callSr (M' := mX8_moreAs) (d' := (1, 0, 0)) (rest := [.int (nI (AN ((4 + (4 * (vT F bn (i + 1)))) + (vT F bn (i + 1 + 1)))))]) dX8_takesWork_87 jmX8_moreAs jlRX8_101 (ctX8_moreAs (AN (22 + (vT F bn (i + 1)))) (vT F bn (i + 1 + 1 + 1))   (by first | assumption | omega) (by first | assumption | omega)) rfl rfl (Nat.le_of_ble_eq_true rfl) (Nat.le_of_ble_eq_true rfl) ⟨Nat.le_refl _, Nat.le_refl _⟩ ?_
  refine J_iaddN dX8_takesWork_90 ?_
  refine J_istore_n dX8_takesWork_91 (Nat.le_of_ble_eq_true rfl) (L' := [(2, .int (nI ((AN ((4 + (4 * (vT F bn (i + 1)))) + (vT F bn (i + 1 + 1)))) + (moreN (AN (22 + (vT F bn (i + 1)))) (vT F bn (i + 1 + 1 + 1)))))), (1, .int (nI ((4 + (4 * (vT F bn (i + 1)))) + (vT F bn (i + 1 + 1))))), (0, .ref (E.1 + 38))]) rfl ?_
  refine J_aload_n dX8_takesWork_92 rfl ?_
  refine J_get 18 dX8_takesWork_93 jk8 (Nat.le_of_ble_eq_true rfl) jfRX8_42 ((hset_ne (by omega)).trans hset_eq) (by omega) rfl ?_
  refine J_iload_n dX8_takesWork_96 rfl ?_
  refine J_iload_n dX8_takesWork_97 rfl ?_
  refine J_bipush (v := nI 20) dX8_takesWork_98 (by decide +kernel) ?_
  refine J_icmp_leN (tgt := 108) dX8_takesWork_100 (by decide) (by omega) (by omega) (fun c24 => ?_) (fun c24 => ?_)
  · skip
    refine J_iload_n dX8_takesWork_108 rfl ?_
    refine J_iastN (i := (4 + (4 * (vT F bn (i + 1)))) + (vT F bn (i + 1 + 1))) (v := (AN ((4 + (4 * (vT F bn (i + 1)))) + (vT F bn (i + 1 + 1)))) + (moreN (AN (22 + (vT F bn (i + 1)))) (vT F bn (i + 1 + 1 + 1)))) dX8_takesWork_109 ((hset_ne (by omega)).trans ((hset_ne (by omega)).trans H3)) (by omega) (by omega) (by omega) ?_
    refine J_iconst (v := nI 1) dX8_takesWork_110 (by decide +kernel) ?_
    exact J_zret dX8_takesWork_111 rfl rfl ⟨Nat.le_refl _, Nat.le_refl _⟩ (by rw [hPP]; exact ⟨rfl, rfl, (updN (updN (updN VA 0 (vT F bn (i + 1))) 1 (vT F bn (i + 1 + 1))) 2 (vT F bn (i + 1 + 1 + 1))), ta1_18, tl1_19, tk1_20, va1_21, (hset_cg (hset_cg (hset_cg rfl rfl) rfl) (cI_cg (by intro z; first | rfl | (simp only [wrkQ]; rw [Nat.min_eq_right (by omega)]) | (simp only [wrkQ]; rw [Nat.min_eq_left (by omega)])))), (by assumption)⟩)
  · skip
    refine J_bipush (v := nI 20) dX8_takesWork_103 (by decide +kernel) ?_
    refine J_goto (tgt := 109) dX8_takesWork_105 (by decide) ?_
    refine J_iastN (i := (4 + (4 * (vT F bn (i + 1)))) + (vT F bn (i + 1 + 1))) (v := 20) dX8_takesWork_109 ((hset_ne (by omega)).trans ((hset_ne (by omega)).trans H3)) (by omega) (by omega) (by omega) ?_
    refine J_iconst (v := nI 1) dX8_takesWork_110 (by decide +kernel) ?_
    exact J_zret dX8_takesWork_111 rfl rfl ⟨Nat.le_refl _, Nat.le_refl _⟩ (by rw [hPP]; exact ⟨rfl, rfl, (updN (updN (updN VA 0 (vT F bn (i + 1))) 1 (vT F bn (i + 1 + 1))) 2 (vT F bn (i + 1 + 1 + 1))), ta1_18, tl1_19, tk1_20, va1_21, (hset_cg (hset_cg (hset_cg rfl rfl) rfl) (cI_cg (by intro z; first | rfl | (simp only [wrkQ]; rw [Nat.min_eq_right (by omega)]) | (simp only [wrkQ]; rw [Nat.min_eq_left (by omega)])))), (by assumption)⟩)

set_option maxHeartbeats 1000000 in
set_option maxRecDepth 100000 in
theorem ctX8_takesDay {E : jE} {h : Nat → va_E} {n : Nat} (i : Nat) (xa : Nat) (xb : Nat) (dt : Nat) (mo : Nat) (bn : Nat) (ta : Nat) (tl : Nat) (tk : Nat) (va : Nat) (BY : Nat → Nat) (F : Nat → Nat) (VA : Nat → Nat) (AN : Nat → Nat) (H0 : h 38 = .inr (7, [.ref (E.1 + 39), .ref (E.1 + 40), .ref (E.1 + 41), .ref (E.1 + 42), .long (lN xa), .long (lN xb), .ref (E.1 + 43), .int (nI dt), .ref (E.1 + 44), .ref (E.1 + 45), .int (nI mo), .ref (E.1 + 46), .ref (E.1 + 47), .int (nI bn), .int (nI ta), .int (nI tl), .int (nI tk), .int (nI va), .ref (E.1 + 48), .ref (E.1 + 49)])) (H1 : h 47 = cI E 150 (nF BY)) (H2 : h 49 = cI E 5 (nF VA)) (H3 : h 48 = cI E 74 (nF AN)) (hn : 50 ≤ n) (hBY : ∀ zz, zz < bn → BY zz = F zz ∧ F zz ≤ 127) (hbn : bn ≤ 150) (hst : stQ F bn i ta tl tk va) (han : AN 0 ≤ 4) (hA22 : ∀ zz, zz < 4 → AN (22 + zz) ≤ 5) (hA4 : ∀ zz, zz < 16 → AN (4 + zz) ≤ 20) (h20 : AN 20 ≤ 999) : jC E mX8_takesDay (5, 0, 0) [.ref (E.1 + 38)] h n (fun v h' n' => v = some (.int (nI 1)) ∧ n' = n ∧ ∃ (VA1 : Nat → Nat) (ta1 : Nat) (tl1 : Nat) (tk1 : Nat) (va1 : Nat), h' = (hset (hset (hset h 38 (.inr (7, [.ref (E.1 + 39), .ref (E.1 + 40), .ref (E.1 + 41), .ref (E.1 + 42), .long (lN xa), .long (lN xb), .ref (E.1 + 43), .int (nI dt), .ref (E.1 + 44), .ref (E.1 + 45), .int (nI mo), .ref (E.1 + 46), .ref (E.1 + 47), .int (nI bn), .int (nI ta1), .int (nI tl1), .int (nI tk1), .int (nI va1), .ref (E.1 + 48), .ref (E.1 + 49)]))) 49 (cI E 5 (nF VA1))) 48 (cI E 74 (nF (dayQ AN)))) ∧ (stQ F bn (i + 1) ta1 tl1 tk1 va1)) := by
  refine J.of (L := [(0, .ref (E.1 + 38))]) rfl (by decide +kernel) (Nat.le_of_ble_eq_true rfl) ?_
  obtain ⟨PP, hPP⟩ : ∃ PP : jPost, PP = (fun v h' n' => v = some (.int (nI 1)) ∧ n' = n ∧ ∃ (VA1 : Nat → Nat) (ta1 : Nat) (tl1 : Nat) (tk1 : Nat) (va1 : Nat), h' = (hset (hset (hset h 38 (.inr (7, [.ref (E.1 + 39), .ref (E.1 + 40), .ref (E.1 + 41), .ref (E.1 + 42), .long (lN xa), .long (lN xb), .ref (E.1 + 43), .int (nI dt), .ref (E.1 + 44), .ref (E.1 + 45), .int (nI mo), .ref (E.1 + 46), .ref (E.1 + 47), .int (nI bn), .int (nI ta1), .int (nI tl1), .int (nI tk1), .int (nI va1), .ref (E.1 + 48), .ref (E.1 + 49)]))) 49 (cI E 5 (nF VA1))) 48 (cI E 74 (nF (dayQ AN)))) ∧ (stQ F bn (i + 1) ta1 tl1 tk1 va1)) := ⟨_, rfl⟩
  rw [← hPP]
  refine J_aload_n dX8_takesDay_0 rfl ?_
  refine J_callV (M' := mX8_goBehind) (d' := (4, 0, 0)) (rest := []) dX8_takesDay_1 jmX8_goBehind jlRX8_227 (ctX8_goBehind i xa xb dt mo bn ta tl tk va BY F H0 H1 (by omega) (by first | assumption | omega) (by first | assumption | omega) (by first | assumption | omega)) H0 (by omega) jk8.1 rfl rfl (Nat.le_of_ble_eq_true rfl) (Nat.le_of_ble_eq_true rfl) (by constructor <;> decide +kernel) (fun v9 h9 n9 q9 => ?_)
  obtain ⟨rfl, hn9, ta1_1, tl1_2, tk1_3, va1_4, rfl, hst1_5⟩ := q9
  replace hn9 := hn9.symm
  subst hn9
  refine J.stk (st' := []) rfl ?_
  refine J_iconst (v := nI 0) dX8_takesDay_4 (by decide +kernel) ?_
  refine J_istore_n dX8_takesDay_5 (Nat.le_of_ble_eq_true rfl) (L' := [(1, .int (nI 0)), (0, .ref (E.1 + 38))]) rfl ?_
  have CUT6 : ∀ (f6 : Nat) (j : Nat) (ta1 : Nat) (tl1 : Nat) (tk1 : Nat) (va1 : Nat) (hm6 : 4 * AN 0 - j < f6) (hj : j ≤ 4 * AN 0) (hst1 : stQ F bn (i + 1) ta1 tl1 tk1 va1), J E mX8_takesDay (5, 0, 0) jS0 PP (hset (hset h 38 (.inr (7, [.ref (E.1 + 39), .ref (E.1 + 40), .ref (E.1 + 41), .ref (E.1 + 42), .long (lN xa), .long (lN xb), .ref (E.1 + 43), .int (nI dt), .ref (E.1 + 44), .ref (E.1 + 45), .int (nI mo), .ref (E.1 + 46), .ref (E.1 + 47), .int (nI bn), .int (nI ta1), .int (nI tl1), .int (nI tk1), .int (nI va1), .ref (E.1 + 48), .ref (E.1 + 49)]))) 48 (cI E 74 (nF (dyQ AN j)))) n (0, 0) 6 [(1, .int (nI j)), (0, .ref (E.1 + 38))] [] := by
    intro f6
    induction f6 with
    | zero => intro j ta1 tl1 tk1 va1 hm6; exact absurd hm6 (Nat.not_lt_zero _)
    | succ f6 ih6 =>
      intro j ta1 tl1 tk1 va1 hm6 hj hst1
      have d0 : dyQ AN j 0 = AN 0 := dyQ_o (by omega)
      have d20 : dyQ AN j 20 = AN 20 := dyQ_o (by omega)
      refine J_iload_n dX8_takesDay_6 rfl ?_
      refine J_iconst (v := nI 4) dX8_takesDay_7 (by decide +kernel) ?_
      refine J_aload_n dX8_takesDay_8 rfl ?_
      refine J_get 18 dX8_takesDay_9 jk8 (Nat.le_of_ble_eq_true rfl) jfRX8_42 ((hset_ne (by omega)).trans hset_eq) (by omega) rfl ?_
      refine J_iconst (v := nI 0) dX8_takesDay_12 (by decide +kernel) ?_
      refine J_ialdN (i := 0) dX8_takesDay_13 hset_eq (by omega) (by omega) (by omega) ?_
      refine J_imulN dX8_takesDay_14 ?_
      refine J_icmp_geN (tgt := 61) dX8_takesDay_15 (by decide) (by omega) (by omega) (fun c6 => ?_) (fun c6 => ?_)
      · skip
        refine J_aload_n dX8_takesDay_61 rfl ?_
        refine J_get 18 dX8_takesDay_62 jk8 (Nat.le_of_ble_eq_true rfl) jfRX8_42 ((hset_ne (by omega)).trans hset_eq) (by omega) rfl ?_
        refine J_bipush (v := nI 20) dX8_takesDay_65 (by decide +kernel) ?_
        refine J_dup2 dX8_takesDay_67 rfl rfl ?_
        refine J_ialdN (i := 20) dX8_takesDay_68 hset_eq (by omega) (by omega) (by omega) ?_
        refine J_iconst (v := nI 1) dX8_takesDay_69 (by decide +kernel) ?_
        refine J_iaddN dX8_takesDay_70 ?_
        refine J_iastN (i := 20) (v := ((dyQ AN j) 20) + 1) dX8_takesDay_71 hset_eq (by omega) (by omega) (by omega) ?_
        refine J.cast hset_hset ?_
        refine J_iconst (v := nI 1) dX8_takesDay_72 (by decide +kernel) ?_
        exact J_zret dX8_takesDay_73 rfl rfl ⟨Nat.le_refl _, Nat.le_refl _⟩ (by rw [hPP]; exact ⟨rfl, rfl, VA, ta1, tl1, tk1, va1, ((show (hset (hset h 38 (.inr (7, [.ref (E.1 + 39), .ref (E.1 + 40), .ref (E.1 + 41), .ref (E.1 + 42), .long (lN xa), .long (lN xb), .ref (E.1 + 43), .int (nI dt), .ref (E.1 + 44), .ref (E.1 + 45), .int (nI mo), .ref (E.1 + 46), .ref (E.1 + 47), .int (nI bn), .int (nI ta1), .int (nI tl1), .int (nI tk1), .int (nI va1), .ref (E.1 + 48), .ref (E.1 + 49)]))) 48 (cI E 74 (nF (updN (dyQ AN j) 20 (((dyQ AN j) 20) + 1))))) = (hset (hset (hset h 38 (.inr (7, [.ref (E.1 + 39), .ref (E.1 + 40), .ref (E.1 + 41), .ref (E.1 + 42), .long (lN xa), .long (lN xb), .ref (E.1 + 43), .int (nI dt), .ref (E.1 + 44), .ref (E.1 + 45), .int (nI mo), .ref (E.1 + 46), .ref (E.1 + 47), .int (nI bn), .int (nI ta1), .int (nI tl1), .int (nI tk1), .int (nI va1), .ref (E.1 + 48), .ref (E.1 + 49)]))) 49 (cI E 5 (nF VA))) 48 (cI E 74 (nF (updN (dyQ AN j) 20 (((dyQ AN j) 20) + 1))))) by funext z; simp only [hset]; (repeat' split) <;> first | rfl | (exfalso; omega) | (subst_vars; first | exact H2)).trans (hset_cg (hset_cg (hset_cg rfl rfl) rfl) (cI_cg (by intro z; first | rfl | (rw [show j = 4 * AN 0 by omega, dyQ_o (k := 20) (by omega)]; rfl))))), (by assumption)⟩)
      · skip
        have e22 : dyQ AN j (22 + j / 4) = AN (22 + j / 4) := dyQ_o (by omega)
        have e4 : dyQ AN j (4 + j) = AN (4 + j) := dyQ_o (by omega)
        have m1 := hA4 j (by omega)
        have m2 := hA22 (j / 4) (by omega)
        refine J_aload_n dX8_takesDay_18 rfl ?_
        refine J_get 18 dX8_takesDay_19 jk8 (Nat.le_of_ble_eq_true rfl) jfRX8_42 ((hset_ne (by omega)).trans hset_eq) (by omega) rfl ?_
        refine J_iconst (v := nI 4) dX8_takesDay_22 (by decide +kernel) ?_
        refine J_iload_n dX8_takesDay_23 rfl ?_
        refine J_iaddN dX8_takesDay_24 ?_
        refine J_aload_n dX8_takesDay_25 rfl ?_
        refine J_get 18 dX8_takesDay_26 jk8 (Nat.le_of_ble_eq_true rfl) jfRX8_42 ((hset_ne (by omega)).trans hset_eq) (by omega) rfl ?_
        refine J_bipush (v := nI 22) dX8_takesDay_29 (by decide +kernel) ?_
        refine J_iload_n dX8_takesDay_31 rfl ?_
        refine J_iconst (v := nI 4) dX8_takesDay_32 (by decide +kernel) ?_
        refine J_idivN dX8_takesDay_33 (by omega) (by omega) (by omega) ?_
        refine J_iaddN dX8_takesDay_34 ?_
        refine J_ialdN (i := 22 + (j / 4)) dX8_takesDay_35 hset_eq (by omega) (by omega) (by omega) ?_
        refine J_aload_n dX8_takesDay_36 rfl ?_
        refine J_get 18 dX8_takesDay_37 jk8 (Nat.le_of_ble_eq_true rfl) jfRX8_42 ((hset_ne (by omega)).trans hset_eq) (by omega) rfl ?_
        refine J_iconst (v := nI 4) dX8_takesDay_40 (by decide +kernel) ?_
        refine J_iload_n dX8_takesDay_41 rfl ?_
        refine J_iaddN dX8_takesDay_42 ?_
        refine J_ialdN (i := 4 + j) dX8_takesDay_43 hset_eq (by omega) (by omega) (by omega) ?_
        refine J_aload_n dX8_takesDay_44 rfl ?_
        refine J_get 18 dX8_takesDay_45 jk8 (Nat.le_of_ble_eq_true rfl) jfRX8_42 ((hset_ne (by omega)).trans hset_eq) (by omega) rfl ?_
        refine J_bipush (v := nI 20) dX8_takesDay_48 (by decide +kernel) ?_
        refine J_ialdN (i := 20) dX8_takesDay_50 hset_eq (by omega) (by omega) (by omega) ?_
        refine J_callSr (M' := mX8_leftAs) (d' := (1, 0, 0)) (rest := [.int (nI (4 + j)), .ref (E.1 + 48)]) dX8_takesDay_51 jmX8_leftAs jlRX8_104 (ctX8_leftAs ((dyQ AN j) (22 + (j / 4))) ((dyQ AN j) (4 + j)) ((dyQ AN j) 20)   (by first | assumption | omega) (by first | assumption | omega) (by first | assumption | omega)) rfl rfl (Nat.le_of_ble_eq_true rfl) (Nat.le_of_ble_eq_true rfl) ⟨Nat.le_refl _, Nat.le_refl _⟩ ?_
        refine J_iastN (i := 4 + j) (v := leftN ((dyQ AN j) (22 + (j / 4))) ((dyQ AN j) (4 + j)) ((dyQ AN j) 20)) dX8_takesDay_54 hset_eq (by omega) (by omega) (by omega) ?_
        refine J.cast hset_hset ?_
        refine J_iincN (q := 0) (a := j) (m := 1) dX8_takesDay_55 rfl (by decide +kernel) (Nat.le_of_ble_eq_true rfl) (L' := [(1, .int (nI (j + 1))), (0, .ref (E.1 + 38))]) rfl ?_
        refine J_goto (tgt := 6) dX8_takesDay_58 (by decide) ?_
        refine J.eqs (h' := (hset (hset h 38 (.inr (7, [.ref (E.1 + 39), .ref (E.1 + 40), .ref (E.1 + 41), .ref (E.1 + 42), .long (lN xa), .long (lN xb), .ref (E.1 + 43), .int (nI dt), .ref (E.1 + 44), .ref (E.1 + 45), .int (nI mo), .ref (E.1 + 46), .ref (E.1 + 47), .int (nI bn), .int (nI ta1), .int (nI tl1), .int (nI tk1), .int (nI va1), .ref (E.1 + 48), .ref (E.1 + 49)]))) 48 (cI E 74 (nF (dyQ AN (j + 1)))))) (L' := [(1, .int (nI (j + 1))), (0, .ref (E.1 + 38))]) (st' := []) (hset_cg (hset_cg rfl rfl) (cI_cg (by intro z; first | exact dyQ_0 z | exact dyQ_s (by omega) z))) rfl rfl ?_
        exact ih6 (j + 1) ta1 tl1 tk1 va1 (by omega) (by first | assumption | omega) (by first | assumption | omega)
  refine J.eqs (h' := (hset (hset h 38 (.inr (7, [.ref (E.1 + 39), .ref (E.1 + 40), .ref (E.1 + 41), .ref (E.1 + 42), .long (lN xa), .long (lN xb), .ref (E.1 + 43), .int (nI dt), .ref (E.1 + 44), .ref (E.1 + 45), .int (nI mo), .ref (E.1 + 46), .ref (E.1 + 47), .int (nI bn), .int (nI ta1_1), .int (nI tl1_2), .int (nI tk1_3), .int (nI va1_4), .ref (E.1 + 48), .ref (E.1 + 49)]))) 48 (cI E 74 (nF (dyQ AN 0))))) (L' := [(1, .int (nI 0)), (0, .ref (E.1 + 38))]) (st' := []) ((show (hset h 38 (.inr (7, [.ref (E.1 + 39), .ref (E.1 + 40), .ref (E.1 + 41), .ref (E.1 + 42), .long (lN xa), .long (lN xb), .ref (E.1 + 43), .int (nI dt), .ref (E.1 + 44), .ref (E.1 + 45), .int (nI mo), .ref (E.1 + 46), .ref (E.1 + 47), .int (nI bn), .int (nI ta1_1), .int (nI tl1_2), .int (nI tk1_3), .int (nI va1_4), .ref (E.1 + 48), .ref (E.1 + 49)]))) = (hset (hset h 38 (.inr (7, [.ref (E.1 + 39), .ref (E.1 + 40), .ref (E.1 + 41), .ref (E.1 + 42), .long (lN xa), .long (lN xb), .ref (E.1 + 43), .int (nI dt), .ref (E.1 + 44), .ref (E.1 + 45), .int (nI mo), .ref (E.1 + 46), .ref (E.1 + 47), .int (nI bn), .int (nI ta1_1), .int (nI tl1_2), .int (nI tk1_3), .int (nI va1_4), .ref (E.1 + 48), .ref (E.1 + 49)]))) 48 (cI E 74 (nF AN))) by funext z; simp only [hset]; (repeat' split) <;> first | rfl | (exfalso; omega) | (subst_vars; first | exact H3)).trans (hset_cg (hset_cg rfl rfl) (cI_cg (by intro z; first | exact dyQ_0 z | exact dyQ_s (by omega) z)))) rfl rfl ?_
  exact CUT6 (4 * AN 0 - 0 + 1) 0 ta1_1 tl1_2 tk1_3 va1_4 (Nat.lt_succ_self _) (by first | assumption | omega) (by first | assumption | omega)

set_option maxHeartbeats 1000000 in
set_option maxRecDepth 100000 in
theorem ctX8_takesItem_full {E : jE} {h : Nat → va_E} {n : Nat} (i : Nat) (xa : Nat) (xb : Nat) (dt : Nat) (mo : Nat) (bn : Nat) (ta : Nat) (tl : Nat) (tk : Nat) (va : Nat) (BY : Nat → Nat) (F : Nat → Nat) (VA : Nat → Nat) (AN : Nat → Nat) (H0 : h 38 = .inr (7, [.ref (E.1 + 39), .ref (E.1 + 40), .ref (E.1 + 41), .ref (E.1 + 42), .long (lN xa), .long (lN xb), .ref (E.1 + 43), .int (nI dt), .ref (E.1 + 44), .ref (E.1 + 45), .int (nI mo), .ref (E.1 + 46), .ref (E.1 + 47), .int (nI bn), .int (nI ta), .int (nI tl), .int (nI tk), .int (nI va), .ref (E.1 + 48), .ref (E.1 + 49)])) (H1 : h 47 = cI E 150 (nF BY)) (H2 : h 49 = cI E 5 (nF VA)) (H3 : h 48 = cI E 74 (nF AN)) (hn : 50 ≤ n) (hBY : ∀ zz, zz < bn → BY zz = F zz ∧ F zz ≤ 127) (hbn : bn ≤ 150) (hst : stQ F bn i ta tl tk va) (hk : kT F bn i = 2) (han : AN 0 = 4) : jC E mX8_takesItem (7, 0, 0) [.ref (E.1 + 38)] h n (jR (some (.int (nI 0))) h n) := by
  refine J.of (L := [(0, .ref (E.1 + 38))]) rfl (by decide +kernel) (Nat.le_of_ble_eq_true rfl) ?_
  obtain ⟨PP, hPP⟩ : ∃ PP : jPost, PP = (jR (some (.int (nI 0))) h n) := ⟨_, rfl⟩
  rw [← hPP]
  refine J_aload_n dX8_takesItem_0 rfl ?_
  refine J_iconst (v := nI 5) dX8_takesItem_1 (by decide +kernel) ?_
  refine J_bipush (v := nI 97) dX8_takesItem_2 (by decide +kernel) ?_
  refine J_bipush (v := nI 110) dX8_takesItem_4 (by decide +kernel) ?_
  refine J_bipush (v := nI 118) dX8_takesItem_6 (by decide +kernel) ?_
  refine J_bipush (v := nI 105) dX8_takesItem_8 (by decide +kernel) ?_
  refine J_bipush (v := nI 108) dX8_takesItem_10 (by decide +kernel) ?_
  refine J_iconst (v := nI 0) dX8_takesItem_12 (by decide +kernel) ?_
  refine J_callVr (M' := mX8_spells) (d' := (1, 0, 0)) (rest := []) dX8_takesItem_13 jmX8_spells jlRX8_230 (ctX8_spells_1 i xa xb dt mo bn ta tl tk va BY F H0 H1 (by omega) (by first | assumption | omega) (by first | assumption | omega) (by first | assumption | omega)) H0 (by omega) jk8.1 rfl rfl (Nat.le_of_ble_eq_true rfl) (Nat.le_of_ble_eq_true rfl) ⟨Nat.le_refl _, Nat.le_refl _⟩ ?_
  refine J_if_eqB (tgt := 24) dX8_takesItem_16 (by decide) (fun c1 => (by exfalso; omega)) (fun c1 => ?_)
  refine J_aload_n dX8_takesItem_19 rfl ?_
  refine J_callVr (M' := mX8_takesAnvil) (d' := (6, 0, 0)) (rest := []) dX8_takesItem_20 jmX8_takesAnvil jlRX8_238 (ctX8_takesAnvil_full i xa xb dt mo bn ta tl tk va BY F VA AN H0 H1 H2 H3 (by omega) (by first | assumption | omega)) H0 (by omega) jk8.1 rfl rfl (Nat.le_of_ble_eq_true rfl) (Nat.le_of_ble_eq_true rfl) ⟨Nat.le_refl _, Nat.le_refl _⟩ ?_
  exact J_zret dX8_takesItem_23 rfl rfl ⟨Nat.le_refl _, Nat.le_refl _⟩ (by rw [hPP]; exact ⟨rfl, rfl, rfl⟩)

set_option maxHeartbeats 1000000 in
set_option maxRecDepth 100000 in
theorem ctX8_takesItem_anvN {E : jE} {h : Nat → va_E} {n : Nat} (i : Nat) (xa : Nat) (xb : Nat) (dt : Nat) (mo : Nat) (bn : Nat) (ta : Nat) (tl : Nat) (tk : Nat) (va : Nat) (BY : Nat → Nat) (F : Nat → Nat) (VA : Nat → Nat) (AN : Nat → Nat) (H0 : h 38 = .inr (7, [.ref (E.1 + 39), .ref (E.1 + 40), .ref (E.1 + 41), .ref (E.1 + 42), .long (lN xa), .long (lN xb), .ref (E.1 + 43), .int (nI dt), .ref (E.1 + 44), .ref (E.1 + 45), .int (nI mo), .ref (E.1 + 46), .ref (E.1 + 47), .int (nI bn), .int (nI ta), .int (nI tl), .int (nI tk), .int (nI va), .ref (E.1 + 48), .ref (E.1 + 49)])) (H1 : h 47 = cI E 150 (nF BY)) (H2 : h 49 = cI E 5 (nF VA)) (H3 : h 48 = cI E 74 (nF AN)) (hn : 50 ≤ n) (hBY : ∀ zz, zz < bn → BY zz = F zz ∧ F zz ≤ 127) (hbn : bn ≤ 150) (hst : stQ F bn i ta tl tk va) (hk : kT F bn i = 2) (han : AN 0 < 4) (hno : ¬ anvOK (kT F bn) (vT F bn) i) : jC E mX8_takesItem (7, 0, 0) [.ref (E.1 + 38)] h n (fun v h' n' => v = some (.int (nI 0)) ∧ n' = n ∧ ∃ (VA1 : Nat → Nat) (ta1 : Nat) (tl1 : Nat) (tk1 : Nat) (va1 : Nat), h' = (hset (hset h 38 (.inr (7, [.ref (E.1 + 39), .ref (E.1 + 40), .ref (E.1 + 41), .ref (E.1 + 42), .long (lN xa), .long (lN xb), .ref (E.1 + 43), .int (nI dt), .ref (E.1 + 44), .ref (E.1 + 45), .int (nI mo), .ref (E.1 + 46), .ref (E.1 + 47), .int (nI bn), .int (nI ta1), .int (nI tl1), .int (nI tk1), .int (nI va1), .ref (E.1 + 48), .ref (E.1 + 49)]))) 49 (cI E 5 (nF VA1))) ∧ (stQ F bn (anvJ (kT F bn) (vT F bn) i) ta1 tl1 tk1 va1)) := by
  refine J.of (L := [(0, .ref (E.1 + 38))]) rfl (by decide +kernel) (Nat.le_of_ble_eq_true rfl) ?_
  obtain ⟨PP, hPP⟩ : ∃ PP : jPost, PP = (fun v h' n' => v = some (.int (nI 0)) ∧ n' = n ∧ ∃ (VA1 : Nat → Nat) (ta1 : Nat) (tl1 : Nat) (tk1 : Nat) (va1 : Nat), h' = (hset (hset h 38 (.inr (7, [.ref (E.1 + 39), .ref (E.1 + 40), .ref (E.1 + 41), .ref (E.1 + 42), .long (lN xa), .long (lN xb), .ref (E.1 + 43), .int (nI dt), .ref (E.1 + 44), .ref (E.1 + 45), .int (nI mo), .ref (E.1 + 46), .ref (E.1 + 47), .int (nI bn), .int (nI ta1), .int (nI tl1), .int (nI tk1), .int (nI va1), .ref (E.1 + 48), .ref (E.1 + 49)]))) 49 (cI E 5 (nF VA1))) ∧ (stQ F bn (anvJ (kT F bn) (vT F bn) i) ta1 tl1 tk1 va1)) := ⟨_, rfl⟩
  rw [← hPP]
  refine J_aload_n dX8_takesItem_0 rfl ?_
  refine J_iconst (v := nI 5) dX8_takesItem_1 (by decide +kernel) ?_
  refine J_bipush (v := nI 97) dX8_takesItem_2 (by decide +kernel) ?_
  refine J_bipush (v := nI 110) dX8_takesItem_4 (by decide +kernel) ?_
  refine J_bipush (v := nI 118) dX8_takesItem_6 (by decide +kernel) ?_
  refine J_bipush (v := nI 105) dX8_takesItem_8 (by decide +kernel) ?_
  refine J_bipush (v := nI 108) dX8_takesItem_10 (by decide +kernel) ?_
  refine J_iconst (v := nI 0) dX8_takesItem_12 (by decide +kernel) ?_
  refine J_callVr (M' := mX8_spells) (d' := (1, 0, 0)) (rest := []) dX8_takesItem_13 jmX8_spells jlRX8_230 (ctX8_spells_1 i xa xb dt mo bn ta tl tk va BY F H0 H1 (by omega) (by first | assumption | omega) (by first | assumption | omega) (by first | assumption | omega)) H0 (by omega) jk8.1 rfl rfl (Nat.le_of_ble_eq_true rfl) (Nat.le_of_ble_eq_true rfl) ⟨Nat.le_refl _, Nat.le_refl _⟩ ?_
  refine J_if_eqB (tgt := 24) dX8_takesItem_16 (by decide) (fun c1 => (by exfalso; omega)) (fun c1 => ?_)
  refine J_aload_n dX8_takesItem_19 rfl ?_
  refine J_callV (M' := mX8_takesAnvil) (d' := (6, 0, 0)) (rest := []) dX8_takesItem_20 jmX8_takesAnvil jlRX8_238 (ctX8_takesAnvil_no i xa xb dt mo bn ta tl tk va BY F VA AN H0 H1 H2 H3 (by omega) (by first | assumption | omega) (by first | assumption | omega) (by first | assumption | omega) (by first | assumption | omega) (by first | assumption | omega)) H0 (by omega) jk8.1 rfl rfl (Nat.le_of_ble_eq_true rfl) (Nat.le_of_ble_eq_true rfl) (by constructor <;> decide +kernel) (fun v9 h9 n9 q9 => ?_)
  obtain ⟨rfl, hn9, VA1_2, ta1_3, tl1_4, tk1_5, va1_6, rfl, hst1_7⟩ := q9
  replace hn9 := hn9.symm
  subst hn9
  refine J.stk (st' := [.int (nI 0)]) rfl ?_
  exact J_zret dX8_takesItem_23 rfl rfl ⟨Nat.le_refl _, Nat.le_refl _⟩ (by rw [hPP]; exact ⟨rfl, rfl, VA1_2, ta1_3, tl1_4, tk1_5, va1_6, rfl, (by assumption)⟩)

set_option maxHeartbeats 1000000 in
set_option maxRecDepth 100000 in
theorem ctX8_takesItem_anv {E : jE} {h : Nat → va_E} {n : Nat} (i : Nat) (xa : Nat) (xb : Nat) (dt : Nat) (mo : Nat) (bn : Nat) (ta : Nat) (tl : Nat) (tk : Nat) (va : Nat) (BY : Nat → Nat) (F : Nat → Nat) (VA : Nat → Nat) (AN : Nat → Nat) (H0 : h 38 = .inr (7, [.ref (E.1 + 39), .ref (E.1 + 40), .ref (E.1 + 41), .ref (E.1 + 42), .long (lN xa), .long (lN xb), .ref (E.1 + 43), .int (nI dt), .ref (E.1 + 44), .ref (E.1 + 45), .int (nI mo), .ref (E.1 + 46), .ref (E.1 + 47), .int (nI bn), .int (nI ta), .int (nI tl), .int (nI tk), .int (nI va), .ref (E.1 + 48), .ref (E.1 + 49)])) (H1 : h 47 = cI E 150 (nF BY)) (H2 : h 49 = cI E 5 (nF VA)) (H3 : h 48 = cI E 74 (nF AN)) (hn : 50 ≤ n) (hBY : ∀ zz, zz < bn → BY zz = F zz ∧ F zz ≤ 127) (hbn : bn ≤ 150) (hst : stQ F bn i ta tl tk va) (hk : kT F bn i = 2) (han : AN 0 < 4) (hok : anvOK (kT F bn) (vT F bn) i) : jC E mX8_takesItem (7, 0, 0) [.ref (E.1 + 38)] h n (fun v h' n' => v = some (.int (nI 1)) ∧ n' = n ∧ ∃ (VA1 : Nat → Nat) (ta1 : Nat) (tl1 : Nat) (tk1 : Nat) (va1 : Nat), h' = (hset (hset (hset h 38 (.inr (7, [.ref (E.1 + 39), .ref (E.1 + 40), .ref (E.1 + 41), .ref (E.1 + 42), .long (lN xa), .long (lN xb), .ref (E.1 + 43), .int (nI dt), .ref (E.1 + 44), .ref (E.1 + 45), .int (nI mo), .ref (E.1 + 46), .ref (E.1 + 47), .int (nI bn), .int (nI ta1), .int (nI tl1), .int (nI tk1), .int (nI va1), .ref (E.1 + 48), .ref (E.1 + 49)]))) 49 (cI E 5 (nF VA1))) 48 (cI E 74 (nF (layQ AN (vT F bn (i + 1)) (vT F bn (i + 1 + 1)) (vT F bn (i + 1 + 1 + 1)) (vT F bn (i + 1 + 1 + 1 + 1)) (vT F bn (i + 1 + 1 + 1 + 1 + 1)))))) ∧ (stQ F bn (i + 1 + 1 + 1 + 1 + 1 + 1) ta1 tl1 tk1 va1)) := by
  refine J.of (L := [(0, .ref (E.1 + 38))]) rfl (by decide +kernel) (Nat.le_of_ble_eq_true rfl) ?_
  obtain ⟨PP, hPP⟩ : ∃ PP : jPost, PP = (fun v h' n' => v = some (.int (nI 1)) ∧ n' = n ∧ ∃ (VA1 : Nat → Nat) (ta1 : Nat) (tl1 : Nat) (tk1 : Nat) (va1 : Nat), h' = (hset (hset (hset h 38 (.inr (7, [.ref (E.1 + 39), .ref (E.1 + 40), .ref (E.1 + 41), .ref (E.1 + 42), .long (lN xa), .long (lN xb), .ref (E.1 + 43), .int (nI dt), .ref (E.1 + 44), .ref (E.1 + 45), .int (nI mo), .ref (E.1 + 46), .ref (E.1 + 47), .int (nI bn), .int (nI ta1), .int (nI tl1), .int (nI tk1), .int (nI va1), .ref (E.1 + 48), .ref (E.1 + 49)]))) 49 (cI E 5 (nF VA1))) 48 (cI E 74 (nF (layQ AN (vT F bn (i + 1)) (vT F bn (i + 1 + 1)) (vT F bn (i + 1 + 1 + 1)) (vT F bn (i + 1 + 1 + 1 + 1)) (vT F bn (i + 1 + 1 + 1 + 1 + 1)))))) ∧ (stQ F bn (i + 1 + 1 + 1 + 1 + 1 + 1) ta1 tl1 tk1 va1)) := ⟨_, rfl⟩
  rw [← hPP]
  refine J_aload_n dX8_takesItem_0 rfl ?_
  refine J_iconst (v := nI 5) dX8_takesItem_1 (by decide +kernel) ?_
  refine J_bipush (v := nI 97) dX8_takesItem_2 (by decide +kernel) ?_
  refine J_bipush (v := nI 110) dX8_takesItem_4 (by decide +kernel) ?_
  refine J_bipush (v := nI 118) dX8_takesItem_6 (by decide +kernel) ?_
  refine J_bipush (v := nI 105) dX8_takesItem_8 (by decide +kernel) ?_
  refine J_bipush (v := nI 108) dX8_takesItem_10 (by decide +kernel) ?_
  refine J_iconst (v := nI 0) dX8_takesItem_12 (by decide +kernel) ?_
  refine J_callVr (M' := mX8_spells) (d' := (1, 0, 0)) (rest := []) dX8_takesItem_13 jmX8_spells jlRX8_230 (ctX8_spells_1 i xa xb dt mo bn ta tl tk va BY F H0 H1 (by omega) (by first | assumption | omega) (by first | assumption | omega) (by first | assumption | omega)) H0 (by omega) jk8.1 rfl rfl (Nat.le_of_ble_eq_true rfl) (Nat.le_of_ble_eq_true rfl) ⟨Nat.le_refl _, Nat.le_refl _⟩ ?_
  refine J_if_eqB (tgt := 24) dX8_takesItem_16 (by decide) (fun c1 => (by exfalso; omega)) (fun c1 => ?_)
  refine J_aload_n dX8_takesItem_19 rfl ?_
  refine J_callV (M' := mX8_takesAnvil) (d' := (6, 0, 0)) (rest := []) dX8_takesItem_20 jmX8_takesAnvil jlRX8_238 (ctX8_takesAnvil i xa xb dt mo bn ta tl tk va BY F VA AN H0 H1 H2 H3 (by omega) (by first | assumption | omega) (by first | assumption | omega) (by first | assumption | omega) (by first | assumption | omega) (by first | assumption | omega)) H0 (by omega) jk8.1 rfl rfl (Nat.le_of_ble_eq_true rfl) (Nat.le_of_ble_eq_true rfl) (by constructor <;> decide +kernel) (fun v9 h9 n9 q9 => ?_)
  obtain ⟨rfl, hn9, VA1_2, ta1_3, tl1_4, tk1_5, va1_6, rfl, hst1_7⟩ := q9
  replace hn9 := hn9.symm
  subst hn9
  refine J.stk (st' := [.int (nI 1)]) rfl ?_
  exact J_zret dX8_takesItem_23 rfl rfl ⟨Nat.le_refl _, Nat.le_refl _⟩ (by rw [hPP]; exact ⟨rfl, rfl, VA1_2, ta1_3, tl1_4, tk1_5, va1_6, rfl, (by assumption)⟩)

set_option maxHeartbeats 1000000 in
set_option maxRecDepth 100000 in
theorem ctX8_takesItem_wrkN {E : jE} {h : Nat → va_E} {n : Nat} (i : Nat) (xa : Nat) (xb : Nat) (dt : Nat) (mo : Nat) (bn : Nat) (ta : Nat) (tl : Nat) (tk : Nat) (va : Nat) (BY : Nat → Nat) (F : Nat → Nat) (VA : Nat → Nat) (AN : Nat → Nat) (H0 : h 38 = .inr (7, [.ref (E.1 + 39), .ref (E.1 + 40), .ref (E.1 + 41), .ref (E.1 + 42), .long (lN xa), .long (lN xb), .ref (E.1 + 43), .int (nI dt), .ref (E.1 + 44), .ref (E.1 + 45), .int (nI mo), .ref (E.1 + 46), .ref (E.1 + 47), .int (nI bn), .int (nI ta), .int (nI tl), .int (nI tk), .int (nI va), .ref (E.1 + 48), .ref (E.1 + 49)])) (H1 : h 47 = cI E 150 (nF BY)) (H2 : h 49 = cI E 5 (nF VA)) (H3 : h 48 = cI E 74 (nF AN)) (hn : 50 ≤ n) (hBY : ∀ zz, zz < bn → BY zz = F zz ∧ F zz ≤ 127) (hbn : bn ≤ 150) (hst : stQ F bn i ta tl tk va) (hk : kT F bn i = 3) (han : AN 0 ≤ 4) (hno : ¬ wrkOK (kT F bn) (vT F bn) (AN 0) i) : jC E mX8_takesItem (7, 0, 0) [.ref (E.1 + 38)] h n (fun v h' n' => v = some (.int (nI 0)) ∧ n' = n ∧ ∃ (VA1 : Nat → Nat) (ta1 : Nat) (tl1 : Nat) (tk1 : Nat) (va1 : Nat), h' = (hset (hset h 38 (.inr (7, [.ref (E.1 + 39), .ref (E.1 + 40), .ref (E.1 + 41), .ref (E.1 + 42), .long (lN xa), .long (lN xb), .ref (E.1 + 43), .int (nI dt), .ref (E.1 + 44), .ref (E.1 + 45), .int (nI mo), .ref (E.1 + 46), .ref (E.1 + 47), .int (nI bn), .int (nI ta1), .int (nI tl1), .int (nI tk1), .int (nI va1), .ref (E.1 + 48), .ref (E.1 + 49)]))) 49 (cI E 5 (nF VA1))) ∧ (stQ F bn (wrkJ (kT F bn) (vT F bn) (AN 0) i) ta1 tl1 tk1 va1)) := by
  refine J.of (L := [(0, .ref (E.1 + 38))]) rfl (by decide +kernel) (Nat.le_of_ble_eq_true rfl) ?_
  obtain ⟨PP, hPP⟩ : ∃ PP : jPost, PP = (fun v h' n' => v = some (.int (nI 0)) ∧ n' = n ∧ ∃ (VA1 : Nat → Nat) (ta1 : Nat) (tl1 : Nat) (tk1 : Nat) (va1 : Nat), h' = (hset (hset h 38 (.inr (7, [.ref (E.1 + 39), .ref (E.1 + 40), .ref (E.1 + 41), .ref (E.1 + 42), .long (lN xa), .long (lN xb), .ref (E.1 + 43), .int (nI dt), .ref (E.1 + 44), .ref (E.1 + 45), .int (nI mo), .ref (E.1 + 46), .ref (E.1 + 47), .int (nI bn), .int (nI ta1), .int (nI tl1), .int (nI tk1), .int (nI va1), .ref (E.1 + 48), .ref (E.1 + 49)]))) 49 (cI E 5 (nF VA1))) ∧ (stQ F bn (wrkJ (kT F bn) (vT F bn) (AN 0) i) ta1 tl1 tk1 va1)) := ⟨_, rfl⟩
  rw [← hPP]
  refine J_aload_n dX8_takesItem_0 rfl ?_
  refine J_iconst (v := nI 5) dX8_takesItem_1 (by decide +kernel) ?_
  refine J_bipush (v := nI 97) dX8_takesItem_2 (by decide +kernel) ?_
  refine J_bipush (v := nI 110) dX8_takesItem_4 (by decide +kernel) ?_
  refine J_bipush (v := nI 118) dX8_takesItem_6 (by decide +kernel) ?_
  refine J_bipush (v := nI 105) dX8_takesItem_8 (by decide +kernel) ?_
  refine J_bipush (v := nI 108) dX8_takesItem_10 (by decide +kernel) ?_
  refine J_iconst (v := nI 0) dX8_takesItem_12 (by decide +kernel) ?_
  refine J_callVr (M' := mX8_spells) (d' := (1, 0, 0)) (rest := []) dX8_takesItem_13 jmX8_spells jlRX8_230 (ctX8_spells_1 i xa xb dt mo bn ta tl tk va BY F H0 H1 (by omega) (by first | assumption | omega) (by first | assumption | omega) (by first | assumption | omega)) H0 (by omega) jk8.1 rfl rfl (Nat.le_of_ble_eq_true rfl) (Nat.le_of_ble_eq_true rfl) ⟨Nat.le_refl _, Nat.le_refl _⟩ ?_
  refine J_if_eqB (tgt := 24) dX8_takesItem_16 (by decide) (fun c1 => ?_) (fun c1 => (by exfalso; omega))
  refine J_aload_n dX8_takesItem_24 rfl ?_
  refine J_iconst (v := nI 4) dX8_takesItem_25 (by decide +kernel) ?_
  refine J_bipush (v := nI 119) dX8_takesItem_26 (by decide +kernel) ?_
  refine J_bipush (v := nI 111) dX8_takesItem_28 (by decide +kernel) ?_
  refine J_bipush (v := nI 114) dX8_takesItem_30 (by decide +kernel) ?_
  refine J_bipush (v := nI 107) dX8_takesItem_32 (by decide +kernel) ?_
  refine J_iconst (v := nI 0) dX8_takesItem_34 (by decide +kernel) ?_
  refine J_iconst (v := nI 0) dX8_takesItem_35 (by decide +kernel) ?_
  refine J_callVr (M' := mX8_spells) (d' := (1, 0, 0)) (rest := []) dX8_takesItem_36 jmX8_spells jlRX8_230 (ctX8_spells_2 i xa xb dt mo bn ta tl tk va BY F H0 H1 (by omega) (by first | assumption | omega) (by first | assumption | omega) (by first | assumption | omega)) H0 (by omega) jk8.1 rfl rfl (Nat.le_of_ble_eq_true rfl) (Nat.le_of_ble_eq_true rfl) ⟨Nat.le_refl _, Nat.le_refl _⟩ ?_
  refine J_if_eqB (tgt := 47) dX8_takesItem_39 (by decide) (fun c2 => (by exfalso; omega)) (fun c2 => ?_)
  refine J_aload_n dX8_takesItem_42 rfl ?_
  have sp3 : (AN 0 = 0) ∨ (1 ≤ AN 0) := by omega
  rcases sp3 with sp3 | sp3
  · skip
    refine J_callV (M' := mX8_takesWork) (d' := (6, 0, 0)) (rest := []) dX8_takesItem_43 jmX8_takesWork jlRX8_242 (ctX8_takesWork_n0 i xa xb dt mo bn ta tl tk va BY F VA AN H0 H1 H2 H3 (by omega) (by first | assumption | omega) (by first | assumption | omega) (by first | assumption | omega) (by first | assumption | omega)) H0 (by omega) jk8.1 rfl rfl (Nat.le_of_ble_eq_true rfl) (Nat.le_of_ble_eq_true rfl) (by constructor <;> decide +kernel) (fun v9 h9 n9 q9 => ?_)
    obtain ⟨rfl, hn9, VA1_4, ta1_5, tl1_6, tk1_7, va1_8, rfl, hst1_9⟩ := q9
    replace hn9 := hn9.symm
    subst hn9
    refine J.stk (st' := [.int (nI 0)]) rfl ?_
    exact J_zret dX8_takesItem_46 rfl rfl ⟨Nat.le_refl _, Nat.le_refl _⟩ (by rw [hPP]; exact ⟨rfl, rfl, VA1_4, ta1_5, tl1_6, tk1_7, va1_8, rfl, (by first | assumption | (rw [← wrkJ_1 (k := kT F bn) (v := vT F bn) (an := AN 0) (i := i) (by omega)]; assumption))⟩)
  · skip
    refine J_callV (M' := mX8_takesWork) (d' := (6, 0, 0)) (rest := []) dX8_takesItem_43 jmX8_takesWork jlRX8_242 (ctX8_takesWork_no i xa xb dt mo bn ta tl tk va BY F VA AN H0 H1 H2 H3 (by omega) (by first | assumption | omega) (by first | assumption | omega) (by first | assumption | omega) (by first | assumption | omega) (by first | assumption | omega) (by first | assumption | omega)) H0 (by omega) jk8.1 rfl rfl (Nat.le_of_ble_eq_true rfl) (Nat.le_of_ble_eq_true rfl) (by constructor <;> decide +kernel) (fun v9 h9 n9 q9 => ?_)
    obtain ⟨rfl, hn9, VA1_10, ta1_11, tl1_12, tk1_13, va1_14, rfl, hst1_15⟩ := q9
    replace hn9 := hn9.symm
    subst hn9
    refine J.stk (st' := [.int (nI 0)]) rfl ?_
    exact J_zret dX8_takesItem_46 rfl rfl ⟨Nat.le_refl _, Nat.le_refl _⟩ (by rw [hPP]; exact ⟨rfl, rfl, VA1_10, ta1_11, tl1_12, tk1_13, va1_14, rfl, (by first | assumption | (rw [← wrkJ_1 (k := kT F bn) (v := vT F bn) (an := AN 0) (i := i) (by omega)]; assumption))⟩)

set_option maxHeartbeats 1000000 in
set_option maxRecDepth 100000 in
theorem ctX8_takesItem_wrk {E : jE} {h : Nat → va_E} {n : Nat} (i : Nat) (xa : Nat) (xb : Nat) (dt : Nat) (mo : Nat) (bn : Nat) (ta : Nat) (tl : Nat) (tk : Nat) (va : Nat) (BY : Nat → Nat) (F : Nat → Nat) (VA : Nat → Nat) (AN : Nat → Nat) (H0 : h 38 = .inr (7, [.ref (E.1 + 39), .ref (E.1 + 40), .ref (E.1 + 41), .ref (E.1 + 42), .long (lN xa), .long (lN xb), .ref (E.1 + 43), .int (nI dt), .ref (E.1 + 44), .ref (E.1 + 45), .int (nI mo), .ref (E.1 + 46), .ref (E.1 + 47), .int (nI bn), .int (nI ta), .int (nI tl), .int (nI tk), .int (nI va), .ref (E.1 + 48), .ref (E.1 + 49)])) (H1 : h 47 = cI E 150 (nF BY)) (H2 : h 49 = cI E 5 (nF VA)) (H3 : h 48 = cI E 74 (nF AN)) (hn : 50 ≤ n) (hBY : ∀ zz, zz < bn → BY zz = F zz ∧ F zz ≤ 127) (hbn : bn ≤ 150) (hst : stQ F bn i ta tl tk va) (hk : kT F bn i = 3) (han : AN 0 ≤ 4) (hA22 : ∀ zz, zz < 4 → AN (22 + zz) ≤ 5) (hA4 : ∀ zz, zz < 16 → AN (4 + zz) ≤ 20) (hok : wrkOK (kT F bn) (vT F bn) (AN 0) i) : jC E mX8_takesItem (7, 0, 0) [.ref (E.1 + 38)] h n (fun v h' n' => v = some (.int (nI 1)) ∧ n' = n ∧ ∃ (VA1 : Nat → Nat) (ta1 : Nat) (tl1 : Nat) (tk1 : Nat) (va1 : Nat), h' = (hset (hset (hset h 38 (.inr (7, [.ref (E.1 + 39), .ref (E.1 + 40), .ref (E.1 + 41), .ref (E.1 + 42), .long (lN xa), .long (lN xb), .ref (E.1 + 43), .int (nI dt), .ref (E.1 + 44), .ref (E.1 + 45), .int (nI mo), .ref (E.1 + 46), .ref (E.1 + 47), .int (nI bn), .int (nI ta1), .int (nI tl1), .int (nI tk1), .int (nI va1), .ref (E.1 + 48), .ref (E.1 + 49)]))) 49 (cI E 5 (nF VA1))) 48 (cI E 74 (nF (wrkQ AN (vT F bn (i + 1)) (vT F bn (i + 1 + 1)) (vT F bn (i + 1 + 1 + 1)))))) ∧ (stQ F bn (i + 1 + 1 + 1 + 1) ta1 tl1 tk1 va1)) := by
  refine J.of (L := [(0, .ref (E.1 + 38))]) rfl (by decide +kernel) (Nat.le_of_ble_eq_true rfl) ?_
  obtain ⟨PP, hPP⟩ : ∃ PP : jPost, PP = (fun v h' n' => v = some (.int (nI 1)) ∧ n' = n ∧ ∃ (VA1 : Nat → Nat) (ta1 : Nat) (tl1 : Nat) (tk1 : Nat) (va1 : Nat), h' = (hset (hset (hset h 38 (.inr (7, [.ref (E.1 + 39), .ref (E.1 + 40), .ref (E.1 + 41), .ref (E.1 + 42), .long (lN xa), .long (lN xb), .ref (E.1 + 43), .int (nI dt), .ref (E.1 + 44), .ref (E.1 + 45), .int (nI mo), .ref (E.1 + 46), .ref (E.1 + 47), .int (nI bn), .int (nI ta1), .int (nI tl1), .int (nI tk1), .int (nI va1), .ref (E.1 + 48), .ref (E.1 + 49)]))) 49 (cI E 5 (nF VA1))) 48 (cI E 74 (nF (wrkQ AN (vT F bn (i + 1)) (vT F bn (i + 1 + 1)) (vT F bn (i + 1 + 1 + 1)))))) ∧ (stQ F bn (i + 1 + 1 + 1 + 1) ta1 tl1 tk1 va1)) := ⟨_, rfl⟩
  rw [← hPP]
  refine J_aload_n dX8_takesItem_0 rfl ?_
  refine J_iconst (v := nI 5) dX8_takesItem_1 (by decide +kernel) ?_
  refine J_bipush (v := nI 97) dX8_takesItem_2 (by decide +kernel) ?_
  refine J_bipush (v := nI 110) dX8_takesItem_4 (by decide +kernel) ?_
  refine J_bipush (v := nI 118) dX8_takesItem_6 (by decide +kernel) ?_
  refine J_bipush (v := nI 105) dX8_takesItem_8 (by decide +kernel) ?_
  refine J_bipush (v := nI 108) dX8_takesItem_10 (by decide +kernel) ?_
  refine J_iconst (v := nI 0) dX8_takesItem_12 (by decide +kernel) ?_
  refine J_callVr (M' := mX8_spells) (d' := (1, 0, 0)) (rest := []) dX8_takesItem_13 jmX8_spells jlRX8_230 (ctX8_spells_1 i xa xb dt mo bn ta tl tk va BY F H0 H1 (by omega) (by first | assumption | omega) (by first | assumption | omega) (by first | assumption | omega)) H0 (by omega) jk8.1 rfl rfl (Nat.le_of_ble_eq_true rfl) (Nat.le_of_ble_eq_true rfl) ⟨Nat.le_refl _, Nat.le_refl _⟩ ?_
  refine J_if_eqB (tgt := 24) dX8_takesItem_16 (by decide) (fun c1 => ?_) (fun c1 => (by exfalso; omega))
  refine J_aload_n dX8_takesItem_24 rfl ?_
  refine J_iconst (v := nI 4) dX8_takesItem_25 (by decide +kernel) ?_
  refine J_bipush (v := nI 119) dX8_takesItem_26 (by decide +kernel) ?_
  refine J_bipush (v := nI 111) dX8_takesItem_28 (by decide +kernel) ?_
  refine J_bipush (v := nI 114) dX8_takesItem_30 (by decide +kernel) ?_
  refine J_bipush (v := nI 107) dX8_takesItem_32 (by decide +kernel) ?_
  refine J_iconst (v := nI 0) dX8_takesItem_34 (by decide +kernel) ?_
  refine J_iconst (v := nI 0) dX8_takesItem_35 (by decide +kernel) ?_
  refine J_callVr (M' := mX8_spells) (d' := (1, 0, 0)) (rest := []) dX8_takesItem_36 jmX8_spells jlRX8_230 (ctX8_spells_2 i xa xb dt mo bn ta tl tk va BY F H0 H1 (by omega) (by first | assumption | omega) (by first | assumption | omega) (by first | assumption | omega)) H0 (by omega) jk8.1 rfl rfl (Nat.le_of_ble_eq_true rfl) (Nat.le_of_ble_eq_true rfl) ⟨Nat.le_refl _, Nat.le_refl _⟩ ?_
  refine J_if_eqB (tgt := 47) dX8_takesItem_39 (by decide) (fun c2 => (by exfalso; omega)) (fun c2 => ?_)
  refine J_aload_n dX8_takesItem_42 rfl ?_
  refine J_callV (M' := mX8_takesWork) (d' := (6, 0, 0)) (rest := []) dX8_takesItem_43 jmX8_takesWork jlRX8_242 (ctX8_takesWork i xa xb dt mo bn ta tl tk va BY F VA AN H0 H1 H2 H3 (by omega) (by first | assumption | omega) (by first | assumption | omega) (by first | assumption | omega) (by first | assumption | omega) (by first | assumption | omega) (by first | assumption | omega) (by first | assumption | omega)) H0 (by omega) jk8.1 rfl rfl (Nat.le_of_ble_eq_true rfl) (Nat.le_of_ble_eq_true rfl) (by constructor <;> decide +kernel) (fun v9 h9 n9 q9 => ?_)
  obtain ⟨rfl, hn9, VA1_3, ta1_4, tl1_5, tk1_6, va1_7, rfl, hst1_8⟩ := q9
  replace hn9 := hn9.symm
  subst hn9
  refine J.stk (st' := [.int (nI 1)]) rfl ?_
  exact J_zret dX8_takesItem_46 rfl rfl ⟨Nat.le_refl _, Nat.le_refl _⟩ (by rw [hPP]; exact ⟨rfl, rfl, VA1_3, ta1_4, tl1_5, tk1_6, va1_7, rfl, (by assumption)⟩)

set_option maxHeartbeats 1000000 in
set_option maxRecDepth 100000 in
theorem ctX8_takesItem_day {E : jE} {h : Nat → va_E} {n : Nat} (i : Nat) (xa : Nat) (xb : Nat) (dt : Nat) (mo : Nat) (bn : Nat) (ta : Nat) (tl : Nat) (tk : Nat) (va : Nat) (BY : Nat → Nat) (F : Nat → Nat) (VA : Nat → Nat) (AN : Nat → Nat) (H0 : h 38 = .inr (7, [.ref (E.1 + 39), .ref (E.1 + 40), .ref (E.1 + 41), .ref (E.1 + 42), .long (lN xa), .long (lN xb), .ref (E.1 + 43), .int (nI dt), .ref (E.1 + 44), .ref (E.1 + 45), .int (nI mo), .ref (E.1 + 46), .ref (E.1 + 47), .int (nI bn), .int (nI ta), .int (nI tl), .int (nI tk), .int (nI va), .ref (E.1 + 48), .ref (E.1 + 49)])) (H1 : h 47 = cI E 150 (nF BY)) (H2 : h 49 = cI E 5 (nF VA)) (H3 : h 48 = cI E 74 (nF AN)) (hn : 50 ≤ n) (hBY : ∀ zz, zz < bn → BY zz = F zz ∧ F zz ≤ 127) (hbn : bn ≤ 150) (hst : stQ F bn i ta tl tk va) (hk : kT F bn i = 4) (han : AN 0 ≤ 4) (hA22 : ∀ zz, zz < 4 → AN (22 + zz) ≤ 5) (hA4 : ∀ zz, zz < 16 → AN (4 + zz) ≤ 20) (h20 : AN 20 ≤ 999) : jC E mX8_takesItem (7, 0, 0) [.ref (E.1 + 38)] h n (fun v h' n' => v = some (.int (nI 1)) ∧ n' = n ∧ ∃ (VA1 : Nat → Nat) (ta1 : Nat) (tl1 : Nat) (tk1 : Nat) (va1 : Nat), h' = (hset (hset (hset h 38 (.inr (7, [.ref (E.1 + 39), .ref (E.1 + 40), .ref (E.1 + 41), .ref (E.1 + 42), .long (lN xa), .long (lN xb), .ref (E.1 + 43), .int (nI dt), .ref (E.1 + 44), .ref (E.1 + 45), .int (nI mo), .ref (E.1 + 46), .ref (E.1 + 47), .int (nI bn), .int (nI ta1), .int (nI tl1), .int (nI tk1), .int (nI va1), .ref (E.1 + 48), .ref (E.1 + 49)]))) 49 (cI E 5 (nF VA1))) 48 (cI E 74 (nF (dayQ AN)))) ∧ (stQ F bn (i + 1) ta1 tl1 tk1 va1)) := by
  refine J.of (L := [(0, .ref (E.1 + 38))]) rfl (by decide +kernel) (Nat.le_of_ble_eq_true rfl) ?_
  obtain ⟨PP, hPP⟩ : ∃ PP : jPost, PP = (fun v h' n' => v = some (.int (nI 1)) ∧ n' = n ∧ ∃ (VA1 : Nat → Nat) (ta1 : Nat) (tl1 : Nat) (tk1 : Nat) (va1 : Nat), h' = (hset (hset (hset h 38 (.inr (7, [.ref (E.1 + 39), .ref (E.1 + 40), .ref (E.1 + 41), .ref (E.1 + 42), .long (lN xa), .long (lN xb), .ref (E.1 + 43), .int (nI dt), .ref (E.1 + 44), .ref (E.1 + 45), .int (nI mo), .ref (E.1 + 46), .ref (E.1 + 47), .int (nI bn), .int (nI ta1), .int (nI tl1), .int (nI tk1), .int (nI va1), .ref (E.1 + 48), .ref (E.1 + 49)]))) 49 (cI E 5 (nF VA1))) 48 (cI E 74 (nF (dayQ AN)))) ∧ (stQ F bn (i + 1) ta1 tl1 tk1 va1)) := ⟨_, rfl⟩
  rw [← hPP]
  refine J_aload_n dX8_takesItem_0 rfl ?_
  refine J_iconst (v := nI 5) dX8_takesItem_1 (by decide +kernel) ?_
  refine J_bipush (v := nI 97) dX8_takesItem_2 (by decide +kernel) ?_
  refine J_bipush (v := nI 110) dX8_takesItem_4 (by decide +kernel) ?_
  refine J_bipush (v := nI 118) dX8_takesItem_6 (by decide +kernel) ?_
  refine J_bipush (v := nI 105) dX8_takesItem_8 (by decide +kernel) ?_
  refine J_bipush (v := nI 108) dX8_takesItem_10 (by decide +kernel) ?_
  refine J_iconst (v := nI 0) dX8_takesItem_12 (by decide +kernel) ?_
  refine J_callVr (M' := mX8_spells) (d' := (1, 0, 0)) (rest := []) dX8_takesItem_13 jmX8_spells jlRX8_230 (ctX8_spells_1 i xa xb dt mo bn ta tl tk va BY F H0 H1 (by omega) (by first | assumption | omega) (by first | assumption | omega) (by first | assumption | omega)) H0 (by omega) jk8.1 rfl rfl (Nat.le_of_ble_eq_true rfl) (Nat.le_of_ble_eq_true rfl) ⟨Nat.le_refl _, Nat.le_refl _⟩ ?_
  refine J_if_eqB (tgt := 24) dX8_takesItem_16 (by decide) (fun c1 => ?_) (fun c1 => (by exfalso; omega))
  refine J_aload_n dX8_takesItem_24 rfl ?_
  refine J_iconst (v := nI 4) dX8_takesItem_25 (by decide +kernel) ?_
  refine J_bipush (v := nI 119) dX8_takesItem_26 (by decide +kernel) ?_
  refine J_bipush (v := nI 111) dX8_takesItem_28 (by decide +kernel) ?_
  refine J_bipush (v := nI 114) dX8_takesItem_30 (by decide +kernel) ?_
  refine J_bipush (v := nI 107) dX8_takesItem_32 (by decide +kernel) ?_
  refine J_iconst (v := nI 0) dX8_takesItem_34 (by decide +kernel) ?_
  refine J_iconst (v := nI 0) dX8_takesItem_35 (by decide +kernel) ?_
  refine J_callVr (M' := mX8_spells) (d' := (1, 0, 0)) (rest := []) dX8_takesItem_36 jmX8_spells jlRX8_230 (ctX8_spells_2 i xa xb dt mo bn ta tl tk va BY F H0 H1 (by omega) (by first | assumption | omega) (by first | assumption | omega) (by first | assumption | omega)) H0 (by omega) jk8.1 rfl rfl (Nat.le_of_ble_eq_true rfl) (Nat.le_of_ble_eq_true rfl) ⟨Nat.le_refl _, Nat.le_refl _⟩ ?_
  refine J_if_eqB (tgt := 47) dX8_takesItem_39 (by decide) (fun c2 => ?_) (fun c2 => (by exfalso; omega))
  refine J_aload_n dX8_takesItem_47 rfl ?_
  refine J_iconst (v := nI 3) dX8_takesItem_48 (by decide +kernel) ?_
  refine J_bipush (v := nI 100) dX8_takesItem_49 (by decide +kernel) ?_
  refine J_bipush (v := nI 97) dX8_takesItem_51 (by decide +kernel) ?_
  refine J_bipush (v := nI 121) dX8_takesItem_53 (by decide +kernel) ?_
  refine J_iconst (v := nI 0) dX8_takesItem_55 (by decide +kernel) ?_
  refine J_iconst (v := nI 0) dX8_takesItem_56 (by decide +kernel) ?_
  refine J_iconst (v := nI 0) dX8_takesItem_57 (by decide +kernel) ?_
  refine J_callVr (M' := mX8_spells) (d' := (1, 0, 0)) (rest := []) dX8_takesItem_58 jmX8_spells jlRX8_230 (ctX8_spells_3 i xa xb dt mo bn ta tl tk va BY F H0 H1 (by omega) (by first | assumption | omega) (by first | assumption | omega) (by first | assumption | omega)) H0 (by omega) jk8.1 rfl rfl (Nat.le_of_ble_eq_true rfl) (Nat.le_of_ble_eq_true rfl) ⟨Nat.le_refl _, Nat.le_refl _⟩ ?_
  refine J_if_eqB (tgt := 75) dX8_takesItem_61 (by decide) (fun c3 => (by exfalso; omega)) (fun c3 => ?_)
  refine J_aload_n dX8_takesItem_64 rfl ?_
  refine J_callV (M' := mX8_takesDay) (d' := (5, 0, 0)) (rest := []) dX8_takesItem_65 jmX8_takesDay jlRX8_245 (ctX8_takesDay i xa xb dt mo bn ta tl tk va BY F VA AN H0 H1 H2 H3 (by omega) (by first | assumption | omega) (by first | assumption | omega) (by first | assumption | omega) (by first | assumption | omega) (by first | assumption | omega) (by first | assumption | omega) (by first | assumption | omega)) H0 (by omega) jk8.1 rfl rfl (Nat.le_of_ble_eq_true rfl) (Nat.le_of_ble_eq_true rfl) (by constructor <;> decide +kernel) (fun v9 h9 n9 q9 => ?_)
  obtain ⟨rfl, hn9, VA1_4, ta1_5, tl1_6, tk1_7, va1_8, rfl, hst1_9⟩ := q9
  replace hn9 := hn9.symm
  subst hn9
  refine J.stk (st' := [.int (nI 1)]) rfl ?_
  refine J_if_eqN (tgt := 75) dX8_takesItem_68 (by decide) (by omega) (fun z => absurd z (by decide)) (fun _ => ?_)
  refine J_iconst (v := nI 1) dX8_takesItem_71 (by decide +kernel) ?_
  refine J_goto (tgt := 76) dX8_takesItem_72 (by decide) ?_
  exact J_zret dX8_takesItem_76 rfl rfl ⟨Nat.le_refl _, Nat.le_refl _⟩ (by rw [hPP]; exact ⟨rfl, rfl, VA1_4, ta1_5, tl1_6, tk1_7, va1_8, rfl, (by assumption)⟩)

set_option maxHeartbeats 1000000 in
set_option maxRecDepth 100000 in
theorem ctX8_takesItem_no {E : jE} {h : Nat → va_E} {n : Nat} (i : Nat) (xa : Nat) (xb : Nat) (dt : Nat) (mo : Nat) (bn : Nat) (ta : Nat) (tl : Nat) (tk : Nat) (va : Nat) (BY : Nat → Nat) (F : Nat → Nat) (VA : Nat → Nat) (AN : Nat → Nat) (H0 : h 38 = .inr (7, [.ref (E.1 + 39), .ref (E.1 + 40), .ref (E.1 + 41), .ref (E.1 + 42), .long (lN xa), .long (lN xb), .ref (E.1 + 43), .int (nI dt), .ref (E.1 + 44), .ref (E.1 + 45), .int (nI mo), .ref (E.1 + 46), .ref (E.1 + 47), .int (nI bn), .int (nI ta), .int (nI tl), .int (nI tk), .int (nI va), .ref (E.1 + 48), .ref (E.1 + 49)])) (H1 : h 47 = cI E 150 (nF BY)) (H2 : h 49 = cI E 5 (nF VA)) (H3 : h 48 = cI E 74 (nF AN)) (hn : 50 ≤ n) (hBY : ∀ zz, zz < bn → BY zz = F zz ∧ F zz ≤ 127) (hbn : bn ≤ 150) (hst : stQ F bn i ta tl tk va) (hno : ¬ kT F bn i = 2 ∧ ¬ kT F bn i = 3 ∧ ¬ kT F bn i = 4) : jC E mX8_takesItem (7, 0, 0) [.ref (E.1 + 38)] h n (jR (some (.int (nI 0))) h n) := by
  refine J.of (L := [(0, .ref (E.1 + 38))]) rfl (by decide +kernel) (Nat.le_of_ble_eq_true rfl) ?_
  obtain ⟨PP, hPP⟩ : ∃ PP : jPost, PP = (jR (some (.int (nI 0))) h n) := ⟨_, rfl⟩
  rw [← hPP]
  refine J_aload_n dX8_takesItem_0 rfl ?_
  refine J_iconst (v := nI 5) dX8_takesItem_1 (by decide +kernel) ?_
  refine J_bipush (v := nI 97) dX8_takesItem_2 (by decide +kernel) ?_
  refine J_bipush (v := nI 110) dX8_takesItem_4 (by decide +kernel) ?_
  refine J_bipush (v := nI 118) dX8_takesItem_6 (by decide +kernel) ?_
  refine J_bipush (v := nI 105) dX8_takesItem_8 (by decide +kernel) ?_
  refine J_bipush (v := nI 108) dX8_takesItem_10 (by decide +kernel) ?_
  refine J_iconst (v := nI 0) dX8_takesItem_12 (by decide +kernel) ?_
  refine J_callVr (M' := mX8_spells) (d' := (1, 0, 0)) (rest := []) dX8_takesItem_13 jmX8_spells jlRX8_230 (ctX8_spells_1 i xa xb dt mo bn ta tl tk va BY F H0 H1 (by omega) (by first | assumption | omega) (by first | assumption | omega) (by first | assumption | omega)) H0 (by omega) jk8.1 rfl rfl (Nat.le_of_ble_eq_true rfl) (Nat.le_of_ble_eq_true rfl) ⟨Nat.le_refl _, Nat.le_refl _⟩ ?_
  refine J_if_eqB (tgt := 24) dX8_takesItem_16 (by decide) (fun c1 => ?_) (fun c1 => (by exfalso; omega))
  refine J_aload_n dX8_takesItem_24 rfl ?_
  refine J_iconst (v := nI 4) dX8_takesItem_25 (by decide +kernel) ?_
  refine J_bipush (v := nI 119) dX8_takesItem_26 (by decide +kernel) ?_
  refine J_bipush (v := nI 111) dX8_takesItem_28 (by decide +kernel) ?_
  refine J_bipush (v := nI 114) dX8_takesItem_30 (by decide +kernel) ?_
  refine J_bipush (v := nI 107) dX8_takesItem_32 (by decide +kernel) ?_
  refine J_iconst (v := nI 0) dX8_takesItem_34 (by decide +kernel) ?_
  refine J_iconst (v := nI 0) dX8_takesItem_35 (by decide +kernel) ?_
  refine J_callVr (M' := mX8_spells) (d' := (1, 0, 0)) (rest := []) dX8_takesItem_36 jmX8_spells jlRX8_230 (ctX8_spells_2 i xa xb dt mo bn ta tl tk va BY F H0 H1 (by omega) (by first | assumption | omega) (by first | assumption | omega) (by first | assumption | omega)) H0 (by omega) jk8.1 rfl rfl (Nat.le_of_ble_eq_true rfl) (Nat.le_of_ble_eq_true rfl) ⟨Nat.le_refl _, Nat.le_refl _⟩ ?_
  refine J_if_eqB (tgt := 47) dX8_takesItem_39 (by decide) (fun c2 => ?_) (fun c2 => (by exfalso; omega))
  refine J_aload_n dX8_takesItem_47 rfl ?_
  refine J_iconst (v := nI 3) dX8_takesItem_48 (by decide +kernel) ?_
  refine J_bipush (v := nI 100) dX8_takesItem_49 (by decide +kernel) ?_
  refine J_bipush (v := nI 97) dX8_takesItem_51 (by decide +kernel) ?_
  refine J_bipush (v := nI 121) dX8_takesItem_53 (by decide +kernel) ?_
  refine J_iconst (v := nI 0) dX8_takesItem_55 (by decide +kernel) ?_
  refine J_iconst (v := nI 0) dX8_takesItem_56 (by decide +kernel) ?_
  refine J_iconst (v := nI 0) dX8_takesItem_57 (by decide +kernel) ?_
  refine J_callVr (M' := mX8_spells) (d' := (1, 0, 0)) (rest := []) dX8_takesItem_58 jmX8_spells jlRX8_230 (ctX8_spells_3 i xa xb dt mo bn ta tl tk va BY F H0 H1 (by omega) (by first | assumption | omega) (by first | assumption | omega) (by first | assumption | omega)) H0 (by omega) jk8.1 rfl rfl (Nat.le_of_ble_eq_true rfl) (Nat.le_of_ble_eq_true rfl) ⟨Nat.le_refl _, Nat.le_refl _⟩ ?_
  refine J_if_eqB (tgt := 75) dX8_takesItem_61 (by decide) (fun c3 => ?_) (fun c3 => (by exfalso; omega))
  refine J_iconst (v := nI 0) dX8_takesItem_75 (by decide +kernel) ?_
  exact J_zret dX8_takesItem_76 rfl rfl ⟨Nat.le_refl _, Nat.le_refl _⟩ (by rw [hPP]; exact ⟨rfl, rfl, rfl⟩)
