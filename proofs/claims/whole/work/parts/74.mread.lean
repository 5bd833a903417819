set_option maxHeartbeats 1000000 in
set_option maxRecDepth 100000 in
theorem ctX8_read_no {E : jE} {h : Nat → va_E} {n : Nat} (j : Nat) (xa : Nat) (xb : Nat) (dt : Nat) (mo : Nat) (bn : Nat) (ta : Nat) (tl : Nat) (tk : Nat) (va : Nat) (BY : Nat → Nat) (F : Nat → Nat) (VA : Nat → Nat) (AN : Nat → Nat) (Q : Nat → Nat) (H0 : h 38 = .inr (7, [.ref (E.1 + 39), .ref (E.1 + 40), .ref (E.1 + 41), .ref (E.1 + 42), .long (lN xa), .long (lN xb), .ref (E.1 + 43), .int (nI dt), .ref (E.1 + 44), .ref (E.1 + 45), .int (nI mo), .ref (E.1 + 46), .ref (E.1 + 47), .int (nI bn), .int (nI ta), .int (nI tl), .int (nI tk), .int (nI va), .ref (E.1 + 48), .ref (E.1 + 49)])) (H1 : h 47 = cI E 150 (nF BY)) (H2 : h 49 = cI E 5 (nF VA)) (H3 : h 48 = cI E 74 (nF AN)) (H4 : h 39 = cI E 218 (nF Q)) (hn : 50 ≤ n) (hBY : ∀ zz, zz < bn → BY zz = F zz ∧ F zz ≤ 127) (hbn : bn ≤ 150) (hG : rdG (kT F bn) (vT F bn) = (j, none)) : jC E mX8_read (8, 0, 0) [.ref (E.1 + 38)] h n (fun v h' n' => v = some (.int ((-10) - (nI (posT F bn j)))) ∧ n' = n ∧ ∃ (AN2 : Nat → Nat) (VA2 : Nat → Nat) (ta2 : Nat) (tl2 : Nat) (tk2 : Nat) (va2 : Nat), h' = (hset (hset (hset h 38 (.inr (7, [.ref (E.1 + 39), .ref (E.1 + 40), .ref (E.1 + 41), .ref (E.1 + 42), .long (lN xa), .long (lN xb), .ref (E.1 + 43), .int (nI dt), .ref (E.1 + 44), .ref (E.1 + 45), .int (nI mo), .ref (E.1 + 46), .ref (E.1 + 47), .int (nI bn), .int (nI ta2), .int (nI tl2), .int (nI tk2), .int (nI va2), .ref (E.1 + 48), .ref (E.1 + 49)]))) 49 (cI E 5 (nF VA2))) 48 (cI E 74 (nF AN2)))) := by
  refine J.of (L := [(0, .ref (E.1 + 38))]) rfl (by decide +kernel) (Nat.le_of_ble_eq_true rfl) ?_
  obtain ⟨PP, hPP⟩ : ∃ PP : jPost, PP = (fun v h' n' => v = some (.int ((-10) - (nI (posT F bn j)))) ∧ n' = n ∧ ∃ (AN2 : Nat → Nat) (VA2 : Nat → Nat) (ta2 : Nat) (tl2 : Nat) (tk2 : Nat) (va2 : Nat), h' = (hset (hset (hset h 38 (.inr (7, [.ref (E.1 + 39), .ref (E.1 + 40), .ref (E.1 + 41), .ref (E.1 + 42), .long (lN xa), .long (lN xb), .ref (E.1 + 43), .int (nI dt), .ref (E.1 + 44), .ref (E.1 + 45), .int (nI mo), .ref (E.1 + 46), .ref (E.1 + 47), .int (nI bn), .int (nI ta2), .int (nI tl2), .int (nI tk2), .int (nI va2), .ref (E.1 + 48), .ref (E.1 + 49)]))) 49 (cI E 5 (nF VA2))) 48 (cI E 74 (nF AN2)))) := ⟨_, rfl⟩
  rw [← hPP]
  refine J_aload_n dX8_read_0 rfl ?_
  refine J_iconst (v := nI 0) dX8_read_1 (by decide +kernel) ?_
  refine J_callV (M' := mX8_lookAt) (d' := (3, 0, 0)) (rest := []) dX8_read_2 jmX8_lookAt jlRX8_223 (ctX8_lookAt 0 xa xb dt mo bn ta tl tk va BY F H0 H1 (by omega) (by first | assumption | omega) (by first | assumption | omega) (by first | assumption | omega)) H0 (by omega) jk8.1 rfl rfl (Nat.le_of_ble_eq_true rfl) (Nat.le_of_ble_eq_true rfl) (by constructor <;> decide +kernel) (fun v9 h9 n9 q9 => ?_)
  obtain ⟨rfl, hn9, va1_1, rfl, hva_2⟩ := q9
  replace hn9 := hn9.symm
  subst hn9
  refine J.stk (st' := []) rfl ?_
  have hst0 := stQ_of (F := F) (n := bn) (i := 0) rfl hva_2
  have sp3 : (¬ kT F bn 0 = 1) ∨ (kT F bn 0 = 1 ∧ ¬ (kT F bn 1 = 5 ∧ vT F bn 1 ≤ 9)) ∨ (kT F bn 0 = 1 ∧ (kT F bn 1 = 5 ∧ vT F bn 1 ≤ 9)) := by omega
  rcases sp3 with sp3 | sp3 | sp3
  · skip
    have z0 := sp3
    refine J_aload_n dX8_read_5 rfl ?_
    refine J_callVr (M' := mX8_takesStreet) (d' := (6, 0, 0)) (rest := []) dX8_read_6 jmX8_takesStreet jlRX8_248 (ctX8_takesStreet_0 xa xb dt mo bn (skipF F bn 0) (lenQ F bn (skipF F bn 0)) (tokR F bn (skipF F bn 0)) va1_1 BY F VA AN hset_eq ((hset_ne (by omega)).trans H1) ((hset_ne (by omega)).trans H2) ((hset_ne (by omega)).trans H3) (by omega) (by first | assumption | omega) (by first | assumption | omega) (by first | assumption | omega) (by first | assumption | omega)) hset_eq (by omega) jk8.1 rfl rfl (Nat.le_of_ble_eq_true rfl) (Nat.le_of_ble_eq_true rfl) ⟨Nat.le_refl _, Nat.le_refl _⟩ ?_
    refine J_if_neN (tgt := 20) dX8_read_9 (by decide) (by omega) (fun z => absurd z (by decide)) (fun _ => ?_)
    refine J_bipush (v := (-10)) dX8_read_12 (by decide +kernel) ?_
    refine J_aload_n dX8_read_14 rfl ?_
    refine J_get 14 dX8_read_15 jk8 (Nat.le_of_ble_eq_true rfl) jfRX8_205 hset_eq (by omega) rfl ?_
    refine J_isub dX8_read_18 ?_
    exact J_iret dX8_read_19 rfl ⟨Nat.le_refl _, Nat.le_refl _⟩ (by rw [hPP]; exact ⟨(congrArg some (jv_I (by first | exact flt8 (rd_0 z0) hG hst0.1 | exact flt8 (rd_1 z0 z1) hG hs6.1 | exact flt8 (rd_2 z0 z1 (by omega)) hG hs6.1 | exact flt8 (gs_full hgo2 q1 q2) hG hst1.1 | exact flt8 (gs_anvN hgo2 q1 q2 q3) hG hs34.1 | exact flt8 (gs_anvP hgo2 q1 q2 q3 (by omega)) hG hs34.1 | exact flt8 (gs_wrkN hgo2 q1 q3) hG hs34.1 | exact flt8 (gs_wrkP hgo2 q1 q3 (by omega)) hG hs34.1 | exact flt8 (gs_dayP hgo2 q1 (by omega)) hG hs34.1 | exact flt8 (gs_no hgo2 hnz q1) hG hst1.1))), rfl, AN, VA, (skipF F bn 0), (lenQ F bn (skipF F bn 0)), (tokR F bn (skipF F bn 0)), va1_1, ((show (hset h 38 (.inr (7, [.ref (E.1 + 39), .ref (E.1 + 40), .ref (E.1 + 41), .ref (E.1 + 42), .long (lN xa), .long (lN xb), .ref (E.1 + 43), .int (nI dt), .ref (E.1 + 44), .ref (E.1 + 45), .int (nI mo), .ref (E.1 + 46), .ref (E.1 + 47), .int (nI bn), .int (nI (skipF F bn 0)), .int (nI (lenQ F bn (skipF F bn 0))), .int (nI (tokR F bn (skipF F bn 0))), .int (nI va1_1), .ref (E.1 + 48), .ref (E.1 + 49)]))) = (hset (hset (hset h 38 (.inr (7, [.ref (E.1 + 39), .ref (E.1 + 40), .ref (E.1 + 41), .ref (E.1 + 42), .long (lN xa), .long (lN xb), .ref (E.1 + 43), .int (nI dt), .ref (E.1 + 44), .ref (E.1 + 45), .int (nI mo), .ref (E.1 + 46), .ref (E.1 + 47), .int (nI bn), .int (nI (skipF F bn 0)), .int (nI (lenQ F bn (skipF F bn 0))), .int (nI (tokR F bn (skipF F bn 0))), .int (nI va1_1), .ref (E.1 + 48), .ref (E.1 + 49)]))) 49 (cI E 5 (nF VA))) 48 (cI E 74 (nF AN))) by funext z; simp only [hset]; (repeat' split) <;> first | rfl | (exfalso; omega) | (subst_vars; first | exact H2 | exact H3)).trans (hset_cg (hset_cg (hset_cg rfl rfl) rfl) rfl))⟩)
  · skip
    obtain ⟨z0, z1⟩ := sp3
    refine J_aload_n dX8_read_5 rfl ?_
    refine J_callV (M' := mX8_takesStreet) (d' := (6, 0, 0)) (rest := []) dX8_read_6 jmX8_takesStreet jlRX8_248 (ctX8_takesStreet_1 xa xb dt mo bn (skipF F bn 0) (lenQ F bn (skipF F bn 0)) (tokR F bn (skipF F bn 0)) va1_1 BY F VA AN hset_eq ((hset_ne (by omega)).trans H1) ((hset_ne (by omega)).trans H2) ((hset_ne (by omega)).trans H3) (by omega) (by first | assumption | omega) (by first | assumption | omega) (by first | assumption | omega) (by first | assumption | omega) (by first | assumption | omega)) hset_eq (by omega) jk8.1 rfl rfl (Nat.le_of_ble_eq_true rfl) (Nat.le_of_ble_eq_true rfl) (by constructor <;> decide +kernel) (fun v9 h9 n9 q9 => ?_)
    obtain ⟨rfl, hn9, VA1_5, ta1_6, tl1_7, tk1_8, va1_9, rfl, hst1_10⟩ := q9
    replace hn9 := hn9.symm
    subst hn9
    refine J.cast (hset_cg hset_hset rfl) ?_
    refine J.stk (st' := [.int (nI 0)]) rfl ?_
    have hs6 := hst1_10
    refine J_if_neN (tgt := 20) dX8_read_9 (by decide) (by omega) (fun z => absurd z (by decide)) (fun _ => ?_)
    refine J_bipush (v := (-10)) dX8_read_12 (by decide +kernel) ?_
    refine J_aload_n dX8_read_14 rfl ?_
    refine J_get 14 dX8_read_15 jk8 (Nat.le_of_ble_eq_true rfl) jfRX8_205 ((hset_ne (by omega)).trans hset_eq) (by omega) rfl ?_
    refine J_isub dX8_read_18 ?_
    exact J_iret dX8_read_19 rfl ⟨Nat.le_refl _, Nat.le_refl _⟩ (by rw [hPP]; exact ⟨(congrArg some (jv_I (by first | exact flt8 (rd_0 z0) hG hst0.1 | exact flt8 (rd_1 z0 z1) hG hs6.1 | exact flt8 (rd_2 z0 z1 (by omega)) hG hs6.1 | exact flt8 (gs_full hgo2 q1 q2) hG hst1.1 | exact flt8 (gs_anvN hgo2 q1 q2 q3) hG hs34.1 | exact flt8 (gs_anvP hgo2 q1 q2 q3 (by omega)) hG hs34.1 | exact flt8 (gs_wrkN hgo2 q1 q3) hG hs34.1 | exact flt8 (gs_wrkP hgo2 q1 q3 (by omega)) hG hs34.1 | exact flt8 (gs_dayP hgo2 q1 (by omega)) hG hs34.1 | exact flt8 (gs_no hgo2 hnz q1) hG hst1.1))), rfl, AN, VA1_5, ta1_6, tl1_7, tk1_8, va1_9, ((show (hset (hset h 38 (.inr (7, [.ref (E.1 + 39), .ref (E.1 + 40), .ref (E.1 + 41), .ref (E.1 + 42), .long (lN xa), .long (lN xb), .ref (E.1 + 43), .int (nI dt), .ref (E.1 + 44), .ref (E.1 + 45), .int (nI mo), .ref (E.1 + 46), .ref (E.1 + 47), .int (nI bn), .int (nI ta1_6), .int (nI tl1_7), .int (nI tk1_8), .int (nI va1_9), .ref (E.1 + 48), .ref (E.1 + 49)]))) 49 (cI E 5 (nF VA1_5))) = (hset (hset (hset h 38 (.inr (7, [.ref (E.1 + 39), .ref (E.1 + 40), .ref (E.1 + 41), .ref (E.1 + 42), .long (lN xa), .long (lN xb), .ref (E.1 + 43), .int (nI dt), .ref (E.1 + 44), .ref (E.1 + 45), .int (nI mo), .ref (E.1 + 46), .ref (E.1 + 47), .int (nI bn), .int (nI ta1_6), .int (nI tl1_7), .int (nI tk1_8), .int (nI va1_9), .ref (E.1 + 48), .ref (E.1 + 49)]))) 49 (cI E 5 (nF VA1_5))) 48 (cI E 74 (nF AN))) by funext z; simp only [hset]; (repeat' split) <;> first | rfl | (exfalso; omega) | (subst_vars; first | exact H3)).trans (hset_cg (hset_cg (hset_cg rfl rfl) rfl) rfl))⟩)
  · skip
    obtain ⟨z0, z1⟩ := sp3
    refine J_aload_n dX8_read_5 rfl ?_
    refine J_callV (M' := mX8_takesStreet) (d' := (6, 0, 0)) (rest := []) dX8_read_6 jmX8_takesStreet jlRX8_248 (ctX8_takesStreet xa xb dt mo bn (skipF F bn 0) (lenQ F bn (skipF F bn 0)) (tokR F bn (skipF F bn 0)) va1_1 BY F VA AN hset_eq ((hset_ne (by omega)).trans H1) ((hset_ne (by omega)).trans H2) ((hset_ne (by omega)).trans H3) (by omega) (by first | assumption | omega) (by first | assumption | omega) (by first | assumption | omega) (by first | assumption | omega) (by first | assumption | omega)) hset_eq (by omega) jk8.1 rfl rfl (Nat.le_of_ble_eq_true rfl) (Nat.le_of_ble_eq_true rfl) (by constructor <;> decide +kernel) (fun v9 h9 n9 q9 => ?_)
    obtain ⟨rfl, hn9, VA1_12, ta1_13, tl1_14, tk1_15, va1_16, rfl, hst1_17⟩ := q9
    replace hn9 := hn9.symm
    subst hn9
    refine J.cast (hset_cg (hset_cg hset_hset rfl) rfl) ?_
    refine J.stk (st' := [.int (jb (kT F bn 2 = 6))]) rfl ?_
    have hs6 := hst1_17
    refine J_if_neB (tgt := 20) dX8_read_9 (by decide) (fun c18 => ?_) (fun c18 => ?_)
    · skip
      refine J_aload_n dX8_read_20 rfl ?_
      refine J_callV (M' := mX8_goBehind) (d' := (4, 0, 0)) (rest := []) dX8_read_21 jmX8_goBehind jlRX8_227 (ctX8_goBehind 2 xa xb dt mo bn ta1_13 tl1_14 tk1_15 va1_16 BY F ((hset_ne (by omega)).trans ((hset_ne (by omega)).trans hset_eq)) ((hset_ne (by omega)).trans ((hset_ne (by omega)).trans ((hset_ne (by omega)).trans H1))) (by omega) (by first | assumption | omega) (by first | assumption | omega) (by first | assumption | omega)) ((hset_ne (by omega)).trans ((hset_ne (by omega)).trans hset_eq)) (by omega) jk8.1 rfl rfl (Nat.le_of_ble_eq_true rfl) (Nat.le_of_ble_eq_true rfl) (by constructor <;> decide +kernel) (fun v9 h9 n9 q9 => ?_)
      obtain ⟨rfl, hn9, ta1_19, tl1_20, tk1_21, va1_22, rfl, hst1_23⟩ := q9
      replace hn9 := hn9.symm
      subst hn9
      refine J.cast ((hset_comm (by omega)).trans (hset_cg ((hset_comm (by omega)).trans (hset_cg hset_hset rfl)) rfl)) ?_
      refine J.stk (st' := []) rfl ?_
      have hs21 := hst1_23
      have y0 := posT_lt (kT_pos.mp (show ¬ kT F bn 0 = 0 by omega))
      have y3 := posT_mono (F := F) (n := bn) (i := 1) 2
      replace y0 : posT F bn 0 < posT F bn 1 := y0
      replace y3 : posT F bn 1 ≤ posT F bn 3 := y3
      refine J_iconst (v := nI 1) dX8_read_24 (by decide +kernel) ?_
      refine J_istore_n dX8_read_25 (Nat.le_of_ble_eq_true rfl) (L' := [(1, .int (nI 1)), (0, .ref (E.1 + 38))]) rfl ?_
      have CUT26 : ∀ (f26 : Nat) (c : Nat) (i : Nat) (an1 : Nat) (td1 : Nat) (KS : Nat → Nat) (MS : Nat → Nat) (AN1 : Nat → Nat) (VA1 : Nat → Nat) (ta1 : Nat) (tl1 : Nat) (tk1 : Nat) (va1 : Nat) (hm26 : 151 - posT F bn i < f26) (hgo : rdG (kT F bn) (vT F bn) = goR (kT F bn) (vT F bn) (160 - c) c (i, an1, td1, KS, MS)) (hst1 : stQ F bn i ta1 tl1 tk1 va1) (hc1 : 1 ≤ c) (hci : c ≤ posT F bn i) (han : an1 ≤ 4) (htd : td1 + 1 ≤ c) (hrA : relA AN1 an1 td1 (vT F bn 1) KS MS) (hv1 : vT F bn 1 ≤ 9), J E mX8_read (8, 0, 0) jS0 PP (hset (hset (hset h 38 (.inr (7, [.ref (E.1 + 39), .ref (E.1 + 40), .ref (E.1 + 41), .ref (E.1 + 42), .long (lN xa), .long (lN xb), .ref (E.1 + 43), .int (nI dt), .ref (E.1 + 44), .ref (E.1 + 45), .int (nI mo), .ref (E.1 + 46), .ref (E.1 + 47), .int (nI bn), .int (nI ta1), .int (nI tl1), .int (nI tk1), .int (nI va1), .ref (E.1 + 48), .ref (E.1 + 49)]))) 49 (cI E 5 (nF VA1))) 48 (cI E 74 (nF AN1))) n (0, 0) 26 [(1, .int (nI c)), (0, .ref (E.1 + 38))] [] := by
        intro f26
        induction f26 with
        | zero => intro c i an1 td1 KS MS AN1 VA1 ta1 tl1 tk1 va1 hm26; exact absurd hm26 (Nat.not_lt_zero _)
        | succ f26 ih26 =>
          intro c i an1 td1 KS MS AN1 VA1 ta1 tl1 tk1 va1 hm26 hgo hst1 hc1 hci han htd hrA hv1
          have hgo2 : rdG (kT F bn) (vT F bn) = goR (kT F bn) (vT F bn) (159 - c + 1) c (i, an1, td1, KS, MS) := by rw [show 159 - c + 1 = 160 - c by have := posT_le (F := F) (n := bn) i; omega]; exact hgo
          have hpl := posT_le (F := F) (n := bn) i
          have hk0 := tk_0 hst1
          have hk4 := hst1.2.2.2.2.1
          obtain ⟨r0, r1, r2, r3, r4, r5, r6, r7, r8⟩ := id hrA
          refine J_aload_n dX8_read_26 rfl ?_
          refine J_get 16 dX8_read_27 jk8 (Nat.le_of_ble_eq_true rfl) jfRX8_211 ((hset_ne (by omega)).trans ((hset_ne (by omega)).trans hset_eq)) (by omega) rfl ?_
          refine J_if_eqN (tgt := 66) dX8_read_30 (by decide) (by omega) (fun c24 => ?_) (fun c24 => ?_)
          · skip
            exact absurd ((gs_0 hgo2 (by omega)).symm.trans hG) (by simp)
          · skip
            have hnz : ¬ kT F bn i = 0 := by omega
            have hpos := kT_pos.mp hnz
            have plt := posT_lt hpos
            have sp25 : (kT F bn i = 2 ∧ ¬ an1 < 4) ∨ (kT F bn i = 2 ∧ an1 < 4 ∧ ¬ anvOK (kT F bn) (vT F bn) i) ∨ (kT F bn i = 2 ∧ an1 < 4 ∧ anvOK (kT F bn) (vT F bn) i) ∨ (kT F bn i = 3 ∧ ¬ wrkOK (kT F bn) (vT F bn) an1 i) ∨ (kT F bn i = 3 ∧ wrkOK (kT F bn) (vT F bn) an1 i) ∨ (kT F bn i = 4) ∨ (¬ kT F bn i = 2 ∧ ¬ kT F bn i = 3 ∧ ¬ kT F bn i = 4) := by exact itm_all
            rcases sp25 with sp25 | sp25 | sp25 | sp25 | sp25 | sp25 | sp25
            · skip
              obtain ⟨q1, q2⟩ := sp25
              have hnz : ¬ kT F bn i = 0 := by omega
              have hpos := kT_pos.mp hnz
              have plt := posT_lt hpos
              refine J_aload_n dX8_read_33 rfl ?_
              refine J_callVr (M' := mX8_takesItem) (d' := (7, 0, 0)) (rest := []) dX8_read_34 jmX8_takesItem jlRX8_251 (ctX8_takesItem_full i xa xb dt mo bn ta1 tl1 tk1 va1 BY F VA1 AN1 ((hset_ne (by omega)).trans ((hset_ne (by omega)).trans hset_eq)) ((hset_ne (by omega)).trans ((hset_ne (by omega)).trans ((hset_ne (by omega)).trans H1))) ((hset_ne (by omega)).trans hset_eq) hset_eq (by omega) (by first | assumption | omega) (by first | assumption | omega) (by first | assumption | omega) (by first | assumption | omega) (by first | assumption | omega)) ((hset_ne (by omega)).trans ((hset_ne (by omega)).trans hset_eq)) (by omega) jk8.1 rfl rfl (Nat.le_of_ble_eq_true rfl) (Nat.le_of_ble_eq_true rfl) ⟨Nat.le_refl _, Nat.le_refl _⟩ ?_
              refine J_if_eqN (tgt := 48) dX8_read_37 (by decide) (by omega) (fun _ => ?_) (fun z => absurd z (by decide))
              refine J_bipush (v := (-10)) dX8_read_48 (by decide +kernel) ?_
              refine J_aload_n dX8_read_50 rfl ?_
              refine J_get 14 dX8_read_51 jk8 (Nat.le_of_ble_eq_true rfl) jfRX8_205 ((hset_ne (by omega)).trans ((hset_ne (by omega)).trans hset_eq)) (by omega) rfl ?_
              refine J_isub dX8_read_54 ?_
              exact J_iret dX8_read_55 rfl ⟨Nat.le_refl _, Nat.le_refl _⟩ (by rw [hPP]; exact ⟨(congrArg some (jv_I (by first | exact flt8 (rd_0 z0) hG hst0.1 | exact flt8 (rd_1 z0 z1) hG hs6.1 | exact flt8 (rd_2 z0 z1 (by omega)) hG hs6.1 | exact flt8 (gs_full hgo2 q1 q2) hG hst1.1 | exact flt8 (gs_anvN hgo2 q1 q2 q3) hG hs34.1 | exact flt8 (gs_anvP hgo2 q1 q2 q3 (by omega)) hG hs34.1 | exact flt8 (gs_wrkN hgo2 q1 q3) hG hs34.1 | exact flt8 (gs_wrkP hgo2 q1 q3 (by omega)) hG hs34.1 | exact flt8 (gs_dayP hgo2 q1 (by omega)) hG hs34.1 | exact flt8 (gs_no hgo2 hnz q1) hG hst1.1))), rfl, AN1, VA1, ta1, tl1, tk1, va1, rfl⟩)
            · skip
              obtain ⟨q1, q2, q3⟩ := sp25
              have hnz : ¬ kT F bn i = 0 := by omega
              have hpos := kT_pos.mp hnz
              have plt := posT_lt hpos
              refine J_aload_n dX8_read_33 rfl ?_
              refine J_callV (M' := mX8_takesItem) (d' := (7, 0, 0)) (rest := []) dX8_read_34 jmX8_takesItem jlRX8_251 (ctX8_takesItem_anvN i xa xb dt mo bn ta1 tl1 tk1 va1 BY F VA1 AN1 ((hset_ne (by omega)).trans ((hset_ne (by omega)).trans hset_eq)) ((hset_ne (by omega)).trans ((hset_ne (by omega)).trans ((hset_ne (by omega)).trans H1))) ((hset_ne (by omega)).trans hset_eq) hset_eq (by omega) (by first | assumption | omega) (by first | assumption | omega) (by first | assumption | omega) (by first | assumption | omega) (by first | assumption | omega) (by first | assumption | (rw [r0]; assumption))) ((hset_ne (by omega)).trans ((hset_ne (by omega)).trans hset_eq)) (by omega) jk8.1 rfl rfl (Nat.le_of_ble_eq_true rfl) (Nat.le_of_ble_eq_true rfl) (by constructor <;> decide +kernel) (fun v9 h9 n9 q9 => ?_)
              obtain ⟨rfl, hn9, VA1_27, ta1_28, tl1_29, tk1_30, va1_31, rfl, hst1_32⟩ := q9
              replace hn9 := hn9.symm
              subst hn9
              refine J.cast ((hset_cg ((hset_comm (by omega)).trans (hset_cg ((hset_comm (by omega)).trans (hset_cg hset_hset rfl)) rfl)) rfl).trans ((hset_comm (by omega)).trans (hset_cg hset_hset rfl))) ?_
              refine J.stk (st' := [.int (nI 0)]) rfl ?_
              have hs34 := hst1_32
              try rw [r0] at hs34
              have h36 := tk_3 hs34
              have h346 := hs34.2.2.2.2.1
              refine J_if_eqN (tgt := 48) dX8_read_37 (by decide) (by omega) (fun _ => ?_) (fun z => absurd z (by decide))
              refine J_bipush (v := (-10)) dX8_read_48 (by decide +kernel) ?_
              refine J_aload_n dX8_read_50 rfl ?_
              refine J_get 14 dX8_read_51 jk8 (Nat.le_of_ble_eq_true rfl) jfRX8_205 ((hset_ne (by omega)).trans ((hset_ne (by omega)).trans hset_eq)) (by omega) rfl ?_
              refine J_isub dX8_read_54 ?_
              exact J_iret dX8_read_55 rfl ⟨Nat.le_refl _, Nat.le_refl _⟩ (by rw [hPP]; exact ⟨(congrArg some (jv_I (by first | exact flt8 (rd_0 z0) hG hst0.1 | exact flt8 (rd_1 z0 z1) hG hs6.1 | exact flt8 (rd_2 z0 z1 (by omega)) hG hs6.1 | exact flt8 (gs_full hgo2 q1 q2) hG hst1.1 | exact flt8 (gs_anvN hgo2 q1 q2 q3) hG hs34.1 | exact flt8 (gs_anvP hgo2 q1 q2 q3 (by omega)) hG hs34.1 | exact flt8 (gs_wrkN hgo2 q1 q3) hG hs34.1 | exact flt8 (gs_wrkP hgo2 q1 q3 (by omega)) hG hs34.1 | exact flt8 (gs_dayP hgo2 q1 (by omega)) hG hs34.1 | exact flt8 (gs_no hgo2 hnz q1) hG hst1.1))), rfl, AN1, VA1_27, ta1_28, tl1_29, tk1_30, va1_31, rfl⟩)
            · skip
              obtain ⟨q1, q2, q3⟩ := sp25
              obtain ⟨⟨a1, b1⟩, ⟨a2, b2⟩, ⟨a3, b3⟩, ⟨a4, b4⟩, ⟨a5, b5⟩⟩ := id q3
              have hnz : ¬ kT F bn i = 0 := by omega
              have hpos := kT_pos.mp hnz
              have plt := posT_lt hpos
              refine J_aload_n dX8_read_33 rfl ?_
              refine J_callV (M' := mX8_takesItem) (d' := (7, 0, 0)) (rest := []) dX8_read_34 jmX8_takesItem jlRX8_251 (ctX8_takesItem_anv i xa xb dt mo bn ta1 tl1 tk1 va1 BY F VA1 AN1 ((hset_ne (by omega)).trans ((hset_ne (by omega)).trans hset_eq)) ((hset_ne (by omega)).trans ((hset_ne (by omega)).trans ((hset_ne (by omega)).trans H1))) ((hset_ne (by omega)).trans hset_eq) hset_eq (by omega) (by first | assumption | omega) (by first | assumption | omega) (by first | assumption | omega) (by first | assumption | omega) (by first | assumption | omega) (by first | assumption | (rw [r0]; assumption))) ((hset_ne (by omega)).trans ((hset_ne (by omega)).trans hset_eq)) (by omega) jk8.1 rfl rfl (Nat.le_of_ble_eq_true rfl) (Nat.le_of_ble_eq_true rfl) (by constructor <;> decide +kernel) (fun v9 h9 n9 q9 => ?_)
              obtain ⟨rfl, hn9, VA1_34, ta1_35, tl1_36, tk1_37, va1_38, rfl, hst1_39⟩ := q9
              replace hn9 := hn9.symm
              subst hn9
              refine J.cast ((hset_cg ((hset_cg ((hset_comm (by omega)).trans (hset_cg ((hset_comm (by omega)).trans (hset_cg hset_hset rfl)) rfl)) rfl).trans ((hset_comm (by omega)).trans (hset_cg hset_hset rfl))) rfl).trans hset_hset) ?_
              refine J.stk (st' := [.int (nI 1)]) rfl ?_
              have hs34 := hst1_39
              try rw [r0] at hs34
              have h36 := tk_3 hs34
              have h346 := hs34.2.2.2.2.1
              refine J_if_eqN (tgt := 48) dX8_read_37 (by decide) (by omega) (fun z => absurd z (by decide)) (fun _ => ?_)
              refine J_aload_n dX8_read_40 rfl ?_
              refine J_get 16 dX8_read_41 jk8 (Nat.le_of_ble_eq_true rfl) jfRX8_211 ((hset_ne (by omega)).trans ((hset_ne (by omega)).trans hset_eq)) (by omega) rfl ?_
              refine J_iconst (v := nI 3) dX8_read_44 (by decide +kernel) ?_
              refine J_icmp_eqN (tgt := 56) dX8_read_45 (by decide) (by omega) (by omega) (fun c41 => ?_) (fun c41 => ?_)
              · skip
                refine J_aload_n dX8_read_56 rfl ?_
                refine J_callV (M' := mX8_goBehind) (d' := (4, 0, 0)) (rest := []) dX8_read_57 jmX8_goBehind jlRX8_227 (ctX8_goBehind (i + 1 + 1 + 1 + 1 + 1 + 1) xa xb dt mo bn ta1_35 tl1_36 tk1_37 va1_38 BY F ((hset_ne (by omega)).trans ((hset_ne (by omega)).trans hset_eq)) ((hset_ne (by omega)).trans ((hset_ne (by omega)).trans ((hset_ne (by omega)).trans H1))) (by omega) (by first | assumption | omega) (by first | assumption | omega) (by first | assumption | omega)) ((hset_ne (by omega)).trans ((hset_ne (by omega)).trans hset_eq)) (by omega) jk8.1 rfl rfl (Nat.le_of_ble_eq_true rfl) (Nat.le_of_ble_eq_true rfl) (by constructor <;> decide +kernel) (fun v9 h9 n9 q9 => ?_)
                obtain ⟨rfl, hn9, ta1_42, tl1_43, tk1_44, va1_45, rfl, hst1_46⟩ := q9
                replace hn9 := hn9.symm
                subst hn9
                refine J.cast ((hset_comm (by omega)).trans (hset_cg ((hset_comm (by omega)).trans (hset_cg hset_hset rfl)) rfl)) ?_
                refine J.stk (st' := []) rfl ?_
                have hs57 := hst1_46
                have y1 := posT_mono (F := F) (n := bn) (i := i + 1) 6
                replace y1 : posT F bn (i + 1) ≤ posT F bn (i + 1 + 1 + 1 + 1 + 1 + 1 + 1) := y1
                refine J_iincN (q := 0) (a := c) (m := 1) dX8_read_60 rfl (by decide +kernel) (Nat.le_of_ble_eq_true rfl) (L' := [(1, .int (nI (c + 1))), (0, .ref (E.1 + 38))]) rfl ?_
                refine J_goto (tgt := 26) dX8_read_63 (by decide) ?_
                exact ih26 (c + 1) (i + 1 + 1 + 1 + 1 + 1 + 1 + 1) (an1 + 1) td1 (updN KS an1 (vT F bn (i + 1))) (joinM MS an1 (vT F bn (i + 1 + 1)) (vT F bn (i + 1 + 1 + 1)) (vT F bn (i + 1 + 1 + 1 + 1)) (vT F bn (i + 1 + 1 + 1 + 1 + 1))) (layQ AN1 (vT F bn (i + 1)) (vT F bn (i + 1 + 1)) (vT F bn (i + 1 + 1 + 1)) (vT F bn (i + 1 + 1 + 1 + 1)) (vT F bn (i + 1 + 1 + 1 + 1 + 1))) VA1_34 ta1_42 tl1_43 tk1_44 va1_45 (by omega) (by first | exact rd_3 (by omega) (by omega) (by omega) | (rw [show 160 - (c + 1) = 159 - c by omega]; first | exact gs_anv hgo2 q1 q2 q3 (by omega) | exact gs_wrk hgo2 q1 q3 (by omega) | exact gs_day hgo2 q1 (by omega))) (by assumption) (by first | assumption | omega) (by omega) (by first | assumption | omega) (by first | assumption | omega) (by first | exact relA_b | exact relA_a hrA (by omega) (by omega) (by omega) (by omega) (by omega) (by omega) | exact relA_w hrA (by omega) (by omega) (by omega) | exact relA_d hrA (by omega)) (by first | assumption | omega)
              · skip
                refine J_bipush (v := (-10)) dX8_read_48 (by decide +kernel) ?_
                refine J_aload_n dX8_read_50 rfl ?_
                refine J_get 14 dX8_read_51 jk8 (Nat.le_of_ble_eq_true rfl) jfRX8_205 ((hset_ne (by omega)).trans ((hset_ne (by omega)).trans hset_eq)) (by omega) rfl ?_
                refine J_isub dX8_read_54 ?_
                exact J_iret dX8_read_55 rfl ⟨Nat.le_refl _, Nat.le_refl _⟩ (by rw [hPP]; exact ⟨(congrArg some (jv_I (by first | exact flt8 (rd_0 z0) hG hst0.1 | exact flt8 (rd_1 z0 z1) hG hs6.1 | exact flt8 (rd_2 z0 z1 (by omega)) hG hs6.1 | exact flt8 (gs_full hgo2 q1 q2) hG hst1.1 | exact flt8 (gs_anvN hgo2 q1 q2 q3) hG hs34.1 | exact flt8 (gs_anvP hgo2 q1 q2 q3 (by omega)) hG hs34.1 | exact flt8 (gs_wrkN hgo2 q1 q3) hG hs34.1 | exact flt8 (gs_wrkP hgo2 q1 q3 (by omega)) hG hs34.1 | exact flt8 (gs_dayP hgo2 q1 (by omega)) hG hs34.1 | exact flt8 (gs_no hgo2 hnz q1) hG hst1.1))), rfl, (layQ AN1 (vT F bn (i + 1)) (vT F bn (i + 1 + 1)) (vT F bn (i + 1 + 1 + 1)) (vT F bn (i + 1 + 1 + 1 + 1)) (vT F bn (i + 1 + 1 + 1 + 1 + 1))), VA1_34, ta1_35, tl1_36, tk1_37, va1_38, rfl⟩)
            · skip
              obtain ⟨q1, q3⟩ := sp25
              have hnz : ¬ kT F bn i = 0 := by omega
              have hpos := kT_pos.mp hnz
              have plt := posT_lt hpos
              refine J_aload_n dX8_read_33 rfl ?_
              refine J_callV (M' := mX8_takesItem) (d' := (7, 0, 0)) (rest := []) dX8_read_34 jmX8_takesItem jlRX8_251 (ctX8_takesItem_wrkN i xa xb dt mo bn ta1 tl1 tk1 va1 BY F VA1 AN1 ((hset_ne (by omega)).trans ((hset_ne (by omega)).trans hset_eq)) ((hset_ne (by omega)).trans ((hset_ne (by omega)).trans ((hset_ne (by omega)).trans H1))) ((hset_ne (by omega)).trans hset_eq) hset_eq (by omega) (by first | assumption | omega) (by first | assumption | omega) (by first | assumption | omega) (by first | assumption | omega) (by first | assumption | omega) (by first | assumption | (rw [r0]; assumption))) ((hset_ne (by omega)).trans ((hset_ne (by omega)).trans hset_eq)) (by omega) jk8.1 rfl rfl (Nat.le_of_ble_eq_true rfl) (Nat.le_of_ble_eq_true rfl) (by constructor <;> decide +kernel) (fun v9 h9 n9 q9 => ?_)
              obtain ⟨rfl, hn9, VA1_47, ta1_48, tl1_49, tk1_50, va1_51, rfl, hst1_52⟩ := q9
              replace hn9 := hn9.symm
              subst hn9
              refine J.cast ((hset_cg ((hset_comm (by omega)).trans (hset_cg ((hset_comm (by omega)).trans (hset_cg hset_hset rfl)) rfl)) rfl).trans ((hset_comm (by omega)).trans (hset_cg hset_hset rfl))) ?_
              refine J.stk (st' := [.int (nI 0)]) rfl ?_
              have hs34 := hst1_52
              try rw [r0] at hs34
              have h36 := tk_3 hs34
              have h346 := hs34.2.2.2.2.1
              refine J_if_eqN (tgt := 48) dX8_read_37 (by decide) (by omega) (fun _ => ?_) (fun z => absurd z (by decide))
              refine J_bipush (v := (-10)) dX8_read_48 (by decide +kernel) ?_
              refine J_aload_n dX8_read_50 rfl ?_
              refine J_get 14 dX8_read_51 jk8 (Nat.le_of_ble_eq_true rfl) jfRX8_205 ((hset_ne (by omega)).trans ((hset_ne (by omega)).trans hset_eq)) (by omega) rfl ?_
              refine J_isub dX8_read_54 ?_
              exact J_iret dX8_read_55 rfl ⟨Nat.le_refl _, Nat.le_refl _⟩ (by rw [hPP]; exact ⟨(congrArg some (jv_I (by first | exact flt8 (rd_0 z0) hG hst0.1 | exact flt8 (rd_1 z0 z1) hG hs6.1 | exact flt8 (rd_2 z0 z1 (by omega)) hG hs6.1 | exact flt8 (gs_full hgo2 q1 q2) hG hst1.1 | exact flt8 (gs_anvN hgo2 q1 q2 q3) hG hs34.1 | exact flt8 (gs_anvP hgo2 q1 q2 q3 (by omega)) hG hs34.1 | exact flt8 (gs_wrkN hgo2 q1 q3) hG hs34.1 | exact flt8 (gs_wrkP hgo2 q1 q3 (by omega)) hG hs34.1 | exact flt8 (gs_dayP hgo2 q1 (by omega)) hG hs34.1 | exact flt8 (gs_no hgo2 hnz q1) hG hst1.1))), rfl, AN1, VA1_47, ta1_48, tl1_49, tk1_50, va1_51, rfl⟩)
            · skip
              obtain ⟨q1, q3⟩ := sp25
              obtain ⟨⟨a1, b1⟩, ⟨a2, b2⟩, ⟨a3, b3⟩, b4⟩ := id q3
              have hnz : ¬ kT F bn i = 0 := by omega
              have hpos := kT_pos.mp hnz
              have plt := posT_lt hpos
              refine J_aload_n dX8_read_33 rfl ?_
              refine J_callV (M' := mX8_takesItem) (d' := (7, 0, 0)) (rest := []) dX8_read_34 jmX8_takesItem jlRX8_251 (ctX8_takesItem_wrk i xa xb dt mo bn ta1 tl1 tk1 va1 BY F VA1 AN1 ((hset_ne (by omega)).trans ((hset_ne (by omega)).trans hset_eq)) ((hset_ne (by omega)).trans ((hset_ne (by omega)).trans ((hset_ne (by omega)).trans H1))) ((hset_ne (by omega)).trans hset_eq) hset_eq (by omega) (by first | assumption | omega) (by first | assumption | omega) (by first | assumption | omega) (by first | assumption | omega) (by first | assumption | omega) (by first | assumption | omega) (by first | assumption | omega) (by first | assumption | (rw [r0]; assumption))) ((hset_ne (by omega)).trans ((hset_ne (by omega)).trans hset_eq)) (by omega) jk8.1 rfl rfl (Nat.le_of_ble_eq_true rfl) (Nat.le_of_ble_eq_true rfl) (by constructor <;> decide +kernel) (fun v9 h9 n9 q9 => ?_)
              obtain ⟨rfl, hn9, VA1_54, ta1_55, tl1_56, tk1_57, va1_58, rfl, hst1_59⟩ := q9
              replace hn9 := hn9.symm
              subst hn9
              refine J.cast ((hset_cg ((hset_cg ((hset_comm (by omega)).trans (hset_cg ((hset_comm (by omega)).trans (hset_cg hset_hset rfl)) rfl)) rfl).trans ((hset_comm (by omega)).trans (hset_cg hset_hset rfl))) rfl).trans hset_hset) ?_
              refine J.stk (st' := [.int (nI 1)]) rfl ?_
              have hs34 := hst1_59
              try rw [r0] at hs34
              have h36 := tk_3 hs34
              have h346 := hs34.2.2.2.2.1
              refine J_if_eqN (tgt := 48) dX8_read_37 (by decide) (by omega) (fun z => absurd z (by decide)) (fun _ => ?_)
              refine J_aload_n dX8_read_40 rfl ?_
              refine J_get 16 dX8_read_41 jk8 (Nat.le_of_ble_eq_true rfl) jfRX8_211 ((hset_ne (by omega)).trans ((hset_ne (by omega)).trans hset_eq)) (by omega) rfl ?_
              refine J_iconst (v := nI 3) dX8_read_44 (by decide +kernel) ?_
              refine J_icmp_eqN (tgt := 56) dX8_read_45 (by decide) (by omega) (by omega) (fun c61 => ?_) (fun c61 => ?_)
              · skip
                refine J_aload_n dX8_read_56 rfl ?_
                refine J_callV (M' := mX8_goBehind) (d' := (4, 0, 0)) (rest := []) dX8_read_57 jmX8_goBehind jlRX8_227 (ctX8_goBehind (i + 1 + 1 + 1 + 1) xa xb dt mo bn ta1_55 tl1_56 tk1_57 va1_58 BY F ((hset_ne (by omega)).trans ((hset_ne (by omega)).trans hset_eq)) ((hset_ne (by omega)).trans ((hset_ne (by omega)).trans ((hset_ne (by omega)).trans H1))) (by omega) (by first | assumption | omega) (by first | assumption | omega) (by first | assumption | omega)) ((hset_ne (by omega)).trans ((hset_ne (by omega)).trans hset_eq)) (by omega) jk8.1 rfl rfl (Nat.le_of_ble_eq_true rfl) (Nat.le_of_ble_eq_true rfl) (by constructor <;> decide +kernel) (fun v9 h9 n9 q9 => ?_)
                obtain ⟨rfl, hn9, ta1_62, tl1_63, tk1_64, va1_65, rfl, hst1_66⟩ := q9
                replace hn9 := hn9.symm
                subst hn9
                refine J.cast ((hset_comm (by omega)).trans (hset_cg ((hset_comm (by omega)).trans (hset_cg hset_hset rfl)) rfl)) ?_
                refine J.stk (st' := []) rfl ?_
                have hs57 := hst1_66
                have y1 := posT_mono (F := F) (n := bn) (i := i + 1) 4
                replace y1 : posT F bn (i + 1) ≤ posT F bn (i + 1 + 1 + 1 + 1 + 1) := y1
                refine J_iincN (q := 0) (a := c) (m := 1) dX8_read_60 rfl (by decide +kernel) (Nat.le_of_ble_eq_true rfl) (L' := [(1, .int (nI (c + 1))), (0, .ref (E.1 + 38))]) rfl ?_
                refine J_goto (tgt := 26) dX8_read_63 (by decide) ?_
                exact ih26 (c + 1) (i + 1 + 1 + 1 + 1 + 1) an1 td1 KS (addMN KS MS (vT F bn (i + 1)) (vT F bn (i + 1 + 1)) (vT F bn (i + 1 + 1 + 1))) (wrkQ AN1 (vT F bn (i + 1)) (vT F bn (i + 1 + 1)) (vT F bn (i + 1 + 1 + 1))) VA1_54 ta1_62 tl1_63 tk1_64 va1_65 (by omega) (by first | exact rd_3 (by omega) (by omega) (by omega) | (rw [show 160 - (c + 1) = 159 - c by omega]; first | exact gs_anv hgo2 q1 q2 q3 (by omega) | exact gs_wrk hgo2 q1 q3 (by omega) | exact gs_day hgo2 q1 (by omega))) (by assumption) (by first | assumption | omega) (by omega) (by first | assumption | omega) (by first | assumption | omega) (by first | exact relA_b | exact relA_a hrA (by omega) (by omega) (by omega) (by omega) (by omega) (by omega) | exact relA_w hrA (by omega) (by omega) (by omega) | exact relA_d hrA (by omega)) (by first | assumption | omega)
              · skip
                refine J_bipush (v := (-10)) dX8_read_48 (by decide +kernel) ?_
                refine J_aload_n dX8_read_50 rfl ?_
                refine J_get 14 dX8_read_51 jk8 (Nat.le_of_ble_eq_true rfl) jfRX8_205 ((hset_ne (by omega)).trans ((hset_ne (by omega)).trans hset_eq)) (by omega) rfl ?_
                refine J_isub dX8_read_54 ?_
                exact J_iret dX8_read_55 rfl ⟨Nat.le_refl _, Nat.le_refl _⟩ (by rw [hPP]; exact ⟨(congrArg some (jv_I (by first | exact flt8 (rd_0 z0) hG hst0.1 | exact flt8 (rd_1 z0 z1) hG hs6.1 | exact flt8 (rd_2 z0 z1 (by omega)) hG hs6.1 | exact flt8 (gs_full hgo2 q1 q2) hG hst1.1 | exact flt8 (gs_anvN hgo2 q1 q2 q3) hG hs34.1 | exact flt8 (gs_anvP hgo2 q1 q2 q3 (by omega)) hG hs34.1 | exact flt8 (gs_wrkN hgo2 q1 q3) hG hs34.1 | exact flt8 (gs_wrkP hgo2 q1 q3 (by omega)) hG hs34.1 | exact flt8 (gs_dayP hgo2 q1 (by omega)) hG hs34.1 | exact flt8 (gs_no hgo2 hnz q1) hG hst1.1))), rfl, (wrkQ AN1 (vT F bn (i + 1)) (vT F bn (i + 1 + 1)) (vT F bn (i + 1 + 1 + 1))), VA1_54, ta1_55, tl1_56, tk1_57, va1_58, rfl⟩)
            · skip
              have q1 := sp25
              have hnz : ¬ kT F bn i = 0 := by omega
              have hpos := kT_pos.mp hnz
              have plt := posT_lt hpos
              refine J_aload_n dX8_read_33 rfl ?_
              refine J_callV (M' := mX8_takesItem) (d' := (7, 0, 0)) (rest := []) dX8_read_34 jmX8_takesItem jlRX8_251 (ctX8_takesItem_day i xa xb dt mo bn ta1 tl1 tk1 va1 BY F VA1 AN1 ((hset_ne (by omega)).trans ((hset_ne (by omega)).trans hset_eq)) ((hset_ne (by omega)).trans ((hset_ne (by omega)).trans ((hset_ne (by omega)).trans H1))) ((hset_ne (by omega)).trans hset_eq) hset_eq (by omega) (by first | assumption | omega) (by first | assumption | omega) (by first | assumption | omega) (by first | assumption | omega) (by first | assumption | omega) (by first | assumption | omega) (by first | assumption | omega) (by first | assumption | omega)) ((hset_ne (by omega)).trans ((hset_ne (by omega)).trans hset_eq)) (by omega) jk8.1 rfl rfl (Nat.le_of_ble_eq_true rfl) (Nat.le_of_ble_eq_true rfl) (by constructor <;> decide +kernel) (fun v9 h9 n9 q9 => ?_)
              obtain ⟨rfl, hn9, VA1_67, ta1_68, tl1_69, tk1_70, va1_71, rfl, hst1_72⟩ := q9
              replace hn9 := hn9.symm
              subst hn9
              refine J.cast ((hset_cg ((hset_cg ((hset_comm (by omega)).trans (hset_cg ((hset_comm (by omega)).trans (hset_cg hset_hset rfl)) rfl)) rfl).trans ((hset_comm (by omega)).trans (hset_cg hset_hset rfl))) rfl).trans hset_hset) ?_
              refine J.stk (st' := [.int (nI 1)]) rfl ?_
              have hs34 := hst1_72
              try rw [r0] at hs34
              have h36 := tk_3 hs34
              have h346 := hs34.2.2.2.2.1
              refine J_if_eqN (tgt := 48) dX8_read_37 (by decide) (by omega) (fun z => absurd z (by decide)) (fun _ => ?_)
              refine J_aload_n dX8_read_40 rfl ?_
              refine J_get 16 dX8_read_41 jk8 (Nat.le_of_ble_eq_true rfl) jfRX8_211 ((hset_ne (by omega)).trans ((hset_ne (by omega)).trans hset_eq)) (by omega) rfl ?_
              refine J_iconst (v := nI 3) dX8_read_44 (by decide +kernel) ?_
              refine J_icmp_eqN (tgt := 56) dX8_read_45 (by decide) (by omega) (by omega) (fun c74 => ?_) (fun c74 => ?_)
              · skip
                refine J_aload_n dX8_read_56 rfl ?_
                refine J_callV (M' := mX8_goBehind) (d' := (4, 0, 0)) (rest := []) dX8_read_57 jmX8_goBehind jlRX8_227 (ctX8_goBehind (i + 1) xa xb dt mo bn ta1_68 tl1_69 tk1_70 va1_71 BY F ((hset_ne (by omega)).trans ((hset_ne (by omega)).trans hset_eq)) ((hset_ne (by omega)).trans ((hset_ne (by omega)).trans ((hset_ne (by omega)).trans H1))) (by omega) (by first | assumption | omega) (by first | assumption | omega) (by first | assumption | omega)) ((hset_ne (by omega)).trans ((hset_ne (by omega)).trans hset_eq)) (by omega) jk8.1 rfl rfl (Nat.le_of_ble_eq_true rfl) (Nat.le_of_ble_eq_true rfl) (by constructor <;> decide +kernel) (fun v9 h9 n9 q9 => ?_)
                obtain ⟨rfl, hn9, ta1_75, tl1_76, tk1_77, va1_78, rfl, hst1_79⟩ := q9
                replace hn9 := hn9.symm
                subst hn9
                refine J.cast ((hset_comm (by omega)).trans (hset_cg ((hset_comm (by omega)).trans (hset_cg hset_hset rfl)) rfl)) ?_
                refine J.stk (st' := []) rfl ?_
                have hs57 := hst1_79
                have y1 := posT_up (F := F) (n := bn) (i := i + 1)
                refine J_iincN (q := 0) (a := c) (m := 1) dX8_read_60 rfl (by decide +kernel) (Nat.le_of_ble_eq_true rfl) (L' := [(1, .int (nI (c + 1))), (0, .ref (E.1 + 38))]) rfl ?_
                refine J_goto (tgt := 26) dX8_read_63 (by decide) ?_
                exact ih26 (c + 1) (i + 1 + 1) an1 (td1 + 1) KS (dayN KS MS an1 td1) (dayQ AN1) VA1_67 ta1_75 tl1_76 tk1_77 va1_78 (by omega) (by first | exact rd_3 (by omega) (by omega) (by omega) | (rw [show 160 - (c + 1) = 159 - c by omega]; first | exact gs_anv hgo2 q1 q2 q3 (by omega) | exact gs_wrk hgo2 q1 q3 (by omega) | exact gs_day hgo2 q1 (by omega))) (by assumption) (by first | assumption | omega) (by omega) (by first | assumption | omega) (by first | assumption | omega) (by first | exact relA_b | exact relA_a hrA (by omega) (by omega) (by omega) (by omega) (by omega) (by omega) | exact relA_w hrA (by omega) (by omega) (by omega) | exact relA_d hrA (by omega)) (by first | assumption | omega)
              · skip
                refine J_bipush (v := (-10)) dX8_read_48 (by decide +kernel) ?_
                refine J_aload_n dX8_read_50 rfl ?_
                refine J_get 14 dX8_read_51 jk8 (Nat.le_of_ble_eq_true rfl) jfRX8_205 ((hset_ne (by omega)).trans ((hset_ne (by omega)).trans hset_eq)) (by omega) rfl ?_
                refine J_isub dX8_read_54 ?_
                exact J_iret dX8_read_55 rfl ⟨Nat.le_refl _, Nat.le_refl _⟩ (by rw [hPP]; exact ⟨(congrArg some (jv_I (by first | exact flt8 (rd_0 z0) hG hst0.1 | exact flt8 (rd_1 z0 z1) hG hs6.1 | exact flt8 (rd_2 z0 z1 (by omega)) hG hs6.1 | exact flt8 (gs_full hgo2 q1 q2) hG hst1.1 | exact flt8 (gs_anvN hgo2 q1 q2 q3) hG hs34.1 | exact flt8 (gs_anvP hgo2 q1 q2 q3 (by omega)) hG hs34.1 | exact flt8 (gs_wrkN hgo2 q1 q3) hG hs34.1 | exact flt8 (gs_wrkP hgo2 q1 q3 (by omega)) hG hs34.1 | exact flt8 (gs_dayP hgo2 q1 (by omega)) hG hs34.1 | exact flt8 (gs_no hgo2 hnz q1) hG hst1.1))), rfl, (dayQ AN1), VA1_67, ta1_68, tl1_69, tk1_70, va1_71, rfl⟩)
            · skip
              have q1 := sp25
              have hnz : ¬ kT F bn i = 0 := by omega
              have hpos := kT_pos.mp hnz
              have plt := posT_lt hpos
              refine J_aload_n dX8_read_33 rfl ?_
              refine J_callVr (M' := mX8_takesItem) (d' := (7, 0, 0)) (rest := []) dX8_read_34 jmX8_takesItem jlRX8_251 (ctX8_takesItem_no i xa xb dt mo bn ta1 tl1 tk1 va1 BY F VA1 AN1 ((hset_ne (by omega)).trans ((hset_ne (by omega)).trans hset_eq)) ((hset_ne (by omega)).trans ((hset_ne (by omega)).trans ((hset_ne (by omega)).trans H1))) ((hset_ne (by omega)).trans hset_eq) hset_eq (by omega) (by first | assumption | omega) (by first | assumption | omega) (by first | assumption | omega) (by first | assumption | (rw [r0]; assumption))) ((hset_ne (by omega)).trans ((hset_ne (by omega)).trans hset_eq)) (by omega) jk8.1 rfl rfl (Nat.le_of_ble_eq_true rfl) (Nat.le_of_ble_eq_true rfl) ⟨Nat.le_refl _, Nat.le_refl _⟩ ?_
              refine J_if_eqN (tgt := 48) dX8_read_37 (by decide) (by omega) (fun _ => ?_) (fun z => absurd z (by decide))
              refine J_bipush (v := (-10)) dX8_read_48 (by decide +kernel) ?_
              refine J_aload_n dX8_read_50 rfl ?_
              refine J_get 14 dX8_read_51 jk8 (Nat.le_of_ble_eq_true rfl) jfRX8_205 ((hset_ne (by omega)).trans ((hset_ne (by omega)).trans hset_eq)) (by omega) rfl ?_
              refine J_isub dX8_read_54 ?_
              exact J_iret dX8_read_55 rfl ⟨Nat.le_refl _, Nat.le_refl _⟩ (by rw [hPP]; exact ⟨(congrArg some (jv_I (by first | exact flt8 (rd_0 z0) hG hst0.1 | exact flt8 (rd_1 z0 z1) hG hs6.1 | exact flt8 (rd_2 z0 z1 (by omega)) hG hs6.1 | exact flt8 (gs_full hgo2 q1 q2) hG hst1.1 | exact flt8 (gs_anvN hgo2 q1 q2 q3) hG hs34.1 | exact flt8 (gs_anvP hgo2 q1 q2 q3 (by omega)) hG hs34.1 | exact flt8 (gs_wrkN hgo2 q1 q3) hG hs34.1 | exact flt8 (gs_wrkP hgo2 q1 q3 (by omega)) hG hs34.1 | exact flt8 (gs_dayP hgo2 q1 (by omega)) hG hs34.1 | exact flt8 (gs_no hgo2 hnz q1) hG hst1.1))), rfl, AN1, VA1, ta1, tl1, tk1, va1, rfl⟩)
      exact CUT26 (151 - posT F bn 3 + 1) 1 3 0 0 (fun _ => 0) (fun _ => 0) (beginQ AN (vT F bn 1)) VA1_12 ta1_19 tl1_20 tk1_21 va1_22 (Nat.lt_succ_self _) (by first | exact rd_3 (by omega) (by omega) (by omega) | (rw [show 160 - (c + 1) = 159 - c by omega]; first | exact gs_anv hgo2 q1 q2 q3 (by omega) | exact gs_wrk hgo2 q1 q3 (by omega) | exact gs_day hgo2 q1 (by omega))) (by assumption) (by first | assumption | omega) (by omega) (by first | assumption | omega) (by first | assumption | omega) (by first | exact relA_b | exact relA_a hrA (by omega) (by omega) (by omega) (by omega) (by omega) (by omega) | exact relA_w hrA (by omega) (by omega) (by omega) | exact relA_d hrA (by omega)) (by first | assumption | omega)
    · skip
      refine J_bipush (v := (-10)) dX8_read_12 (by decide +kernel) ?_
      refine J_aload_n dX8_read_14 rfl ?_
      refine J_get 14 dX8_read_15 jk8 (Nat.le_of_ble_eq_true rfl) jfRX8_205 ((hset_ne (by omega)).trans ((hset_ne (by omega)).trans hset_eq)) (by omega) rfl ?_
      refine J_isub dX8_read_18 ?_
      exact J_iret dX8_read_19 rfl ⟨Nat.le_refl _, Nat.le_refl _⟩ (by rw [hPP]; exact ⟨(congrArg some (jv_I (by first | exact flt8 (rd_0 z0) hG hst0.1 | exact flt8 (rd_1 z0 z1) hG hs6.1 | exact flt8 (rd_2 z0 z1 (by omega)) hG hs6.1 | exact flt8 (gs_full hgo2 q1 q2) hG hst1.1 | exact flt8 (gs_anvN hgo2 q1 q2 q3) hG hs34.1 | exact flt8 (gs_anvP hgo2 q1 q2 q3 (by omega)) hG hs34.1 | exact flt8 (gs_wrkN hgo2 q1 q3) hG hs34.1 | exact flt8 (gs_wrkP hgo2 q1 q3 (by omega)) hG hs34.1 | exact flt8 (gs_dayP hgo2 q1 (by omega)) hG hs34.1 | exact flt8 (gs_no hgo2 hnz q1) hG hst1.1))), rfl, (beginQ AN (vT F bn 1)), VA1_12, ta1_13, tl1_14, tk1_15, va1_16, rfl⟩)

set_option maxHeartbeats 1000000 in
set_option maxRecDepth 100000 in
theorem ctX8_read {E : jE} {h : Nat → va_E} {n : Nat} (cc : Nat) (S : pS) (xa : Nat) (xb : Nat) (dt : Nat) (mo : Nat) (bn : Nat) (ta : Nat) (tl : Nat) (tk : Nat) (va : Nat) (BY : Nat → Nat) (F : Nat → Nat) (VA : Nat → Nat) (AN : Nat → Nat) (Q : Nat → Nat) (H0 : h 38 = .inr (7, [.ref (E.1 + 39), .ref (E.1 + 40), .ref (E.1 + 41), .ref (E.1 + 42), .long (lN xa), .long (lN xb), .ref (E.1 + 43), .int (nI dt), .ref (E.1 + 44), .ref (E.1 + 45), .int (nI mo), .ref (E.1 + 46), .ref (E.1 + 47), .int (nI bn), .int (nI ta), .int (nI tl), .int (nI tk), .int (nI va), .ref (E.1 + 48), .ref (E.1 + 49)])) (H1 : h 47 = cI E 150 (nF BY)) (H2 : h 49 = cI E 5 (nF VA)) (H3 : h 48 = cI E 74 (nF AN)) (H4 : h 39 = cI E 218 (nF Q)) (hn : 50 ≤ n) (hBY : ∀ zz, zz < bn → BY zz = F zz ∧ F zz ≤ 127) (hbn : bn ≤ 150) (hG : rdG (kT F bn) (vT F bn) = (cc, some S)) : jC E mX8_read (8, 0, 0) [.ref (E.1 + 38)] h n (fun v h' n' => v = some (.int (nI cc)) ∧ n' = n ∧ ∃ (AN2 : Nat → Nat) (VA2 : Nat → Nat) (ta2 : Nat) (tl2 : Nat) (tk2 : Nat) (va2 : Nat), h' = (hset (hset (hset (hset h 38 (.inr (7, [.ref (E.1 + 39), .ref (E.1 + 40), .ref (E.1 + 41), .ref (E.1 + 42), .long (lN xa), .long (lN xb), .ref (E.1 + 43), .int (nI dt), .ref (E.1 + 44), .ref (E.1 + 45), .int (nI mo), .ref (E.1 + 46), .ref (E.1 + 47), .int (nI bn), .int (nI ta2), .int (nI tl2), .int (nI tk2), .int (nI va2), .ref (E.1 + 48), .ref (E.1 + 49)]))) 49 (cI E 5 (nF VA2))) 48 (cI E 74 (nF AN2))) 39 (cI E 218 (nF (frQ AN2 Q 0 74)))) ∧ (relA AN2 S.2.1 S.2.2.1 (vT F bn 1) S.2.2.2.1 S.2.2.2.2) ∧ (S.2.1 ≤ 4) ∧ (S.2.2.1 ≤ 998) ∧ (vT F bn 1 ≤ 9)) := by
  refine J.of (L := [(0, .ref (E.1 + 38))]) rfl (by decide +kernel) (Nat.le_of_ble_eq_true rfl) ?_
  obtain ⟨PP, hPP⟩ : ∃ PP : jPost, PP = (fun v h' n' => v = some (.int (nI cc)) ∧ n' = n ∧ ∃ (AN2 : Nat → Nat) (VA2 : Nat → Nat) (ta2 : Nat) (tl2 : Nat) (tk2 : Nat) (va2 : Nat), h' = (hset (hset (hset (hset h 38 (.inr (7, [.ref (E.1 + 39), .ref (E.1 + 40), .ref (E.1 + 41), .ref (E.1 + 42), .long (lN xa), .long (lN xb), .ref (E.1 + 43), .int (nI dt), .ref (E.1 + 44), .ref (E.1 + 45), .int (nI mo), .ref (E.1 + 46), .ref (E.1 + 47), .int (nI bn), .int (nI ta2), .int (nI tl2), .int (nI tk2), .int (nI va2), .ref (E.1 + 48), .ref (E.1 + 49)]))) 49 (cI E 5 (nF VA2))) 48 (cI E 74 (nF AN2))) 39 (cI E 218 (nF (frQ AN2 Q 0 74)))) ∧ (relA AN2 S.2.1 S.2.2.1 (vT F bn 1) S.2.2.2.1 S.2.2.2.2) ∧ (S.2.1 ≤ 4) ∧ (S.2.2.1 ≤ 998) ∧ (vT F bn 1 ≤ 9)) := ⟨_, rfl⟩
  rw [← hPP]
  refine J_aload_n dX8_read_0 rfl ?_
  refine J_iconst (v := nI 0) dX8_read_1 (by decide +kernel) ?_
  refine J_callV (M' := mX8_lookAt) (d' := (3, 0, 0)) (rest := []) dX8_read_2 jmX8_lookAt jlRX8_223 (ctX8_lookAt 0 xa xb dt mo bn ta tl tk va BY F H0 H1 (by omega) (by first | assumption | omega) (by first | assumption | omega) (by first | assumption | omega)) H0 (by omega) jk8.1 rfl rfl (Nat.le_of_ble_eq_true rfl) (Nat.le_of_ble_eq_true rfl) (by constructor <;> decide +kernel) (fun v9 h9 n9 q9 => ?_)
  obtain ⟨rfl, hn9, va1_1, rfl, hva_2⟩ := q9
  replace hn9 := hn9.symm
  subst hn9
  refine J.stk (st' := []) rfl ?_
  have hst0 := stQ_of (F := F) (n := bn) (i := 0) rfl hva_2
  have sp3 : (¬ kT F bn 0 = 1) ∨ (kT F bn 0 = 1 ∧ ¬ (kT F bn 1 = 5 ∧ vT F bn 1 ≤ 9)) ∨ (kT F bn 0 = 1 ∧ (kT F bn 1 = 5 ∧ vT F bn 1 ≤ 9)) := by omega
  rcases sp3 with sp3 | sp3 | sp3
  · skip
    have z0 := sp3
    refine J_aload_n dX8_read_5 rfl ?_
    refine J_callVr (M' := mX8_takesStreet) (d' := (6, 0, 0)) (rest := []) dX8_read_6 jmX8_takesStreet jlRX8_248 (ctX8_takesStreet_0 xa xb dt mo bn (skipF F bn 0) (lenQ F bn (skipF F bn 0)) (tokR F bn (skipF F bn 0)) va1_1 BY F VA AN hset_eq ((hset_ne (by omega)).trans H1) ((hset_ne (by omega)).trans H2) ((hset_ne (by omega)).trans H3) (by omega) (by first | assumption | omega) (by first | assumption | omega) (by first | assumption | omega) (by first | assumption | omega)) hset_eq (by omega) jk8.1 rfl rfl (Nat.le_of_ble_eq_true rfl) (Nat.le_of_ble_eq_true rfl) ⟨Nat.le_refl _, Nat.le_refl _⟩ ?_
    refine J_if_neN (tgt := 20) dX8_read_9 (by decide) (by omega) (fun z => absurd z (by decide)) (fun _ => ?_)
    first | exact absurd ((rd_0 z0).symm.trans hG) (by simp) | exact absurd ((rd_1 z0 z1).symm.trans hG) (by simp) | exact absurd ((rd_2 z0 z1 (by omega)).symm.trans hG) (by simp) | exact absurd ((gs_full hgo2 q1 q2).symm.trans hG) (by simp) | exact absurd ((gs_anvN hgo2 q1 q2 q3).symm.trans hG) (by simp) | exact absurd ((gs_anvP hgo2 q1 q2 q3 (by omega)).symm.trans hG) (by simp) | exact absurd ((gs_wrkN hgo2 q1 q3).symm.trans hG) (by simp) | exact absurd ((gs_wrkP hgo2 q1 q3 (by omega)).symm.trans hG) (by simp) | exact absurd ((gs_dayP hgo2 q1 (by omega)).symm.trans hG) (by simp) | exact absurd ((gs_no hgo2 hnz q1).symm.trans hG) (by simp)
  · skip
    obtain ⟨z0, z1⟩ := sp3
    refine J_aload_n dX8_read_5 rfl ?_
    refine J_callV (M' := mX8_takesStreet) (d' := (6, 0, 0)) (rest := []) dX8_read_6 jmX8_takesStreet jlRX8_248 (ctX8_takesStreet_1 xa xb dt mo bn (skipF F bn 0) (lenQ F bn (skipF F bn 0)) (tokR F bn (skipF F bn 0)) va1_1 BY F VA AN hset_eq ((hset_ne (by omega)).trans H1) ((hset_ne (by omega)).trans H2) ((hset_ne (by omega)).trans H3) (by omega) (by first | assumption | omega) (by first | assumption | omega) (by first | assumption | omega) (by first | assumption | omega) (by first | assumption | omega)) hset_eq (by omega) jk8.1 rfl rfl (Nat.le_of_ble_eq_true rfl) (Nat.le_of_ble_eq_true rfl) (by constructor <;> decide +kernel) (fun v9 h9 n9 q9 => ?_)
    obtain ⟨rfl, hn9, VA1_5, ta1_6, tl1_7, tk1_8, va1_9, rfl, hst1_10⟩ := q9
    replace hn9 := hn9.symm
    subst hn9
    refine J.cast (hset_cg hset_hset rfl) ?_
    refine J.stk (st' := [.int (nI 0)]) rfl ?_
    have hs6 := hst1_10
    refine J_if_neN (tgt := 20) dX8_read_9 (by decide) (by omega) (fun z => absurd z (by decide)) (fun _ => ?_)
    first | exact absurd ((rd_0 z0).symm.trans hG) (by simp) | exact absurd ((rd_1 z0 z1).symm.trans hG) (by simp) | exact absurd ((rd_2 z0 z1 (by omega)).symm.trans hG) (by simp) | exact absurd ((gs_full hgo2 q1 q2).symm.trans hG) (by simp) | exact absurd ((gs_anvN hgo2 q1 q2 q3).symm.trans hG) (by simp) | exact absurd ((gs_anvP hgo2 q1 q2 q3 (by omega)).symm.trans hG) (by simp) | exact absurd ((gs_wrkN hgo2 q1 q3).symm.trans hG) (by simp) | exact absurd ((gs_wrkP hgo2 q1 q3 (by omega)).symm.trans hG) (by simp) | exact absurd ((gs_dayP hgo2 q1 (by omega)).symm.trans hG) (by simp) | exact absurd ((gs_no hgo2 hnz q1).symm.trans hG) (by simp)
  · skip
    obtain ⟨z0, z1⟩ := sp3
    refine J_aload_n dX8_read_5 rfl ?_
    refine J_callV (M' := mX8_takesStreet) (d' := (6, 0, 0)) (rest := []) dX8_read_6 jmX8_takesStreet jlRX8_248 (ctX8_takesStreet xa xb dt mo bn (skipF F bn 0) (lenQ F bn (skipF F bn 0)) (tokR F bn (skipF F bn 0)) va1_1 BY F VA AN hset_eq ((hset_ne (by omega)).trans H1) ((hset_ne (by omega)).trans H2) ((hset_ne (by omega)).trans H3) (by omega) (by first | assumption | omega) (by first | assumption | omega) (by first | assumption | omega) (by first | assumption | omega) (by first | assumption | omega)) hset_eq (by omega) jk8.1 rfl rfl (Nat.le_of_ble_eq_true rfl) (Nat.le_of_ble_eq_true rfl) (by constructor <;> decide +kernel) (fun v9 h9 n9 q9 => ?_)
    obtain ⟨rfl, hn9, VA1_12, ta1_13, tl1_14, tk1_15, va1_16, rfl, hst1_17⟩ := q9
    replace hn9 := hn9.symm
    subst hn9
    refine J.cast (hset_cg (hset_cg hset_hset rfl) rfl) ?_
    refine J.stk (st' := [.int (jb (kT F bn 2 = 6))]) rfl ?_
    have hs6 := hst1_17
    refine J_if_neB (tgt := 20) dX8_read_9 (by decide) (fun c18 => ?_) (fun c18 => ?_)
    · skip
      refine J_aload_n dX8_read_20 rfl ?_
      refine J_callV (M' := mX8_goBehind) (d' := (4, 0, 0)) (rest := []) dX8_read_21 jmX8_goBehind jlRX8_227 (ctX8_goBehind 2 xa xb dt mo bn ta1_13 tl1_14 tk1_15 va1_16 BY F ((hset_ne (by omega)).trans ((hset_ne (by omega)).trans hset_eq)) ((hset_ne (by omega)).trans ((hset_ne (by omega)).trans ((hset_ne (by omega)).trans H1))) (by omega) (by first | assumption | omega) (by first | assumption | omega) (by first | assumption | omega)) ((hset_ne (by omega)).trans ((hset_ne (by omega)).trans hset_eq)) (by omega) jk8.1 rfl rfl (Nat.le_of_ble_eq_true rfl) (Nat.le_of_ble_eq_true rfl) (by constructor <;> decide +kernel) (fun v9 h9 n9 q9 => ?_)
      obtain ⟨rfl, hn9, ta1_19, tl1_20, tk1_21, va1_22, rfl, hst1_23⟩ := q9
      replace hn9 := hn9.symm
      subst hn9
      refine J.cast ((hset_comm (by omega)).trans (hset_cg ((hset_comm (by omega)).trans (hset_cg hset_hset rfl)) rfl)) ?_
      refine J.stk (st' := []) rfl ?_
      have hs21 := hst1_23
      have y0 := posT_lt (kT_pos.mp (show ¬ kT F bn 0 = 0 by omega))
      have y3 := posT_mono (F := F) (n := bn) (i := 1) 2
      replace y0 : posT F bn 0 < posT F bn 1 := y0
      replace y3 : posT F bn 1 ≤ posT F bn 3 := y3
      refine J_iconst (v := nI 1) dX8_read_24 (by decide +kernel) ?_
      refine J_istore_n dX8_read_25 (Nat.le_of_ble_eq_true rfl) (L' := [(1, .int (nI 1)), (0, .ref (E.1 + 38))]) rfl ?_
      have CUT26 : ∀ (f26 : Nat) (c : Nat) (i : Nat) (an1 : Nat) (td1 : Nat) (KS : Nat → Nat) (MS : Nat → Nat) (AN1 : Nat → Nat) (VA1 : Nat → Nat) (ta1 : Nat) (tl1 : Nat) (tk1 : Nat) (va1 : Nat) (hm26 : 151 - posT F bn i < f26) (hgo : rdG (kT F bn) (vT F bn) = goR (kT F bn) (vT F bn) (160 - c) c (i, an1, td1, KS, MS)) (hst1 : stQ F bn i ta1 tl1 tk1 va1) (hc1 : 1 ≤ c) (hci : c ≤ posT F bn i) (han : an1 ≤ 4) (htd : td1 + 1 ≤ c) (hrA : relA AN1 an1 td1 (vT F bn 1) KS MS) (hv1 : vT F bn 1 ≤ 9), J E mX8_read (8, 0, 0) jS0 PP (hset (hset (hset h 38 (.inr (7, [.ref (E.1 + 39), .ref (E.1 + 40), .ref (E.1 + 41), .ref (E.1 + 42), .long (lN xa), .long (lN xb), .ref (E.1 + 43), .int (nI dt), .ref (E.1 + 44), .ref (E.1 + 45), .int (nI mo), .ref (E.1 + 46), .ref (E.1 + 47), .int (nI bn), .int (nI ta1), .int (nI tl1), .int (nI tk1), .int (nI va1), .ref (E.1 + 48), .ref (E.1 + 49)]))) 49 (cI E 5 (nF VA1))) 48 (cI E 74 (nF AN1))) n (0, 0) 26 [(1, .int (nI c)), (0, .ref (E.1 + 38))] [] := by
        intro f26
        induction f26 with
        | zero => intro c i an1 td1 KS MS AN1 VA1 ta1 tl1 tk1 va1 hm26; exact absurd hm26 (Nat.not_lt_zero _)
        | succ f26 ih26 =>
          intro c i an1 td1 KS MS AN1 VA1 ta1 tl1 tk1 va1 hm26 hgo hst1 hc1 hci han htd hrA hv1
          have hgo2 : rdG (kT F bn) (vT F bn) = goR (kT F bn) (vT F bn) (159 - c + 1) c (i, an1, td1, KS, MS) := by rw [show 159 - c + 1 = 160 - c by have := posT_le (F := F) (n := bn) i; omega]; exact hgo
          have hpl := posT_le (F := F) (n := bn) i
          have hk0 := tk_0 hst1
          have hk4 := hst1.2.2.2.2.1
          obtain ⟨r0, r1, r2, r3, r4, r5, r6, r7, r8⟩ := id hrA
          refine J_aload_n dX8_read_26 rfl ?_
          refine J_get 16 dX8_read_27 jk8 (Nat.le_of_ble_eq_true rfl) jfRX8_211 ((hset_ne (by omega)).trans ((hset_ne (by omega)).trans hset_eq)) (by omega) rfl ?_
          refine J_if_eqN (tgt := 66) dX8_read_30 (by decide) (by omega) (fun c24 => ?_) (fun c24 => ?_)
          · skip
            refine J_iconst (v := nI 0) dX8_read_66 (by decide +kernel) ?_
            refine J_istore_n dX8_read_67 (Nat.le_of_ble_eq_true rfl) (L' := [(2, .int (nI 0)), (1, .int (nI c)), (0, .ref (E.1 + 38))]) rfl ?_
            have CUT68 : ∀ (f68 : Nat) (jj : Nat) (hm68 : 74 - jj < f68) (hjj : jj ≤ 74), J E mX8_read (8, 0, 0) jS0 PP (hset (hset (hset (hset h 38 (.inr (7, [.ref (E.1 + 39), .ref (E.1 + 40), .ref (E.1 + 41), .ref (E.1 + 42), .long (lN xa), .long (lN xb), .ref (E.1 + 43), .int (nI dt), .ref (E.1 + 44), .ref (E.1 + 45), .int (nI mo), .ref (E.1 + 46), .ref (E.1 + 47), .int (nI bn), .int (nI ta1), .int (nI tl1), .int (nI tk1), .int (nI va1), .ref (E.1 + 48), .ref (E.1 + 49)]))) 49 (cI E 5 (nF VA1))) 48 (cI E 74 (nF AN1))) 39 (cI E 218 (nF (frQ AN1 Q 0 jj)))) n (0, 0) 68 [(2, .int (nI jj)), (1, .int (nI c)), (0, .ref (E.1 + 38))] [] := by
              intro f68
              induction f68 with
              | zero => intro jj hm68; exact absurd hm68 (Nat.not_lt_zero _)
              | succ f68 ih68 =>
                intro jj hm68 hjj
                refine J_iload_n dX8_read_68 rfl ?_
                refine J_bipush (v := nI 74) dX8_read_69 (by decide +kernel) ?_
                refine J_icmp_geN (tgt := 92) dX8_read_71 (by decide) (by omega) (by omega) (fun c25 => ?_) (fun c25 => ?_)
                · skip
                  refine J_iload_n dX8_read_92 rfl ?_
                  exact J_iret dX8_read_93 rfl ⟨Nat.le_refl _, Nat.le_refl _⟩ (by rw [hPP]; exact ⟨(congrArg some (jv_N (by first | rfl | (have e := (gs_0 hgo2 (by omega)).symm.trans hG; obtain ⟨e1, e2⟩ := Prod.mk.inj e; exact e1) | (rw [show jj = 74 by omega])))), rfl, AN1, VA1, ta1, tl1, tk1, va1, (hset_cg (hset_cg (hset_cg (hset_cg rfl rfl) rfl) rfl) (cI_cg (by intro z; first | rfl | (have e := (gs_0 hgo2 (by omega)).symm.trans hG; obtain ⟨e1, e2⟩ := Prod.mk.inj e; exact e1) | (rw [show jj = 74 by omega])))), (by have e := (gs_0 hgo2 (by omega)).symm.trans hG; obtain ⟨e1, e2⟩ := Prod.mk.inj e; rw [← Option.some.inj e2]; exact hrA), (by have e := (gs_0 hgo2 (by omega)).symm.trans hG; obtain ⟨e1, e2⟩ := Prod.mk.inj e; rw [← Option.some.inj e2]; exact han), (by have e := (gs_0 hgo2 (by omega)).symm.trans hG; obtain ⟨e1, e2⟩ := Prod.mk.inj e; rw [← Option.some.inj e2]; show td1 ≤ 998; omega), (by assumption)⟩)
                · skip
                  refine J_aload_n dX8_read_74 rfl ?_
                  refine J_get 0 dX8_read_75 jk8 (Nat.le_of_ble_eq_true rfl) jfRX8_7 ((hset_ne (by omega)).trans ((hset_ne (by omega)).trans ((hset_ne (by omega)).trans hset_eq))) (by omega) rfl ?_
                  refine J_iload_n dX8_read_78 rfl ?_
                  refine J_aload_n dX8_read_79 rfl ?_
                  refine J_get 18 dX8_read_80 jk8 (Nat.le_of_ble_eq_true rfl) jfRX8_42 ((hset_ne (by omega)).trans ((hset_ne (by omega)).trans ((hset_ne (by omega)).trans hset_eq))) (by omega) rfl ?_
                  refine J_iload_n dX8_read_83 rfl ?_
                  refine J_ialdN (i := jj) dX8_read_84 ((hset_ne (by omega)).trans hset_eq) (by omega) (by omega) (by omega) ?_
                  refine J_iastN (i := jj) (v := AN1 jj) dX8_read_85 hset_eq (by omega) (by omega) (by omega) ?_
                  refine J.cast hset_hset ?_
                  refine J_iincN (q := 0) (a := jj) (m := 1) dX8_read_86 rfl (by decide +kernel) (Nat.le_of_ble_eq_true rfl) (L' := [(2, .int (nI (jj + 1))), (1, .int (nI c)), (0, .ref (E.1 + 38))]) rfl ?_
                  refine J_goto (tgt := 68) dX8_read_89 (by decide) ?_
                  refine J.eqs (h' := (hset (hset (hset (hset h 38 (.inr (7, [.ref (E.1 + 39), .ref (E.1 + 40), .ref (E.1 + 41), .ref (E.1 + 42), .long (lN xa), .long (lN xb), .ref (E.1 + 43), .int (nI dt), .ref (E.1 + 44), .ref (E.1 + 45), .int (nI mo), .ref (E.1 + 46), .ref (E.1 + 47), .int (nI bn), .int (nI ta1), .int (nI tl1), .int (nI tk1), .int (nI va1), .ref (E.1 + 48), .ref (E.1 + 49)]))) 49 (cI E 5 (nF VA1))) 48 (cI E 74 (nF AN1))) 39 (cI E 218 (nF (frQ AN1 Q 0 (jj + 1)))))) (L' := [(2, .int (nI (jj + 1))), (1, .int (nI c)), (0, .ref (E.1 + 38))]) (st' := []) (hset_cg (hset_cg (hset_cg (hset_cg rfl rfl) rfl) rfl) (cI_cg (by intro z; first | exact frQ_0 z | exact (by have u := frQ_s (KP := AN1) (Q := Q) (b := 0) (i := jj) z; rw [Nat.zero_add] at u; exact u)))) rfl rfl ?_
                  exact ih68 (jj + 1) (by omega) (by first | assumption | omega)
            refine J.eqs (h' := (hset (hset (hset (hset h 38 (.inr (7, [.ref (E.1 + 39), .ref (E.1 + 40), .ref (E.1 + 41), .ref (E.1 + 42), .long (lN xa), .long (lN xb), .ref (E.1 + 43), .int (nI dt), .ref (E.1 + 44), .ref (E.1 + 45), .int (nI mo), .ref (E.1 + 46), .ref (E.1 + 47), .int (nI bn), .int (nI ta1), .int (nI tl1), .int (nI tk1), .int (nI va1), .ref (E.1 + 48), .ref (E.1 + 49)]))) 49 (cI E 5 (nF VA1))) 48 (cI E 74 (nF AN1))) 39 (cI E 218 (nF (frQ AN1 Q 0 0))))) (L' := [(2, .int (nI 0)), (1, .int (nI c)), (0, .ref (E.1 + 38))]) (st' := []) ((show (hset (hset (hset h 38 (.inr (7, [.ref (E.1 + 39), .ref (E.1 + 40), .ref (E.1 + 41), .ref (E.1 + 42), .long (lN xa), .long (lN xb), .ref (E.1 + 43), .int (nI dt), .ref (E.1 + 44), .ref (E.1 + 45), .int (nI mo), .ref (E.1 + 46), .ref (E.1 + 47), .int (nI bn), .int (nI ta1), .int (nI tl1), .int (nI tk1), .int (nI va1), .ref (E.1 + 48), .ref (E.1 + 49)]))) 49 (cI E 5 (nF VA1))) 48 (cI E 74 (nF AN1))) = (hset (hset (hset (hset h 38 (.inr (7, [.ref (E.1 + 39), .ref (E.1 + 40), .ref (E.1 + 41), .ref (E.1 + 42), .long (lN xa), .long (lN xb), .ref (E.1 + 43), .int (nI dt), .ref (E.1 + 44), .ref (E.1 + 45), .int (nI mo), .ref (E.1 + 46), .ref (E.1 + 47), .int (nI bn), .int (nI ta1), .int (nI tl1), .int (nI tk1), .int (nI va1), .ref (E.1 + 48), .ref (E.1 + 49)]))) 49 (cI E 5 (nF VA1))) 48 (cI E 74 (nF AN1))) 39 (cI E 218 (nF Q))) by funext z; simp only [hset]; (repeat' split) <;> first | rfl | (exfalso; omega) | (subst_vars; first | exact H4)).trans (hset_cg (hset_cg (hset_cg (hset_cg rfl rfl) rfl) rfl) (cI_cg (by intro z; first | exact frQ_0 z | exact (by have u := frQ_s (KP := AN1) (Q := Q) (b := 0) (i := jj) z; rw [Nat.zero_add] at u; exact u))))) rfl rfl ?_
            exact CUT68 (74 - 0 + 1) 0 (Nat.lt_succ_self _) (by first | assumption | omega)
          · skip
            have hnz : ¬ kT F bn i = 0 := by omega
            have hpos := kT_pos.mp hnz
            have plt := posT_lt hpos
            have sp26 : (kT F bn i = 2 ∧ ¬ an1 < 4) ∨ (kT F bn i = 2 ∧ an1 < 4 ∧ ¬ anvOK (kT F bn) (vT F bn) i) ∨ (kT F bn i = 2 ∧ an1 < 4 ∧ anvOK (kT F bn) (vT F bn) i) ∨ (kT F bn i = 3 ∧ ¬ wrkOK (kT F bn) (vT F bn) an1 i) ∨ (kT F bn i = 3 ∧ wrkOK (kT F bn) (vT F bn) an1 i) ∨ (kT F bn i = 4) ∨ (¬ kT F bn i = 2 ∧ ¬ kT F bn i = 3 ∧ ¬ kT F bn i = 4) := by exact itm_all
            rcases sp26 with sp26 | sp26 | sp26 | sp26 | sp26 | sp26 | sp26
            · skip
              obtain ⟨q1, q2⟩ := sp26
              have hnz : ¬ kT F bn i = 0 := by omega
              have hpos := kT_pos.mp hnz
              have plt := posT_lt hpos
              refine J_aload_n dX8_read_33 rfl ?_
              refine J_callVr (M' := mX8_takesItem) (d' := (7, 0, 0)) (rest := []) dX8_read_34 jmX8_takesItem jlRX8_251 (ctX8_takesItem_full i xa xb dt mo bn ta1 tl1 tk1 va1 BY F VA1 AN1 ((hset_ne (by omega)).trans ((hset_ne (by omega)).trans hset_eq)) ((hset_ne (by omega)).trans ((hset_ne (by omega)).trans ((hset_ne (by omega)).trans H1))) ((hset_ne (by omega)).trans hset_eq) hset_eq (by omega) (by first | assumption | omega) (by first | assumption | omega) (by first | assumption | omega) (by first | assumption | omega) (by first | assumption | omega)) ((hset_ne (by omega)).trans ((hset_ne (by omega)).trans hset_eq)) (by omega) jk8.1 rfl rfl (Nat.le_of_ble_eq_true rfl) (Nat.le_of_ble_eq_true rfl) ⟨Nat.le_refl _, Nat.le_refl _⟩ ?_
              refine J_if_eqN (tgt := 48) dX8_read_37 (by decide) (by omega) (fun _ => ?_) (fun z => absurd z (by decide))
              first | exact absurd ((rd_0 z0).symm.trans hG) (by simp) | exact absurd ((rd_1 z0 z1).symm.trans hG) (by simp) | exact absurd ((rd_2 z0 z1 (by omega)).symm.trans hG) (by simp) | exact absurd ((gs_full hgo2 q1 q2).symm.trans hG) (by simp) | exact absurd ((gs_anvN hgo2 q1 q2 q3).symm.trans hG) (by simp) | exact absurd ((gs_anvP hgo2 q1 q2 q3 (by omega)).symm.trans hG) (by simp) | exact absurd ((gs_wrkN hgo2 q1 q3).symm.trans hG) (by simp) | exact absurd ((gs_wrkP hgo2 q1 q3 (by omega)).symm.trans hG) (by simp) | exact absurd ((gs_dayP hgo2 q1 (by omega)).symm.trans hG) (by simp) | exact absurd ((gs_no hgo2 hnz q1).symm.trans hG) (by simp)
            · skip
              obtain ⟨q1, q2, q3⟩ := sp26
              have hnz : ¬ kT F bn i = 0 := by omega
              have hpos := kT_pos.mp hnz
              have plt := posT_lt hpos
              refine J_aload_n dX8_read_33 rfl ?_
              refine J_callV (M' := mX8_takesItem) (d' := (7, 0, 0)) (rest := []) dX8_read_34 jmX8_takesItem jlRX8_251 (ctX8_takesItem_anvN i xa xb dt mo bn ta1 tl1 tk1 va1 BY F VA1 AN1 ((hset_ne (by omega)).trans ((hset_ne (by omega)).trans hset_eq)) ((hset_ne (by omega)).trans ((hset_ne (by omega)).trans ((hset_ne (by omega)).trans H1))) ((hset_ne (by omega)).trans hset_eq) hset_eq (by omega) (by first | assumption | omega) (by first | assumption | omega) (by first | assumption | omega) (by first | assumption | omega) (by first | assumption | omega) (by first | assumption | (rw [r0]; assumption))) ((hset_ne (by omega)).trans ((hset_ne (by omega)).trans hset_eq)) (by omega) jk8.1 rfl rfl (Nat.le_of_ble_eq_true rfl) (Nat.le_of_ble_eq_true rfl) (by constructor <;> decide +kernel) (fun v9 h9 n9 q9 => ?_)
              obtain ⟨rfl, hn9, VA1_28, ta1_29, tl1_30, tk1_31, va1_32, rfl, hst1_33⟩ := q9
              replace hn9 := hn9.symm
              subst hn9
              refine J.cast ((hset_cg ((hset_comm (by omega)).trans (hset_cg ((hset_comm (by omega)).trans (hset_cg hset_hset rfl)) rfl)) rfl).trans ((hset_comm (by omega)).trans (hset_cg hset_hset rfl))) ?_
              refine J.stk (st' := [.int (nI 0)]) rfl ?_
              have hs34 := hst1_33
              try rw [r0] at hs34
              have h36 := tk_3 hs34
              have h346 := hs34.2.2.2.2.1
              refine J_if_eqN (tgt := 48) dX8_read_37 (by decide) (by omega) (fun _ => ?_) (fun z => absurd z (by decide))
              first | exact absurd ((rd_0 z0).symm.trans hG) (by simp) | exact absurd ((rd_1 z0 z1).symm.trans hG) (by simp) | exact absurd ((rd_2 z0 z1 (by omega)).symm.trans hG) (by simp) | exact absurd ((gs_full hgo2 q1 q2).symm.trans hG) (by simp) | exact absurd ((gs_anvN hgo2 q1 q2 q3).symm.trans hG) (by simp) | exact absurd ((gs_anvP hgo2 q1 q2 q3 (by omega)).symm.trans hG) (by simp) | exact absurd ((gs_wrkN hgo2 q1 q3).symm.trans hG) (by simp) | exact absurd ((gs_wrkP hgo2 q1 q3 (by omega)).symm.trans hG) (by simp) | exact absurd ((gs_dayP hgo2 q1 (by omega)).symm.trans hG) (by simp) | exact absurd ((gs_no hgo2 hnz q1).symm.trans hG) (by simp)
            · skip
              obtain ⟨q1, q2, q3⟩ := sp26
              obtain ⟨⟨a1, b1⟩, ⟨a2, b2⟩, ⟨a3, b3⟩, ⟨a4, b4⟩, ⟨a5, b5⟩⟩ := id q3
              have hnz : ¬ kT F bn i = 0 := by omega
              have hpos := kT_pos.mp hnz
              have plt := posT_lt hpos
              refine J_aload_n dX8_read_33 rfl ?_
              refine J_callV (M' := mX8_takesItem) (d' := (7, 0, 0)) (rest := []) dX8_read_34 jmX8_takesItem jlRX8_251 (ctX8_takesItem_anv i xa xb dt mo bn ta1 tl1 tk1 va1 BY F VA1 AN1 ((hset_ne (by omega)).trans ((hset_ne (by omega)).trans hset_eq)) ((hset_ne (by omega)).trans ((hset_ne (by omega)).trans ((hset_ne (by omega)).trans H1))) ((hset_ne (by omega)).trans hset_eq) hset_eq (by omega) (by first | assumption | omega) (by first | assumption | omega) (by first | assumption | omega) (by first | assumption | omega) (by first | assumption | omega) (by first | assumption | (rw [r0]; assumption))) ((hset_ne (by omega)).trans ((hset_ne (by omega)).trans hset_eq)) (by omega) jk8.1 rfl rfl (Nat.le_of_ble_eq_true rfl) (Nat.le_of_ble_eq_true rfl) (by constructor <;> decide +kernel) (fun v9 h9 n9 q9 => ?_)
              obtain ⟨rfl, hn9, VA1_35, ta1_36, tl1_37, tk1_38, va1_39, rfl, hst1_40⟩ := q9
              replace hn9 := hn9.symm
              subst hn9
              refine J.cast ((hset_cg ((hset_cg ((hset_comm (by omega)).trans (hset_cg ((hset_comm (by omega)).trans (hset_cg hset_hset rfl)) rfl)) rfl).trans ((hset_comm (by omega)).trans (hset_cg hset_hset rfl))) rfl).trans hset_hset) ?_
              refine J.stk (st' := [.int (nI 1)]) rfl ?_
              have hs34 := hst1_40
              try rw [r0] at hs34
              have h36 := tk_3 hs34
              have h346 := hs34.2.2.2.2.1
              refine J_if_eqN (tgt := 48) dX8_read_37 (by decide) (by omega) (fun z => absurd z (by decide)) (fun _ => ?_)
              refine J_aload_n dX8_read_40 rfl ?_
              refine J_get 16 dX8_read_41 jk8 (Nat.le_of_ble_eq_true rfl) jfRX8_211 ((hset_ne (by omega)).trans ((hset_ne (by omega)).trans hset_eq)) (by omega) rfl ?_
              refine J_iconst (v := nI 3) dX8_read_44 (by decide +kernel) ?_
              refine J_icmp_eqN (tgt := 56) dX8_read_45 (by decide) (by omega) (by omega) (fun c42 => ?_) (fun c42 => ?_)
              · skip
                refine J_aload_n dX8_read_56 rfl ?_
                refine J_callV (M' := mX8_goBehind) (d' := (4, 0, 0)) (rest := []) dX8_read_57 jmX8_goBehind jlRX8_227 (ctX8_goBehind (i + 1 + 1 + 1 + 1 + 1 + 1) xa xb dt mo bn ta1_36 tl1_37 tk1_38 va1_39 BY F ((hset_ne (by omega)).trans ((hset_ne (by omega)).trans hset_eq)) ((hset_ne (by omega)).trans ((hset_ne (by omega)).trans ((hset_ne (by omega)).trans H1))) (by omega) (by first | assumption | omega) (by first | assumption | omega) (by first | assumption | omega)) ((hset_ne (by omega)).trans ((hset_ne (by omega)).trans hset_eq)) (by omega) jk8.1 rfl rfl (Nat.le_of_ble_eq_true rfl) (Nat.le_of_ble_eq_true rfl) (by constructor <;> decide +kernel) (fun v9 h9 n9 q9 => ?_)
                obtain ⟨rfl, hn9, ta1_43, tl1_44, tk1_45, va1_46, rfl, hst1_47⟩ := q9
                replace hn9 := hn9.symm
                subst hn9
                refine J.cast ((hset_comm (by omega)).trans (hset_cg ((hset_comm (by omega)).trans (hset_cg hset_hset rfl)) rfl)) ?_
                refine J.stk (st' := []) rfl ?_
                have hs57 := hst1_47
                have y1 := posT_mono (F := F) (n := bn) (i := i + 1) 6
                replace y1 : posT F bn (i + 1) ≤ posT F bn (i + 1 + 1 + 1 + 1 + 1 + 1 + 1) := y1
                refine J_iincN (q := 0) (a := c) (m := 1) dX8_read_60 rfl (by decide +kernel) (Nat.le_of_ble_eq_true rfl) (L' := [(1, .int (nI (c + 1))), (0, .ref (E.1 + 38))]) rfl ?_
                refine J_goto (tgt := 26) dX8_read_63 (by decide) ?_
                exact ih26 (c + 1) (i + 1 + 1 + 1 + 1 + 1 + 1 + 1) (an1 + 1) td1 (updN KS an1 (vT F bn (i + 1))) (joinM MS an1 (vT F bn (i + 1 + 1)) (vT F bn (i + 1 + 1 + 1)) (vT F bn (i + 1 + 1 + 1 + 1)) (vT F bn (i + 1 + 1 + 1 + 1 + 1))) (layQ AN1 (vT F bn (i + 1)) (vT F bn (i + 1 + 1)) (vT F bn (i + 1 + 1 + 1)) (vT F bn (i + 1 + 1 + 1 + 1)) (vT F bn (i + 1 + 1 + 1 + 1 + 1))) VA1_35 ta1_43 tl1_44 tk1_45 va1_46 (by omega) (by first | exact rd_3 (by omega) (by omega) (by omega) | (rw [show 160 - (c + 1) = 159 - c by omega]; first | exact gs_anv hgo2 q1 q2 q3 (by omega) | exact gs_wrk hgo2 q1 q3 (by omega) | exact gs_day hgo2 q1 (by omega))) (by assumption) (by first | assumption | omega) (by omega) (by first | assumption | omega) (by first | assumption | omega) (by first | exact relA_b | exact relA_a hrA (by omega) (by omega) (by omega) (by omega) (by omega) (by omega) | exact relA_w hrA (by omega) (by omega) (by omega) | exact relA_d hrA (by omega)) (by first | assumption | omega)
              · skip
                first | exact absurd ((rd_0 z0).symm.trans hG) (by simp) | exact absurd ((rd_1 z0 z1).symm.trans hG) (by simp) | exact absurd ((rd_2 z0 z1 (by omega)).symm.trans hG) (by simp) | exact absurd ((gs_full hgo2 q1 q2).symm.trans hG) (by simp) | exact absurd ((gs_anvN hgo2 q1 q2 q3).symm.trans hG) (by simp) | exact absurd ((gs_anvP hgo2 q1 q2 q3 (by omega)).symm.trans hG) (by simp) | exact absurd ((gs_wrkN hgo2 q1 q3).symm.trans hG) (by simp) | exact absurd ((gs_wrkP hgo2 q1 q3 (by omega)).symm.trans hG) (by simp) | exact absurd ((gs_dayP hgo2 q1 (by omega)).symm.trans hG) (by simp) | exact absurd ((gs_no hgo2 hnz q1).symm.trans hG) (by simp)
            · skip
              obtain ⟨q1, q3⟩ := sp26
              have hnz : ¬ kT F bn i = 0 := by omega
              have hpos := kT_pos.mp hnz
              have plt := posT_lt hpos
              refine J_aload_n dX8_read_33 rfl ?_
              refine J_callV (M' := mX8_takesItem) (d' := (7, 0, 0)) (rest := []) dX8_read_34 jmX8_takesItem jlRX8_251 (ctX8_takesItem_wrkN i xa xb dt mo bn ta1 tl1 tk1 va1 BY F VA1 AN1 ((hset_ne (by omega)).trans ((hset_ne (by omega)).trans hset_eq)) ((hset_ne (by omega)).trans ((hset_ne (by omega)).trans ((hset_ne (by omega)).trans H1))) ((hset_ne (by omega)).trans hset_eq) hset_eq (by omega) (by first | assumption | omega) (by first | assumption | omega) (by first | assumption | omega) (by first | assumption | omega) (by first | assumption | omega) (by first | assumption | (rw [r0]; assumption))) ((hset_ne (by omega)).trans ((hset_ne (by omega)).trans hset_eq)) (by omega) jk8.1 rfl rfl (Nat.le_of_ble_eq_true rfl) (Nat.le_of_ble_eq_true rfl) (by constructor <;> decide +kernel) (fun v9 h9 n9 q9 => ?_)
              obtain ⟨rfl, hn9, VA1_48, ta1_49, tl1_50, tk1_51, va1_52, rfl, hst1_53⟩ := q9
              replace hn9 := hn9.symm
              subst hn9
              refine J.cast ((hset_cg ((hset_comm (by omega)).trans (hset_cg ((hset_comm (by omega)).trans (hset_cg hset_hset rfl)) rfl)) rfl).trans ((hset_comm (by omega)).trans (hset_cg hset_hset rfl))) ?_
              refine J.stk (st' := [.int (nI 0)]) rfl ?_
              have hs34 := hst1_53
              try rw [r0] at hs34
              have h36 := tk_3 hs34
              have h346 := hs34.2.2.2.2.1
              refine J_if_eqN (tgt := 48) dX8_read_37 (by decide) (by omega) (fun _ => ?_) (fun z => absurd z (by decide))
              first | exact absurd ((rd_0 z0).symm.trans hG) (by simp) | exact absurd ((rd_1 z0 z1).symm.trans hG) (by simp) | exact absurd ((rd_2 z0 z1 (by omega)).symm.trans hG) (by simp) | exact absurd ((gs_full hgo2 q1 q2).symm.trans hG) (by simp) | exact absurd ((gs_anvN hgo2 q1 q2 q3).symm.trans hG) (by simp) | exact absurd ((gs_anvP hgo2 q1 q2 q3 (by omega)).symm.trans hG) (by simp) | exact absurd ((gs_wrkN hgo2 q1 q3).symm.trans hG) (by simp) | exact absurd ((gs_wrkP hgo2 q1 q3 (by omega)).symm.trans hG) (by simp) | exact absurd ((gs_dayP hgo2 q1 (by omega)).symm.trans hG) (by simp) | exact absurd ((gs_no hgo2 hnz q1).symm.trans hG) (by simp)
            · skip
              obtain ⟨q1, q3⟩ := sp26
              obtain ⟨⟨a1, b1⟩, ⟨a2, b2⟩, ⟨a3, b3⟩, b4⟩ := id q3
              have hnz : ¬ kT F bn i = 0 := by omega
              have hpos := kT_pos.mp hnz
              have plt := posT_lt hpos
              refine J_aload_n dX8_read_33 rfl ?_
              refine J_callV (M' := mX8_takesItem) (d' := (7, 0, 0)) (rest := []) dX8_read_34 jmX8_takesItem jlRX8_251 (ctX8_takesItem_wrk i xa xb dt mo bn ta1 tl1 tk1 va1 BY F VA1 AN1 ((hset_ne (by omega)).trans ((hset_ne (by omega)).trans hset_eq)) ((hset_ne (by omega)).trans ((hset_ne (by omega)).trans ((hset_ne (by omega)).trans H1))) ((hset_ne (by omega)).trans hset_eq) hset_eq (by omega) (by first | assumption | omega) (by first | assumption | omega) (by first | assumption | omega) (by first | assumption | omega) (by first | assumption | omega) (by first | assumption | omega) (by first | assumption | omega) (by first | assumption | (rw [r0]; assumption))) ((hset_ne (by omega)).trans ((hset_ne (by omega)).trans hset_eq)) (by omega) jk8.1 rfl rfl (Nat.le_of_ble_eq_true rfl) (Nat.le_of_ble_eq_true rfl) (by constructor <;> decide +kernel) (fun v9 h9 n9 q9 => ?_)
              obtain ⟨rfl, hn9, VA1_55, ta1_56, tl1_57, tk1_58, va1_59, rfl, hst1_60⟩ := q9
              replace hn9 := hn9.symm
              subst hn9
              refine J.cast ((hset_cg ((hset_cg ((hset_comm (by omega)).trans (hset_cg ((hset_comm (by omega)).trans (hset_cg hset_hset rfl)) rfl)) rfl).trans ((hset_comm (by omega)).trans (hset_cg hset_hset rfl))) rfl).trans hset_hset) ?_
              refine J.stk (st' := [.int (nI 1)]) rfl ?_
              have hs34 := hst1_60
              try rw [r0] at hs34
              have h36 := tk_3 hs34
              have h346 := hs34.2.2.2.2.1
              refine J_if_eqN (tgt := 48) dX8_read_37 (by decide) (by omega) (fun z => absurd z (by decide)) (fun _ => ?_)
              refine J_aload_n dX8_read_40 rfl ?_
              refine J_get 16 dX8_read_41 jk8 (Nat.le_of_ble_eq_true rfl) jfRX8_211 ((hset_ne (by omega)).trans ((hset_ne (by omega)).trans hset_eq)) (by omega) rfl ?_
              refine J_iconst (v := nI 3) dX8_read_44 (by decide +kernel) ?_
              refine J_icmp_eqN (tgt := 56) dX8_read_45 (by decide) (by omega) (by omega) (fun c62 => ?_) (fun c62 => ?_)
              · skip
                refine J_aload_n dX8_read_56 rfl ?_
                refine J_callV (M' := mX8_goBehind) (d' := (4, 0, 0)) (rest := []) dX8_read_57 jmX8_goBehind jlRX8_227 (ctX8_goBehind (i + 1 + 1 + 1 + 1) xa xb dt mo bn ta1_56 tl1_57 tk1_58 va1_59 BY F ((hset_ne (by omega)).trans ((hset_ne (by omega)).trans hset_eq)) ((hset_ne (by omega)).trans ((hset_ne (by omega)).trans ((hset_ne (by omega)).trans H1))) (by omega) (by first | assumption | omega) (by first | assumption | omega) (by first | assumption | omega)) ((hset_ne (by omega)).trans ((hset_ne (by omega)).trans hset_eq)) (by omega) jk8.1 rfl rfl (Nat.le_of_ble_eq_true rfl) (Nat.le_of_ble_eq_true rfl) (by constructor <;> decide +kernel) (fun v9 h9 n9 q9 => ?_)
                obtain ⟨rfl, hn9, ta1_63, tl1_64, tk1_65, va1_66, rfl, hst1_67⟩ := q9
                replace hn9 := hn9.symm
                subst hn9
                refine J.cast ((hset_comm (by omega)).trans (hset_cg ((hset_comm (by omega)).trans (hset_cg hset_hset rfl)) rfl)) ?_
                refine J.stk (st' := []) rfl ?_
                have hs57 := hst1_67
                have y1 := posT_mono (F := F) (n := bn) (i := i + 1) 4
                replace y1 : posT F bn (i + 1) ≤ posT F bn (i + 1 + 1 + 1 + 1 + 1) := y1
                refine J_iincN (q := 0) (a := c) (m := 1) dX8_read_60 rfl (by decide +kernel) (Nat.le_of_ble_eq_true rfl) (L' := [(1, .int (nI (c + 1))), (0, .ref (E.1 + 38))]) rfl ?_
                refine J_goto (tgt := 26) dX8_read_63 (by decide) ?_
                exact ih26 (c + 1) (i + 1 + 1 + 1 + 1 + 1) an1 td1 KS (addMN KS MS (vT F bn (i + 1)) (vT F bn (i + 1 + 1)) (vT F bn (i + 1 + 1 + 1))) (wrkQ AN1 (vT F bn (i + 1)) (vT F bn (i + 1 + 1)) (vT F bn (i + 1 + 1 + 1))) VA1_55 ta1_63 tl1_64 tk1_65 va1_66 (by omega) (by first | exact rd_3 (by omega) (by omega) (by omega) | (rw [show 160 - (c + 1) = 159 - c by omega]; first | exact gs_anv hgo2 q1 q2 q3 (by omega) | exact gs_wrk hgo2 q1 q3 (by omega) | exact gs_day hgo2 q1 (by omega))) (by assumption) (by first | assumption | omega) (by omega) (by first | assumption | omega) (by first | assumption | omega) (by first | exact relA_b | exact relA_a hrA (by omega) (by omega) (by omega) (by omega) (by omega) (by omega) | exact relA_w hrA (by omega) (by omega) (by omega) | exact relA_d hrA (by omega)) (by first | assumption | omega)
              · skip
                first | exact absurd ((rd_0 z0).symm.trans hG) (by simp) | exact absurd ((rd_1 z0 z1).symm.trans hG) (by simp) | exact absurd ((rd_2 z0 z1 (by omega)).symm.trans hG) (by simp) | exact absurd ((gs_full hgo2 q1 q2).symm.trans hG) (by simp) | exact absurd ((gs_anvN hgo2 q1 q2 q3).symm.trans hG) (by simp) | exact absurd ((gs_anvP hgo2 q1 q2 q3 (by omega)).symm.trans hG) (by simp) | exact absurd ((gs_wrkN hgo2 q1 q3).symm.trans hG) (by simp) | exact absurd ((gs_wrkP hgo2 q1 q3 (by omega)).symm.trans hG) (by simp) | exact absurd ((gs_dayP hgo2 q1 (by omega)).symm.trans hG) (by simp) | exact absurd ((gs_no hgo2 hnz q1).symm.trans hG) (by simp)
            · skip
              have q1 := sp26
              have hnz : ¬ kT F bn i = 0 := by omega
              have hpos := kT_pos.mp hnz
              have plt := posT_lt hpos
              refine J_aload_n dX8_read_33 rfl ?_
              refine J_callV (M' := mX8_takesItem) (d' := (7, 0, 0)) (rest := []) dX8_read_34 jmX8_takesItem jlRX8_251 (ctX8_takesItem_day i xa xb dt mo bn ta1 tl1 tk1 va1 BY F VA1 AN1 ((hset_ne (by omega)).trans ((hset_ne (by omega)).trans hset_eq)) ((hset_ne (by omega)).trans ((hset_ne (by omega)).trans ((hset_ne (by omega)).trans H1))) ((hset_ne (by omega)).trans hset_eq) hset_eq (by omega) (by first | assumption | omega) (by first | assumption | omega) (by first | assumption | omega) (by first | assumption | omega) (by first | assumption | omega) (by first | assumption | omega) (by first | assumption | omega) (by first | assumption | omega)) ((hset_ne (by omega)).trans ((hset_ne (by omega)).trans hset_eq)) (by omega) jk8.1 rfl rfl (Nat.le_of_ble_eq_true rfl) (Nat.le_of_ble_eq_true rfl) (by constructor <;> decide +kernel) (fun v9 h9 n9 q9 => ?_)
              obtain ⟨rfl, hn9, VA1_68, ta1_69, tl1_70, tk1_71, va1_72, rfl, hst1_73⟩ := q9
              replace hn9 := hn9.symm
              subst hn9
              refine J.cast ((hset_cg ((hset_cg ((hset_comm (by omega)).trans (hset_cg ((hset_comm (by omega)).trans (hset_cg hset_hset rfl)) rfl)) rfl).trans ((hset_comm (by omega)).trans (hset_cg hset_hset rfl))) rfl).trans hset_hset) ?_
              refine J.stk (st' := [.int (nI 1)]) rfl ?_
              have hs34 := hst1_73
              try rw [r0] at hs34
              have h36 := tk_3 hs34
              have h346 := hs34.2.2.2.2.1
              refine J_if_eqN (tgt := 48) dX8_read_37 (by decide) (by omega) (fun z => absurd z (by decide)) (fun _ => ?_)
              refine J_aload_n dX8_read_40 rfl ?_
              refine J_get 16 dX8_read_41 jk8 (Nat.le_of_ble_eq_true rfl) jfRX8_211 ((hset_ne (by omega)).trans ((hset_ne (by omega)).trans hset_eq)) (by omega) rfl ?_
              refine J_iconst (v := nI 3) dX8_read_44 (by decide +kernel) ?_
              refine J_icmp_eqN (tgt := 56) dX8_read_45 (by decide) (by omega) (by omega) (fun c75 => ?_) (fun c75 => ?_)
              · skip
                refine J_aload_n dX8_read_56 rfl ?_
                refine J_callV (M' := mX8_goBehind) (d' := (4, 0, 0)) (rest := []) dX8_read_57 jmX8_goBehind jlRX8_227 (ctX8_goBehind (i + 1) xa xb dt mo bn ta1_69 tl1_70 tk1_71 va1_72 BY F ((hset_ne (by omega)).trans ((hset_ne (by omega)).trans hset_eq)) ((hset_ne (by omega)).trans ((hset_ne (by omega)).trans ((hset_ne (by omega)).trans H1))) (by omega) (by first | assumption | omega) (by first | assumption | omega) (by first | assumption | omega)) ((hset_ne (by omega)).trans ((hset_ne (by omega)).trans hset_eq)) (by omega) jk8.1 rfl rfl (Nat.le_of_ble_eq_true rfl) (Nat.le_of_ble_eq_true rfl) (by constructor <;> decide +kernel) (fun v9 h9 n9 q9 => ?_)
                obtain ⟨rfl, hn9, ta1_76, tl1_77, tk1_78, va1_79, rfl, hst1_80⟩ := q9
                replace hn9 := hn9.symm
                subst hn9
                refine J.cast ((hset_comm (by omega)).trans (hset_cg ((hset_comm (by omega)).trans (hset_cg hset_hset rfl)) rfl)) ?_
                refine J.stk (st' := []) rfl ?_
                have hs57 := hst1_80
                have y1 := posT_up (F := F) (n := bn) (i := i + 1)
                refine J_iincN (q := 0) (a := c) (m := 1) dX8_read_60 rfl (by decide +kernel) (Nat.le_of_ble_eq_true rfl) (L' := [(1, .int (nI (c + 1))), (0, .ref (E.1 + 38))]) rfl ?_
                refine J_goto (tgt := 26) dX8_read_63 (by decide) ?_
                exact ih26 (c + 1) (i + 1 + 1) an1 (td1 + 1) KS (dayN KS MS an1 td1) (dayQ AN1) VA1_68 ta1_76 tl1_77 tk1_78 va1_79 (by omega) (by first | exact rd_3 (by omega) (by omega) (by omega) | (rw [show 160 - (c + 1) = 159 - c by omega]; first | exact gs_anv hgo2 q1 q2 q3 (by omega) | exact gs_wrk hgo2 q1 q3 (by omega) | exact gs_day hgo2 q1 (by omega))) (by assumption) (by first | assumption | omega) (by omega) (by first | assumption | omega) (by first | assumption | omega) (by first | exact relA_b | exact relA_a hrA (by omega) (by omega) (by omega) (by omega) (by omega) (by omega) | exact relA_w hrA (by omega) (by omega) (by omega) | exact relA_d hrA (by omega)) (by first | assumption | omega)
              · skip
                first | exact absurd ((rd_0 z0).symm.trans hG) (by simp) | exact absurd ((rd_1 z0 z1).symm.trans hG) (by simp) | exact absurd ((rd_2 z0 z1 (by omega)).symm.trans hG) (by simp) | exact absurd ((gs_full hgo2 q1 q2).symm.trans hG) (by simp) | exact absurd ((gs_anvN hgo2 q1 q2 q3).symm.trans hG) (by simp) | exact absurd ((gs_anvP hgo2 q1 q2 q3 (by omega)).symm.trans hG) (by simp) | exact absurd ((gs_wrkN hgo2 q1 q3).symm.trans hG) (by simp) | exact absurd ((gs_wrkP hgo2 q1 q3 (by omega)).symm.trans hG) (by simp) | exact absurd ((gs_dayP hgo2 q1 (by omega)).symm.trans hG) (by simp) | exact absurd ((gs_no hgo2 hnz q1).symm.trans hG) (by simp)
            · skip
              have q1 := sp26
              have hnz : ¬ kT F bn i = 0 := by omega
              have hpos := kT_pos.mp hnz
              have plt := posT_lt hpos
              refine J_aload_n dX8_read_33 rfl ?_
              refine J_callVr (M' := mX8_takesItem) (d' := (7, 0, 0)) (rest := []) dX8_read_34 jmX8_takesItem jlRX8_251 (ctX8_takesItem_no i xa xb dt mo bn ta1 tl1 tk1 va1 BY F VA1 AN1 ((hset_ne (by omega)).trans ((hset_ne (by omega)).trans hset_eq)) ((hset_ne (by omega)).trans ((hset_ne (by omega)).trans ((hset_ne (by omega)).trans H1))) ((hset_ne (by omega)).trans hset_eq) hset_eq (by omega) (by first | assumption | omega) (by first | assumption | omega) (by first | assumption | omega) (by first | assumption | (rw [r0]; assumption))) ((hset_ne (by omega)).trans ((hset_ne (by omega)).trans hset_eq)) (by omega) jk8.1 rfl rfl (Nat.le_of_ble_eq_true rfl) (Nat.le_of_ble_eq_true rfl) ⟨Nat.le_refl _, Nat.le_refl _⟩ ?_
              refine J_if_eqN (tgt := 48) dX8_read_37 (by decide) (by omega) (fun _ => ?_) (fun z => absurd z (by decide))
              first | exact absurd ((rd_0 z0).symm.trans hG) (by simp) | exact absurd ((rd_1 z0 z1).symm.trans hG) (by simp) | exact absurd ((rd_2 z0 z1 (by omega)).symm.trans hG) (by simp) | exact absurd ((gs_full hgo2 q1 q2).symm.trans hG) (by simp) | exact absurd ((gs_anvN hgo2 q1 q2 q3).symm.trans hG) (by simp) | exact absurd ((gs_anvP hgo2 q1 q2 q3 (by omega)).symm.trans hG) (by simp) | exact absurd ((gs_wrkN hgo2 q1 q3).symm.trans hG) (by simp) | exact absurd ((gs_wrkP hgo2 q1 q3 (by omega)).symm.trans hG) (by simp) | exact absurd ((gs_dayP hgo2 q1 (by omega)).symm.trans hG) (by simp) | exact absurd ((gs_no hgo2 hnz q1).symm.trans hG) (by simp)
      exact CUT26 (151 - posT F bn 3 + 1) 1 3 0 0 (fun _ => 0) (fun _ => 0) (beginQ AN (vT F bn 1)) VA1_12 ta1_19 tl1_20 tk1_21 va1_22 (Nat.lt_succ_self _) (by first | exact rd_3 (by omega) (by omega) (by omega) | (rw [show 160 - (c + 1) = 159 - c by omega]; first | exact gs_anv hgo2 q1 q2 q3 (by omega) | exact gs_wrk hgo2 q1 q3 (by omega) | exact gs_day hgo2 q1 (by omega))) (by assumption) (by first | assumption | omega) (by omega) (by first | assumption | omega) (by first | assumption | omega) (by first | exact relA_b | exact relA_a hrA (by omega) (by omega) (by omega) (by omega) (by omega) (by omega) | exact relA_w hrA (by omega) (by omega) (by omega) | exact relA_d hrA (by omega)) (by first | assumption | omega)
    · skip
      first | exact absurd ((rd_0 z0).symm.trans hG) (by simp) | exact absurd ((rd_1 z0 z1).symm.trans hG) (by simp) | exact absurd ((rd_2 z0 z1 (by omega)).symm.trans hG) (by simp) | exact absurd ((gs_full hgo2 q1 q2).symm.trans hG) (by simp) | exact absurd ((gs_anvN hgo2 q1 q2 q3).symm.trans hG) (by simp) | exact absurd ((gs_anvP hgo2 q1 q2 q3 (by omega)).symm.trans hG) (by simp) | exact absurd ((gs_wrkN hgo2 q1 q3).symm.trans hG) (by simp) | exact absurd ((gs_wrkP hgo2 q1 q3 (by omega)).symm.trans hG) (by simp) | exact absurd ((gs_dayP hgo2 q1 (by omega)).symm.trans hG) (by simp) | exact absurd ((gs_no hgo2 hnz q1).symm.trans hG) (by simp)
