set_option maxHeartbeats 1000000 in
set_option maxRecDepth 100000 in
theorem ctX8_layOrders {E : jE} {h : Nat → va_E} {n : Nat} (x : Nat) (xa : Nat) (xb : Nat) (dt : Nat) (mo : Nat) (bn : Nat) (ta : Nat) (tl : Nat) (tk : Nat) (va : Nat) (TE : Nat → Nat) (H0 : h 38 = .inr (7, [.ref (E.1 + 39), .ref (E.1 + 40), .ref (E.1 + 41), .ref (E.1 + 42), .long (lN xa), .long (lN xb), .ref (E.1 + 43), .int (nI dt), .ref (E.1 + 44), .ref (E.1 + 45), .int (nI mo), .ref (E.1 + 46), .ref (E.1 + 47), .int (nI bn), .int (nI ta), .int (nI tl), .int (nI tk), .int (nI va), .ref (E.1 + 48), .ref (E.1 + 49)])) (H1 : h 44 = cI E 4 (nF TE)) (hn : 50 ≤ n) (hok : okW x) : jC E mX8_layOrders (2, 0, 0) [.ref (E.1 + 38), .int (nI x)] h n (fun v h' n' => v = some (.int (nI 1)) ∧ n' = n ∧ ∃ (T1 : Nat → Nat), h' = (hset (hset h 38 (.inr (7, [.ref (E.1 + 39), .ref (E.1 + 40), .ref (E.1 + 41), .ref (E.1 + 42), .long (lN xa), .long (lN xb), .ref (E.1 + 43), .int (nI dt), .ref (E.1 + 44), .ref (E.1 + 45), .int (nI (ndig x)), .ref (E.1 + 46), .ref (E.1 + 47), .int (nI bn), .int (nI ta), .int (nI tl), .int (nI tk), .int (nI va), .ref (E.1 + 48), .ref (E.1 + 49)]))) 44 (cI E 4 (nF T1))) ∧ (∀ zz, zz < ndig x → T1 zz = figT x zz)) := by
  refine J.of (L := [(0, .ref (E.1 + 38)), (1, .int (nI x))]) rfl (by decide +kernel) (Nat.le_of_ble_eq_true rfl) ?_
  obtain ⟨PP, hPP⟩ : ∃ PP : jPost, PP = (fun v h' n' => v = some (.int (nI 1)) ∧ n' = n ∧ ∃ (T1 : Nat → Nat), h' = (hset (hset h 38 (.inr (7, [.ref (E.1 + 39), .ref (E.1 + 40), .ref (E.1 + 41), .ref (E.1 + 42), .long (lN xa), .long (lN xb), .ref (E.1 + 43), .int (nI dt), .ref (E.1 + 44), .ref (E.1 + 45), .int (nI (ndig x)), .ref (E.1 + 46), .ref (E.1 + 47), .int (nI bn), .int (nI ta), .int (nI tl), .int (nI tk), .int (nI va), .ref (E.1 + 48), .ref (E.1 + 49)]))) 44 (cI E 4 (nF T1))) ∧ (∀ zz, zz < ndig x → T1 zz = figT x zz)) := ⟨_, rfl⟩
  rw [← hPP]
  obtain ⟨ok0, ok1, ok2, ok3, ok4⟩ := id hok
  have sp1 : (x = 0) ∨ (1 ≤ x ∧ x < 10) ∨ (10 ≤ x ∧ x < 100) ∨ (100 ≤ x ∧ x < 1000) ∨ (1000 ≤ x) := by omega
  rcases sp1 with sp1 | sp1 | sp1 | sp1 | sp1
  · skip
    refine J_iload_n dX8_layOrders_0 rfl ?_
    refine J_i2lN dX8_layOrders_1 (by omega) ?_
    refine J_lconst (v := lN 0) dX8_layOrders_2 (by decide +kernel) ?_
    refine J_ldc2 dX8_layOrders_3 jqRX8_140 ?_
    refine J.stk (st' := .long (lN 4444) :: [.long (lN 0), .long (lN x)]) rfl ?_
    refine J_callSr (M' := mX8_in) (d' := (1, 0, 0)) (rest := []) dX8_layOrders_6 jmX8_in jlRX8_56 (ctX8_inM x 0 4444   (by first | assumption | omega) (by first | assumption | omega) (by first | assumption | omega)) rfl rfl (Nat.le_of_ble_eq_true rfl) (Nat.le_of_ble_eq_true rfl) ⟨Nat.le_refl _, Nat.le_refl _⟩ ?_
    refine J_istore_n dX8_layOrders_9 (Nat.le_of_ble_eq_true rfl) (L' := [(2, .int (jb (0 ≤ x ∧ x ≤ 4444))), (0, .ref (E.1 + 38)), (1, .int (nI x))]) rfl ?_
    refine J_aload_n dX8_layOrders_10 rfl ?_
    refine J_iconst (v := nI 0) dX8_layOrders_11 (by decide +kernel) ?_
    refine J_put 10 dX8_layOrders_12 jk8 (Nat.le_of_ble_eq_true rfl) jfRX8_142 H0 (by omega) rfl rfl rfl (Nat.le_of_ble_eq_true rfl) ?_
    refine J.cast (h' := (hset h 38 (.inr (7, [.ref (E.1 + 39), .ref (E.1 + 40), .ref (E.1 + 41), .ref (E.1 + 42), .long (lN xa), .long (lN xb), .ref (E.1 + 43), .int (nI dt), .ref (E.1 + 44), .ref (E.1 + 45), .int (nI 0), .ref (E.1 + 46), .ref (E.1 + 47), .int (nI bn), .int (nI ta), .int (nI tl), .int (nI tk), .int (nI va), .ref (E.1 + 48), .ref (E.1 + 49)])))) rfl ?_
    refine J_iload_n dX8_layOrders_15 rfl ?_
    refine J_istore_n dX8_layOrders_16 (Nat.le_of_ble_eq_true rfl) (L' := [(3, .int (nI x)), (2, .int (jb (0 ≤ x ∧ x ≤ 4444))), (0, .ref (E.1 + 38)), (1, .int (nI x))]) rfl ?_
    refine J_iload_n dX8_layOrders_17 rfl ?_
    refine J_if_leN (tgt := 56) dX8_layOrders_18 (by decide) (by omega) (fun c2 => ?_) (fun c2 => (by exfalso; omega))
    refine J_iload_n dX8_layOrders_56 rfl ?_
    refine J_istore_n dX8_layOrders_57 (Nat.le_of_ble_eq_true rfl) (L' := [(3, .int (nI x)), (2, .int (jb (0 ≤ x ∧ x ≤ 4444))), (0, .ref (E.1 + 38)), (1, .int (nI x))]) rfl ?_
    refine J_aload_n dX8_layOrders_58 rfl ?_
    refine J_get 10 dX8_layOrders_59 jk8 (Nat.le_of_ble_eq_true rfl) jfRX8_142 hset_eq (by omega) rfl ?_
    refine J_iconst (v := nI 1) dX8_layOrders_62 (by decide +kernel) ?_
    refine J_isub dX8_layOrders_63 ?_
    refine J.stk (st' := [.int (-1)]) (congrArg (fun z => Value.int z :: []) (by decide +kernel)) ?_
    refine J_istore dX8_layOrders_64 (Nat.le_of_ble_eq_true rfl) (L' := [(4, .int (-1)), (3, .int (nI x)), (2, .int (jb (0 ≤ x ∧ x ≤ 4444))), (0, .ref (E.1 + 38)), (1, .int (nI x))]) rfl ?_
    refine J_iload dX8_layOrders_66 rfl ?_
    refine J_if_lt (tgt := 99) dX8_layOrders_68 (by decide) (fun _ => ?_) (fun z => absurd (by decide +kernel) z)
    refine J_iload_n dX8_layOrders_99 rfl ?_
    exact J_zret dX8_layOrders_100 rfl jb_nar ⟨Nat.le_refl _, Nat.le_refl _⟩ (by rw [hPP]; exact ⟨(congrArg some (by first | rfl | exact jbv1 (by omega) | (unfold ndig; (repeat' split) <;> omega))), rfl, TE, ((show (hset h 38 (.inr (7, [.ref (E.1 + 39), .ref (E.1 + 40), .ref (E.1 + 41), .ref (E.1 + 42), .long (lN xa), .long (lN xb), .ref (E.1 + 43), .int (nI dt), .ref (E.1 + 44), .ref (E.1 + 45), .int (nI 0), .ref (E.1 + 46), .ref (E.1 + 47), .int (nI bn), .int (nI ta), .int (nI tl), .int (nI tk), .int (nI va), .ref (E.1 + 48), .ref (E.1 + 49)]))) = (hset (hset h 38 (.inr (7, [.ref (E.1 + 39), .ref (E.1 + 40), .ref (E.1 + 41), .ref (E.1 + 42), .long (lN xa), .long (lN xb), .ref (E.1 + 43), .int (nI dt), .ref (E.1 + 44), .ref (E.1 + 45), .int (nI 0), .ref (E.1 + 46), .ref (E.1 + 47), .int (nI bn), .int (nI ta), .int (nI tl), .int (nI tk), .int (nI va), .ref (E.1 + 48), .ref (E.1 + 49)]))) 44 (cI E 4 (nF TE))) by funext z; simp only [hset]; (repeat' split) <;> first | rfl | (exfalso; omega) | (subst_vars; first | exact H1)).trans (hset_cg (hset_cg rfl (congrArg (fun z => (Sum.inr (7, z) : va_E)) (jS_c rfl (jS_c rfl (jS_c rfl (jS_c rfl (jS_c rfl (jS_c rfl (jS_c rfl (jS_c rfl (jS_c rfl (jS_c rfl (jS_c (jv_N (by first | rfl | exact jbv1 (by omega) | (unfold ndig; (repeat' split) <;> omega))) (jS_c rfl (jS_c rfl (jS_c rfl (jS_c rfl (jS_c rfl (jS_c rfl (jS_c rfl (jS_c rfl (jS_c rfl rfl)))))))))))))))))))))) rfl)), (by first | exact rell_4 (by unfold ndig; (repeat' split) <;> omega) rfl rfl rfl rfl | exact rell_3 (by unfold ndig; (repeat' split) <;> omega) rfl rfl rfl | exact rell_2 (by unfold ndig; (repeat' split) <;> omega) rfl rfl | exact rell_1 (by unfold ndig; (repeat' split) <;> omega) rfl | exact tell_0 (by unfold ndig; (repeat' split) <;> omega))⟩)
  · skip
    refine J_iload_n dX8_layOrders_0 rfl ?_
    refine J_i2lN dX8_layOrders_1 (by omega) ?_
    refine J_lconst (v := lN 0) dX8_layOrders_2 (by decide +kernel) ?_
    refine J_ldc2 dX8_layOrders_3 jqRX8_140 ?_
    refine J.stk (st' := .long (lN 4444) :: [.long (lN 0), .long (lN x)]) rfl ?_
    refine J_callSr (M' := mX8_in) (d' := (1, 0, 0)) (rest := []) dX8_layOrders_6 jmX8_in jlRX8_56 (ctX8_inM x 0 4444   (by first | assumption | omega) (by first | assumption | omega) (by first | assumption | omega)) rfl rfl (Nat.le_of_ble_eq_true rfl) (Nat.le_of_ble_eq_true rfl) ⟨Nat.le_refl _, Nat.le_refl _⟩ ?_
    refine J_istore_n dX8_layOrders_9 (Nat.le_of_ble_eq_true rfl) (L' := [(2, .int (jb (0 ≤ x ∧ x ≤ 4444))), (0, .ref (E.1 + 38)), (1, .int (nI x))]) rfl ?_
    refine J_aload_n dX8_layOrders_10 rfl ?_
    refine J_iconst (v := nI 0) dX8_layOrders_11 (by decide +kernel) ?_
    refine J_put 10 dX8_layOrders_12 jk8 (Nat.le_of_ble_eq_true rfl) jfRX8_142 H0 (by omega) rfl rfl rfl (Nat.le_of_ble_eq_true rfl) ?_
    refine J.cast (h' := (hset h 38 (.inr (7, [.ref (E.1 + 39), .ref (E.1 + 40), .ref (E.1 + 41), .ref (E.1 + 42), .long (lN xa), .long (lN xb), .ref (E.1 + 43), .int (nI dt), .ref (E.1 + 44), .ref (E.1 + 45), .int (nI 0), .ref (E.1 + 46), .ref (E.1 + 47), .int (nI bn), .int (nI ta), .int (nI tl), .int (nI tk), .int (nI va), .ref (E.1 + 48), .ref (E.1 + 49)])))) rfl ?_
    refine J_iload_n dX8_layOrders_15 rfl ?_
    refine J_istore_n dX8_layOrders_16 (Nat.le_of_ble_eq_true rfl) (L' := [(3, .int (nI x)), (2, .int (jb (0 ≤ x ∧ x ≤ 4444))), (0, .ref (E.1 + 38)), (1, .int (nI x))]) rfl ?_
    refine J_iload_n dX8_layOrders_17 rfl ?_
    refine J_if_leN (tgt := 56) dX8_layOrders_18 (by decide) (by omega) (fun c3 => (by exfalso; omega)) (fun c3 => ?_)
    refine J_iload_n dX8_layOrders_21 rfl ?_
    refine J_if_eqB (tgt := 56) dX8_layOrders_22 (by decide) (fun c4 => (by exfalso; omega)) (fun c4 => ?_)
    refine J_iload_n dX8_layOrders_25 rfl ?_
    refine J_bipush (v := nI 10) dX8_layOrders_26 (by decide +kernel) ?_
    refine J_iremN dX8_layOrders_28 (by omega) (by omega) (by omega) ?_
    refine J_i2lN dX8_layOrders_29 (by omega) ?_
    refine J_lconst (v := lN 1) dX8_layOrders_30 (by decide +kernel) ?_
    refine J_ldc2 dX8_layOrders_31 jqRX8_133 ?_
    refine J.stk (st' := .long (lN 4) :: [.long (lN 1), .long (lN (x % 10))]) rfl ?_
    refine J_callSr (M' := mX8_in) (d' := (1, 0, 0)) (rest := []) dX8_layOrders_34 jmX8_in jlRX8_56 (ctX8_inM (x % 10) 1 4   (by first | assumption | omega) (by first | assumption | omega) (by first | assumption | omega)) rfl rfl (Nat.le_of_ble_eq_true rfl) (Nat.le_of_ble_eq_true rfl) ⟨Nat.le_refl _, Nat.le_refl _⟩ ?_
    refine J_istore_n dX8_layOrders_37 (Nat.le_of_ble_eq_true rfl) (L' := [(2, .int (jb (1 ≤ (x % 10) ∧ (x % 10) ≤ 4))), (3, .int (nI x)), (0, .ref (E.1 + 38)), (1, .int (nI x))]) rfl ?_
    refine J_aload_n dX8_layOrders_38 rfl ?_
    refine J_dup dX8_layOrders_39 rfl ?_
    refine J_get 10 dX8_layOrders_40 jk8 (Nat.le_of_ble_eq_true rfl) jfRX8_142 hset_eq (by omega) rfl ?_
    refine J_iconst (v := nI 1) dX8_layOrders_43 (by decide +kernel) ?_
    refine J_iaddN dX8_layOrders_44 ?_
    refine J.stk (st' := [.int (nI 1), .ref (E.1 + 38)]) rfl ?_
    refine J_put 10 dX8_layOrders_45 jk8 (Nat.le_of_ble_eq_true rfl) jfRX8_142 hset_eq (by omega) rfl rfl rfl (Nat.le_of_ble_eq_true rfl) ?_
    refine J.cast (h' := (hset (hset h 38 (.inr (7, [.ref (E.1 + 39), .ref (E.1 + 40), .ref (E.1 + 41), .ref (E.1 + 42), .long (lN xa), .long (lN xb), .ref (E.1 + 43), .int (nI dt), .ref (E.1 + 44), .ref (E.1 + 45), .int (nI 0), .ref (E.1 + 46), .ref (E.1 + 47), .int (nI bn), .int (nI ta), .int (nI tl), .int (nI tk), .int (nI va), .ref (E.1 + 48), .ref (E.1 + 49)]))) 38 (.inr (7, [.ref (E.1 + 39), .ref (E.1 + 40), .ref (E.1 + 41), .ref (E.1 + 42), .long (lN xa), .long (lN xb), .ref (E.1 + 43), .int (nI dt), .ref (E.1 + 44), .ref (E.1 + 45), .int (nI 1), .ref (E.1 + 46), .ref (E.1 + 47), .int (nI bn), .int (nI ta), .int (nI tl), .int (nI tk), .int (nI va), .ref (E.1 + 48), .ref (E.1 + 49)])))) rfl ?_
    refine J.cast hset_hset ?_
    refine J_iload_n dX8_layOrders_48 rfl ?_
    refine J_bipush (v := nI 10) dX8_layOrders_49 (by decide +kernel) ?_
    refine J_idivN dX8_layOrders_51 (by omega) (by omega) (by omega) ?_
    refine J_istore_n dX8_layOrders_52 (Nat.le_of_ble_eq_true rfl) (L' := [(3, .int (nI (x / 10))), (2, .int (jb (1 ≤ (x % 10) ∧ (x % 10) ≤ 4))), (0, .ref (E.1 + 38)), (1, .int (nI x))]) rfl ?_
    refine J_goto (tgt := 17) dX8_layOrders_53 (by decide) ?_
    refine J_iload_n dX8_layOrders_17 rfl ?_
    refine J_if_leN (tgt := 56) dX8_layOrders_18 (by decide) (by omega) (fun c5 => ?_) (fun c5 => (by exfalso; omega))
    refine J_iload_n dX8_layOrders_56 rfl ?_
    refine J_istore_n dX8_layOrders_57 (Nat.le_of_ble_eq_true rfl) (L' := [(3, .int (nI x)), (2, .int (jb (1 ≤ (x % 10) ∧ (x % 10) ≤ 4))), (0, .ref (E.1 + 38)), (1, .int (nI x))]) rfl ?_
    refine J_aload_n dX8_layOrders_58 rfl ?_
    refine J_get 10 dX8_layOrders_59 jk8 (Nat.le_of_ble_eq_true rfl) jfRX8_142 hset_eq (by omega) rfl ?_
    refine J_iconst (v := nI 1) dX8_layOrders_62 (by decide +kernel) ?_
    refine J_isubN dX8_layOrders_63 (by omega) ?_
    refine J.stk (st' := [.int (nI 0)]) rfl ?_
    refine J_istore dX8_layOrders_64 (Nat.le_of_ble_eq_true rfl) (L' := [(4, .int (nI 0)), (3, .int (nI x)), (2, .int (jb (1 ≤ (x % 10) ∧ (x % 10) ≤ 4))), (0, .ref (E.1 + 38)), (1, .int (nI x))]) rfl ?_
    refine J_iload dX8_layOrders_66 rfl ?_
    refine J_if_ltN (tgt := 99) dX8_layOrders_68 (by decide) (by omega) ?_
    refine J_iload_n dX8_layOrders_71 rfl ?_
    refine J_if_eqB (tgt := 99) dX8_layOrders_72 (by decide) (fun c6 => ?_) (fun c6 => ?_)
    · skip
      refine J_iload_n dX8_layOrders_99 rfl ?_
      exact J_zret dX8_layOrders_100 rfl jb_nar ⟨Nat.le_refl _, Nat.le_refl _⟩ (by rw [hPP]; exact ⟨(congrArg some (by first | rfl | exact jbv1 (by omega) | (unfold ndig; (repeat' split) <;> omega))), rfl, TE, ((show (hset h 38 (.inr (7, [.ref (E.1 + 39), .ref (E.1 + 40), .ref (E.1 + 41), .ref (E.1 + 42), .long (lN xa), .long (lN xb), .ref (E.1 + 43), .int (nI dt), .ref (E.1 + 44), .ref (E.1 + 45), .int (nI 1), .ref (E.1 + 46), .ref (E.1 + 47), .int (nI bn), .int (nI ta), .int (nI tl), .int (nI tk), .int (nI va), .ref (E.1 + 48), .ref (E.1 + 49)]))) = (hset (hset h 38 (.inr (7, [.ref (E.1 + 39), .ref (E.1 + 40), .ref (E.1 + 41), .ref (E.1 + 42), .long (lN xa), .long (lN xb), .ref (E.1 + 43), .int (nI dt), .ref (E.1 + 44), .ref (E.1 + 45), .int (nI 1), .ref (E.1 + 46), .ref (E.1 + 47), .int (nI bn), .int (nI ta), .int (nI tl), .int (nI tk), .int (nI va), .ref (E.1 + 48), .ref (E.1 + 49)]))) 44 (cI E 4 (nF TE))) by funext z; simp only [hset]; (repeat' split) <;> first | rfl | (exfalso; omega) | (subst_vars; first | exact H1)).trans (hset_cg (hset_cg rfl (congrArg (fun z => (Sum.inr (7, z) : va_E)) (jS_c rfl (jS_c rfl (jS_c rfl (jS_c rfl (jS_c rfl (jS_c rfl (jS_c rfl (jS_c rfl (jS_c rfl (jS_c rfl (jS_c (jv_N (by first | rfl | exact jbv1 (by omega) | (unfold ndig; (repeat' split) <;> omega))) (jS_c rfl (jS_c rfl (jS_c rfl (jS_c rfl (jS_c rfl (jS_c rfl (jS_c rfl (jS_c rfl (jS_c rfl rfl)))))))))))))))))))))) rfl)), (by first | exact rell_4 (by unfold ndig; (repeat' split) <;> omega) rfl rfl rfl rfl | exact rell_3 (by unfold ndig; (repeat' split) <;> omega) rfl rfl rfl | exact rell_2 (by unfold ndig; (repeat' split) <;> omega) rfl rfl | exact rell_1 (by unfold ndig; (repeat' split) <;> omega) rfl | exact tell_0 (by unfold ndig; (repeat' split) <;> omega))⟩)
    · skip
      refine J_aload_n dX8_layOrders_75 rfl ?_
      refine J_get 8 dX8_layOrders_76 jk8 (Nat.le_of_ble_eq_true rfl) jfRX8_30 hset_eq (by omega) rfl ?_
      refine J_iload dX8_layOrders_79 rfl ?_
      refine J_iload_n dX8_layOrders_81 rfl ?_
      refine J_bipush (v := nI 10) dX8_layOrders_82 (by decide +kernel) ?_
      refine J_iremN dX8_layOrders_84 (by omega) (by omega) (by omega) ?_
      refine J_iconst (v := nI 1) dX8_layOrders_85 (by decide +kernel) ?_
      refine J_isubN dX8_layOrders_86 (by omega) ?_
      refine J_iastN (i := 0) (v := (x % 10) - 1) dX8_layOrders_87 ((hset_ne (by omega)).trans H1) (by omega) (by omega) (by omega) ?_
      refine J_iload_n dX8_layOrders_88 rfl ?_
      refine J_bipush (v := nI 10) dX8_layOrders_89 (by decide +kernel) ?_
      refine J_idivN dX8_layOrders_91 (by omega) (by omega) (by omega) ?_
      refine J_istore_n dX8_layOrders_92 (Nat.le_of_ble_eq_true rfl) (L' := [(3, .int (nI (x / 10))), (4, .int (nI 0)), (2, .int (jb (1 ≤ (x % 10) ∧ (x % 10) ≤ 4))), (0, .ref (E.1 + 38)), (1, .int (nI x))]) rfl ?_
      refine J_iinc (q := 1) (v := (-1)) dX8_layOrders_93 rfl (by decide +kernel) (Nat.le_of_ble_eq_true rfl) (L' := [(4, .int (-1)), (3, .int (nI (x / 10))), (2, .int (jb (1 ≤ (x % 10) ∧ (x % 10) ≤ 4))), (0, .ref (E.1 + 38)), (1, .int (nI x))]) rfl ?_
      refine J_goto (tgt := 66) dX8_layOrders_96 (by decide) ?_
      refine J_iload dX8_layOrders_66 rfl ?_
      refine J_if_lt (tgt := 99) dX8_layOrders_68 (by decide) (fun _ => ?_) (fun z => absurd (by decide +kernel) z)
      refine J_iload_n dX8_layOrders_99 rfl ?_
      exact J_zret dX8_layOrders_100 rfl jb_nar ⟨Nat.le_refl _, Nat.le_refl _⟩ (by rw [hPP]; exact ⟨(congrArg some (by first | rfl | exact jbv1 (by omega) | (unfold ndig; (repeat' split) <;> omega))), rfl, (updN TE 0 ((x % 10) - 1)), (hset_cg (hset_cg rfl (congrArg (fun z => (Sum.inr (7, z) : va_E)) (jS_c rfl (jS_c rfl (jS_c rfl (jS_c rfl (jS_c rfl (jS_c rfl (jS_c rfl (jS_c rfl (jS_c rfl (jS_c rfl (jS_c (jv_N (by first | rfl | exact jbv1 (by omega) | (unfold ndig; (repeat' split) <;> omega))) (jS_c rfl (jS_c rfl (jS_c rfl (jS_c rfl (jS_c rfl (jS_c rfl (jS_c rfl (jS_c rfl (jS_c rfl rfl)))))))))))))))))))))) rfl), (by first | exact rell_4 (by unfold ndig; (repeat' split) <;> omega) rfl rfl rfl rfl | exact rell_3 (by unfold ndig; (repeat' split) <;> omega) rfl rfl rfl | exact rell_2 (by unfold ndig; (repeat' split) <;> omega) rfl rfl | exact rell_1 (by unfold ndig; (repeat' split) <;> omega) rfl | exact tell_0 (by unfold ndig; (repeat' split) <;> omega))⟩)
  · skip
    refine J_iload_n dX8_layOrders_0 rfl ?_
    refine J_i2lN dX8_layOrders_1 (by omega) ?_
    refine J_lconst (v := lN 0) dX8_layOrders_2 (by decide +kernel) ?_
    refine J_ldc2 dX8_layOrders_3 jqRX8_140 ?_
    refine J.stk (st' := .long (lN 4444) :: [.long (lN 0), .long (lN x)]) rfl ?_
    refine J_callSr (M' := mX8_in) (d' := (1, 0, 0)) (rest := []) dX8_layOrders_6 jmX8_in jlRX8_56 (ctX8_inM x 0 4444   (by first | assumption | omega) (by first | assumption | omega) (by first | assumption | omega)) rfl rfl (Nat.le_of_ble_eq_true rfl) (Nat.le_of_ble_eq_true rfl) ⟨Nat.le_refl _, Nat.le_refl _⟩ ?_
    refine J_istore_n dX8_layOrders_9 (Nat.le_of_ble_eq_true rfl) (L' := [(2, .int (jb (0 ≤ x ∧ x ≤ 4444))), (0, .ref (E.1 + 38)), (1, .int (nI x))]) rfl ?_
    refine J_aload_n dX8_layOrders_10 rfl ?_
    refine J_iconst (v := nI 0) dX8_layOrders_11 (by decide +kernel) ?_
    refine J_put 10 dX8_layOrders_12 jk8 (Nat.le_of_ble_eq_true rfl) jfRX8_142 H0 (by omega) rfl rfl rfl (Nat.le_of_ble_eq_true rfl) ?_
    refine J.cast (h' := (hset h 38 (.inr (7, [.ref (E.1 + 39), .ref (E.1 + 40), .ref (E.1 + 41), .ref (E.1 + 42), .long (lN xa), .long (lN xb), .ref (E.1 + 43), .int (nI dt), .ref (E.1 + 44), .ref (E.1 + 45), .int (nI 0), .ref (E.1 + 46), .ref (E.1 + 47), .int (nI bn), .int (nI ta), .int (nI tl), .int (nI tk), .int (nI va), .ref (E.1 + 48), .ref (E.1 + 49)])))) rfl ?_
    refine J_iload_n dX8_layOrders_15 rfl ?_
    refine J_istore_n dX8_layOrders_16 (Nat.le_of_ble_eq_true rfl) (L' := [(3, .int (nI x)), (2, .int (jb (0 ≤ x ∧ x ≤ 4444))), (0, .ref (E.1 + 38)), (1, .int (nI x))]) rfl ?_
    refine J_iload_n dX8_layOrders_17 rfl ?_
    refine J_if_leN (tgt := 56) dX8_layOrders_18 (by decide) (by omega) (fun c7 => (by exfalso; omega)) (fun c7 => ?_)
    refine J_iload_n dX8_layOrders_21 rfl ?_
    refine J_if_eqB (tgt := 56) dX8_layOrders_22 (by decide) (fun c8 => (by exfalso; omega)) (fun c8 => ?_)
    refine J_iload_n dX8_layOrders_25 rfl ?_
    refine J_bipush (v := nI 10) dX8_layOrders_26 (by decide +kernel) ?_
    refine J_iremN dX8_layOrders_28 (by omega) (by omega) (by omega) ?_
    refine J_i2lN dX8_layOrders_29 (by omega) ?_
    refine J_lconst (v := lN 1) dX8_layOrders_30 (by decide +kernel) ?_
    refine J_ldc2 dX8_layOrders_31 jqRX8_133 ?_
    refine J.stk (st' := .long (lN 4) :: [.long (lN 1), .long (lN (x % 10))]) rfl ?_
    refine J_callSr (M' := mX8_in) (d' := (1, 0, 0)) (rest := []) dX8_layOrders_34 jmX8_in jlRX8_56 (ctX8_inM (x % 10) 1 4   (by first | assumption | omega) (by first | assumption | omega) (by first | assumption | omega)) rfl rfl (Nat.le_of_ble_eq_true rfl) (Nat.le_of_ble_eq_true rfl) ⟨Nat.le_refl _, Nat.le_refl _⟩ ?_
    refine J_istore_n dX8_layOrders_37 (Nat.le_of_ble_eq_true rfl) (L' := [(2, .int (jb (1 ≤ (x % 10) ∧ (x % 10) ≤ 4))), (3, .int (nI x)), (0, .ref (E.1 + 38)), (1, .int (nI x))]) rfl ?_
    refine J_aload_n dX8_layOrders_38 rfl ?_
    refine J_dup dX8_layOrders_39 rfl ?_
    refine J_get 10 dX8_layOrders_40 jk8 (Nat.le_of_ble_eq_true rfl) jfRX8_142 hset_eq (by omega) rfl ?_
    refine J_iconst (v := nI 1) dX8_layOrders_43 (by decide +kernel) ?_
    refine J_iaddN dX8_layOrders_44 ?_
    refine J.stk (st' := [.int (nI 1), .ref (E.1 + 38)]) rfl ?_
    refine J_put 10 dX8_layOrders_45 jk8 (Nat.le_of_ble_eq_true rfl) jfRX8_142 hset_eq (by omega) rfl rfl rfl (Nat.le_of_ble_eq_true rfl) ?_
    refine J.cast (h' := (hset (hset h 38 (.inr (7, [.ref (E.1 + 39), .ref (E.1 + 40), .ref (E.1 + 41), .ref (E.1 + 42), .long (lN xa), .long (lN xb), .ref (E.1 + 43), .int (nI dt), .ref (E.1 + 44), .ref (E.1 + 45), .int (nI 0), .ref (E.1 + 46), .ref (E.1 + 47), .int (nI bn), .int (nI ta), .int (nI tl), .int (nI tk), .int (nI va), .ref (E.1 + 48), .ref (E.1 + 49)]))) 38 (.inr (7, [.ref (E.1 + 39), .ref (E.1 + 40), .ref (E.1 + 41), .ref (E.1 + 42), .long (lN xa), .long (lN xb), .ref (E.1 + 43), .int (nI dt), .ref (E.1 + 44), .ref (E.1 + 45), .int (nI 1), .ref (E.1 + 46), .ref (E.1 + 47), .int (nI bn), .int (nI ta), .int (nI tl), .int (nI tk), .int (nI va), .ref (E.1 + 48), .ref (E.1 + 49)])))) rfl ?_
    refine J.cast hset_hset ?_
    refine J_iload_n dX8_layOrders_48 rfl ?_
    refine J_bipush (v := nI 10) dX8_layOrders_49 (by decide +kernel) ?_
    refine J_idivN dX8_layOrders_51 (by omega) (by omega) (by omega) ?_
    refine J_istore_n dX8_layOrders_52 (Nat.le_of_ble_eq_true rfl) (L' := [(3, .int (nI (x / 10))), (2, .int (jb (1 ≤ (x % 10) ∧ (x % 10) ≤ 4))), (0, .ref (E.1 + 38)), (1, .int (nI x))]) rfl ?_
    refine J_goto (tgt := 17) dX8_layOrders_53 (by decide) ?_
    refine J_iload_n dX8_layOrders_17 rfl ?_
    refine J_if_leN (tgt := 56) dX8_layOrders_18 (by decide) (by omega) (fun c9 => (by exfalso; omega)) (fun c9 => ?_)
    refine J_iload_n dX8_layOrders_21 rfl ?_
    refine J_if_eqB (tgt := 56) dX8_layOrders_22 (by decide) (fun c10 => (by exfalso; omega)) (fun c10 => ?_)
    refine J_iload_n dX8_layOrders_25 rfl ?_
    refine J_bipush (v := nI 10) dX8_layOrders_26 (by decide +kernel) ?_
    refine J_iremN dX8_layOrders_28 (by omega) (by omega) (by omega) ?_
    refine J_i2lN dX8_layOrders_29 (by omega) ?_
    refine J_lconst (v := lN 1) dX8_layOrders_30 (by decide +kernel) ?_
    refine J_ldc2 dX8_layOrders_31 jqRX8_133 ?_
    refine J.stk (st' := .long (lN 4) :: [.long (lN 1), .long (lN ((x / 10) % 10))]) rfl ?_
    refine J_callSr (M' := mX8_in) (d' := (1, 0, 0)) (rest := []) dX8_layOrders_34 jmX8_in jlRX8_56 (ctX8_inM ((x / 10) % 10) 1 4   (by first | assumption | omega) (by first | assumption | omega) (by first | assumption | omega)) rfl rfl (Nat.le_of_ble_eq_true rfl) (Nat.le_of_ble_eq_true rfl) ⟨Nat.le_refl _, Nat.le_refl _⟩ ?_
    refine J_istore_n dX8_layOrders_37 (Nat.le_of_ble_eq_true rfl) (L' := [(2, .int (jb (1 ≤ ((x / 10) % 10) ∧ ((x / 10) % 10) ≤ 4))), (3, .int (nI (x / 10))), (0, .ref (E.1 + 38)), (1, .int (nI x))]) rfl ?_
    refine J_aload_n dX8_layOrders_38 rfl ?_
    refine J_dup dX8_layOrders_39 rfl ?_
    refine J_get 10 dX8_layOrders_40 jk8 (Nat.le_of_ble_eq_true rfl) jfRX8_142 hset_eq (by omega) rfl ?_
    refine J_iconst (v := nI 1) dX8_layOrders_43 (by decide +kernel) ?_
    refine J_iaddN dX8_layOrders_44 ?_
    refine J.stk (st' := [.int (nI 2), .ref (E.1 + 38)]) rfl ?_
    refine J_put 10 dX8_layOrders_45 jk8 (Nat.le_of_ble_eq_true rfl) jfRX8_142 hset_eq (by omega) rfl rfl rfl (Nat.le_of_ble_eq_true rfl) ?_
    refine J.cast (h' := (hset (hset h 38 (.inr (7, [.ref (E.1 + 39), .ref (E.1 + 40), .ref (E.1 + 41), .ref (E.1 + 42), .long (lN xa), .long (lN xb), .ref (E.1 + 43), .int (nI dt), .ref (E.1 + 44), .ref (E.1 + 45), .int (nI 1), .ref (E.1 + 46), .ref (E.1 + 47), .int (nI bn), .int (nI ta), .int (nI tl), .int (nI tk), .int (nI va), .ref (E.1 + 48), .ref (E.1 + 49)]))) 38 (.inr (7, [.ref (E.1 + 39), .ref (E.1 + 40), .ref (E.1 + 41), .ref (E.1 + 42), .long (lN xa), .long (lN xb), .ref (E.1 + 43), .int (nI dt), .ref (E.1 + 44), .ref (E.1 + 45), .int (nI 2), .ref (E.1 + 46), .ref (E.1 + 47), .int (nI bn), .int (nI ta), .int (nI tl), .int (nI tk), .int (nI va), .ref (E.1 + 48), .ref (E.1 + 49)])))) rfl ?_
    refine J.cast hset_hset ?_
    refine J_iload_n dX8_layOrders_48 rfl ?_
    refine J_bipush (v := nI 10) dX8_layOrders_49 (by decide +kernel) ?_
    refine J_idivN dX8_layOrders_51 (by omega) (by omega) (by omega) ?_
    refine J_istore_n dX8_layOrders_52 (Nat.le_of_ble_eq_true rfl) (L' := [(3, .int (nI ((x / 10) / 10))), (2, .int (jb (1 ≤ ((x / 10) % 10) ∧ ((x / 10) % 10) ≤ 4))), (0, .ref (E.1 + 38)), (1, .int (nI x))]) rfl ?_
    refine J_goto (tgt := 17) dX8_layOrders_53 (by decide) ?_
    refine J_iload_n dX8_layOrders_17 rfl ?_
    refine J_if_leN (tgt := 56) dX8_layOrders_18 (by decide) (by omega) (fun c11 => ?_) (fun c11 => (by exfalso; omega))
    refine J_iload_n dX8_layOrders_56 rfl ?_
    refine J_istore_n dX8_layOrders_57 (Nat.le_of_ble_eq_true rfl) (L' := [(3, .int (nI x)), (2, .int (jb (1 ≤ ((x / 10) % 10) ∧ ((x / 10) % 10) ≤ 4))), (0, .ref (E.1 + 38)), (1, .int (nI x))]) rfl ?_
    refine J_aload_n dX8_layOrders_58 rfl ?_
    refine J_get 10 dX8_layOrders_59 jk8 (Nat.le_of_ble_eq_true rfl) jfRX8_142 hset_eq (by omega) rfl ?_
    refine J_iconst (v := nI 1) dX8_layOrders_62 (by decide +kernel) ?_
    refine J_isubN dX8_layOrders_63 (by omega) ?_
    refine J.stk (st' := [.int (nI 1)]) rfl ?_
    refine J_istore dX8_layOrders_64 (Nat.le_of_ble_eq_true rfl) (L' := [(4, .int (nI 1)), (3, .int (nI x)), (2, .int (jb (1 ≤ ((x / 10) % 10) ∧ ((x / 10) % 10) ≤ 4))), (0, .ref (E.1 + 38)), (1, .int (nI x))]) rfl ?_
    refine J_iload dX8_layOrders_66 rfl ?_
    refine J_if_ltN (tgt := 99) dX8_layOrders_68 (by decide) (by omega) ?_
    refine J_iload_n dX8_layOrders_71 rfl ?_
    refine J_if_eqB (tgt := 99) dX8_layOrders_72 (by decide) (fun c12 => ?_) (fun c12 => ?_)
    · skip
      refine J_iload_n dX8_layOrders_99 rfl ?_
      exact J_zret dX8_layOrders_100 rfl jb_nar ⟨Nat.le_refl _, Nat.le_refl _⟩ (by rw [hPP]; exact ⟨(congrArg some (by first | rfl | exact jbv1 (by omega) | (unfold ndig; (repeat' split) <;> omega))), rfl, TE, ((show (hset h 38 (.inr (7, [.ref (E.1 + 39), .ref (E.1 + 40), .ref (E.1 + 41), .ref (E.1 + 42), .long (lN xa), .long (lN xb), .ref (E.1 + 43), .int (nI dt), .ref (E.1 + 44), .ref (E.1 + 45), .int (nI 2), .ref (E.1 + 46), .ref (E.1 + 47), .int (nI bn), .int (nI ta), .int (nI tl), .int (nI tk), .int (nI va), .ref (E.1 + 48), .ref (E.1 + 49)]))) = (hset (hset h 38 (.inr (7, [.ref (E.1 + 39), .ref (E.1 + 40), .ref (E.1 + 41), .ref (E.1 + 42), .long (lN xa), .long (lN xb), .ref (E.1 + 43), .int (nI dt), .ref (E.1 + 44), .ref (E.1 + 45), .int (nI 2), .ref (E.1 + 46), .ref (E.1 + 47), .int (nI bn), .int (nI ta), .int (nI tl), .int (nI tk), .int (nI va), .ref (E.1 + 48), .ref (E.1 + 49)]))) 44 (cI E 4 (nF TE))) by funext z; simp only [hset]; (repeat' split) <;> first | rfl | (exfalso; omega) | (subst_vars; first | exact H1)).trans (hset_cg (hset_cg rfl (congrArg (fun z => (Sum.inr (7, z) : va_E)) (jS_c rfl (jS_c rfl (jS_c rfl (jS_c rfl (jS_c rfl (jS_c rfl (jS_c rfl (jS_c rfl (jS_c rfl (jS_c rfl (jS_c (jv_N (by first | rfl | exact jbv1 (by omega) | (unfold ndig; (repeat' split) <;> omega))) (jS_c rfl (jS_c rfl (jS_c rfl (jS_c rfl (jS_c rfl (jS_c rfl (jS_c rfl (jS_c rfl (jS_c rfl rfl)))))))))))))))))))))) rfl)), (by first | exact rell_4 (by unfold ndig; (repeat' split) <;> omega) rfl rfl rfl rfl | exact rell_3 (by unfold ndig; (repeat' split) <;> omega) rfl rfl rfl | exact rell_2 (by unfold ndig; (repeat' split) <;> omega) rfl rfl | exact rell_1 (by unfold ndig; (repeat' split) <;> omega) rfl | exact tell_0 (by unfold ndig; (repeat' split) <;> omega))⟩)
    · skip
      refine J_aload_n dX8_layOrders_75 rfl ?_
      refine J_get 8 dX8_layOrders_76 jk8 (Nat.le_of_ble_eq_true rfl) jfRX8_30 hset_eq (by omega) rfl ?_
      refine J_iload dX8_layOrders_79 rfl ?_
      refine J_iload_n dX8_layOrders_81 rfl ?_
      refine J_bipush (v := nI 10) dX8_layOrders_82 (by decide +kernel) ?_
      refine J_iremN dX8_layOrders_84 (by omega) (by omega) (by omega) ?_
      refine J_iconst (v := nI 1) dX8_layOrders_85 (by decide +kernel) ?_
      refine J_isubN dX8_layOrders_86 (by omega) ?_
      refine J_iastN (i := 1) (v := (x % 10) - 1) dX8_layOrders_87 ((hset_ne (by omega)).trans H1) (by omega) (by omega) (by omega) ?_
      refine J_iload_n dX8_layOrders_88 rfl ?_
      refine J_bipush (v := nI 10) dX8_layOrders_89 (by decide +kernel) ?_
      refine J_idivN dX8_layOrders_91 (by omega) (by omega) (by omega) ?_
      refine J_istore_n dX8_layOrders_92 (Nat.le_of_ble_eq_true rfl) (L' := [(3, .int (nI (x / 10))), (4, .int (nI 1)), (2, .int (jb (1 ≤ ((x / 10) % 10) ∧ ((x / 10) % 10) ≤ 4))), (0, .ref (E.1 + 38)), (1, .int (nI x))]) rfl ?_
      refine J_iinc (q := 1) (v := (nI 0)) dX8_layOrders_93 rfl (by decide +kernel) (Nat.le_of_ble_eq_true rfl) (L' := [(4, .int (nI 0)), (3, .int (nI (x / 10))), (2, .int (jb (1 ≤ ((x / 10) % 10) ∧ ((x / 10) % 10) ≤ 4))), (0, .ref (E.1 + 38)), (1, .int (nI x))]) rfl ?_
      refine J_goto (tgt := 66) dX8_layOrders_96 (by decide) ?_
      refine J_iload dX8_layOrders_66 rfl ?_
      refine J_if_ltN (tgt := 99) dX8_layOrders_68 (by decide) (by omega) ?_
      refine J_iload_n dX8_layOrders_71 rfl ?_
      refine J_if_eqB (tgt := 99) dX8_layOrders_72 (by decide) (fun c13 => ?_) (fun c13 => ?_)
      · skip
        refine J_iload_n dX8_layOrders_99 rfl ?_
        exact J_zret dX8_layOrders_100 rfl jb_nar ⟨Nat.le_refl _, Nat.le_refl _⟩ (by rw [hPP]; exact ⟨(congrArg some (by first | rfl | exact jbv1 (by omega) | (unfold ndig; (repeat' split) <;> omega))), rfl, (updN TE 1 ((x % 10) - 1)), (hset_cg (hset_cg rfl (congrArg (fun z => (Sum.inr (7, z) : va_E)) (jS_c rfl (jS_c rfl (jS_c rfl (jS_c rfl (jS_c rfl (jS_c rfl (jS_c rfl (jS_c rfl (jS_c rfl (jS_c rfl (jS_c (jv_N (by first | rfl | exact jbv1 (by omega) | (unfold ndig; (repeat' split) <;> omega))) (jS_c rfl (jS_c rfl (jS_c rfl (jS_c rfl (jS_c rfl (jS_c rfl (jS_c rfl (jS_c rfl (jS_c rfl rfl)))))))))))))))))))))) rfl), (by first | exact rell_4 (by unfold ndig; (repeat' split) <;> omega) rfl rfl rfl rfl | exact rell_3 (by unfold ndig; (repeat' split) <;> omega) rfl rfl rfl | exact rell_2 (by unfold ndig; (repeat' split) <;> omega) rfl rfl | exact rell_1 (by unfold ndig; (repeat' split) <;> omega) rfl | exact tell_0 (by unfold ndig; (repeat' split) <;> omega))⟩)
      · skip
        refine J_aload_n dX8_layOrders_75 rfl ?_
        refine J_get 8 dX8_layOrders_76 jk8 (Nat.le_of_ble_eq_true rfl) jfRX8_30 ((hset_ne (by omega)).trans hset_eq) (by omega) rfl ?_
        refine J_iload dX8_layOrders_79 rfl ?_
        refine J_iload_n dX8_layOrders_81 rfl ?_
        refine J_bipush (v := nI 10) dX8_layOrders_82 (by decide +kernel) ?_
        refine J_iremN dX8_layOrders_84 (by omega) (by omega) (by omega) ?_
        refine J_iconst (v := nI 1) dX8_layOrders_85 (by decide +kernel) ?_
        refine J_isubN dX8_layOrders_86 (by omega) ?_
        refine J_iastN (i := 0) (v := ((x / 10) % 10) - 1) dX8_layOrders_87 hset_eq (by omega) (by omega) (by omega) ?_
        refine J.cast hset_hset ?_
        refine J_iload_n dX8_layOrders_88 rfl ?_
        refine J_bipush (v := nI 10) dX8_layOrders_89 (by decide +kernel) ?_
        refine J_idivN dX8_layOrders_91 (by omega) (by omega) (by omega) ?_
        refine J_istore_n dX8_layOrders_92 (Nat.le_of_ble_eq_true rfl) (L' := [(3, .int (nI ((x / 10) / 10))), (4, .int (nI 0)), (2, .int (jb (1 ≤ ((x / 10) % 10) ∧ ((x / 10) % 10) ≤ 4))), (0, .ref (E.1 + 38)), (1, .int (nI x))]) rfl ?_
        refine J_iinc (q := 1) (v := (-1)) dX8_layOrders_93 rfl (by decide +kernel) (Nat.le_of_ble_eq_true rfl) (L' := [(4, .int (-1)), (3, .int (nI ((x / 10) / 10))), (2, .int (jb (1 ≤ ((x / 10) % 10) ∧ ((x / 10) % 10) ≤ 4))), (0, .ref (E.1 + 38)), (1, .int (nI x))]) rfl ?_
        refine J_goto (tgt := 66) dX8_layOrders_96 (by decide) ?_
        refine J_iload dX8_layOrders_66 rfl ?_
        refine J_if_lt (tgt := 99) dX8_layOrders_68 (by decide) (fun _ => ?_) (fun z => absurd (by decide +kernel) z)
        refine J_iload_n dX8_layOrders_99 rfl ?_
        exact J_zret dX8_layOrders_100 rfl jb_nar ⟨Nat.le_refl _, Nat.le_refl _⟩ (by rw [hPP]; exact ⟨(congrArg some (by first | rfl | exact jbv1 (by omega) | (unfold ndig; (repeat' split) <;> omega))), rfl, (updN (updN TE 1 ((x % 10) - 1)) 0 (((x / 10) % 10) - 1)), (hset_cg (hset_cg rfl (congrArg (fun z => (Sum.inr (7, z) : va_E)) (jS_c rfl (jS_c rfl (jS_c rfl (jS_c rfl (jS_c rfl (jS_c rfl (jS_c rfl (jS_c rfl (jS_c rfl (jS_c rfl (jS_c (jv_N (by first | rfl | exact jbv1 (by omega) | (unfold ndig; (repeat' split) <;> omega))) (jS_c rfl (jS_c rfl (jS_c rfl (jS_c rfl (jS_c rfl (jS_c rfl (jS_c rfl (jS_c rfl (jS_c rfl rfl)))))))))))))))))))))) rfl), (by first | exact rell_4 (by unfold ndig; (repeat' split) <;> omega) rfl rfl rfl rfl | exact rell_3 (by unfold ndig; (repeat' split) <;> omega) rfl rfl rfl | exact rell_2 (by unfold ndig; (repeat' split) <;> omega) rfl rfl | exact rell_1 (by unfold ndig; (repeat' split) <;> omega) rfl | exact tell_0 (by unfold ndig; (repeat' split) <;> omega))⟩)
  · skip
    refine J_iload_n dX8_layOrders_0 rfl ?_
    refine J_i2lN dX8_layOrders_1 (by omega) ?_
    refine J_lconst (v := lN 0) dX8_layOrders_2 (by decide +kernel) ?_
    refine J_ldc2 dX8_layOrders_3 jqRX8_140 ?_
    refine J.stk (st' := .long (lN 4444) :: [.long (lN 0), .long (lN x)]) rfl ?_
    refine J_callSr (M' := mX8_in) (d' := (1, 0, 0)) (rest := []) dX8_layOrders_6 jmX8_in jlRX8_56 (ctX8_inM x 0 4444   (by first | assumption | omega) (by first | assumption | omega) (by first | assumption | omega)) rfl rfl (Nat.le_of_ble_eq_true rfl) (Nat.le_of_ble_eq_true rfl) ⟨Nat.le_refl _, Nat.le_refl _⟩ ?_
    refine J_istore_n dX8_layOrders_9 (Nat.le_of_ble_eq_true rfl) (L' := [(2, .int (jb (0 ≤ x ∧ x ≤ 4444))), (0, .ref (E.1 + 38)), (1, .int (nI x))]) rfl ?_
    refine J_aload_n dX8_layOrders_10 rfl ?_
    refine J_iconst (v := nI 0) dX8_layOrders_11 (by decide +kernel) ?_
    refine J_put 10 dX8_layOrders_12 jk8 (Nat.le_of_ble_eq_true rfl) jfRX8_142 H0 (by omega) rfl rfl rfl (Nat.le_of_ble_eq_true rfl) ?_
    refine J.cast (h' := (hset h 38 (.inr (7, [.ref (E.1 + 39), .ref (E.1 + 40), .ref (E.1 + 41), .ref (E.1 + 42), .long (lN xa), .long (lN xb), .ref (E.1 + 43), .int (nI dt), .ref (E.1 + 44), .ref (E.1 + 45), .int (nI 0), .ref (E.1 + 46), .ref (E.1 + 47), .int (nI bn), .int (nI ta), .int (nI tl), .int (nI tk), .int (nI va), .ref (E.1 + 48), .ref (E.1 + 49)])))) rfl ?_
    refine J_iload_n dX8_layOrders_15 rfl ?_
    refine J_istore_n dX8_layOrders_16 (Nat.le_of_ble_eq_true rfl) (L' := [(3, .int (nI x)), (2, .int (jb (0 ≤ x ∧ x ≤ 4444))), (0, .ref (E.1 + 38)), (1, .int (nI x))]) rfl ?_
    refine J_iload_n dX8_layOrders_17 rfl ?_
    refine J_if_leN (tgt := 56) dX8_layOrders_18 (by decide) (by omega) (fun c14 => (by exfalso; omega)) (fun c14 => ?_)
    refine J_iload_n dX8_layOrders_21 rfl ?_
    refine J_if_eqB (tgt := 56) dX8_layOrders_22 (by decide) (fun c15 => (by exfalso; omega)) (fun c15 => ?_)
    refine J_iload_n dX8_layOrders_25 rfl ?_
    refine J_bipush (v := nI 10) dX8_layOrders_26 (by decide +kernel) ?_
    refine J_iremN dX8_layOrders_28 (by omega) (by omega) (by omega) ?_
    refine J_i2lN dX8_layOrders_29 (by omega) ?_
    refine J_lconst (v := lN 1) dX8_layOrders_30 (by decide +kernel) ?_
    refine J_ldc2 dX8_layOrders_31 jqRX8_133 ?_
    refine J.stk (st' := .long (lN 4) :: [.long (lN 1), .long (lN (x % 10))]) rfl ?_
    refine J_callSr (M' := mX8_in) (d' := (1, 0, 0)) (rest := []) dX8_layOrders_34 jmX8_in jlRX8_56 (ctX8_inM (x % 10) 1 4   (by first | assumption | omega) (by first | assumption | omega) (by first | assumption | omega)) rfl rfl (Nat.le_of_ble_eq_true rfl) (Nat.le_of_ble_eq_true rfl) ⟨Nat.le_refl _, Nat.le_refl _⟩ ?_
    refine J_istore_n dX8_layOrders_37 (Nat.le_of_ble_eq_true rfl) (L' := [(2, .int (jb (1 ≤ (x % 10) ∧ (x % 10) ≤ 4))), (3, .int (nI x)), (0, .ref (E.1 + 38)), (1, .int (nI x))]) rfl ?_
    refine J_aload_n dX8_layOrders_38 rfl ?_
    refine J_dup dX8_layOrders_39 rfl ?_
    refine J_get 10 dX8_layOrders_40 jk8 (Nat.le_of_ble_eq_true rfl) jfRX8_142 hset_eq (by omega) rfl ?_
    refine J_iconst (v := nI 1) dX8_layOrders_43 (by decide +kernel) ?_
    refine J_iaddN dX8_layOrders_44 ?_
    refine J.stk (st' := [.int (nI 1), .ref (E.1 + 38)]) rfl ?_
    refine J_put 10 dX8_layOrders_45 jk8 (Nat.le_of_ble_eq_true rfl) jfRX8_142 hset_eq (by omega) rfl rfl rfl (Nat.le_of_ble_eq_true rfl) ?_
    refine J.cast (h' := (hset (hset h 38 (.inr (7, [.ref (E.1 + 39), .ref (E.1 + 40), .ref (E.1 + 41), .ref (E.1 + 42), .long (lN xa), .long (lN xb), .ref (E.1 + 43), .int (nI dt), .ref (E.1 + 44), .ref (E.1 + 45), .int (nI 0), .ref (E.1 + 46), .ref (E.1 + 47), .int (nI bn), .int (nI ta), .int (nI tl), .int (nI tk), .int (nI va), .ref (E.1 + 48), .ref (E.1 + 49)]))) 38 (.inr (7, [.ref (E.1 + 39), .ref (E.1 + 40), .ref (E.1 + 41), .ref (E.1 + 42), .long (lN xa), .long (lN xb), .ref (E.1 + 43), .int (nI dt), .ref (E.1 + 44), .ref (E.1 + 45), .int (nI 1), .ref (E.1 + 46), .ref (E.1 + 47), .int (nI bn), .int (nI ta), .int (nI tl), .int (nI tk), .int (nI va), .ref (E.1 + 48), .ref (E.1 + 49)])))) rfl ?_
    refine J.cast hset_hset ?_
    refine J_iload_n dX8_layOrders_48 rfl ?_
    refine J_bipush (v := nI 10) dX8_layOrders_49 (by decide +kernel) ?_
    refine J_idivN dX8_layOrders_51 (by omega) (by omega) (by omega) ?_
    refine J_istore_n dX8_layOrders_52 (Nat.le_of_ble_eq_true rfl) (L' := [(3, .int (nI (x / 10))), (2, .int (jb (1 ≤ (x % 10) ∧ (x % 10) ≤ 4))), (0, .ref (E.1 + 38)), (1, .int (nI x))]) rfl ?_
    refine J_goto (tgt := 17) dX8_layOrders_53 (by decide) ?_
    refine J_iload_n dX8_layOrders_17 rfl ?_
    refine J_if_leN (tgt := 56) dX8_layOrders_18 (by decide) (by omega) (fun c16 => (by exfalso; omega)) (fun c16 => ?_)
    refine J_iload_n dX8_layOrders_21 rfl ?_
    refine J_if_eqB (tgt := 56) dX8_layOrders_22 (by decide) (fun c17 => (by exfalso; omega)) (fun c17 => ?_)
    refine J_iload_n dX8_layOrders_25 rfl ?_
    refine J_bipush (v := nI 10) dX8_layOrders_26 (by decide +kernel) ?_
    refine J_iremN dX8_layOrders_28 (by omega) (by omega) (by omega) ?_
    refine J_i2lN dX8_layOrders_29 (by omega) ?_
    refine J_lconst (v := lN 1) dX8_layOrders_30 (by decide +kernel) ?_
    refine J_ldc2 dX8_layOrders_31 jqRX8_133 ?_
    refine J.stk (st' := .long (lN 4) :: [.long (lN 1), .long (lN ((x / 10) % 10))]) rfl ?_
    refine J_callSr (M' := mX8_in) (d' := (1, 0, 0)) (rest := []) dX8_layOrders_34 jmX8_in jlRX8_56 (ctX8_inM ((x / 10) % 10) 1 4   (by first | assumption | omega) (by first | assumption | omega) (by first | assumption | omega)) rfl rfl (Nat.le_of_ble_eq_true rfl) (Nat.le_of_ble_eq_true rfl) ⟨Nat.le_refl _, Nat.le_refl _⟩ ?_
    refine J_istore_n dX8_layOrders_37 (Nat.le_of_ble_eq_true rfl) (L' := [(2, .int (jb (1 ≤ ((x / 10) % 10) ∧ ((x / 10) % 10) ≤ 4))), (3, .int (nI (x / 10))), (0, .ref (E.1 + 38)), (1, .int (nI x))]) rfl ?_
    refine J_aload_n dX8_layOrders_38 rfl ?_
    refine J_dup dX8_layOrders_39 rfl ?_
    refine J_get 10 dX8_layOrders_40 jk8 (Nat.le_of_ble_eq_true rfl) jfRX8_142 hset_eq (by omega) rfl ?_
    refine J_iconst (v := nI 1) dX8_layOrders_43 (by decide +kernel) ?_
    refine J_iaddN dX8_layOrders_44 ?_
    refine J.stk (st' := [.int (nI 2), .ref (E.1 + 38)]) rfl ?_
    refine J_put 10 dX8_layOrders_45 jk8 (Nat.le_of_ble_eq_true rfl) jfRX8_142 hset_eq (by omega) rfl rfl rfl (Nat.le_of_ble_eq_true rfl) ?_
    refine J.cast (h' := (hset (hset h 38 (.inr (7, [.ref (E.1 + 39), .ref (E.1 + 40), .ref (E.1 + 41), .ref (E.1 + 42), .long (lN xa), .long (lN xb), .ref (E.1 + 43), .int (nI dt), .ref (E.1 + 44), .ref (E.1 + 45), .int (nI 1), .ref (E.1 + 46), .ref (E.1 + 47), .int (nI bn), .int (nI ta), .int (nI tl), .int (nI tk), .int (nI va), .ref (E.1 + 48), .ref (E.1 + 49)]))) 38 (.inr (7, [.ref (E.1 + 39), .ref (E.1 + 40), .ref (E.1 + 41), .ref (E.1 + 42), .long (lN xa), .long (lN xb), .ref (E.1 + 43), .int (nI dt), .ref (E.1 + 44), .ref (E.1 + 45), .int (nI 2), .ref (E.1 + 46), .ref (E.1 + 47), .int (nI bn), .int (nI ta), .int (nI tl), .int (nI tk), .int (nI va), .ref (E.1 + 48), .ref (E.1 + 49)])))) rfl ?_
    refine J.cast hset_hset ?_
    refine J_iload_n dX8_layOrders_48 rfl ?_
    refine J_bipush (v := nI 10) dX8_layOrders_49 (by decide +kernel) ?_
    refine J_idivN dX8_layOrders_51 (by omega) (by omega) (by omega) ?_
    refine J_istore_n dX8_layOrders_52 (Nat.le_of_ble_eq_true rfl) (L' := [(3, .int (nI ((x / 10) / 10))), (2, .int (jb (1 ≤ ((x / 10) % 10) ∧ ((x / 10) % 10) ≤ 4))), (0, .ref (E.1 + 38)), (1, .int (nI x))]) rfl ?_
    refine J_goto (tgt := 17) dX8_layOrders_53 (by decide) ?_
    refine J_iload_n dX8_layOrders_17 rfl ?_
    refine J_if_leN (tgt := 56) dX8_layOrders_18 (by decide) (by omega) (fun c18 => (by exfalso; omega)) (fun c18 => ?_)
    refine J_iload_n dX8_layOrders_21 rfl ?_
    refine J_if_eqB (tgt := 56) dX8_layOrders_22 (by decide) (fun c19 => (by exfalso; omega)) (fun c19 => ?_)
    refine J_iload_n dX8_layOrders_25 rfl ?_
    refine J_bipush (v := nI 10) dX8_layOrders_26 (by decide +kernel) ?_
    refine J_iremN dX8_layOrders_28 (by omega) (by omega) (by omega) ?_
    refine J_i2lN dX8_layOrders_29 (by omega) ?_
    refine J_lconst (v := lN 1) dX8_layOrders_30 (by decide +kernel) ?_
    refine J_ldc2 dX8_layOrders_31 jqRX8_133 ?_
    refine J.stk (st' := .long (lN 4) :: [.long (lN 1), .long (lN (((x / 10) / 10) % 10))]) rfl ?_
    refine J_callSr (M' := mX8_in) (d' := (1, 0, 0)) (rest := []) dX8_layOrders_34 jmX8_in jlRX8_56 (ctX8_inM (((x / 10) / 10) % 10) 1 4   (by first | assumption | omega) (by first | assumption | omega) (by first | assumption | omega)) rfl rfl (Nat.le_of_ble_eq_true rfl) (Nat.le_of_ble_eq_true rfl) ⟨Nat.le_refl _, Nat.le_refl _⟩ ?_
    refine J_istore_n dX8_layOrders_37 (Nat.le_of_ble_eq_true rfl) (L' := [(2, .int (jb (1 ≤ (((x / 10) / 10) % 10) ∧ (((x / 10) / 10) % 10) ≤ 4))), (3, .int (nI ((x / 10) / 10))), (0, .ref (E.1 + 38)), (1, .int (nI x))]) rfl ?_
    refine J_aload_n dX8_layOrders_38 rfl ?_
    refine J_dup dX8_layOrders_39 rfl ?_
    refine J_get 10 dX8_layOrders_40 jk8 (Nat.le_of_ble_eq_true rfl) jfRX8_142 hset_eq (by omega) rfl ?_
    refine J_iconst (v := nI 1) dX8_layOrders_43 (by decide +kernel) ?_
    refine J_iaddN dX8_layOrders_44 ?_
    refine J.stk (st' := [.int (nI 3), .ref (E.1 + 38)]) rfl ?_
    refine J_put 10 dX8_layOrders_45 jk8 (Nat.le_of_ble_eq_true rfl) jfRX8_142 hset_eq (by omega) rfl rfl rfl (Nat.le_of_ble_eq_true rfl) ?_
    refine J.cast (h' := (hset (hset h 38 (.inr (7, [.ref (E.1 + 39), .ref (E.1 + 40), .ref (E.1 + 41), .ref (E.1 + 42), .long (lN xa), .long (lN xb), .ref (E.1 + 43), .int (nI dt), .ref (E.1 + 44), .ref (E.1 + 45), .int (nI 2), .ref (E.1 + 46), .ref (E.1 + 47), .int (nI bn), .int (nI ta), .int (nI tl), .int (nI tk), .int (nI va), .ref (E.1 + 48), .ref (E.1 + 49)]))) 38 (.inr (7, [.ref (E.1 + 39), .ref (E.1 + 40), .ref (E.1 + 41), .ref (E.1 + 42), .long (lN xa), .long (lN xb), .ref (E.1 + 43), .int (nI dt), .ref (E.1 + 44), .ref (E.1 + 45), .int (nI 3), .ref (E.1 + 46), .ref (E.1 + 47), .int (nI bn), .int (nI ta), .int (nI tl), .int (nI tk), .int (nI va), .ref (E.1 + 48), .ref (E.1 + 49)])))) rfl ?_
    refine J.cast hset_hset ?_
    refine J_iload_n dX8_layOrders_48 rfl ?_
    refine J_bipush (v := nI 10) dX8_layOrders_49 (by decide +kernel) ?_
    refine J_idivN dX8_layOrders_51 (by omega) (by omega) (by omega) ?_
    refine J_istore_n dX8_layOrders_52 (Nat.le_of_ble_eq_true rfl) (L' := [(3, .int (nI (((x / 10) / 10) / 10))), (2, .int (jb (1 ≤ (((x / 10) / 10) % 10) ∧ (((x / 10) / 10) % 10) ≤ 4))), (0, .ref (E.1 + 38)), (1, .int (nI x))]) rfl ?_
    refine J_goto (tgt := 17) dX8_layOrders_53 (by decide) ?_
    refine J_iload_n dX8_layOrders_17 rfl ?_
    refine J_if_leN (tgt := 56) dX8_layOrders_18 (by decide) (by omega) (fun c20 => ?_) (fun c20 => (by exfalso; omega))
    refine J_iload_n dX8_layOrders_56 rfl ?_
    refine J_istore_n dX8_layOrders_57 (Nat.le_of_ble_eq_true rfl) (L' := [(3, .int (nI x)), (2, .int (jb (1 ≤ (((x / 10) / 10) % 10) ∧ (((x / 10) / 10) % 10) ≤ 4))), (0, .ref (E.1 + 38)), (1, .int (nI x))]) rfl ?_
    refine J_aload_n dX8_layOrders_58 rfl ?_
    refine J_get 10 dX8_layOrders_59 jk8 (Nat.le_of_ble_eq_true rfl) jfRX8_142 hset_eq (by omega) rfl ?_
    refine J_iconst (v := nI 1) dX8_layOrders_62 (by decide +kernel) ?_
    refine J_isubN dX8_layOrders_63 (by omega) ?_
    refine J.stk (st' := [.int (nI 2)]) rfl ?_
    refine J_istore dX8_layOrders_64 (Nat.le_of_ble_eq_true rfl) (L' := [(4, .int (nI 2)), (3, .int (nI x)), (2, .int (jb (1 ≤ (((x / 10) / 10) % 10) ∧ (((x / 10) / 10) % 10) ≤ 4))), (0, .ref (E.1 + 38)), (1, .int (nI x))]) rfl ?_
    refine J_iload dX8_layOrders_66 rfl ?_
    refine J_if_ltN (tgt := 99) dX8_layOrders_68 (by decide) (by omega) ?_
    refine J_iload_n dX8_layOrders_71 rfl ?_
    refine J_if_eqB (tgt := 99) dX8_layOrders_72 (by decide) (fun c21 => ?_) (fun c21 => ?_)
    · skip
      refine J_iload_n dX8_layOrders_99 rfl ?_
      exact J_zret dX8_layOrders_100 rfl jb_nar ⟨Nat.le_refl _, Nat.le_refl _⟩ (by rw [hPP]; exact ⟨(congrArg some (by first | rfl | exact jbv1 (by omega) | (unfold ndig; (repeat' split) <;> omega))), rfl, TE, ((show (hset h 38 (.inr (7, [.ref (E.1 + 39), .ref (E.1 + 40), .ref (E.1 + 41), .ref (E.1 + 42), .long (lN xa), .long (lN xb), .ref (E.1 + 43), .int (nI dt), .ref (E.1 + 44), .ref (E.1 + 45), .int (nI 3), .ref (E.1 + 46), .ref (E.1 + 47), .int (nI bn), .int (nI ta), .int (nI tl), .int (nI tk), .int (nI va), .ref (E.1 + 48), .ref (E.1 + 49)]))) = (hset (hset h 38 (.inr (7, [.ref (E.1 + 39), .ref (E.1 + 40), .ref (E.1 + 41), .ref (E.1 + 42), .long (lN xa), .long (lN xb), .ref (E.1 + 43), .int (nI dt), .ref (E.1 + 44), .ref (E.1 + 45), .int (nI 3), .ref (E.1 + 46), .ref (E.1 + 47), .int (nI bn), .int (nI ta), .int (nI tl), .int (nI tk), .int (nI va), .ref (E.1 + 48), .ref (E.1 + 49)]))) 44 (cI E 4 (nF TE))) by funext z; simp only [hset]; (repeat' split) <;> first | rfl | (exfalso; omega) | (subst_vars; first | exact H1)).trans (hset_cg (hset_cg rfl (congrArg (fun z => (Sum.inr (7, z) : va_E)) (jS_c rfl (jS_c rfl (jS_c rfl (jS_c rfl (jS_c rfl (jS_c rfl (jS_c rfl (jS_c rfl (jS_c rfl (jS_c rfl (jS_c (jv_N (by first | rfl | exact jbv1 (by omega) | (unfold ndig; (repeat' split) <;> omega))) (jS_c rfl (jS_c rfl (jS_c rfl (jS_c rfl (jS_c rfl (jS_c rfl (jS_c rfl (jS_c rfl (jS_c rfl rfl)))))))))))))))))))))) rfl)), (by first | exact rell_4 (by unfold ndig; (repeat' split) <;> omega) rfl rfl rfl rfl | exact rell_3 (by unfold ndig; (repeat' split) <;> omega) rfl rfl rfl | exact rell_2 (by unfold ndig; (repeat' split) <;> omega) rfl rfl | exact rell_1 (by unfold ndig; (repeat' split) <;> omega) rfl | exact tell_0 (by unfold ndig; (repeat' split) <;> omega))⟩)
    · skip
      refine J_aload_n dX8_layOrders_75 rfl ?_
      refine J_get 8 dX8_layOrders_76 jk8 (Nat.le_of_ble_eq_true rfl) jfRX8_30 hset_eq (by omega) rfl ?_
      refine J_iload dX8_layOrders_79 rfl ?_
      refine J_iload_n dX8_layOrders_81 rfl ?_
      refine J_bipush (v := nI 10) dX8_layOrders_82 (by decide +kernel) ?_
      refine J_iremN dX8_layOrders_84 (by omega) (by omega) (by omega) ?_
      refine J_iconst (v := nI 1) dX8_layOrders_85 (by decide +kernel) ?_
      refine J_isubN dX8_layOrders_86 (by omega) ?_
      refine J_iastN (i := 2) (v := (x % 10) - 1) dX8_layOrders_87 ((hset_ne (by omega)).trans H1) (by omega) (by omega) (by omega) ?_
      refine J_iload_n dX8_layOrders_88 rfl ?_
      refine J_bipush (v := nI 10) dX8_layOrders_89 (by decide +kernel) ?_
      refine J_idivN dX8_layOrders_91 (by omega) (by omega) (by omega) ?_
      refine J_istore_n dX8_layOrders_92 (Nat.le_of_ble_eq_true rfl) (L' := [(3, .int (nI (x / 10))), (4, .int (nI 2)), (2, .int (jb (1 ≤ (((x / 10) / 10) % 10) ∧ (((x / 10) / 10) % 10) ≤ 4))), (0, .ref (E.1 + 38)), (1, .int (nI x))]) rfl ?_
      refine J_iinc (q := 1) (v := (nI 1)) dX8_layOrders_93 rfl (by decide +kernel) (Nat.le_of_ble_eq_true rfl) (L' := [(4, .int (nI 1)), (3, .int (nI (x / 10))), (2, .int (jb (1 ≤ (((x / 10) / 10) % 10) ∧ (((x / 10) / 10) % 10) ≤ 4))), (0, .ref (E.1 + 38)), (1, .int (nI x))]) rfl ?_
      refine J_goto (tgt := 66) dX8_layOrders_96 (by decide) ?_
      refine J_iload dX8_layOrders_66 rfl ?_
      refine J_if_ltN (tgt := 99) dX8_layOrders_68 (by decide) (by omega) ?_
      refine J_iload_n dX8_layOrders_71 rfl ?_
      refine J_if_eqB (tgt := 99) dX8_layOrders_72 (by decide) (fun c22 => ?_) (fun c22 => ?_)
      · skip
        refine J_iload_n dX8_layOrders_99 rfl ?_
        exact J_zret dX8_layOrders_100 rfl jb_nar ⟨Nat.le_refl _, Nat.le_refl _⟩ (by rw [hPP]; exact ⟨(congrArg some (by first | rfl | exact jbv1 (by omega) | (unfold ndig; (repeat' split) <;> omega))), rfl, (updN TE 2 ((x % 10) - 1)), (hset_cg (hset_cg rfl (congrArg (fun z => (Sum.inr (7, z) : va_E)) (jS_c rfl (jS_c rfl (jS_c rfl (jS_c rfl (jS_c rfl (jS_c rfl (jS_c rfl (jS_c rfl (jS_c rfl (jS_c rfl (jS_c (jv_N (by first | rfl | exact jbv1 (by omega) | (unfold ndig; (repeat' split) <;> omega))) (jS_c rfl (jS_c rfl (jS_c rfl (jS_c rfl (jS_c rfl (jS_c rfl (jS_c rfl (jS_c rfl (jS_c rfl rfl)))))))))))))))))))))) rfl), (by first | exact rell_4 (by unfold ndig; (repeat' split) <;> omega) rfl rfl rfl rfl | exact rell_3 (by unfold ndig; (repeat' split) <;> omega) rfl rfl rfl | exact rell_2 (by unfold ndig; (repeat' split) <;> omega) rfl rfl | exact rell_1 (by unfold ndig; (repeat' split) <;> omega) rfl | exact tell_0 (by unfold ndig; (repeat' split) <;> omega))⟩)
      · skip
        refine J_aload_n dX8_layOrders_75 rfl ?_
        refine J_get 8 dX8_layOrders_76 jk8 (Nat.le_of_ble_eq_true rfl) jfRX8_30 ((hset_ne (by omega)).trans hset_eq) (by omega) rfl ?_
        refine J_iload dX8_layOrders_79 rfl ?_
        refine J_iload_n dX8_layOrders_81 rfl ?_
        refine J_bipush (v := nI 10) dX8_layOrders_82 (by decide +kernel) ?_
        refine J_iremN dX8_layOrders_84 (by omega) (by omega) (by omega) ?_
        refine J_iconst (v := nI 1) dX8_layOrders_85 (by decide +kernel) ?_
        refine J_isubN dX8_layOrders_86 (by omega) ?_
        refine J_iastN (i := 1) (v := ((x / 10) % 10) - 1) dX8_layOrders_87 hset_eq (by omega) (by omega) (by omega) ?_
        refine J.cast hset_hset ?_
        refine J_iload_n dX8_layOrders_88 rfl ?_
        refine J_bipush (v := nI 10) dX8_layOrders_89 (by decide +kernel) ?_
        refine J_idivN dX8_layOrders_91 (by omega) (by omega) (by omega) ?_
        refine J_istore_n dX8_layOrders_92 (Nat.le_of_ble_eq_true rfl) (L' := [(3, .int (nI ((x / 10) / 10))), (4, .int (nI 1)), (2, .int (jb (1 ≤ (((x / 10) / 10) % 10) ∧ (((x / 10) / 10) % 10) ≤ 4))), (0, .ref (E.1 + 38)), (1, .int (nI x))]) rfl ?_
        refine J_iinc (q := 1) (v := (nI 0)) dX8_layOrders_93 rfl (by decide +kernel) (Nat.le_of_ble_eq_true rfl) (L' := [(4, .int (nI 0)), (3, .int (nI ((x / 10) / 10))), (2, .int (jb (1 ≤ (((x / 10) / 10) % 10) ∧ (((x / 10) / 10) % 10) ≤ 4))), (0, .ref (E.1 + 38)), (1, .int (nI x))]) rfl ?_
        refine J_goto (tgt := 66) dX8_layOrders_96 (by decide) ?_
        refine J_iload dX8_layOrders_66 rfl ?_
        refine J_if_ltN (tgt := 99) dX8_layOrders_68 (by decide) (by omega) ?_
        refine J_iload_n dX8_layOrders_71 rfl ?_
        refine J_if_eqB (tgt := 99) dX8_layOrders_72 (by decide) (fun c23 => ?_) (fun c23 => ?_)
        · skip
          refine J_iload_n dX8_layOrders_99 rfl ?_
          exact J_zret dX8_layOrders_100 rfl jb_nar ⟨Nat.le_refl _, Nat.le_refl _⟩ (by rw [hPP]; exact ⟨(congrArg some (by first | rfl | exact jbv1 (by omega) | (unfold ndig; (repeat' split) <;> omega))), rfl, (updN (updN TE 2 ((x % 10) - 1)) 1 (((x / 10) % 10) - 1)), (hset_cg (hset_cg rfl (congrArg (fun z => (Sum.inr (7, z) : va_E)) (jS_c rfl (jS_c rfl (jS_c rfl (jS_c rfl (jS_c rfl (jS_c rfl (jS_c rfl (jS_c rfl (jS_c rfl (jS_c rfl (jS_c (jv_N (by first | rfl | exact jbv1 (by omega) | (unfold ndig; (repeat' split) <;> omega))) (jS_c rfl (jS_c rfl (jS_c rfl (jS_c rfl (jS_c rfl (jS_c rfl (jS_c rfl (jS_c rfl (jS_c rfl rfl)))))))))))))))))))))) rfl), (by first | exact rell_4 (by unfold ndig; (repeat' split) <;> omega) rfl rfl rfl rfl | exact rell_3 (by unfold ndig; (repeat' split) <;> omega) rfl rfl rfl | exact rell_2 (by unfold ndig; (repeat' split) <;> omega) rfl rfl | exact rell_1 (by unfold ndig; (repeat' split) <;> omega) rfl | exact tell_0 (by unfold ndig; (repeat' split) <;> omega))⟩)
        · skip
          refine J_aload_n dX8_layOrders_75 rfl ?_
          refine J_get 8 dX8_layOrders_76 jk8 (Nat.le_of_ble_eq_true rfl) jfRX8_30 ((hset_ne (by omega)).trans hset_eq) (by omega) rfl ?_
          refine J_iload dX8_layOrders_79 rfl ?_
          refine J_iload_n dX8_layOrders_81 rfl ?_
          refine J_bipush (v := nI 10) dX8_layOrders_82 (by decide +kernel) ?_
          refine J_iremN dX8_layOrders_84 (by omega) (by omega) (by omega) ?_
          refine J_iconst (v := nI 1) dX8_layOrders_85 (by decide +kernel) ?_
          refine J_isubN dX8_layOrders_86 (by omega) ?_
          refine J_iastN (i := 0) (v := (((x / 10) / 10) % 10) - 1) dX8_layOrders_87 hset_eq (by omega) (by omega) (by omega) ?_
          refine J.cast hset_hset ?_
          refine J_iload_n dX8_layOrders_88 rfl ?_
          refine J_bipush (v := nI 10) dX8_layOrders_89 (by decide +kernel) ?_
          refine J_idivN dX8_layOrders_91 (by omega) (by omega) (by omega) ?_
          refine J_istore_n dX8_layOrders_92 (Nat.le_of_ble_eq_true rfl) (L' := [(3, .int (nI (((x / 10) / 10) / 10))), (4, .int (nI 0)), (2, .int (jb (1 ≤ (((x / 10) / 10) % 10) ∧ (((x / 10) / 10) % 10) ≤ 4))), (0, .ref (E.1 + 38)), (1, .int (nI x))]) rfl ?_
          refine J_iinc (q := 1) (v := (-1)) dX8_layOrders_93 rfl (by decide +kernel) (Nat.le_of_ble_eq_true rfl) (L' := [(4, .int (-1)), (3, .int (nI (((x / 10) / 10) / 10))), (2, .int (jb (1 ≤ (((x / 10) / 10) % 10) ∧ (((x / 10) / 10) % 10) ≤ 4))), (0, .ref (E.1 + 38)), (1, .int (nI x))]) rfl ?_
          refine J_goto (tgt := 66) dX8_layOrders_96 (by decide) ?_
          refine J_iload dX8_layOrders_66 rfl ?_
          refine J_if_lt (tgt := 99) dX8_layOrders_68 (by decide) (fun _ => ?_) (fun z => absurd (by decide +kernel) z)
          refine J_iload_n dX8_layOrders_99 rfl ?_
          exact J_zret dX8_layOrders_100 rfl jb_nar ⟨Nat.le_refl _, Nat.le_refl _⟩ (by rw [hPP]; exact ⟨(congrArg some (by first | rfl | exact jbv1 (by omega) | (unfold ndig; (repeat' split) <;> omega))), rfl, (updN (updN (updN TE 2 ((x % 10) - 1)) 1 (((x / 10) % 10) - 1)) 0 ((((x / 10) / 10) % 10) - 1)), (hset_cg (hset_cg rfl (congrArg (fun z => (Sum.inr (7, z) : va_E)) (jS_c rfl (jS_c rfl (jS_c rfl (jS_c rfl (jS_c rfl (jS_c rfl (jS_c rfl (jS_c rfl (jS_c rfl (jS_c rfl (jS_c (jv_N (by first | rfl | exact jbv1 (by omega) | (unfold ndig; (repeat' split) <;> omega))) (jS_c rfl (jS_c rfl (jS_c rfl (jS_c rfl (jS_c rfl (jS_c rfl (jS_c rfl (jS_c rfl (jS_c rfl rfl)))))))))))))))))))))) rfl), (by first | exact rell_4 (by unfold ndig; (repeat' split) <;> omega) rfl rfl rfl rfl | exact rell_3 (by unfold ndig; (repeat' split) <;> omega) rfl rfl rfl | exact rell_2 (by unfold ndig; (repeat' split) <;> omega) rfl rfl | exact rell_1 (by unfold ndig; (repeat' split) <;> omega) rfl | exact tell_0 (by unfold ndig; (repeat' split) <;> omega))⟩)
  · skip
    refine J_iload_n dX8_layOrders_0 rfl ?_
    refine J_i2lN dX8_layOrders_1 (by omega) ?_
    refine J_lconst (v := lN 0) dX8_layOrders_2 (by decide +kernel) ?_
    refine J_ldc2 dX8_layOrders_3 jqRX8_140 ?_
    refine J.stk (st' := .long (lN 4444) :: [.long (lN 0), .long (lN x)]) rfl ?_
    refine J_callSr (M' := mX8_in) (d' := (1, 0, 0)) (rest := []) dX8_layOrders_6 jmX8_in jlRX8_56 (ctX8_inM x 0 4444   (by first | assumption | omega) (by first | assumption | omega) (by first | assumption | omega)) rfl rfl (Nat.le_of_ble_eq_true rfl) (Nat.le_of_ble_eq_true rfl) ⟨Nat.le_refl _, Nat.le_refl _⟩ ?_
    refine J_istore_n dX8_layOrders_9 (Nat.le_of_ble_eq_true rfl) (L' := [(2, .int (jb (0 ≤ x ∧ x ≤ 4444))), (0, .ref (E.1 + 38)), (1, .int (nI x))]) rfl ?_
    refine J_aload_n dX8_layOrders_10 rfl ?_
    refine J_iconst (v := nI 0) dX8_layOrders_11 (by decide +kernel) ?_
    refine J_put 10 dX8_layOrders_12 jk8 (Nat.le_of_ble_eq_true rfl) jfRX8_142 H0 (by omega) rfl rfl rfl (Nat.le_of_ble_eq_true rfl) ?_
    refine J.cast (h' := (hset h 38 (.inr (7, [.ref (E.1 + 39), .ref (E.1 + 40), .ref (E.1 + 41), .ref (E.1 + 42), .long (lN xa), .long (lN xb), .ref (E.1 + 43), .int (nI dt), .ref (E.1 + 44), .ref (E.1 + 45), .int (nI 0), .ref (E.1 + 46), .ref (E.1 + 47), .int (nI bn), .int (nI ta), .int (nI tl), .int (nI tk), .int (nI va), .ref (E.1 + 48), .ref (E.1 + 49)])))) rfl ?_
    refine J_iload_n dX8_layOrders_15 rfl ?_
    refine J_istore_n dX8_layOrders_16 (Nat.le_of_ble_eq_true rfl) (L' := [(3, .int (nI x)), (2, .int (jb (0 ≤ x ∧ x ≤ 4444))), (0, .ref (E.1 + 38)), (1, .int (nI x))]) rfl ?_
    refine J_iload_n dX8_layOrders_17 rfl ?_
    refine J_if_leN (tgt := 56) dX8_layOrders_18 (by decide) (by omega) (fun c24 => (by exfalso; omega)) (fun c24 => ?_)
    refine J_iload_n dX8_layOrders_21 rfl ?_
    refine J_if_eqB (tgt := 56) dX8_layOrders_22 (by decide) (fun c25 => (by exfalso; omega)) (fun c25 => ?_)
    refine J_iload_n dX8_layOrders_25 rfl ?_
    refine J_bipush (v := nI 10) dX8_layOrders_26 (by decide +kernel) ?_
    refine J_iremN dX8_layOrders_28 (by omega) (by omega) (by omega) ?_
    refine J_i2lN dX8_layOrders_29 (by omega) ?_
    refine J_lconst (v := lN 1) dX8_layOrders_30 (by decide +kernel) ?_
    refine J_ldc2 dX8_layOrders_31 jqRX8_133 ?_
    refine J.stk (st' := .long (lN 4) :: [.long (lN 1), .long (lN (x % 10))]) rfl ?_
    refine J_callSr (M' := mX8_in) (d' := (1, 0, 0)) (rest := []) dX8_layOrders_34 jmX8_in jlRX8_56 (ctX8_inM (x % 10) 1 4   (by first | assumption | omega) (by first | assumption | omega) (by first | assumption | omega)) rfl rfl (Nat.le_of_ble_eq_true rfl) (Nat.le_of_ble_eq_true rfl) ⟨Nat.le_refl _, Nat.le_refl _⟩ ?_
    refine J_istore_n dX8_layOrders_37 (Nat.le_of_ble_eq_true rfl) (L' := [(2, .int (jb (1 ≤ (x % 10) ∧ (x % 10) ≤ 4))), (3, .int (nI x)), (0, .ref (E.1 + 38)), (1, .int (nI x))]) rfl ?_
    refine J_aload_n dX8_layOrders_38 rfl ?_
    refine J_dup dX8_layOrders_39 rfl ?_
    refine J_get 10 dX8_layOrders_40 jk8 (Nat.le_of_ble_eq_true rfl) jfRX8_142 hset_eq (by omega) rfl ?_
    refine J_iconst (v := nI 1) dX8_layOrders_43 (by decide +kernel) ?_
    refine J_iaddN dX8_layOrders_44 ?_
    refine J.stk (st' := [.int (nI 1), .ref (E.1 + 38)]) rfl ?_
    refine J_put 10 dX8_layOrders_45 jk8 (Nat.le_of_ble_eq_true rfl) jfRX8_142 hset_eq (by omega) rfl rfl rfl (Nat.le_of_ble_eq_true rfl) ?_
    refine J.cast (h' := (hset (hset h 38 (.inr (7, [.ref (E.1 + 39), .ref (E.1 + 40), .ref (E.1 + 41), .ref (E.1 + 42), .long (lN xa), .long (lN xb), .ref (E.1 + 43), .int (nI dt), .ref (E.1 + 44), .ref (E.1 + 45), .int (nI 0), .ref (E.1 + 46), .ref (E.1 + 47), .int (nI bn), .int (nI ta), .int (nI tl), .int (nI tk), .int (nI va), .ref (E.1 + 48), .ref (E.1 + 49)]))) 38 (.inr (7, [.ref (E.1 + 39), .ref (E.1 + 40), .ref (E.1 + 41), .ref (E.1 + 42), .long (lN xa), .long (lN xb), .ref (E.1 + 43), .int (nI dt), .ref (E.1 + 44), .ref (E.1 + 45), .int (nI 1), .ref (E.1 + 46), .ref (E.1 + 47), .int (nI bn), .int (nI ta), .int (nI tl), .int (nI tk), .int (nI va), .ref (E.1 + 48), .ref (E.1 + 49)])))) rfl ?_
    refine J.cast hset_hset ?_
    refine J_iload_n dX8_layOrders_48 rfl ?_
    refine J_bipush (v := nI 10) dX8_layOrders_49 (by decide +kernel) ?_
    refine J_idivN dX8_layOrders_51 (by omega) (by omega) (by omega) ?_
    refine J_istore_n dX8_layOrders_52 (Nat.le_of_ble_eq_true rfl) (L' := [(3, .int (nI (x / 10))), (2, .int (jb (1 ≤ (x % 10) ∧ (x % 10) ≤ 4))), (0, .ref (E.1 + 38)), (1, .int (nI x))]) rfl ?_
    refine J_goto (tgt := 17) dX8_layOrders_53 (by decide) ?_
    refine J_iload_n dX8_layOrders_17 rfl ?_
    refine J_if_leN (tgt := 56) dX8_layOrders_18 (by decide) (by omega) (fun c26 => (by exfalso; omega)) (fun c26 => ?_)
    refine J_iload_n dX8_layOrders_21 rfl ?_
    refine J_if_eqB (tgt := 56) dX8_layOrders_22 (by decide) (fun c27 => (by exfalso; omega)) (fun c27 => ?_)
    refine J_iload_n dX8_layOrders_25 rfl ?_
    refine J_bipush (v := nI 10) dX8_layOrders_26 (by decide +kernel) ?_
    refine J_iremN dX8_layOrders_28 (by omega) (by omega) (by omega) ?_
    refine J_i2lN dX8_layOrders_29 (by omega) ?_
    refine J_lconst (v := lN 1) dX8_layOrders_30 (by decide +kernel) ?_
    refine J_ldc2 dX8_layOrders_31 jqRX8_133 ?_
    refine J.stk (st' := .long (lN 4) :: [.long (lN 1), .long (lN ((x / 10) % 10))]) rfl ?_
    refine J_callSr (M' := mX8_in) (d' := (1, 0, 0)) (rest := []) dX8_layOrders_34 jmX8_in jlRX8_56 (ctX8_inM ((x / 10) % 10) 1 4   (by first | assumption | omega) (by first | assumption | omega) (by first | assumption | omega)) rfl rfl (Nat.le_of_ble_eq_true rfl) (Nat.le_of_ble_eq_true rfl) ⟨Nat.le_refl _, Nat.le_refl _⟩ ?_
    refine J_istore_n dX8_layOrders_37 (Nat.le_of_ble_eq_true rfl) (L' := [(2, .int (jb (1 ≤ ((x / 10) % 10) ∧ ((x / 10) % 10) ≤ 4))), (3, .int (nI (x / 10))), (0, .ref (E.1 + 38)), (1, .int (nI x))]) rfl ?_
    refine J_aload_n dX8_layOrders_38 rfl ?_
    refine J_dup dX8_layOrders_39 rfl ?_
    refine J_get 10 dX8_layOrders_40 jk8 (Nat.le_of_ble_eq_true rfl) jfRX8_142 hset_eq (by omega) rfl ?_
    refine J_iconst (v := nI 1) dX8_layOrders_43 (by decide +kernel) ?_
    refine J_iaddN dX8_layOrders_44 ?_
    refine J.stk (st' := [.int (nI 2), .ref (E.1 + 38)]) rfl ?_
    refine J_put 10 dX8_layOrders_45 jk8 (Nat.le_of_ble_eq_true rfl) jfRX8_142 hset_eq (by omega) rfl rfl rfl (Nat.le_of_ble_eq_true rfl) ?_
    refine J.cast (h' := (hset (hset h 38 (.inr (7, [.ref (E.1 + 39), .ref (E.1 + 40), .ref (E.1 + 41), .ref (E.1 + 42), .long (lN xa), .long (lN xb), .ref (E.1 + 43), .int (nI dt), .ref (E.1 + 44), .ref (E.1 + 45), .int (nI 1), .ref (E.1 + 46), .ref (E.1 + 47), .int (nI bn), .int (nI ta), .int (nI tl), .int (nI tk), .int (nI va), .ref (E.1 + 48), .ref (E.1 + 49)]))) 38 (.inr (7, [.ref (E.1 + 39), .ref (E.1 + 40), .ref (E.1 + 41), .ref (E.1 + 42), .long (lN xa), .long (lN xb), .ref (E.1 + 43), .int (nI dt), .ref (E.1 + 44), .ref (E.1 + 45), .int (nI 2), .ref (E.1 + 46), .ref (E.1 + 47), .int (nI bn), .int (nI ta), .int (nI tl), .int (nI tk), .int (nI va), .ref (E.1 + 48), .ref (E.1 + 49)])))) rfl ?_
    refine J.cast hset_hset ?_
    refine J_iload_n dX8_layOrders_48 rfl ?_
    refine J_bipush (v := nI 10) dX8_layOrders_49 (by decide +kernel) ?_
    refine J_idivN dX8_layOrders_51 (by omega) (by omega) (by omega) ?_
    refine J_istore_n dX8_layOrders_52 (Nat.le_of_ble_eq_true rfl) (L' := [(3, .int (nI ((x / 10) / 10))), (2, .int (jb (1 ≤ ((x / 10) % 10) ∧ ((x / 10) % 10) ≤ 4))), (0, .ref (E.1 + 38)), (1, .int (nI x))]) rfl ?_
    refine J_goto (tgt := 17) dX8_layOrders_53 (by decide) ?_
    refine J_iload_n dX8_layOrders_17 rfl ?_
    refine J_if_leN (tgt := 56) dX8_layOrders_18 (by decide) (by omega) (fun c28 => (by exfalso; omega)) (fun c28 => ?_)
    refine J_iload_n dX8_layOrders_21 rfl ?_
    refine J_if_eqB (tgt := 56) dX8_layOrders_22 (by decide) (fun c29 => (by exfalso; omega)) (fun c29 => ?_)
    refine J_iload_n dX8_layOrders_25 rfl ?_
    refine J_bipush (v := nI 10) dX8_layOrders_26 (by decide +kernel) ?_
    refine J_iremN dX8_layOrders_28 (by omega) (by omega) (by omega) ?_
    refine J_i2lN dX8_layOrders_29 (by omega) ?_
    refine J_lconst (v := lN 1) dX8_layOrders_30 (by decide +kernel) ?_
    refine J_ldc2 dX8_layOrders_31 jqRX8_133 ?_
    refine J.stk (st' := .long (lN 4) :: [.long (lN 1), .long (lN (((x / 10) / 10) % 10))]) rfl ?_
    refine J_callSr (M' := mX8_in) (d' := (1, 0, 0)) (rest := []) dX8_layOrders_34 jmX8_in jlRX8_56 (ctX8_inM (((x / 10) / 10) % 10) 1 4   (by first | assumption | omega) (by first | assumption | omega) (by first | assumption | omega)) rfl rfl (Nat.le_of_ble_eq_true rfl) (Nat.le_of_ble_eq_true rfl) ⟨Nat.le_refl _, Nat.le_refl _⟩ ?_
    refine J_istore_n dX8_layOrders_37 (Nat.le_of_ble_eq_true rfl) (L' := [(2, .int (jb (1 ≤ (((x / 10) / 10) % 10) ∧ (((x / 10) / 10) % 10) ≤ 4))), (3, .int (nI ((x / 10) / 10))), (0, .ref (E.1 + 38)), (1, .int (nI x))]) rfl ?_
    refine J_aload_n dX8_layOrders_38 rfl ?_
    refine J_dup dX8_layOrders_39 rfl ?_
    refine J_get 10 dX8_layOrders_40 jk8 (Nat.le_of_ble_eq_true rfl) jfRX8_142 hset_eq (by omega) rfl ?_
    refine J_iconst (v := nI 1) dX8_layOrders_43 (by decide +kernel) ?_
    refine J_iaddN dX8_layOrders_44 ?_
    refine J.stk (st' := [.int (nI 3), .ref (E.1 + 38)]) rfl ?_
    refine J_put 10 dX8_layOrders_45 jk8 (Nat.le_of_ble_eq_true rfl) jfRX8_142 hset_eq (by omega) rfl rfl rfl (Nat.le_of_ble_eq_true rfl) ?_
    refine J.cast (h' := (hset (hset h 38 (.inr (7, [.ref (E.1 + 39), .ref (E.1 + 40), .ref (E.1 + 41), .ref (E.1 + 42), .long (lN xa), .long (lN xb), .ref (E.1 + 43), .int (nI dt), .ref (E.1 + 44), .ref (E.1 + 45), .int (nI 2), .ref (E.1 + 46), .ref (E.1 + 47), .int (nI bn), .int (nI ta), .int (nI tl), .int (nI tk), .int (nI va), .ref (E.1 + 48), .ref (E.1 + 49)]))) 38 (.inr (7, [.ref (E.1 + 39), .ref (E.1 + 40), .ref (E.1 + 41), .ref (E.1 + 42), .long (lN xa), .long (lN xb), .ref (E.1 + 43), .int (nI dt), .ref (E.1 + 44), .ref (E.1 + 45), .int (nI 3), .ref (E.1 + 46), .ref (E.1 + 47), .int (nI bn), .int (nI ta), .int (nI tl), .int (nI tk), .int (nI va), .ref (E.1 + 48), .ref (E.1 + 49)])))) rfl ?_
    refine J.cast hset_hset ?_
    refine J_iload_n dX8_layOrders_48 rfl ?_
    refine J_bipush (v := nI 10) dX8_layOrders_49 (by decide +kernel) ?_
    refine J_idivN dX8_layOrders_51 (by omega) (by omega) (by omega) ?_
    refine J_istore_n dX8_layOrders_52 (Nat.le_of_ble_eq_true rfl) (L' := [(3, .int (nI (((x / 10) / 10) / 10))), (2, .int (jb (1 ≤ (((x / 10) / 10) % 10) ∧ (((x / 10) / 10) % 10) ≤ 4))), (0, .ref (E.1 + 38)), (1, .int (nI x))]) rfl ?_
    refine J_goto (tgt := 17) dX8_layOrders_53 (by decide) ?_
    refine J_iload_n dX8_layOrders_17 rfl ?_
    refine J_if_leN (tgt := 56) dX8_layOrders_18 (by decide) (by omega) (fun c30 => (by exfalso; omega)) (fun c30 => ?_)
    refine J_iload_n dX8_layOrders_21 rfl ?_
    refine J_if_eqB (tgt := 56) dX8_layOrders_22 (by decide) (fun c31 => (by exfalso; omega)) (fun c31 => ?_)
    refine J_iload_n dX8_layOrders_25 rfl ?_
    refine J_bipush (v := nI 10) dX8_layOrders_26 (by decide +kernel) ?_
    refine J_iremN dX8_layOrders_28 (by omega) (by omega) (by omega) ?_
    refine J_i2lN dX8_layOrders_29 (by omega) ?_
    refine J_lconst (v := lN 1) dX8_layOrders_30 (by decide +kernel) ?_
    refine J_ldc2 dX8_layOrders_31 jqRX8_133 ?_
    refine J.stk (st' := .long (lN 4) :: [.long (lN 1), .long (lN ((((x / 10) / 10) / 10) % 10))]) rfl ?_
    refine J_callSr (M' := mX8_in) (d' := (1, 0, 0)) (rest := []) dX8_layOrders_34 jmX8_in jlRX8_56 (ctX8_inM ((((x / 10) / 10) / 10) % 10) 1 4   (by first | assumption | omega) (by first | assumption | omega) (by first | assumption | omega)) rfl rfl (Nat.le_of_ble_eq_true rfl) (Nat.le_of_ble_eq_true rfl) ⟨Nat.le_refl _, Nat.le_refl _⟩ ?_
    refine J_istore_n dX8_layOrders_37 (Nat.le_of_ble_eq_true rfl) (L' := [(2, .int (jb (1 ≤ ((((x / 10) / 10) / 10) % 10) ∧ ((((x / 10) / 10) / 10) % 10) ≤ 4))), (3, .int (nI (((x / 10) / 10) / 10))), (0, .ref (E.1 + 38)), (1, .int (nI x))]) rfl ?_
    refine J_aload_n dX8_layOrders_38 rfl ?_
    refine J_dup dX8_layOrders_39 rfl ?_
    refine J_get 10 dX8_layOrders_40 jk8 (Nat.le_of_ble_eq_true rfl) jfRX8_142 hset_eq (by omega) rfl ?_
    refine J_iconst (v := nI 1) dX8_layOrders_43 (by decide +kernel) ?_
    refine J_iaddN dX8_layOrders_44 ?_
    refine J.stk (st' := [.int (nI 4), .ref (E.1 + 38)]) rfl ?_
    refine J_put 10 dX8_layOrders_45 jk8 (Nat.le_of_ble_eq_true rfl) jfRX8_142 hset_eq (by omega) rfl rfl rfl (Nat.le_of_ble_eq_true rfl) ?_
    refine J.cast (h' := (hset (hset h 38 (.inr (7, [.ref (E.1 + 39), .ref (E.1 + 40), .ref (E.1 + 41), .ref (E.1 + 42), .long (lN xa), .long (lN xb), .ref (E.1 + 43), .int (nI dt), .ref (E.1 + 44), .ref (E.1 + 45), .int (nI 3), .ref (E.1 + 46), .ref (E.1 + 47), .int (nI bn), .int (nI ta), .int (nI tl), .int (nI tk), .int (nI va), .ref (E.1 + 48), .ref (E.1 + 49)]))) 38 (.inr (7, [.ref (E.1 + 39), .ref (E.1 + 40), .ref (E.1 + 41), .ref (E.1 + 42), .long (lN xa), .long (lN xb), .ref (E.1 + 43), .int (nI dt), .ref (E.1 + 44), .ref (E.1 + 45), .int (nI 4), .ref (E.1 + 46), .ref (E.1 + 47), .int (nI bn), .int (nI ta), .int (nI tl), .int (nI tk), .int (nI va), .ref (E.1 + 48), .ref (E.1 + 49)])))) rfl ?_
    refine J.cast hset_hset ?_
    refine J_iload_n dX8_layOrders_48 rfl ?_
    refine J_bipush (v := nI 10) dX8_layOrders_49 (by decide +kernel) ?_
    refine J_idivN dX8_layOrders_51 (by omega) (by omega) (by omega) ?_
    refine J_istore_n dX8_layOrders_52 (Nat.le_of_ble_eq_true rfl) (L' := [(3, .int (nI ((((x / 10) / 10) / 10) / 10))), (2, .int (jb (1 ≤ ((((x / 10) / 10) / 10) % 10) ∧ ((((x / 10) / 10) / 10) % 10) ≤ 4))), (0, .ref (E.1 + 38)), (1, .int (nI x))]) rfl ?_
    refine J_goto (tgt := 17) dX8_layOrders_53 (by decide) ?_
    refine J_iload_n dX8_layOrders_17 rfl ?_
    refine J_if_leN (tgt := 56) dX8_layOrders_18 (by decide) (by omega) (fun c32 => ?_) (fun c32 => (by exfalso; omega))
    refine J_iload_n dX8_layOrders_56 rfl ?_
    refine J_istore_n dX8_layOrders_57 (Nat.le_of_ble_eq_true rfl) (L' := [(3, .int (nI x)), (2, .int (jb (1 ≤ ((((x / 10) / 10) / 10) % 10) ∧ ((((x / 10) / 10) / 10) % 10) ≤ 4))), (0, .ref (E.1 + 38)), (1, .int (nI x))]) rfl ?_
    refine J_aload_n dX8_layOrders_58 rfl ?_
    refine J_get 10 dX8_layOrders_59 jk8 (Nat.le_of_ble_eq_true rfl) jfRX8_142 hset_eq (by omega) rfl ?_
    refine J_iconst (v := nI 1) dX8_layOrders_62 (by decide +kernel) ?_
    refine J_isubN dX8_layOrders_63 (by omega) ?_
    refine J.stk (st' := [.int (nI 3)]) rfl ?_
    refine J_istore dX8_layOrders_64 (Nat.le_of_ble_eq_true rfl) (L' := [(4, .int (nI 3)), (3, .int (nI x)), (2, .int (jb (1 ≤ ((((x / 10) / 10) / 10) % 10) ∧ ((((x / 10) / 10) / 10) % 10) ≤ 4))), (0, .ref (E.1 + 38)), (1, .int (nI x))]) rfl ?_
    refine J_iload dX8_layOrders_66 rfl ?_
    refine J_if_ltN (tgt := 99) dX8_layOrders_68 (by decide) (by omega) ?_
    refine J_iload_n dX8_layOrders_71 rfl ?_
    refine J_if_eqB (tgt := 99) dX8_layOrders_72 (by decide) (fun c33 => ?_) (fun c33 => ?_)
    · skip
      refine J_iload_n dX8_layOrders_99 rfl ?_
      exact J_zret dX8_layOrders_100 rfl jb_nar ⟨Nat.le_refl _, Nat.le_refl _⟩ (by rw [hPP]; exact ⟨(congrArg some (by first | rfl | exact jbv1 (by omega) | (unfold ndig; (repeat' split) <;> omega))), rfl, TE, ((show (hset h 38 (.inr (7, [.ref (E.1 + 39), .ref (E.1 + 40), .ref (E.1 + 41), .ref (E.1 + 42), .long (lN xa), .long (lN xb), .ref (E.1 + 43), .int (nI dt), .ref (E.1 + 44), .ref (E.1 + 45), .int (nI 4), .ref (E.1 + 46), .ref (E.1 + 47), .int (nI bn), .int (nI ta), .int (nI tl), .int (nI tk), .int (nI va), .ref (E.1 + 48), .ref (E.1 + 49)]))) = (hset (hset h 38 (.inr (7, [.ref (E.1 + 39), .ref (E.1 + 40), .ref (E.1 + 41), .ref (E.1 + 42), .long (lN xa), .long (lN xb), .ref (E.1 + 43), .int (nI dt), .ref (E.1 + 44), .ref (E.1 + 45), .int (nI 4), .ref (E.1 + 46), .ref (E.1 + 47), .int (nI bn), .int (nI ta), .int (nI tl), .int (nI tk), .int (nI va), .ref (E.1 + 48), .ref (E.1 + 49)]))) 44 (cI E 4 (nF TE))) by funext z; simp only [hset]; (repeat' split) <;> first | rfl | (exfalso; omega) | (subst_vars; first | exact H1)).trans (hset_cg (hset_cg rfl (congrArg (fun z => (Sum.inr (7, z) : va_E)) (jS_c rfl (jS_c rfl (jS_c rfl (jS_c rfl (jS_c rfl (jS_c rfl (jS_c rfl (jS_c rfl (jS_c rfl (jS_c rfl (jS_c (jv_N (by first | rfl | exact jbv1 (by omega) | (unfold ndig; (repeat' split) <;> omega))) (jS_c rfl (jS_c rfl (jS_c rfl (jS_c rfl (jS_c rfl (jS_c rfl (jS_c rfl (jS_c rfl (jS_c rfl rfl)))))))))))))))))))))) rfl)), (by first | exact rell_4 (by unfold ndig; (repeat' split) <;> omega) rfl rfl rfl rfl | exact rell_3 (by unfold ndig; (repeat' split) <;> omega) rfl rfl rfl | exact rell_2 (by unfold ndig; (repeat' split) <;> omega) rfl rfl | exact rell_1 (by unfold ndig; (repeat' split) <;> omega) rfl | exact tell_0 (by unfold ndig; (repeat' split) <;> omega))⟩)
    · skip
      refine J_aload_n dX8_layOrders_75 rfl ?_
      refine J_get 8 dX8_layOrders_76 jk8 (Nat.le_of_ble_eq_true rfl) jfRX8_30 hset_eq (by omega) rfl ?_
      refine J_iload dX8_layOrders_79 rfl ?_
      refine J_iload_n dX8_layOrders_81 rfl ?_
      refine J_bipush (v := nI 10) dX8_layOrders_82 (by decide +kernel) ?_
      refine J_iremN dX8_layOrders_84 (by omega) (by omega) (by omega) ?_
      refine J_iconst (v := nI 1) dX8_layOrders_85 (by decide +kernel) ?_
      refine J_isubN dX8_layOrders_86 (by omega) ?_
      refine J_iastN (i := 3) (v := (x % 10) - 1) dX8_layOrders_87 ((hset_ne (by omega)).trans H1) (by omega) (by omega) (by omega) ?_
      refine J_iload_n dX8_layOrders_88 rfl ?_
      refine J_bipush (v := nI 10) dX8_layOrders_89 (by decide +kernel) ?_
      refine J_idivN dX8_layOrders_91 (by omega) (by omega) (by omega) ?_
      refine J_istore_n dX8_layOrders_92 (Nat.le_of_ble_eq_true rfl) (L' := [(3, .int (nI (x / 10))), (4, .int (nI 3)), (2, .int (jb (1 ≤ ((((x / 10) / 10) / 10) % 10) ∧ ((((x / 10) / 10) / 10) % 10) ≤ 4))), (0, .ref (E.1 + 38)), (1, .int (nI x))]) rfl ?_
      refine J_iinc (q := 1) (v := (nI 2)) dX8_layOrders_93 rfl (by decide +kernel) (Nat.le_of_ble_eq_true rfl) (L' := [(4, .int (nI 2)), (3, .int (nI (x / 10))), (2, .int (jb (1 ≤ ((((x / 10) / 10) / 10) % 10) ∧ ((((x / 10) / 10) / 10) % 10) ≤ 4))), (0, .ref (E.1 + 38)), (1, .int (nI x))]) rfl ?_
      refine J_goto (tgt := 66) dX8_layOrders_96 (by decide) ?_
      refine J_iload dX8_layOrders_66 rfl ?_
      refine J_if_ltN (tgt := 99) dX8_layOrders_68 (by decide) (by omega) ?_
      refine J_iload_n dX8_layOrders_71 rfl ?_
      refine J_if_eqB (tgt := 99) dX8_layOrders_72 (by decide) (fun c34 => ?_) (fun c34 => ?_)
      · skip
        refine J_iload_n dX8_layOrders_99 rfl ?_
        exact J_zret dX8_layOrders_100 rfl jb_nar ⟨Nat.le_refl _, Nat.le_refl _⟩ (by rw [hPP]; exact ⟨(congrArg some (by first | rfl | exact jbv1 (by omega) | (unfold ndig; (repeat' split) <;> omega))), rfl, (updN TE 3 ((x % 10) - 1)), (hset_cg (hset_cg rfl (congrArg (fun z => (Sum.inr (7, z) : va_E)) (jS_c rfl (jS_c rfl (jS_c rfl (jS_c rfl (jS_c rfl (jS_c rfl (jS_c rfl (jS_c rfl (jS_c rfl (jS_c rfl (jS_c (jv_N (by first | rfl | exact jbv1 (by omega) | (unfold ndig; (repeat' split) <;> omega))) (jS_c rfl (jS_c rfl (jS_c rfl (jS_c rfl (jS_c rfl (jS_c rfl (jS_c rfl (jS_c rfl (jS_c rfl rfl)))))))))))))))))))))) rfl), (by first | exact rell_4 (by unfold ndig; (repeat' split) <;> omega) rfl rfl rfl rfl | exact rell_3 (by unfold ndig; (repeat' split) <;> omega) rfl rfl rfl | exact rell_2 (by unfold ndig; (repeat' split) <;> omega) rfl rfl | exact rell_1 (by unfold ndig; (repeat' split) <;> omega) rfl | exact tell_0 (by unfold ndig; (repeat' split) <;> omega))⟩)
      · skip
        refine J_aload_n dX8_layOrders_75 rfl ?_
        refine J_get 8 dX8_layOrders_76 jk8 (Nat.le_of_ble_eq_true rfl) jfRX8_30 ((hset_ne (by omega)).trans hset_eq) (by omega) rfl ?_
        refine J_iload dX8_layOrders_79 rfl ?_
        refine J_iload_n dX8_layOrders_81 rfl ?_
        refine J_bipush (v := nI 10) dX8_layOrders_82 (by decide +kernel) ?_
        refine J_iremN dX8_layOrders_84 (by omega) (by omega) (by omega) ?_
        refine J_iconst (v := nI 1) dX8_layOrders_85 (by decide +kernel) ?_
        refine J_isubN dX8_layOrders_86 (by omega) ?_
        refine J_iastN (i := 2) (v := ((x / 10) % 10) - 1) dX8_layOrders_87 hset_eq (by omega) (by omega) (by omega) ?_
        refine J.cast hset_hset ?_
        refine J_iload_n dX8_layOrders_88 rfl ?_
        refine J_bipush (v := nI 10) dX8_layOrders_89 (by decide +kernel) ?_
        refine J_idivN dX8_layOrders_91 (by omega) (by omega) (by omega) ?_
        refine J_istore_n dX8_layOrders_92 (Nat.le_of_ble_eq_true rfl) (L' := [(3, .int (nI ((x / 10) / 10))), (4, .int (nI 2)), (2, .int (jb (1 ≤ ((((x / 10) / 10) / 10) % 10) ∧ ((((x / 10) / 10) / 10) % 10) ≤ 4))), (0, .ref (E.1 + 38)), (1, .int (nI x))]) rfl ?_
        refine J_iinc (q := 1) (v := (nI 1)) dX8_layOrders_93 rfl (by decide +kernel) (Nat.le_of_ble_eq_true rfl) (L' := [(4, .int (nI 1)), (3, .int (nI ((x / 10) / 10))), (2, .int (jb (1 ≤ ((((x / 10) / 10) / 10) % 10) ∧ ((((x / 10) / 10) / 10) % 10) ≤ 4))), (0, .ref (E.1 + 38)), (1, .int (nI x))]) rfl ?_
        refine J_goto (tgt := 66) dX8_layOrders_96 (by decide) ?_
        refine J_iload dX8_layOrders_66 rfl ?_
        refine J_if_ltN (tgt := 99) dX8_layOrders_68 (by decide) (by omega) ?_
        refine J_iload_n dX8_layOrders_71 rfl ?_
        refine J_if_eqB (tgt := 99) dX8_layOrders_72 (by decide) (fun c35 => ?_) (fun c35 => ?_)
        · skip
          refine J_iload_n dX8_layOrders_99 rfl ?_
          exact J_zret dX8_layOrders_100 rfl jb_nar ⟨Nat.le_refl _, Nat.le_refl _⟩ (by rw [hPP]; exact ⟨(congrArg some (by first | rfl | exact jbv1 (by omega) | (unfold ndig; (repeat' split) <;> omega))), rfl, (updN (updN TE 3 ((x % 10) - 1)) 2 (((x / 10) % 10) - 1)), (hset_cg (hset_cg rfl (congrArg (fun z => (Sum.inr (7, z) : va_E)) (jS_c rfl (jS_c rfl (jS_c rfl (jS_c rfl (jS_c rfl (jS_c rfl (jS_c rfl (jS_c rfl (jS_c rfl (jS_c rfl (jS_c (jv_N (by first | rfl | exact jbv1 (by omega) | (unfold ndig; (repeat' split) <;> omega))) (jS_c rfl (jS_c rfl (jS_c rfl (jS_c rfl (jS_c rfl (jS_c rfl (jS_c rfl (jS_c rfl (jS_c rfl rfl)))))))))))))))))))))) rfl), (by first | exact rell_4 (by unfold ndig; (repeat' split) <;> omega) rfl rfl rfl rfl | exact rell_3 (by unfold ndig; (repeat' split) <;> omega) rfl rfl rfl | exact rell_2 (by unfold ndig; (repeat' split) <;> omega) rfl rfl | exact rell_1 (by unfold ndig; (repeat' split) <;> omega) rfl | exact tell_0 (by unfold ndig; (repeat' split) <;> omega))⟩)
        · skip
          refine J_aload_n dX8_layOrders_75 rfl ?_
          refine J_get 8 dX8_layOrders_76 jk8 (Nat.le_of_ble_eq_true rfl) jfRX8_30 ((hset_ne (by omega)).trans hset_eq) (by omega) rfl ?_
          refine J_iload dX8_layOrders_79 rfl ?_
          refine J_iload_n dX8_layOrders_81 rfl ?_
          refine J_bipush (v := nI 10) dX8_layOrders_82 (by decide +kernel) ?_
          refine J_iremN dX8_layOrders_84 (by omega) (by omega) (by omega) ?_
          refine J_iconst (v := nI 1) dX8_layOrders_85 (by decide +kernel) ?_
          refine J_isubN dX8_layOrders_86 (by omega) ?_
          refine J_iastN (i := 1) (v := (((x / 10) / 10) % 10) - 1) dX8_layOrders_87 hset_eq (by omega) (by omega) (by omega) ?_
          refine J.cast hset_hset ?_
          refine J_iload_n dX8_layOrders_88 rfl ?_
          refine J_bipush (v := nI 10) dX8_layOrders_89 (by decide +kernel) ?_
          refine J_idivN dX8_layOrders_91 (by omega) (by omega) (by omega) ?_
          refine J_istore_n dX8_layOrders_92 (Nat.le_of_ble_eq_true rfl) (L' := [(3, .int (nI (((x / 10) / 10) / 10))), (4, .int (nI 1)), (2, .int (jb (1 ≤ ((((x / 10) / 10) / 10) % 10) ∧ ((((x / 10) / 10) / 10) % 10) ≤ 4))), (0, .ref (E.1 + 38)), (1, .int (nI x))]) rfl ?_
          refine J_iinc (q := 1) (v := (nI 0)) dX8_layOrders_93 rfl (by decide +kernel) (Nat.le_of_ble_eq_true rfl) (L' := [(4, .int (nI 0)), (3, .int (nI (((x / 10) / 10) / 10))), (2, .int (jb (1 ≤ ((((x / 10) / 10) / 10) % 10) ∧ ((((x / 10) / 10) / 10) % 10) ≤ 4))), (0, .ref (E.1 + 38)), (1, .int (nI x))]) rfl ?_
          refine J_goto (tgt := 66) dX8_layOrders_96 (by decide) ?_
          refine J_iload dX8_layOrders_66 rfl ?_
          refine J_if_ltN (tgt := 99) dX8_layOrders_68 (by decide) (by omega) ?_
          refine J_iload_n dX8_layOrders_71 rfl ?_
          refine J_if_eqB (tgt := 99) dX8_layOrders_72 (by decide) (fun c36 => ?_) (fun c36 => ?_)
          · skip
            refine J_iload_n dX8_layOrders_99 rfl ?_
            exact J_zret dX8_layOrders_100 rfl jb_nar ⟨Nat.le_refl _, Nat.le_refl _⟩ (by rw [hPP]; exact ⟨(congrArg some (by first | rfl | exact jbv1 (by omega) | (unfold ndig; (repeat' split) <;> omega))), rfl, (updN (updN (updN TE 3 ((x % 10) - 1)) 2 (((x / 10) % 10) - 1)) 1 ((((x / 10) / 10) % 10) - 1)), (hset_cg (hset_cg rfl (congrArg (fun z => (Sum.inr (7, z) : va_E)) (jS_c rfl (jS_c rfl (jS_c rfl (jS_c rfl (jS_c rfl (jS_c rfl (jS_c rfl (jS_c rfl (jS_c rfl (jS_c rfl (jS_c (jv_N (by first | rfl | exact jbv1 (by omega) | (unfold ndig; (repeat' split) <;> omega))) (jS_c rfl (jS_c rfl (jS_c rfl (jS_c rfl (jS_c rfl (jS_c rfl (jS_c rfl (jS_c rfl (jS_c rfl rfl)))))))))))))))))))))) rfl), (by first | exact rell_4 (by unfold ndig; (repeat' split) <;> omega) rfl rfl rfl rfl | exact rell_3 (by unfold ndig; (repeat' split) <;> omega) rfl rfl rfl | exact rell_2 (by unfold ndig; (repeat' split) <;> omega) rfl rfl | exact rell_1 (by unfold ndig; (repeat' split) <;> omega) rfl | exact tell_0 (by unfold ndig; (repeat' split) <;> omega))⟩)
          · skip
            refine J_aload_n dX8_layOrders_75 rfl ?_
            refine J_get 8 dX8_layOrders_76 jk8 (Nat.le_of_ble_eq_true rfl) jfRX8_30 ((hset_ne (by omega)).trans hset_eq) (by omega) rfl ?_
            refine J_iload dX8_layOrders_79 rfl ?_
            refine J_iload_n dX8_layOrders_81 rfl ?_
            refine J_bipush (v := nI 10) dX8_layOrders_82 (by decide +kernel) ?_
            refine J_iremN dX8_layOrders_84 (by omega) (by omega) (by omega) ?_
            refine J_iconst (v := nI 1) dX8_layOrders_85 (by decide +kernel) ?_
            refine J_isubN dX8_layOrders_86 (by omega) ?_
            refine J_iastN (i := 0) (v := ((((x / 10) / 10) / 10) % 10) - 1) dX8_layOrders_87 hset_eq (by omega) (by omega) (by omega) ?_
            refine J.cast hset_hset ?_
            refine J_iload_n dX8_layOrders_88 rfl ?_
            refine J_bipush (v := nI 10) dX8_layOrders_89 (by decide +kernel) ?_
            refine J_idivN dX8_layOrders_91 (by omega) (by omega) (by omega) ?_
            refine J_istore_n dX8_layOrders_92 (Nat.le_of_ble_eq_true rfl) (L' := [(3, .int (nI ((((x / 10) / 10) / 10) / 10))), (4, .int (nI 0)), (2, .int (jb (1 ≤ ((((x / 10) / 10) / 10) % 10) ∧ ((((x / 10) / 10) / 10) % 10) ≤ 4))), (0, .ref (E.1 + 38)), (1, .int (nI x))]) rfl ?_
            refine J_iinc (q := 1) (v := (-1)) dX8_layOrders_93 rfl (by decide +kernel) (Nat.le_of_ble_eq_true rfl) (L' := [(4, .int (-1)), (3, .int (nI ((((x / 10) / 10) / 10) / 10))), (2, .int (jb (1 ≤ ((((x / 10) / 10) / 10) % 10) ∧ ((((x / 10) / 10) / 10) % 10) ≤ 4))), (0, .ref (E.1 + 38)), (1, .int (nI x))]) rfl ?_
            refine J_goto (tgt := 66) dX8_layOrders_96 (by decide) ?_
            refine J_iload dX8_layOrders_66 rfl ?_
            refine J_if_lt (tgt := 99) dX8_layOrders_68 (by decide) (fun _ => ?_) (fun z => absurd (by decide +kernel) z)
            refine J_iload_n dX8_layOrders_99 rfl ?_
            exact J_zret dX8_layOrders_100 rfl jb_nar ⟨Nat.le_refl _, Nat.le_refl _⟩ (by rw [hPP]; exact ⟨(congrArg some (by first | rfl | exact jbv1 (by omega) | (unfold ndig; (repeat' split) <;> omega))), rfl, (updN (updN (updN (updN TE 3 ((x % 10) - 1)) 2 (((x / 10) % 10) - 1)) 1 ((((x / 10) / 10) % 10) - 1)) 0 (((((x / 10) / 10) / 10) % 10) - 1)), (hset_cg (hset_cg rfl (congrArg (fun z => (Sum.inr (7, z) : va_E)) (jS_c rfl (jS_c rfl (jS_c rfl (jS_c rfl (jS_c rfl (jS_c rfl (jS_c rfl (jS_c rfl (jS_c rfl (jS_c rfl (jS_c (jv_N (by first | rfl | exact jbv1 (by omega) | (unfold ndig; (repeat' split) <;> omega))) (jS_c rfl (jS_c rfl (jS_c rfl (jS_c rfl (jS_c rfl (jS_c rfl (jS_c rfl (jS_c rfl (jS_c rfl rfl)))))))))))))))))))))) rfl), (by first | exact rell_4 (by unfold ndig; (repeat' split) <;> omega) rfl rfl rfl rfl | exact rell_3 (by unfold ndig; (repeat' split) <;> omega) rfl rfl rfl | exact rell_2 (by unfold ndig; (repeat' split) <;> omega) rfl rfl | exact rell_1 (by unfold ndig; (repeat' split) <;> omega) rfl | exact tell_0 (by unfold ndig; (repeat' split) <;> omega))⟩)

set_option maxHeartbeats 1000000 in
set_option maxRecDepth 100000 in
theorem ctX8_layOrders_bad {E : jE} {h : Nat → va_E} {n : Nat} (x : Nat) (xa : Nat) (xb : Nat) (dt : Nat) (mo : Nat) (bn : Nat) (ta : Nat) (tl : Nat) (tk : Nat) (va : Nat) (TE : Nat → Nat) (H0 : h 38 = .inr (7, [.ref (E.1 + 39), .ref (E.1 + 40), .ref (E.1 + 41), .ref (E.1 + 42), .long (lN xa), .long (lN xb), .ref (E.1 + 43), .int (nI dt), .ref (E.1 + 44), .ref (E.1 + 45), .int (nI mo), .ref (E.1 + 46), .ref (E.1 + 47), .int (nI bn), .int (nI ta), .int (nI tl), .int (nI tk), .int (nI va), .ref (E.1 + 48), .ref (E.1 + 49)])) (H1 : h 44 = cI E 4 (nF TE)) (hn : 50 ≤ n) (hx : x ≤ 4444) (hbad : ¬ okW x) : jC E mX8_layOrders (2, 0, 0) [.ref (E.1 + 38), .int (nI x)] h n (fun v h' n' => v = some (.int (nI 0)) ∧ n' = n ∧ ∃ (T1 : Nat → Nat) (ps1 : Nat), h' = (hset (hset h 38 (.inr (7, [.ref (E.1 + 39), .ref (E.1 + 40), .ref (E.1 + 41), .ref (E.1 + 42), .long (lN xa), .long (lN xb), .ref (E.1 + 43), .int (nI dt), .ref (E.1 + 44), .ref (E.1 + 45), .int (nI ps1), .ref (E.1 + 46), .ref (E.1 + 47), .int (nI bn), .int (nI ta), .int (nI tl), .int (nI tk), .int (nI va), .ref (E.1 + 48), .ref (E.1 + 49)]))) 44 (cI E 4 (nF T1)))) := by
  refine J.of (L := [(0, .ref (E.1 + 38)), (1, .int (nI x))]) rfl (by decide +kernel) (Nat.le_of_ble_eq_true rfl) ?_
  obtain ⟨PP, hPP⟩ : ∃ PP : jPost, PP = (fun v h' n' => v = some (.int (nI 0)) ∧ n' = n ∧ ∃ (T1 : Nat → Nat) (ps1 : Nat), h' = (hset (hset h 38 (.inr (7, [.ref (E.1 + 39), .ref (E.1 + 40), .ref (E.1 + 41), .ref (E.1 + 42), .long (lN xa), .long (lN xb), .ref (E.1 + 43), .int (nI dt), .ref (E.1 + 44), .ref (E.1 + 45), .int (nI ps1), .ref (E.1 + 46), .ref (E.1 + 47), .int (nI bn), .int (nI ta), .int (nI tl), .int (nI tk), .int (nI va), .ref (E.1 + 48), .ref (E.1 + 49)]))) 44 (cI E 4 (nF T1)))) := ⟨_, rfl⟩
  rw [← hPP]
  have sp1 : (x = 0) ∨ (1 ≤ x ∧ x < 10) ∨ (10 ≤ x ∧ x < 100) ∨ (100 ≤ x ∧ x < 1000) ∨ (1000 ≤ x) := by omega
  rcases sp1 with sp1 | sp1 | sp1 | sp1 | sp1
  · skip
    refine J_iload_n dX8_layOrders_0 rfl ?_
    refine J_i2lN dX8_layOrders_1 (by omega) ?_
    refine J_lconst (v := lN 0) dX8_layOrders_2 (by decide +kernel) ?_
    refine J_ldc2 dX8_layOrders_3 jqRX8_140 ?_
    refine J.stk (st' := .long (lN 4444) :: [.long (lN 0), .long (lN x)]) rfl ?_
    refine J_callSr (M' := mX8_in) (d' := (1, 0, 0)) (rest := []) dX8_layOrders_6 jmX8_in jlRX8_56 (ctX8_inM x 0 4444   (by first | assumption | omega) (by first | assumption | omega) (by first | assumption | omega)) rfl rfl (Nat.le_of_ble_eq_true rfl) (Nat.le_of_ble_eq_true rfl) ⟨Nat.le_refl _, Nat.le_refl _⟩ ?_
    refine J_istore_n dX8_layOrders_9 (Nat.le_of_ble_eq_true rfl) (L' := [(2, .int (jb (0 ≤ x ∧ x ≤ 4444))), (0, .ref (E.1 + 38)), (1, .int (nI x))]) rfl ?_
    refine J_aload_n dX8_layOrders_10 rfl ?_
    refine J_iconst (v := nI 0) dX8_layOrders_11 (by decide +kernel) ?_
    refine J_put 10 dX8_layOrders_12 jk8 (Nat.le_of_ble_eq_true rfl) jfRX8_142 H0 (by omega) rfl rfl rfl (Nat.le_of_ble_eq_true rfl) ?_
    refine J.cast (h' := (hset h 38 (.inr (7, [.ref (E.1 + 39), .ref (E.1 + 40), .ref (E.1 + 41), .ref (E.1 + 42), .long (lN xa), .long (lN xb), .ref (E.1 + 43), .int (nI dt), .ref (E.1 + 44), .ref (E.1 + 45), .int (nI 0), .ref (E.1 + 46), .ref (E.1 + 47), .int (nI bn), .int (nI ta), .int (nI tl), .int (nI tk), .int (nI va), .ref (E.1 + 48), .ref (E.1 + 49)])))) rfl ?_
    refine J_iload_n dX8_layOrders_15 rfl ?_
    refine J_istore_n dX8_layOrders_16 (Nat.le_of_ble_eq_true rfl) (L' := [(3, .int (nI x)), (2, .int (jb (0 ≤ x ∧ x ≤ 4444))), (0, .ref (E.1 + 38)), (1, .int (nI x))]) rfl ?_
    refine J_iload_n dX8_layOrders_17 rfl ?_
    refine J_if_leN (tgt := 56) dX8_layOrders_18 (by decide) (by omega) (fun c2 => ?_) (fun c2 => (by exfalso; omega))
    refine J_iload_n dX8_layOrders_56 rfl ?_
    refine J_istore_n dX8_layOrders_57 (Nat.le_of_ble_eq_true rfl) (L' := [(3, .int (nI x)), (2, .int (jb (0 ≤ x ∧ x ≤ 4444))), (0, .ref (E.1 + 38)), (1, .int (nI x))]) rfl ?_
    refine J_aload_n dX8_layOrders_58 rfl ?_
    refine J_get 10 dX8_layOrders_59 jk8 (Nat.le_of_ble_eq_true rfl) jfRX8_142 hset_eq (by omega) rfl ?_
    refine J_iconst (v := nI 1) dX8_layOrders_62 (by decide +kernel) ?_
    refine J_isub dX8_layOrders_63 ?_
    refine J.stk (st' := [.int (-1)]) (congrArg (fun z => Value.int z :: []) (by decide +kernel)) ?_
    refine J_istore dX8_layOrders_64 (Nat.le_of_ble_eq_true rfl) (L' := [(4, .int (-1)), (3, .int (nI x)), (2, .int (jb (0 ≤ x ∧ x ≤ 4444))), (0, .ref (E.1 + 38)), (1, .int (nI x))]) rfl ?_
    refine J_iload dX8_layOrders_66 rfl ?_
    refine J_if_lt (tgt := 99) dX8_layOrders_68 (by decide) (fun _ => ?_) (fun z => absurd (by decide +kernel) z)
    refine J_iload_n dX8_layOrders_99 rfl ?_
    exact J_zret dX8_layOrders_100 rfl jb_nar ⟨Nat.le_refl _, Nat.le_refl _⟩ (by rw [hPP]; exact ⟨(congrArg some (by first | rfl | exact jbv0 (by omega) | (exfalso; exact hbad ⟨by omega, by omega, by omega, by omega, by omega⟩))), rfl, TE, 0, ((show (hset h 38 (.inr (7, [.ref (E.1 + 39), .ref (E.1 + 40), .ref (E.1 + 41), .ref (E.1 + 42), .long (lN xa), .long (lN xb), .ref (E.1 + 43), .int (nI dt), .ref (E.1 + 44), .ref (E.1 + 45), .int (nI 0), .ref (E.1 + 46), .ref (E.1 + 47), .int (nI bn), .int (nI ta), .int (nI tl), .int (nI tk), .int (nI va), .ref (E.1 + 48), .ref (E.1 + 49)]))) = (hset (hset h 38 (.inr (7, [.ref (E.1 + 39), .ref (E.1 + 40), .ref (E.1 + 41), .ref (E.1 + 42), .long (lN xa), .long (lN xb), .ref (E.1 + 43), .int (nI dt), .ref (E.1 + 44), .ref (E.1 + 45), .int (nI 0), .ref (E.1 + 46), .ref (E.1 + 47), .int (nI bn), .int (nI ta), .int (nI tl), .int (nI tk), .int (nI va), .ref (E.1 + 48), .ref (E.1 + 49)]))) 44 (cI E 4 (nF TE))) by funext z; simp only [hset]; (repeat' split) <;> first | rfl | (exfalso; omega) | (subst_vars; first | exact H1)).trans (hset_cg (hset_cg rfl rfl) rfl))⟩)
  · skip
    refine J_iload_n dX8_layOrders_0 rfl ?_
    refine J_i2lN dX8_layOrders_1 (by omega) ?_
    refine J_lconst (v := lN 0) dX8_layOrders_2 (by decide +kernel) ?_
    refine J_ldc2 dX8_layOrders_3 jqRX8_140 ?_
    refine J.stk (st' := .long (lN 4444) :: [.long (lN 0), .long (lN x)]) rfl ?_
    refine J_callSr (M' := mX8_in) (d' := (1, 0, 0)) (rest := []) dX8_layOrders_6 jmX8_in jlRX8_56 (ctX8_inM x 0 4444   (by first | assumption | omega) (by first | assumption | omega) (by first | assumption | omega)) rfl rfl (Nat.le_of_ble_eq_true rfl) (Nat.le_of_ble_eq_true rfl) ⟨Nat.le_refl _, Nat.le_refl _⟩ ?_
    refine J_istore_n dX8_layOrders_9 (Nat.le_of_ble_eq_true rfl) (L' := [(2, .int (jb (0 ≤ x ∧ x ≤ 4444))), (0, .ref (E.1 + 38)), (1, .int (nI x))]) rfl ?_
    refine J_aload_n dX8_layOrders_10 rfl ?_
    refine J_iconst (v := nI 0) dX8_layOrders_11 (by decide +kernel) ?_
    refine J_put 10 dX8_layOrders_12 jk8 (Nat.le_of_ble_eq_true rfl) jfRX8_142 H0 (by omega) rfl rfl rfl (Nat.le_of_ble_eq_true rfl) ?_
    refine J.cast (h' := (hset h 38 (.inr (7, [.ref (E.1 + 39), .ref (E.1 + 40), .ref (E.1 + 41), .ref (E.1 + 42), .long (lN xa), .long (lN xb), .ref (E.1 + 43), .int (nI dt), .ref (E.1 + 44), .ref (E.1 + 45), .int (nI 0), .ref (E.1 + 46), .ref (E.1 + 47), .int (nI bn), .int (nI ta), .int (nI tl), .int (nI tk), .int (nI va), .ref (E.1 + 48), .ref (E.1 + 49)])))) rfl ?_
    refine J_iload_n dX8_layOrders_15 rfl ?_
    refine J_istore_n dX8_layOrders_16 (Nat.le_of_ble_eq_true rfl) (L' := [(3, .int (nI x)), (2, .int (jb (0 ≤ x ∧ x ≤ 4444))), (0, .ref (E.1 + 38)), (1, .int (nI x))]) rfl ?_
    refine J_iload_n dX8_layOrders_17 rfl ?_
    refine J_if_leN (tgt := 56) dX8_layOrders_18 (by decide) (by omega) (fun c3 => (by exfalso; omega)) (fun c3 => ?_)
    refine J_iload_n dX8_layOrders_21 rfl ?_
    refine J_if_eqB (tgt := 56) dX8_layOrders_22 (by decide) (fun c4 => ?_) (fun c4 => ?_)
    · skip
      refine J_iload_n dX8_layOrders_56 rfl ?_
      refine J_istore_n dX8_layOrders_57 (Nat.le_of_ble_eq_true rfl) (L' := [(3, .int (nI x)), (2, .int (jb (0 ≤ x ∧ x ≤ 4444))), (0, .ref (E.1 + 38)), (1, .int (nI x))]) rfl ?_
      refine J_aload_n dX8_layOrders_58 rfl ?_
      refine J_get 10 dX8_layOrders_59 jk8 (Nat.le_of_ble_eq_true rfl) jfRX8_142 hset_eq (by omega) rfl ?_
      refine J_iconst (v := nI 1) dX8_layOrders_62 (by decide +kernel) ?_
      refine J_isub dX8_layOrders_63 ?_
      refine J.stk (st' := [.int (-1)]) (congrArg (fun z => Value.int z :: []) (by decide +kernel)) ?_
      refine J_istore dX8_layOrders_64 (Nat.le_of_ble_eq_true rfl) (L' := [(4, .int (-1)), (3, .int (nI x)), (2, .int (jb (0 ≤ x ∧ x ≤ 4444))), (0, .ref (E.1 + 38)), (1, .int (nI x))]) rfl ?_
      refine J_iload dX8_layOrders_66 rfl ?_
      refine J_if_lt (tgt := 99) dX8_layOrders_68 (by decide) (fun _ => ?_) (fun z => absurd (by decide +kernel) z)
      refine J_iload_n dX8_layOrders_99 rfl ?_
      exact J_zret dX8_layOrders_100 rfl jb_nar ⟨Nat.le_refl _, Nat.le_refl _⟩ (by rw [hPP]; exact ⟨(congrArg some (by first | rfl | exact jbv0 (by omega) | (exfalso; exact hbad ⟨by omega, by omega, by omega, by omega, by omega⟩))), rfl, TE, 0, ((show (hset h 38 (.inr (7, [.ref (E.1 + 39), .ref (E.1 + 40), .ref (E.1 + 41), .ref (E.1 + 42), .long (lN xa), .long (lN xb), .ref (E.1 + 43), .int (nI dt), .ref (E.1 + 44), .ref (E.1 + 45), .int (nI 0), .ref (E.1 + 46), .ref (E.1 + 47), .int (nI bn), .int (nI ta), .int (nI tl), .int (nI tk), .int (nI va), .ref (E.1 + 48), .ref (E.1 + 49)]))) = (hset (hset h 38 (.inr (7, [.ref (E.1 + 39), .ref (E.1 + 40), .ref (E.1 + 41), .ref (E.1 + 42), .long (lN xa), .long (lN xb), .ref (E.1 + 43), .int (nI dt), .ref (E.1 + 44), .ref (E.1 + 45), .int (nI 0), .ref (E.1 + 46), .ref (E.1 + 47), .int (nI bn), .int (nI ta), .int (nI tl), .int (nI tk), .int (nI va), .ref (E.1 + 48), .ref (E.1 + 49)]))) 44 (cI E 4 (nF TE))) by funext z; simp only [hset]; (repeat' split) <;> first | rfl | (exfalso; omega) | (subst_vars; first | exact H1)).trans (hset_cg (hset_cg rfl rfl) rfl))⟩)
    · skip
      refine J_iload_n dX8_layOrders_25 rfl ?_
      refine J_bipush (v := nI 10) dX8_layOrders_26 (by decide +kernel) ?_
      refine J_iremN dX8_layOrders_28 (by omega) (by omega) (by omega) ?_
      refine J_i2lN dX8_layOrders_29 (by omega) ?_
      refine J_lconst (v := lN 1) dX8_layOrders_30 (by decide +kernel) ?_
      refine J_ldc2 dX8_layOrders_31 jqRX8_133 ?_
      refine J.stk (st' := .long (lN 4) :: [.long (lN 1), .long (lN (x % 10))]) rfl ?_
      refine J_callSr (M' := mX8_in) (d' := (1, 0, 0)) (rest := []) dX8_layOrders_34 jmX8_in jlRX8_56 (ctX8_inM (x % 10) 1 4   (by first | assumption | omega) (by first | assumption | omega) (by first | assumption | omega)) rfl rfl (Nat.le_of_ble_eq_true rfl) (Nat.le_of_ble_eq_true rfl) ⟨Nat.le_refl _, Nat.le_refl _⟩ ?_
      refine J_istore_n dX8_layOrders_37 (Nat.le_of_ble_eq_true rfl) (L' := [(2, .int (jb (1 ≤ (x % 10) ∧ (x % 10) ≤ 4))), (3, .int (nI x)), (0, .ref (E.1 + 38)), (1, .int (nI x))]) rfl ?_
      refine J_aload_n dX8_layOrders_38 rfl ?_
      refine J_dup dX8_layOrders_39 rfl ?_
      refine J_get 10 dX8_layOrders_40 jk8 (Nat.le_of_ble_eq_true rfl) jfRX8_142 hset_eq (by omega) rfl ?_
      refine J_iconst (v := nI 1) dX8_layOrders_43 (by decide +kernel) ?_
      refine J_iaddN dX8_layOrders_44 ?_
      refine J.stk (st' := [.int (nI 1), .ref (E.1 + 38)]) rfl ?_
      refine J_put 10 dX8_layOrders_45 jk8 (Nat.le_of_ble_eq_true rfl) jfRX8_142 hset_eq (by omega) rfl rfl rfl (Nat.le_of_ble_eq_true rfl) ?_
      refine J.cast (h' := (hset (hset h 38 (.inr (7, [.ref (E.1 + 39), .ref (E.1 + 40), .ref (E.1 + 41), .ref (E.1 + 42), .long (lN xa), .long (lN xb), .ref (E.1 + 43), .int (nI dt), .ref (E.1 + 44), .ref (E.1 + 45), .int (nI 0), .ref (E.1 + 46), .ref (E.1 + 47), .int (nI bn), .int (nI ta), .int (nI tl), .int (nI tk), .int (nI va), .ref (E.1 + 48), .ref (E.1 + 49)]))) 38 (.inr (7, [.ref (E.1 + 39), .ref (E.1 + 40), .ref (E.1 + 41), .ref (E.1 + 42), .long (lN xa), .long (lN xb), .ref (E.1 + 43), .int (nI dt), .ref (E.1 + 44), .ref (E.1 + 45), .int (nI 1), .ref (E.1 + 46), .ref (E.1 + 47), .int (nI bn), .int (nI ta), .int (nI tl), .int (nI tk), .int (nI va), .ref (E.1 + 48), .ref (E.1 + 49)])))) rfl ?_
      refine J.cast hset_hset ?_
      refine J_iload_n dX8_layOrders_48 rfl ?_
      refine J_bipush (v := nI 10) dX8_layOrders_49 (by decide +kernel) ?_
      refine J_idivN dX8_layOrders_51 (by omega) (by omega) (by omega) ?_
      refine J_istore_n dX8_layOrders_52 (Nat.le_of_ble_eq_true rfl) (L' := [(3, .int (nI (x / 10))), (2, .int (jb (1 ≤ (x % 10) ∧ (x % 10) ≤ 4))), (0, .ref (E.1 + 38)), (1, .int (nI x))]) rfl ?_
      refine J_goto (tgt := 17) dX8_layOrders_53 (by decide) ?_
      refine J_iload_n dX8_layOrders_17 rfl ?_
      refine J_if_leN (tgt := 56) dX8_layOrders_18 (by decide) (by omega) (fun c5 => ?_) (fun c5 => (by exfalso; omega))
      refine J_iload_n dX8_layOrders_56 rfl ?_
      refine J_istore_n dX8_layOrders_57 (Nat.le_of_ble_eq_true rfl) (L' := [(3, .int (nI x)), (2, .int (jb (1 ≤ (x % 10) ∧ (x % 10) ≤ 4))), (0, .ref (E.1 + 38)), (1, .int (nI x))]) rfl ?_
      refine J_aload_n dX8_layOrders_58 rfl ?_
      refine J_get 10 dX8_layOrders_59 jk8 (Nat.le_of_ble_eq_true rfl) jfRX8_142 hset_eq (by omega) rfl ?_
      refine J_iconst (v := nI 1) dX8_layOrders_62 (by decide +kernel) ?_
      refine J_isubN dX8_layOrders_63 (by omega) ?_
      refine J.stk (st' := [.int (nI 0)]) rfl ?_
      refine J_istore dX8_layOrders_64 (Nat.le_of_ble_eq_true rfl) (L' := [(4, .int (nI 0)), (3, .int (nI x)), (2, .int (jb (1 ≤ (x % 10) ∧ (x % 10) ≤ 4))), (0, .ref (E.1 + 38)), (1, .int (nI x))]) rfl ?_
      refine J_iload dX8_layOrders_66 rfl ?_
      refine J_if_ltN (tgt := 99) dX8_layOrders_68 (by decide) (by omega) ?_
      refine J_iload_n dX8_layOrders_71 rfl ?_
      refine J_if_eqB (tgt := 99) dX8_layOrders_72 (by decide) (fun c6 => ?_) (fun c6 => ?_)
      · skip
        refine J_iload_n dX8_layOrders_99 rfl ?_
        exact J_zret dX8_layOrders_100 rfl jb_nar ⟨Nat.le_refl _, Nat.le_refl _⟩ (by rw [hPP]; exact ⟨(congrArg some (by first | rfl | exact jbv0 (by omega) | (exfalso; exact hbad ⟨by omega, by omega, by omega, by omega, by omega⟩))), rfl, TE, 1, ((show (hset h 38 (.inr (7, [.ref (E.1 + 39), .ref (E.1 + 40), .ref (E.1 + 41), .ref (E.1 + 42), .long (lN xa), .long (lN xb), .ref (E.1 + 43), .int (nI dt), .ref (E.1 + 44), .ref (E.1 + 45), .int (nI 1), .ref (E.1 + 46), .ref (E.1 + 47), .int (nI bn), .int (nI ta), .int (nI tl), .int (nI tk), .int (nI va), .ref (E.1 + 48), .ref (E.1 + 49)]))) = (hset (hset h 38 (.inr (7, [.ref (E.1 + 39), .ref (E.1 + 40), .ref (E.1 + 41), .ref (E.1 + 42), .long (lN xa), .long (lN xb), .ref (E.1 + 43), .int (nI dt), .ref (E.1 + 44), .ref (E.1 + 45), .int (nI 1), .ref (E.1 + 46), .ref (E.1 + 47), .int (nI bn), .int (nI ta), .int (nI tl), .int (nI tk), .int (nI va), .ref (E.1 + 48), .ref (E.1 + 49)]))) 44 (cI E 4 (nF TE))) by funext z; simp only [hset]; (repeat' split) <;> first | rfl | (exfalso; omega) | (subst_vars; first | exact H1)).trans (hset_cg (hset_cg rfl rfl) rfl))⟩)
      · skip
        refine J_aload_n dX8_layOrders_75 rfl ?_
        refine J_get 8 dX8_layOrders_76 jk8 (Nat.le_of_ble_eq_true rfl) jfRX8_30 hset_eq (by omega) rfl ?_
        refine J_iload dX8_layOrders_79 rfl ?_
        refine J_iload_n dX8_layOrders_81 rfl ?_
        refine J_bipush (v := nI 10) dX8_layOrders_82 (by decide +kernel) ?_
        refine J_iremN dX8_layOrders_84 (by omega) (by omega) (by omega) ?_
        refine J_iconst (v := nI 1) dX8_layOrders_85 (by decide +kernel) ?_
        refine J_isubN dX8_layOrders_86 (by omega) ?_
        refine J_iastN (i := 0) (v := (x % 10) - 1) dX8_layOrders_87 ((hset_ne (by omega)).trans H1) (by omega) (by omega) (by omega) ?_
        refine J_iload_n dX8_layOrders_88 rfl ?_
        refine J_bipush (v := nI 10) dX8_layOrders_89 (by decide +kernel) ?_
        refine J_idivN dX8_layOrders_91 (by omega) (by omega) (by omega) ?_
        refine J_istore_n dX8_layOrders_92 (Nat.le_of_ble_eq_true rfl) (L' := [(3, .int (nI (x / 10))), (4, .int (nI 0)), (2, .int (jb (1 ≤ (x % 10) ∧ (x % 10) ≤ 4))), (0, .ref (E.1 + 38)), (1, .int (nI x))]) rfl ?_
        refine J_iinc (q := 1) (v := (-1)) dX8_layOrders_93 rfl (by decide +kernel) (Nat.le_of_ble_eq_true rfl) (L' := [(4, .int (-1)), (3, .int (nI (x / 10))), (2, .int (jb (1 ≤ (x % 10) ∧ (x % 10) ≤ 4))), (0, .ref (E.1 + 38)), (1, .int (nI x))]) rfl ?_
        refine J_goto (tgt := 66) dX8_layOrders_96 (by decide) ?_
        refine J_iload dX8_layOrders_66 rfl ?_
        refine J_if_lt (tgt := 99) dX8_layOrders_68 (by decide) (fun _ => ?_) (fun z => absurd (by decide +kernel) z)
        refine J_iload_n dX8_layOrders_99 rfl ?_
        exact J_zret dX8_layOrders_100 rfl jb_nar ⟨Nat.le_refl _, Nat.le_refl _⟩ (by rw [hPP]; exact ⟨(congrArg some (by first | rfl | exact jbv0 (by omega) | (exfalso; exact hbad ⟨by omega, by omega, by omega, by omega, by omega⟩))), rfl, (updN TE 0 ((x % 10) - 1)), 1, rfl⟩)
  · skip
    refine J_iload_n dX8_layOrders_0 rfl ?_
    refine J_i2lN dX8_layOrders_1 (by omega) ?_
    refine J_lconst (v := lN 0) dX8_layOrders_2 (by decide +kernel) ?_
    refine J_ldc2 dX8_layOrders_3 jqRX8_140 ?_
    refine J.stk (st' := .long (lN 4444) :: [.long (lN 0), .long (lN x)]) rfl ?_
    refine J_callSr (M' := mX8_in) (d' := (1, 0, 0)) (rest := []) dX8_layOrders_6 jmX8_in jlRX8_56 (ctX8_inM x 0 4444   (by first | assumption | omega) (by first | assumption | omega) (by first | assumption | omega)) rfl rfl (Nat.le_of_ble_eq_true rfl) (Nat.le_of_ble_eq_true rfl) ⟨Nat.le_refl _, Nat.le_refl _⟩ ?_
    refine J_istore_n dX8_layOrders_9 (Nat.le_of_ble_eq_true rfl) (L' := [(2, .int (jb (0 ≤ x ∧ x ≤ 4444))), (0, .ref (E.1 + 38)), (1, .int (nI x))]) rfl ?_
    refine J_aload_n dX8_layOrders_10 rfl ?_
    refine J_iconst (v := nI 0) dX8_layOrders_11 (by decide +kernel) ?_
    refine J_put 10 dX8_layOrders_12 jk8 (Nat.le_of_ble_eq_true rfl) jfRX8_142 H0 (by omega) rfl rfl rfl (Nat.le_of_ble_eq_true rfl) ?_
    refine J.cast (h' := (hset h 38 (.inr (7, [.ref (E.1 + 39), .ref (E.1 + 40), .ref (E.1 + 41), .ref (E.1 + 42), .long (lN xa), .long (lN xb), .ref (E.1 + 43), .int (nI dt), .ref (E.1 + 44), .ref (E.1 + 45), .int (nI 0), .ref (E.1 + 46), .ref (E.1 + 47), .int (nI bn), .int (nI ta), .int (nI tl), .int (nI tk), .int (nI va), .ref (E.1 + 48), .ref (E.1 + 49)])))) rfl ?_
    refine J_iload_n dX8_layOrders_15 rfl ?_
    refine J_istore_n dX8_layOrders_16 (Nat.le_of_ble_eq_true rfl) (L' := [(3, .int (nI x)), (2, .int (jb (0 ≤ x ∧ x ≤ 4444))), (0, .ref (E.1 + 38)), (1, .int (nI x))]) rfl ?_
    refine J_iload_n dX8_layOrders_17 rfl ?_
    refine J_if_leN (tgt := 56) dX8_layOrders_18 (by decide) (by omega) (fun c7 => (by exfalso; omega)) (fun c7 => ?_)
    refine J_iload_n dX8_layOrders_21 rfl ?_
    refine J_if_eqB (tgt := 56) dX8_layOrders_22 (by decide) (fun c8 => ?_) (fun c8 => ?_)
    · skip
      refine J_iload_n dX8_layOrders_56 rfl ?_
      refine J_istore_n dX8_layOrders_57 (Nat.le_of_ble_eq_true rfl) (L' := [(3, .int (nI x)), (2, .int (jb (0 ≤ x ∧ x ≤ 4444))), (0, .ref (E.1 + 38)), (1, .int (nI x))]) rfl ?_
      refine J_aload_n dX8_layOrders_58 rfl ?_
      refine J_get 10 dX8_layOrders_59 jk8 (Nat.le_of_ble_eq_true rfl) jfRX8_142 hset_eq (by omega) rfl ?_
      refine J_iconst (v := nI 1) dX8_layOrders_62 (by decide +kernel) ?_
      refine J_isub dX8_layOrders_63 ?_
      refine J.stk (st' := [.int (-1)]) (congrArg (fun z => Value.int z :: []) (by decide +kernel)) ?_
      refine J_istore dX8_layOrders_64 (Nat.le_of_ble_eq_true rfl) (L' := [(4, .int (-1)), (3, .int (nI x)), (2, .int (jb (0 ≤ x ∧ x ≤ 4444))), (0, .ref (E.1 + 38)), (1, .int (nI x))]) rfl ?_
      refine J_iload dX8_layOrders_66 rfl ?_
      refine J_if_lt (tgt := 99) dX8_layOrders_68 (by decide) (fun _ => ?_) (fun z => absurd (by decide +kernel) z)
      refine J_iload_n dX8_layOrders_99 rfl ?_
      exact J_zret dX8_layOrders_100 rfl jb_nar ⟨Nat.le_refl _, Nat.le_refl _⟩ (by rw [hPP]; exact ⟨(congrArg some (by first | rfl | exact jbv0 (by omega) | (exfalso; exact hbad ⟨by omega, by omega, by omega, by omega, by omega⟩))), rfl, TE, 0, ((show (hset h 38 (.inr (7, [.ref (E.1 + 39), .ref (E.1 + 40), .ref (E.1 + 41), .ref (E.1 + 42), .long (lN xa), .long (lN xb), .ref (E.1 + 43), .int (nI dt), .ref (E.1 + 44), .ref (E.1 + 45), .int (nI 0), .ref (E.1 + 46), .ref (E.1 + 47), .int (nI bn), .int (nI ta), .int (nI tl), .int (nI tk), .int (nI va), .ref (E.1 + 48), .ref (E.1 + 49)]))) = (hset (hset h 38 (.inr (7, [.ref (E.1 + 39), .ref (E.1 + 40), .ref (E.1 + 41), .ref (E.1 + 42), .long (lN xa), .long (lN xb), .ref (E.1 + 43), .int (nI dt), .ref (E.1 + 44), .ref (E.1 + 45), .int (nI 0), .ref (E.1 + 46), .ref (E.1 + 47), .int (nI bn), .int (nI ta), .int (nI tl), .int (nI tk), .int (nI va), .ref (E.1 + 48), .ref (E.1 + 49)]))) 44 (cI E 4 (nF TE))) by funext z; simp only [hset]; (repeat' split) <;> first | rfl | (exfalso; omega) | (subst_vars; first | exact H1)).trans (hset_cg (hset_cg rfl rfl) rfl))⟩)
    · skip
      refine J_iload_n dX8_layOrders_25 rfl ?_
      refine J_bipush (v := nI 10) dX8_layOrders_26 (by decide +kernel) ?_
      refine J_iremN dX8_layOrders_28 (by omega) (by omega) (by omega) ?_
      refine J_i2lN dX8_layOrders_29 (by omega) ?_
      refine J_lconst (v := lN 1) dX8_layOrders_30 (by decide +kernel) ?_
      refine J_ldc2 dX8_layOrders_31 jqRX8_133 ?_
      refine J.stk (st' := .long (lN 4) :: [.long (lN 1), .long (lN (x % 10))]) rfl ?_
      refine J_callSr (M' := mX8_in) (d' := (1, 0, 0)) (rest := []) dX8_layOrders_34 jmX8_in jlRX8_56 (ctX8_inM (x % 10) 1 4   (by first | assumption | omega) (by first | assumption | omega) (by first | assumption | omega)) rfl rfl (Nat.le_of_ble_eq_true rfl) (Nat.le_of_ble_eq_true rfl) ⟨Nat.le_refl _, Nat.le_refl _⟩ ?_
      refine J_istore_n dX8_layOrders_37 (Nat.le_of_ble_eq_true rfl) (L' := [(2, .int (jb (1 ≤ (x % 10) ∧ (x % 10) ≤ 4))), (3, .int (nI x)), (0, .ref (E.1 + 38)), (1, .int (nI x))]) rfl ?_
      refine J_aload_n dX8_layOrders_38 rfl ?_
      refine J_dup dX8_layOrders_39 rfl ?_
      refine J_get 10 dX8_layOrders_40 jk8 (Nat.le_of_ble_eq_true rfl) jfRX8_142 hset_eq (by omega) rfl ?_
      refine J_iconst (v := nI 1) dX8_layOrders_43 (by decide +kernel) ?_
      refine J_iaddN dX8_layOrders_44 ?_
      refine J.stk (st' := [.int (nI 1), .ref (E.1 + 38)]) rfl ?_
      refine J_put 10 dX8_layOrders_45 jk8 (Nat.le_of_ble_eq_true rfl) jfRX8_142 hset_eq (by omega) rfl rfl rfl (Nat.le_of_ble_eq_true rfl) ?_
      refine J.cast (h' := (hset (hset h 38 (.inr (7, [.ref (E.1 + 39), .ref (E.1 + 40), .ref (E.1 + 41), .ref (E.1 + 42), .long (lN xa), .long (lN xb), .ref (E.1 + 43), .int (nI dt), .ref (E.1 + 44), .ref (E.1 + 45), .int (nI 0), .ref (E.1 + 46), .ref (E.1 + 47), .int (nI bn), .int (nI ta), .int (nI tl), .int (nI tk), .int (nI va), .ref (E.1 + 48), .ref (E.1 + 49)]))) 38 (.inr (7, [.ref (E.1 + 39), .ref (E.1 + 40), .ref (E.1 + 41), .ref (E.1 + 42), .long (lN xa), .long (lN xb), .ref (E.1 + 43), .int (nI dt), .ref (E.1 + 44), .ref (E.1 + 45), .int (nI 1), .ref (E.1 + 46), .ref (E.1 + 47), .int (nI bn), .int (nI ta), .int (nI tl), .int (nI tk), .int (nI va), .ref (E.1 + 48), .ref (E.1 + 49)])))) rfl ?_
      refine J.cast hset_hset ?_
      refine J_iload_n dX8_layOrders_48 rfl ?_
      refine J_bipush (v := nI 10) dX8_layOrders_49 (by decide +kernel) ?_
      refine J_idivN dX8_layOrders_51 (by omega) (by omega) (by omega) ?_
      refine J_istore_n dX8_layOrders_52 (Nat.le_of_ble_eq_true rfl) (L' := [(3, .int (nI (x / 10))), (2, .int (jb (1 ≤ (x % 10) ∧ (x % 10) ≤ 4))), (0, .ref (E.1 + 38)), (1, .int (nI x))]) rfl ?_
      refine J_goto (tgt := 17) dX8_layOrders_53 (by decide) ?_
      refine J_iload_n dX8_layOrders_17 rfl ?_
      refine J_if_leN (tgt := 56) dX8_layOrders_18 (by decide) (by omega) (fun c9 => (by exfalso; omega)) (fun c9 => ?_)
      refine J_iload_n dX8_layOrders_21 rfl ?_
      refine J_if_eqB (tgt := 56) dX8_layOrders_22 (by decide) (fun c10 => ?_) (fun c10 => ?_)
      · skip
        refine J_iload_n dX8_layOrders_56 rfl ?_
        refine J_istore_n dX8_layOrders_57 (Nat.le_of_ble_eq_true rfl) (L' := [(3, .int (nI x)), (2, .int (jb (1 ≤ (x % 10) ∧ (x % 10) ≤ 4))), (0, .ref (E.1 + 38)), (1, .int (nI x))]) rfl ?_
        refine J_aload_n dX8_layOrders_58 rfl ?_
        refine J_get 10 dX8_layOrders_59 jk8 (Nat.le_of_ble_eq_true rfl) jfRX8_142 hset_eq (by omega) rfl ?_
        refine J_iconst (v := nI 1) dX8_layOrders_62 (by decide +kernel) ?_
        refine J_isubN dX8_layOrders_63 (by omega) ?_
        refine J.stk (st' := [.int (nI 0)]) rfl ?_
        refine J_istore dX8_layOrders_64 (Nat.le_of_ble_eq_true rfl) (L' := [(4, .int (nI 0)), (3, .int (nI x)), (2, .int (jb (1 ≤ (x % 10) ∧ (x % 10) ≤ 4))), (0, .ref (E.1 + 38)), (1, .int (nI x))]) rfl ?_
        refine J_iload dX8_layOrders_66 rfl ?_
        refine J_if_ltN (tgt := 99) dX8_layOrders_68 (by decide) (by omega) ?_
        refine J_iload_n dX8_layOrders_71 rfl ?_
        refine J_if_eqB (tgt := 99) dX8_layOrders_72 (by decide) (fun c11 => ?_) (fun c11 => ?_)
        · skip
          refine J_iload_n dX8_layOrders_99 rfl ?_
          exact J_zret dX8_layOrders_100 rfl jb_nar ⟨Nat.le_refl _, Nat.le_refl _⟩ (by rw [hPP]; exact ⟨(congrArg some (by first | rfl | exact jbv0 (by omega) | (exfalso; exact hbad ⟨by omega, by omega, by omega, by omega, by omega⟩))), rfl, TE, 1, ((show (hset h 38 (.inr (7, [.ref (E.1 + 39), .ref (E.1 + 40), .ref (E.1 + 41), .ref (E.1 + 42), .long (lN xa), .long (lN xb), .ref (E.1 + 43), .int (nI dt), .ref (E.1 + 44), .ref (E.1 + 45), .int (nI 1), .ref (E.1 + 46), .ref (E.1 + 47), .int (nI bn), .int (nI ta), .int (nI tl), .int (nI tk), .int (nI va), .ref (E.1 + 48), .ref (E.1 + 49)]))) = (hset (hset h 38 (.inr (7, [.ref (E.1 + 39), .ref (E.1 + 40), .ref (E.1 + 41), .ref (E.1 + 42), .long (lN xa), .long (lN xb), .ref (E.1 + 43), .int (nI dt), .ref (E.1 + 44), .ref (E.1 + 45), .int (nI 1), .ref (E.1 + 46), .ref (E.1 + 47), .int (nI bn), .int (nI ta), .int (nI tl), .int (nI tk), .int (nI va), .ref (E.1 + 48), .ref (E.1 + 49)]))) 44 (cI E 4 (nF TE))) by funext z; simp only [hset]; (repeat' split) <;> first | rfl | (exfalso; omega) | (subst_vars; first | exact H1)).trans (hset_cg (hset_cg rfl rfl) rfl))⟩)
        · skip
          refine J_aload_n dX8_layOrders_75 rfl ?_
          refine J_get 8 dX8_layOrders_76 jk8 (Nat.le_of_ble_eq_true rfl) jfRX8_30 hset_eq (by omega) rfl ?_
          refine J_iload dX8_layOrders_79 rfl ?_
          refine J_iload_n dX8_layOrders_81 rfl ?_
          refine J_bipush (v := nI 10) dX8_layOrders_82 (by decide +kernel) ?_
          refine J_iremN dX8_layOrders_84 (by omega) (by omega) (by omega) ?_
          refine J_iconst (v := nI 1) dX8_layOrders_85 (by decide +kernel) ?_
          refine J_isubN dX8_layOrders_86 (by omega) ?_
          refine J_iastN (i := 0) (v := (x % 10) - 1) dX8_layOrders_87 ((hset_ne (by omega)).trans H1) (by omega) (by omega) (by omega) ?_
          refine J_iload_n dX8_layOrders_88 rfl ?_
          refine J_bipush (v := nI 10) dX8_layOrders_89 (by decide +kernel) ?_
          refine J_idivN dX8_layOrders_91 (by omega) (by omega) (by omega) ?_
          refine J_istore_n dX8_layOrders_92 (Nat.le_of_ble_eq_true rfl) (L' := [(3, .int (nI (x / 10))), (4, .int (nI 0)), (2, .int (jb (1 ≤ (x % 10) ∧ (x % 10) ≤ 4))), (0, .ref (E.1 + 38)), (1, .int (nI x))]) rfl ?_
          refine J_iinc (q := 1) (v := (-1)) dX8_layOrders_93 rfl (by decide +kernel) (Nat.le_of_ble_eq_true rfl) (L' := [(4, .int (-1)), (3, .int (nI (x / 10))), (2, .int (jb (1 ≤ (x % 10) ∧ (x % 10) ≤ 4))), (0, .ref (E.1 + 38)), (1, .int (nI x))]) rfl ?_
          refine J_goto (tgt := 66) dX8_layOrders_96 (by decide) ?_
          refine J_iload dX8_layOrders_66 rfl ?_
          refine J_if_lt (tgt := 99) dX8_layOrders_68 (by decide) (fun _ => ?_) (fun z => absurd (by decide +kernel) z)
          refine J_iload_n dX8_layOrders_99 rfl ?_
          exact J_zret dX8_layOrders_100 rfl jb_nar ⟨Nat.le_refl _, Nat.le_refl _⟩ (by rw [hPP]; exact ⟨(congrArg some (by first | rfl | exact jbv0 (by omega) | (exfalso; exact hbad ⟨by omega, by omega, by omega, by omega, by omega⟩))), rfl, (updN TE 0 ((x % 10) - 1)), 1, rfl⟩)
      · skip
        refine J_iload_n dX8_layOrders_25 rfl ?_
        refine J_bipush (v := nI 10) dX8_layOrders_26 (by decide +kernel) ?_
        refine J_iremN dX8_layOrders_28 (by omega) (by omega) (by omega) ?_
        refine J_i2lN dX8_layOrders_29 (by omega) ?_
        refine J_lconst (v := lN 1) dX8_layOrders_30 (by decide +kernel) ?_
        refine J_ldc2 dX8_layOrders_31 jqRX8_133 ?_
        refine J.stk (st' := .long (lN 4) :: [.long (lN 1), .long (lN ((x / 10) % 10))]) rfl ?_
        refine J_callSr (M' := mX8_in) (d' := (1, 0, 0)) (rest := []) dX8_layOrders_34 jmX8_in jlRX8_56 (ctX8_inM ((x / 10) % 10) 1 4   (by first | assumption | omega) (by first | assumption | omega) (by first | assumption | omega)) rfl rfl (Nat.le_of_ble_eq_true rfl) (Nat.le_of_ble_eq_true rfl) ⟨Nat.le_refl _, Nat.le_refl _⟩ ?_
        refine J_istore_n dX8_layOrders_37 (Nat.le_of_ble_eq_true rfl) (L' := [(2, .int (jb (1 ≤ ((x / 10) % 10) ∧ ((x / 10) % 10) ≤ 4))), (3, .int (nI (x / 10))), (0, .ref (E.1 + 38)), (1, .int (nI x))]) rfl ?_
        refine J_aload_n dX8_layOrders_38 rfl ?_
        refine J_dup dX8_layOrders_39 rfl ?_
        refine J_get 10 dX8_layOrders_40 jk8 (Nat.le_of_ble_eq_true rfl) jfRX8_142 hset_eq (by omega) rfl ?_
        refine J_iconst (v := nI 1) dX8_layOrders_43 (by decide +kernel) ?_
        refine J_iaddN dX8_layOrders_44 ?_
        refine J.stk (st' := [.int (nI 2), .ref (E.1 + 38)]) rfl ?_
        refine J_put 10 dX8_layOrders_45 jk8 (Nat.le_of_ble_eq_true rfl) jfRX8_142 hset_eq (by omega) rfl rfl rfl (Nat.le_of_ble_eq_true rfl) ?_
        refine J.cast (h' := (hset (hset h 38 (.inr (7, [.ref (E.1 + 39), .ref (E.1 + 40), .ref (E.1 + 41), .ref (E.1 + 42), .long (lN xa), .long (lN xb), .ref (E.1 + 43), .int (nI dt), .ref (E.1 + 44), .ref (E.1 + 45), .int (nI 1), .ref (E.1 + 46), .ref (E.1 + 47), .int (nI bn), .int (nI ta), .int (nI tl), .int (nI tk), .int (nI va), .ref (E.1 + 48), .ref (E.1 + 49)]))) 38 (.inr (7, [.ref (E.1 + 39), .ref (E.1 + 40), .ref (E.1 + 41), .ref (E.1 + 42), .long (lN xa), .long (lN xb), .ref (E.1 + 43), .int (nI dt), .ref (E.1 + 44), .ref (E.1 + 45), .int (nI 2), .ref (E.1 + 46), .ref (E.1 + 47), .int (nI bn), .int (nI ta), .int (nI tl), .int (nI tk), .int (nI va), .ref (E.1 + 48), .ref (E.1 + 49)])))) rfl ?_
        refine J.cast hset_hset ?_
        refine J_iload_n dX8_layOrders_48 rfl ?_
        refine J_bipush (v := nI 10) dX8_layOrders_49 (by decide +kernel) ?_
        refine J_idivN dX8_layOrders_51 (by omega) (by omega) (by omega) ?_
        refine J_istore_n dX8_layOrders_52 (Nat.le_of_ble_eq_true rfl) (L' := [(3, .int (nI ((x / 10) / 10))), (2, .int (jb (1 ≤ ((x / 10) % 10) ∧ ((x / 10) % 10) ≤ 4))), (0, .ref (E.1 + 38)), (1, .int (nI x))]) rfl ?_
        refine J_goto (tgt := 17) dX8_layOrders_53 (by decide) ?_
        refine J_iload_n dX8_layOrders_17 rfl ?_
        refine J_if_leN (tgt := 56) dX8_layOrders_18 (by decide) (by omega) (fun c12 => ?_) (fun c12 => (by exfalso; omega))
        refine J_iload_n dX8_layOrders_56 rfl ?_
        refine J_istore_n dX8_layOrders_57 (Nat.le_of_ble_eq_true rfl) (L' := [(3, .int (nI x)), (2, .int (jb (1 ≤ ((x / 10) % 10) ∧ ((x / 10) % 10) ≤ 4))), (0, .ref (E.1 + 38)), (1, .int (nI x))]) rfl ?_
        refine J_aload_n dX8_layOrders_58 rfl ?_
        refine J_get 10 dX8_layOrders_59 jk8 (Nat.le_of_ble_eq_true rfl) jfRX8_142 hset_eq (by omega) rfl ?_
        refine J_iconst (v := nI 1) dX8_layOrders_62 (by decide +kernel) ?_
        refine J_isubN dX8_layOrders_63 (by omega) ?_
        refine J.stk (st' := [.int (nI 1)]) rfl ?_
        refine J_istore dX8_layOrders_64 (Nat.le_of_ble_eq_true rfl) (L' := [(4, .int (nI 1)), (3, .int (nI x)), (2, .int (jb (1 ≤ ((x / 10) % 10) ∧ ((x / 10) % 10) ≤ 4))), (0, .ref (E.1 + 38)), (1, .int (nI x))]) rfl ?_
        refine J_iload dX8_layOrders_66 rfl ?_
        refine J_if_ltN (tgt := 99) dX8_layOrders_68 (by decide) (by omega) ?_
        refine J_iload_n dX8_layOrders_71 rfl ?_
        refine J_if_eqB (tgt := 99) dX8_layOrders_72 (by decide) (fun c13 => ?_) (fun c13 => ?_)
        · skip
          refine J_iload_n dX8_layOrders_99 rfl ?_
          exact J_zret dX8_layOrders_100 rfl jb_nar ⟨Nat.le_refl _, Nat.le_refl _⟩ (by rw [hPP]; exact ⟨(congrArg some (by first | rfl | exact jbv0 (by omega) | (exfalso; exact hbad ⟨by omega, by omega, by omega, by omega, by omega⟩))), rfl, TE, 2, ((show (hset h 38 (.inr (7, [.ref (E.1 + 39), .ref (E.1 + 40), .ref (E.1 + 41), .ref (E.1 + 42), .long (lN xa), .long (lN xb), .ref (E.1 + 43), .int (nI dt), .ref (E.1 + 44), .ref (E.1 + 45), .int (nI 2), .ref (E.1 + 46), .ref (E.1 + 47), .int (nI bn), .int (nI ta), .int (nI tl), .int (nI tk), .int (nI va), .ref (E.1 + 48), .ref (E.1 + 49)]))) = (hset (hset h 38 (.inr (7, [.ref (E.1 + 39), .ref (E.1 + 40), .ref (E.1 + 41), .ref (E.1 + 42), .long (lN xa), .long (lN xb), .ref (E.1 + 43), .int (nI dt), .ref (E.1 + 44), .ref (E.1 + 45), .int (nI 2), .ref (E.1 + 46), .ref (E.1 + 47), .int (nI bn), .int (nI ta), .int (nI tl), .int (nI tk), .int (nI va), .ref (E.1 + 48), .ref (E.1 + 49)]))) 44 (cI E 4 (nF TE))) by funext z; simp only [hset]; (repeat' split) <;> first | rfl | (exfalso; omega) | (subst_vars; first | exact H1)).trans (hset_cg (hset_cg rfl rfl) rfl))⟩)
        · skip
          refine J_aload_n dX8_layOrders_75 rfl ?_
          refine J_get 8 dX8_layOrders_76 jk8 (Nat.le_of_ble_eq_true rfl) jfRX8_30 hset_eq (by omega) rfl ?_
          refine J_iload dX8_layOrders_79 rfl ?_
          refine J_iload_n dX8_layOrders_81 rfl ?_
          refine J_bipush (v := nI 10) dX8_layOrders_82 (by decide +kernel) ?_
          refine J_iremN dX8_layOrders_84 (by omega) (by omega) (by omega) ?_
          refine J_iconst (v := nI 1) dX8_layOrders_85 (by decide +kernel) ?_
          refine J_isubN dX8_layOrders_86 (by omega) ?_
          refine J_iastN (i := 1) (v := (x % 10) - 1) dX8_layOrders_87 ((hset_ne (by omega)).trans H1) (by omega) (by omega) (by omega) ?_
          refine J_iload_n dX8_layOrders_88 rfl ?_
          refine J_bipush (v := nI 10) dX8_layOrders_89 (by decide +kernel) ?_
          refine J_idivN dX8_layOrders_91 (by omega) (by omega) (by omega) ?_
          refine J_istore_n dX8_layOrders_92 (Nat.le_of_ble_eq_true rfl) (L' := [(3, .int (nI (x / 10))), (4, .int (nI 1)), (2, .int (jb (1 ≤ ((x / 10) % 10) ∧ ((x / 10) % 10) ≤ 4))), (0, .ref (E.1 + 38)), (1, .int (nI x))]) rfl ?_
          refine J_iinc (q := 1) (v := (nI 0)) dX8_layOrders_93 rfl (by decide +kernel) (Nat.le_of_ble_eq_true rfl) (L' := [(4, .int (nI 0)), (3, .int (nI (x / 10))), (2, .int (jb (1 ≤ ((x / 10) % 10) ∧ ((x / 10) % 10) ≤ 4))), (0, .ref (E.1 + 38)), (1, .int (nI x))]) rfl ?_
          refine J_goto (tgt := 66) dX8_layOrders_96 (by decide) ?_
          refine J_iload dX8_layOrders_66 rfl ?_
          refine J_if_ltN (tgt := 99) dX8_layOrders_68 (by decide) (by omega) ?_
          refine J_iload_n dX8_layOrders_71 rfl ?_
          refine J_if_eqB (tgt := 99) dX8_layOrders_72 (by decide) (fun c14 => ?_) (fun c14 => ?_)
          · skip
            refine J_iload_n dX8_layOrders_99 rfl ?_
            exact J_zret dX8_layOrders_100 rfl jb_nar ⟨Nat.le_refl _, Nat.le_refl _⟩ (by rw [hPP]; exact ⟨(congrArg some (by first | rfl | exact jbv0 (by omega) | (exfalso; exact hbad ⟨by omega, by omega, by omega, by omega, by omega⟩))), rfl, (updN TE 1 ((x % 10) - 1)), 2, rfl⟩)
          · skip
            refine J_aload_n dX8_layOrders_75 rfl ?_
            refine J_get 8 dX8_layOrders_76 jk8 (Nat.le_of_ble_eq_true rfl) jfRX8_30 ((hset_ne (by omega)).trans hset_eq) (by omega) rfl ?_
            refine J_iload dX8_layOrders_79 rfl ?_
            refine J_iload_n dX8_layOrders_81 rfl ?_
            refine J_bipush (v := nI 10) dX8_layOrders_82 (by decide +kernel) ?_
            refine J_iremN dX8_layOrders_84 (by omega) (by omega) (by omega) ?_
            refine J_iconst (v := nI 1) dX8_layOrders_85 (by decide +kernel) ?_
            refine J_isubN dX8_layOrders_86 (by omega) ?_
            refine J_iastN (i := 0) (v := ((x / 10) % 10) - 1) dX8_layOrders_87 hset_eq (by omega) (by omega) (by omega) ?_
            refine J.cast hset_hset ?_
            refine J_iload_n dX8_layOrders_88 rfl ?_
            refine J_bipush (v := nI 10) dX8_layOrders_89 (by decide +kernel) ?_
            refine J_idivN dX8_layOrders_91 (by omega) (by omega) (by omega) ?_
            refine J_istore_n dX8_layOrders_92 (Nat.le_of_ble_eq_true rfl) (L' := [(3, .int (nI ((x / 10) / 10))), (4, .int (nI 0)), (2, .int (jb (1 ≤ ((x / 10) % 10) ∧ ((x / 10) % 10) ≤ 4))), (0, .ref (E.1 + 38)), (1, .int (nI x))]) rfl ?_
            refine J_iinc (q := 1) (v := (-1)) dX8_layOrders_93 rfl (by decide +kernel) (Nat.le_of_ble_eq_true rfl) (L' := [(4, .int (-1)), (3, .int (nI ((x / 10) / 10))), (2, .int (jb (1 ≤ ((x / 10) % 10) ∧ ((x / 10) % 10) ≤ 4))), (0, .ref (E.1 + 38)), (1, .int (nI x))]) rfl ?_
            refine J_goto (tgt := 66) dX8_layOrders_96 (by decide) ?_
            refine J_iload dX8_layOrders_66 rfl ?_
            refine J_if_lt (tgt := 99) dX8_layOrders_68 (by decide) (fun _ => ?_) (fun z => absurd (by decide +kernel) z)
            refine J_iload_n dX8_layOrders_99 rfl ?_
            exact J_zret dX8_layOrders_100 rfl jb_nar ⟨Nat.le_refl _, Nat.le_refl _⟩ (by rw [hPP]; exact ⟨(congrArg some (by first | rfl | exact jbv0 (by omega) | (exfalso; exact hbad ⟨by omega, by omega, by omega, by omega, by omega⟩))), rfl, (updN (updN TE 1 ((x % 10) - 1)) 0 (((x / 10) % 10) - 1)), 2, rfl⟩)
  · skip
    refine J_iload_n dX8_layOrders_0 rfl ?_
    refine J_i2lN dX8_layOrders_1 (by omega) ?_
    refine J_lconst (v := lN 0) dX8_layOrders_2 (by decide +kernel) ?_
    refine J_ldc2 dX8_layOrders_3 jqRX8_140 ?_
    refine J.stk (st' := .long (lN 4444) :: [.long (lN 0), .long (lN x)]) rfl ?_
    refine J_callSr (M' := mX8_in) (d' := (1, 0, 0)) (rest := []) dX8_layOrders_6 jmX8_in jlRX8_56 (ctX8_inM x 0 4444   (by first | assumption | omega) (by first | assumption | omega) (by first | assumption | omega)) rfl rfl (Nat.le_of_ble_eq_true rfl) (Nat.le_of_ble_eq_true rfl) ⟨Nat.le_refl _, Nat.le_refl _⟩ ?_
    refine J_istore_n dX8_layOrders_9 (Nat.le_of_ble_eq_true rfl) (L' := [(2, .int (jb (0 ≤ x ∧ x ≤ 4444))), (0, .ref (E.1 + 38)), (1, .int (nI x))]) rfl ?_
    refine J_aload_n dX8_layOrders_10 rfl ?_
    refine J_iconst (v := nI 0) dX8_layOrders_11 (by decide +kernel) ?_
    refine J_put 10 dX8_layOrders_12 jk8 (Nat.le_of_ble_eq_true rfl) jfRX8_142 H0 (by omega) rfl rfl rfl (Nat.le_of_ble_eq_true rfl) ?_
    refine J.cast (h' := (hset h 38 (.inr (7, [.ref (E.1 + 39), .ref (E.1 + 40), .ref (E.1 + 41), .ref (E.1 + 42), .long (lN xa), .long (lN xb), .ref (E.1 + 43), .int (nI dt), .ref (E.1 + 44), .ref (E.1 + 45), .int (nI 0), .ref (E.1 + 46), .ref (E.1 + 47), .int (nI bn), .int (nI ta), .int (nI tl), .int (nI tk), .int (nI va), .ref (E.1 + 48), .ref (E.1 + 49)])))) rfl ?_
    refine J_iload_n dX8_layOrders_15 rfl ?_
    refine J_istore_n dX8_layOrders_16 (Nat.le_of_ble_eq_true rfl) (L' := [(3, .int (nI x)), (2, .int (jb (0 ≤ x ∧ x ≤ 4444))), (0, .ref (E.1 + 38)), (1, .int (nI x))]) rfl ?_
    refine J_iload_n dX8_layOrders_17 rfl ?_
    refine J_if_leN (tgt := 56) dX8_layOrders_18 (by decide) (by omega) (fun c15 => (by exfalso; omega)) (fun c15 => ?_)
    refine J_iload_n dX8_layOrders_21 rfl ?_
    refine J_if_eqB (tgt := 56) dX8_layOrders_22 (by decide) (fun c16 => ?_) (fun c16 => ?_)
    · skip
      refine J_iload_n dX8_layOrders_56 rfl ?_
      refine J_istore_n dX8_layOrders_57 (Nat.le_of_ble_eq_true rfl) (L' := [(3, .int (nI x)), (2, .int (jb (0 ≤ x ∧ x ≤ 4444))), (0, .ref (E.1 + 38)), (1, .int (nI x))]) rfl ?_
      refine J_aload_n dX8_layOrders_58 rfl ?_
      refine J_get 10 dX8_layOrders_59 jk8 (Nat.le_of_ble_eq_true rfl) jfRX8_142 hset_eq (by omega) rfl ?_
      refine J_iconst (v := nI 1) dX8_layOrders_62 (by decide +kernel) ?_
      refine J_isub dX8_layOrders_63 ?_
      refine J.stk (st' := [.int (-1)]) (congrArg (fun z => Value.int z :: []) (by decide +kernel)) ?_
      refine J_istore dX8_layOrders_64 (Nat.le_of_ble_eq_true rfl) (L' := [(4, .int (-1)), (3, .int (nI x)), (2, .int (jb (0 ≤ x ∧ x ≤ 4444))), (0, .ref (E.1 + 38)), (1, .int (nI x))]) rfl ?_
      refine J_iload dX8_layOrders_66 rfl ?_
      refine J_if_lt (tgt := 99) dX8_layOrders_68 (by decide) (fun _ => ?_) (fun z => absurd (by decide +kernel) z)
      refine J_iload_n dX8_layOrders_99 rfl ?_
      exact J_zret dX8_layOrders_100 rfl jb_nar ⟨Nat.le_refl _, Nat.le_refl _⟩ (by rw [hPP]; exact ⟨(congrArg some (by first | rfl | exact jbv0 (by omega) | (exfalso; exact hbad ⟨by omega, by omega, by omega, by omega, by omega⟩))), rfl, TE, 0, ((show (hset h 38 (.inr (7, [.ref (E.1 + 39), .ref (E.1 + 40), .ref (E.1 + 41), .ref (E.1 + 42), .long (lN xa), .long (lN xb), .ref (E.1 + 43), .int (nI dt), .ref (E.1 + 44), .ref (E.1 + 45), .int (nI 0), .ref (E.1 + 46), .ref (E.1 + 47), .int (nI bn), .int (nI ta), .int (nI tl), .int (nI tk), .int (nI va), .ref (E.1 + 48), .ref (E.1 + 49)]))) = (hset (hset h 38 (.inr (7, [.ref (E.1 + 39), .ref (E.1 + 40), .ref (E.1 + 41), .ref (E.1 + 42), .long (lN xa), .long (lN xb), .ref (E.1 + 43), .int (nI dt), .ref (E.1 + 44), .ref (E.1 + 45), .int (nI 0), .ref (E.1 + 46), .ref (E.1 + 47), .int (nI bn), .int (nI ta), .int (nI tl), .int (nI tk), .int (nI va), .ref (E.1 + 48), .ref (E.1 + 49)]))) 44 (cI E 4 (nF TE))) by funext z; simp only [hset]; (repeat' split) <;> first | rfl | (exfalso; omega) | (subst_vars; first | exact H1)).trans (hset_cg (hset_cg rfl rfl) rfl))⟩)
    · skip
      refine J_iload_n dX8_layOrders_25 rfl ?_
      refine J_bipush (v := nI 10) dX8_layOrders_26 (by decide +kernel) ?_
      refine J_iremN dX8_layOrders_28 (by omega) (by omega) (by omega) ?_
      refine J_i2lN dX8_layOrders_29 (by omega) ?_
      refine J_lconst (v := lN 1) dX8_layOrders_30 (by decide +kernel) ?_
      refine J_ldc2 dX8_layOrders_31 jqRX8_133 ?_
      refine J.stk (st' := .long (lN 4) :: [.long (lN 1), .long (lN (x % 10))]) rfl ?_
      refine J_callSr (M' := mX8_in) (d' := (1, 0, 0)) (rest := []) dX8_layOrders_34 jmX8_in jlRX8_56 (ctX8_inM (x % 10) 1 4   (by first | assumption | omega) (by first | assumption | omega) (by first | assumption | omega)) rfl rfl (Nat.le_of_ble_eq_true rfl) (Nat.le_of_ble_eq_true rfl) ⟨Nat.le_refl _, Nat.le_refl _⟩ ?_
      refine J_istore_n dX8_layOrders_37 (Nat.le_of_ble_eq_true rfl) (L' := [(2, .int (jb (1 ≤ (x % 10) ∧ (x % 10) ≤ 4))), (3, .int (nI x)), (0, .ref (E.1 + 38)), (1, .int (nI x))]) rfl ?_
      refine J_aload_n dX8_layOrders_38 rfl ?_
      refine J_dup dX8_layOrders_39 rfl ?_
      refine J_get 10 dX8_layOrders_40 jk8 (Nat.le_of_ble_eq_true rfl) jfRX8_142 hset_eq (by omega) rfl ?_
      refine J_iconst (v := nI 1) dX8_layOrders_43 (by decide +kernel) ?_
      refine J_iaddN dX8_layOrders_44 ?_
      refine J.stk (st' := [.int (nI 1), .ref (E.1 + 38)]) rfl ?_
      refine J_put 10 dX8_layOrders_45 jk8 (Nat.le_of_ble_eq_true rfl) jfRX8_142 hset_eq (by omega) rfl rfl rfl (Nat.le_of_ble_eq_true rfl) ?_
      refine J.cast (h' := (hset (hset h 38 (.inr (7, [.ref (E.1 + 39), .ref (E.1 + 40), .ref (E.1 + 41), .ref (E.1 + 42), .long (lN xa), .long (lN xb), .ref (E.1 + 43), .int (nI dt), .ref (E.1 + 44), .ref (E.1 + 45), .int (nI 0), .ref (E.1 + 46), .ref (E.1 + 47), .int (nI bn), .int (nI ta), .int (nI tl), .int (nI tk), .int (nI va), .ref (E.1 + 48), .ref (E.1 + 49)]))) 38 (.inr (7, [.ref (E.1 + 39), .ref (E.1 + 40), .ref (E.1 + 41), .ref (E.1 + 42), .long (lN xa), .long (lN xb), .ref (E.1 + 43), .int (nI dt), .ref (E.1 + 44), .ref (E.1 + 45), .int (nI 1), .ref (E.1 + 46), .ref (E.1 + 47), .int (nI bn), .int (nI ta), .int (nI tl), .int (nI tk), .int (nI va), .ref (E.1 + 48), .ref (E.1 + 49)])))) rfl ?_
      refine J.cast hset_hset ?_
      refine J_iload_n dX8_layOrders_48 rfl ?_
      refine J_bipush (v := nI 10) dX8_layOrders_49 (by decide +kernel) ?_
      refine J_idivN dX8_layOrders_51 (by omega) (by omega) (by omega) ?_
      refine J_istore_n dX8_layOrders_52 (Nat.le_of_ble_eq_true rfl) (L' := [(3, .int (nI (x / 10))), (2, .int (jb (1 ≤ (x % 10) ∧ (x % 10) ≤ 4))), (0, .ref (E.1 + 38)), (1, .int (nI x))]) rfl ?_
      refine J_goto (tgt := 17) dX8_layOrders_53 (by decide) ?_
      refine J_iload_n dX8_layOrders_17 rfl ?_
      refine J_if_leN (tgt := 56) dX8_layOrders_18 (by decide) (by omega) (fun c17 => (by exfalso; omega)) (fun c17 => ?_)
      refine J_iload_n dX8_layOrders_21 rfl ?_
      refine J_if_eqB (tgt := 56) dX8_layOrders_22 (by decide) (fun c18 => ?_) (fun c18 => ?_)
      · skip
        refine J_iload_n dX8_layOrders_56 rfl ?_
        refine J_istore_n dX8_layOrders_57 (Nat.le_of_ble_eq_true rfl) (L' := [(3, .int (nI x)), (2, .int (jb (1 ≤ (x % 10) ∧ (x % 10) ≤ 4))), (0, .ref (E.1 + 38)), (1, .int (nI x))]) rfl ?_
        refine J_aload_n dX8_layOrders_58 rfl ?_
        refine J_get 10 dX8_layOrders_59 jk8 (Nat.le_of_ble_eq_true rfl) jfRX8_142 hset_eq (by omega) rfl ?_
        refine J_iconst (v := nI 1) dX8_layOrders_62 (by decide +kernel) ?_
        refine J_isubN dX8_layOrders_63 (by omega) ?_
        refine J.stk (st' := [.int (nI 0)]) rfl ?_
        refine J_istore dX8_layOrders_64 (Nat.le_of_ble_eq_true rfl) (L' := [(4, .int (nI 0)), (3, .int (nI x)), (2, .int (jb (1 ≤ (x % 10) ∧ (x % 10) ≤ 4))), (0, .ref (E.1 + 38)), (1, .int (nI x))]) rfl ?_
        refine J_iload dX8_layOrders_66 rfl ?_
        refine J_if_ltN (tgt := 99) dX8_layOrders_68 (by decide) (by omega) ?_
        refine J_iload_n dX8_layOrders_71 rfl ?_
        refine J_if_eqB (tgt := 99) dX8_layOrders_72 (by decide) (fun c19 => ?_) (fun c19 => ?_)
        · skip
          refine J_iload_n dX8_layOrders_99 rfl ?_
          exact J_zret dX8_layOrders_100 rfl jb_nar ⟨Nat.le_refl _, Nat.le_refl _⟩ (by rw [hPP]; exact ⟨(congrArg some (by first | rfl | exact jbv0 (by omega) | (exfalso; exact hbad ⟨by omega, by omega, by omega, by omega, by omega⟩))), rfl, TE, 1, ((show (hset h 38 (.inr (7, [.ref (E.1 + 39), .ref (E.1 + 40), .ref (E.1 + 41), .ref (E.1 + 42), .long (lN xa), .long (lN xb), .ref (E.1 + 43), .int (nI dt), .ref (E.1 + 44), .ref (E.1 + 45), .int (nI 1), .ref (E.1 + 46), .ref (E.1 + 47), .int (nI bn), .int (nI ta), .int (nI tl), .int (nI tk), .int (nI va), .ref (E.1 + 48), .ref (E.1 + 49)]))) = (hset (hset h 38 (.inr (7, [.ref (E.1 + 39), .ref (E.1 + 40), .ref (E.1 + 41), .ref (E.1 + 42), .long (lN xa), .long (lN xb), .ref (E.1 + 43), .int (nI dt), .ref (E.1 + 44), .ref (E.1 + 45), .int (nI 1), .ref (E.1 + 46), .ref (E.1 + 47), .int (nI bn), .int (nI ta), .int (nI tl), .int (nI tk), .int (nI va), .ref (E.1 + 48), .ref (E.1 + 49)]))) 44 (cI E 4 (nF TE))) by funext z; simp only [hset]; (repeat' split) <;> first | rfl | (exfalso; omega) | (subst_vars; first | exact H1)).trans (hset_cg (hset_cg rfl rfl) rfl))⟩)
        · skip
          refine J_aload_n dX8_layOrders_75 rfl ?_
          refine J_get 8 dX8_layOrders_76 jk8 (Nat.le_of_ble_eq_true rfl) jfRX8_30 hset_eq (by omega) rfl ?_
          refine J_iload dX8_layOrders_79 rfl ?_
          refine J_iload_n dX8_layOrders_81 rfl ?_
          refine J_bipush (v := nI 10) dX8_layOrders_82 (by decide +kernel) ?_
          refine J_iremN dX8_layOrders_84 (by omega) (by omega) (by omega) ?_
          refine J_iconst (v := nI 1) dX8_layOrders_85 (by decide +kernel) ?_
          refine J_isubN dX8_layOrders_86 (by omega) ?_
          refine J_iastN (i := 0) (v := (x % 10) - 1) dX8_layOrders_87 ((hset_ne (by omega)).trans H1) (by omega) (by omega) (by omega) ?_
          refine J_iload_n dX8_layOrders_88 rfl ?_
          refine J_bipush (v := nI 10) dX8_layOrders_89 (by decide +kernel) ?_
          refine J_idivN dX8_layOrders_91 (by omega) (by omega) (by omega) ?_
          refine J_istore_n dX8_layOrders_92 (Nat.le_of_ble_eq_true rfl) (L' := [(3, .int (nI (x / 10))), (4, .int (nI 0)), (2, .int (jb (1 ≤ (x % 10) ∧ (x % 10) ≤ 4))), (0, .ref (E.1 + 38)), (1, .int (nI x))]) rfl ?_
          refine J_iinc (q := 1) (v := (-1)) dX8_layOrders_93 rfl (by decide +kernel) (Nat.le_of_ble_eq_true rfl) (L' := [(4, .int (-1)), (3, .int (nI (x / 10))), (2, .int (jb (1 ≤ (x % 10) ∧ (x % 10) ≤ 4))), (0, .ref (E.1 + 38)), (1, .int (nI x))]) rfl ?_
          refine J_goto (tgt := 66) dX8_layOrders_96 (by decide) ?_
          refine J_iload dX8_layOrders_66 rfl ?_
          refine J_if_lt (tgt := 99) dX8_layOrders_68 (by decide) (fun _ => ?_) (fun z => absurd (by decide +kernel) z)
          refine J_iload_n dX8_layOrders_99 rfl ?_
          exact J_zret dX8_layOrders_100 rfl jb_nar ⟨Nat.le_refl _, Nat.le_refl _⟩ (by rw [hPP]; exact ⟨(congrArg some (by first | rfl | exact jbv0 (by omega) | (exfalso; exact hbad ⟨by omega, by omega, by omega, by omega, by omega⟩))), rfl, (updN TE 0 ((x % 10) - 1)), 1, rfl⟩)
      · skip
        refine J_iload_n dX8_layOrders_25 rfl ?_
        refine J_bipush (v := nI 10) dX8_layOrders_26 (by decide +kernel) ?_
        refine J_iremN dX8_layOrders_28 (by omega) (by omega) (by omega) ?_
        refine J_i2lN dX8_layOrders_29 (by omega) ?_
        refine J_lconst (v := lN 1) dX8_layOrders_30 (by decide +kernel) ?_
        refine J_ldc2 dX8_layOrders_31 jqRX8_133 ?_
        refine J.stk (st' := .long (lN 4) :: [.long (lN 1), .long (lN ((x / 10) % 10))]) rfl ?_
        refine J_callSr (M' := mX8_in) (d' := (1, 0, 0)) (rest := []) dX8_layOrders_34 jmX8_in jlRX8_56 (ctX8_inM ((x / 10) % 10) 1 4   (by first | assumption | omega) (by first | assumption | omega) (by first | assumption | omega)) rfl rfl (Nat.le_of_ble_eq_true rfl) (Nat.le_of_ble_eq_true rfl) ⟨Nat.le_refl _, Nat.le_refl _⟩ ?_
        refine J_istore_n dX8_layOrders_37 (Nat.le_of_ble_eq_true rfl) (L' := [(2, .int (jb (1 ≤ ((x / 10) % 10) ∧ ((x / 10) % 10) ≤ 4))), (3, .int (nI (x / 10))), (0, .ref (E.1 + 38)), (1, .int (nI x))]) rfl ?_
        refine J_aload_n dX8_layOrders_38 rfl ?_
        refine J_dup dX8_layOrders_39 rfl ?_
        refine J_get 10 dX8_layOrders_40 jk8 (Nat.le_of_ble_eq_true rfl) jfRX8_142 hset_eq (by omega) rfl ?_
        refine J_iconst (v := nI 1) dX8_layOrders_43 (by decide +kernel) ?_
        refine J_iaddN dX8_layOrders_44 ?_
        refine J.stk (st' := [.int (nI 2), .ref (E.1 + 38)]) rfl ?_
        refine J_put 10 dX8_layOrders_45 jk8 (Nat.le_of_ble_eq_true rfl) jfRX8_142 hset_eq (by omega) rfl rfl rfl (Nat.le_of_ble_eq_true rfl) ?_
        refine J.cast (h' := (hset (hset h 38 (.inr (7, [.ref (E.1 + 39), .ref (E.1 + 40), .ref (E.1 + 41), .ref (E.1 + 42), .long (lN xa), .long (lN xb), .ref (E.1 + 43), .int (nI dt), .ref (E.1 + 44), .ref (E.1 + 45), .int (nI 1), .ref (E.1 + 46), .ref (E.1 + 47), .int (nI bn), .int (nI ta), .int (nI tl), .int (nI tk), .int (nI va), .ref (E.1 + 48), .ref (E.1 + 49)]))) 38 (.inr (7, [.ref (E.1 + 39), .ref (E.1 + 40), .ref (E.1 + 41), .ref (E.1 + 42), .long (lN xa), .long (lN xb), .ref (E.1 + 43), .int (nI dt), .ref (E.1 + 44), .ref (E.1 + 45), .int (nI 2), .ref (E.1 + 46), .ref (E.1 + 47), .int (nI bn), .int (nI ta), .int (nI tl), .int (nI tk), .int (nI va), .ref (E.1 + 48), .ref (E.1 + 49)])))) rfl ?_
        refine J.cast hset_hset ?_
        refine J_iload_n dX8_layOrders_48 rfl ?_
        refine J_bipush (v := nI 10) dX8_layOrders_49 (by decide +kernel) ?_
        refine J_idivN dX8_layOrders_51 (by omega) (by omega) (by omega) ?_
        refine J_istore_n dX8_layOrders_52 (Nat.le_of_ble_eq_true rfl) (L' := [(3, .int (nI ((x / 10) / 10))), (2, .int (jb (1 ≤ ((x / 10) % 10) ∧ ((x / 10) % 10) ≤ 4))), (0, .ref (E.1 + 38)), (1, .int (nI x))]) rfl ?_
        refine J_goto (tgt := 17) dX8_layOrders_53 (by decide) ?_
        refine J_iload_n dX8_layOrders_17 rfl ?_
        refine J_if_leN (tgt := 56) dX8_layOrders_18 (by decide) (by omega) (fun c20 => (by exfalso; omega)) (fun c20 => ?_)
        refine J_iload_n dX8_layOrders_21 rfl ?_
        refine J_if_eqB (tgt := 56) dX8_layOrders_22 (by decide) (fun c21 => ?_) (fun c21 => ?_)
        · skip
          refine J_iload_n dX8_layOrders_56 rfl ?_
          refine J_istore_n dX8_layOrders_57 (Nat.le_of_ble_eq_true rfl) (L' := [(3, .int (nI x)), (2, .int (jb (1 ≤ ((x / 10) % 10) ∧ ((x / 10) % 10) ≤ 4))), (0, .ref (E.1 + 38)), (1, .int (nI x))]) rfl ?_
          refine J_aload_n dX8_layOrders_58 rfl ?_
          refine J_get 10 dX8_layOrders_59 jk8 (Nat.le_of_ble_eq_true rfl) jfRX8_142 hset_eq (by omega) rfl ?_
          refine J_iconst (v := nI 1) dX8_layOrders_62 (by decide +kernel) ?_
          refine J_isubN dX8_layOrders_63 (by omega) ?_
          refine J.stk (st' := [.int (nI 1)]) rfl ?_
          refine J_istore dX8_layOrders_64 (Nat.le_of_ble_eq_true rfl) (L' := [(4, .int (nI 1)), (3, .int (nI x)), (2, .int (jb (1 ≤ ((x / 10) % 10) ∧ ((x / 10) % 10) ≤ 4))), (0, .ref (E.1 + 38)), (1, .int (nI x))]) rfl ?_
          refine J_iload dX8_layOrders_66 rfl ?_
          refine J_if_ltN (tgt := 99) dX8_layOrders_68 (by decide) (by omega) ?_
          refine J_iload_n dX8_layOrders_71 rfl ?_
          refine J_if_eqB (tgt := 99) dX8_layOrders_72 (by decide) (fun c22 => ?_) (fun c22 => ?_)
          · skip
            refine J_iload_n dX8_layOrders_99 rfl ?_
            exact J_zret dX8_layOrders_100 rfl jb_nar ⟨Nat.le_refl _, Nat.le_refl _⟩ (by rw [hPP]; exact ⟨(congrArg some (by first | rfl | exact jbv0 (by omega) | (exfalso; exact hbad ⟨by omega, by omega, by omega, by omega, by omega⟩))), rfl, TE, 2, ((show (hset h 38 (.inr (7, [.ref (E.1 + 39), .ref (E.1 + 40), .ref (E.1 + 41), .ref (E.1 + 42), .long (lN xa), .long (lN xb), .ref (E.1 + 43), .int (nI dt), .ref (E.1 + 44), .ref (E.1 + 45), .int (nI 2), .ref (E.1 + 46), .ref (E.1 + 47), .int (nI bn), .int (nI ta), .int (nI tl), .int (nI tk), .int (nI va), .ref (E.1 + 48), .ref (E.1 + 49)]))) = (hset (hset h 38 (.inr (7, [.ref (E.1 + 39), .ref (E.1 + 40), .ref (E.1 + 41), .ref (E.1 + 42), .long (lN xa), .long (lN xb), .ref (E.1 + 43), .int (nI dt), .ref (E.1 + 44), .ref (E.1 + 45), .int (nI 2), .ref (E.1 + 46), .ref (E.1 + 47), .int (nI bn), .int (nI ta), .int (nI tl), .int (nI tk), .int (nI va), .ref (E.1 + 48), .ref (E.1 + 49)]))) 44 (cI E 4 (nF TE))) by funext z; simp only [hset]; (repeat' split) <;> first | rfl | (exfalso; omega) | (subst_vars; first | exact H1)).trans (hset_cg (hset_cg rfl rfl) rfl))⟩)
          · skip
            refine J_aload_n dX8_layOrders_75 rfl ?_
            refine J_get 8 dX8_layOrders_76 jk8 (Nat.le_of_ble_eq_true rfl) jfRX8_30 hset_eq (by omega) rfl ?_
            refine J_iload dX8_layOrders_79 rfl ?_
            refine J_iload_n dX8_layOrders_81 rfl ?_
            refine J_bipush (v := nI 10) dX8_layOrders_82 (by decide +kernel) ?_
            refine J_iremN dX8_layOrders_84 (by omega) (by omega) (by omega) ?_
            refine J_iconst (v := nI 1) dX8_layOrders_85 (by decide +kernel) ?_
            refine J_isubN dX8_layOrders_86 (by omega) ?_
            refine J_iastN (i := 1) (v := (x % 10) - 1) dX8_layOrders_87 ((hset_ne (by omega)).trans H1) (by omega) (by omega) (by omega) ?_
            refine J_iload_n dX8_layOrders_88 rfl ?_
            refine J_bipush (v := nI 10) dX8_layOrders_89 (by decide +kernel) ?_
            refine J_idivN dX8_layOrders_91 (by omega) (by omega) (by omega) ?_
            refine J_istore_n dX8_layOrders_92 (Nat.le_of_ble_eq_true rfl) (L' := [(3, .int (nI (x / 10))), (4, .int (nI 1)), (2, .int (jb (1 ≤ ((x / 10) % 10) ∧ ((x / 10) % 10) ≤ 4))), (0, .ref (E.1 + 38)), (1, .int (nI x))]) rfl ?_
            refine J_iinc (q := 1) (v := (nI 0)) dX8_layOrders_93 rfl (by decide +kernel) (Nat.le_of_ble_eq_true rfl) (L' := [(4, .int (nI 0)), (3, .int (nI (x / 10))), (2, .int (jb (1 ≤ ((x / 10) % 10) ∧ ((x / 10) % 10) ≤ 4))), (0, .ref (E.1 + 38)), (1, .int (nI x))]) rfl ?_
            refine J_goto (tgt := 66) dX8_layOrders_96 (by decide) ?_
            refine J_iload dX8_layOrders_66 rfl ?_
            refine J_if_ltN (tgt := 99) dX8_layOrders_68 (by decide) (by omega) ?_
            refine J_iload_n dX8_layOrders_71 rfl ?_
            refine J_if_eqB (tgt := 99) dX8_layOrders_72 (by decide) (fun c23 => ?_) (fun c23 => ?_)
            · skip
              refine J_iload_n dX8_layOrders_99 rfl ?_
              exact J_zret dX8_layOrders_100 rfl jb_nar ⟨Nat.le_refl _, Nat.le_refl _⟩ (by rw [hPP]; exact ⟨(congrArg some (by first | rfl | exact jbv0 (by omega) | (exfalso; exact hbad ⟨by omega, by omega, by omega, by omega, by omega⟩))), rfl, (updN TE 1 ((x % 10) - 1)), 2, rfl⟩)
            · skip
              refine J_aload_n dX8_layOrders_75 rfl ?_
              refine J_get 8 dX8_layOrders_76 jk8 (Nat.le_of_ble_eq_true rfl) jfRX8_30 ((hset_ne (by omega)).trans hset_eq) (by omega) rfl ?_
              refine J_iload dX8_layOrders_79 rfl ?_
              refine J_iload_n dX8_layOrders_81 rfl ?_
              refine J_bipush (v := nI 10) dX8_layOrders_82 (by decide +kernel) ?_
              refine J_iremN dX8_layOrders_84 (by omega) (by omega) (by omega) ?_
              refine J_iconst (v := nI 1) dX8_layOrders_85 (by decide +kernel) ?_
              refine J_isubN dX8_layOrders_86 (by omega) ?_
              refine J_iastN (i := 0) (v := ((x / 10) % 10) - 1) dX8_layOrders_87 hset_eq (by omega) (by omega) (by omega) ?_
              refine J.cast hset_hset ?_
              refine J_iload_n dX8_layOrders_88 rfl ?_
              refine J_bipush (v := nI 10) dX8_layOrders_89 (by decide +kernel) ?_
              refine J_idivN dX8_layOrders_91 (by omega) (by omega) (by omega) ?_
              refine J_istore_n dX8_layOrders_92 (Nat.le_of_ble_eq_true rfl) (L' := [(3, .int (nI ((x / 10) / 10))), (4, .int (nI 0)), (2, .int (jb (1 ≤ ((x / 10) % 10) ∧ ((x / 10) % 10) ≤ 4))), (0, .ref (E.1 + 38)), (1, .int (nI x))]) rfl ?_
              refine J_iinc (q := 1) (v := (-1)) dX8_layOrders_93 rfl (by decide +kernel) (Nat.le_of_ble_eq_true rfl) (L' := [(4, .int (-1)), (3, .int (nI ((x / 10) / 10))), (2, .int (jb (1 ≤ ((x / 10) % 10) ∧ ((x / 10) % 10) ≤ 4))), (0, .ref (E.1 + 38)), (1, .int (nI x))]) rfl ?_
              refine J_goto (tgt := 66) dX8_layOrders_96 (by decide) ?_
              refine J_iload dX8_layOrders_66 rfl ?_
              refine J_if_lt (tgt := 99) dX8_layOrders_68 (by decide) (fun _ => ?_) (fun z => absurd (by decide +kernel) z)
              refine J_iload_n dX8_layOrders_99 rfl ?_
              exact J_zret dX8_layOrders_100 rfl jb_nar ⟨Nat.le_refl _, Nat.le_refl _⟩ (by rw [hPP]; exact ⟨(congrArg some (by first | rfl | exact jbv0 (by omega) | (exfalso; exact hbad ⟨by omega, by omega, by omega, by omega, by omega⟩))), rfl, (updN (updN TE 1 ((x % 10) - 1)) 0 (((x / 10) % 10) - 1)), 2, rfl⟩)
        · skip
          refine J_iload_n dX8_layOrders_25 rfl ?_
          refine J_bipush (v := nI 10) dX8_layOrders_26 (by decide +kernel) ?_
          refine J_iremN dX8_layOrders_28 (by omega) (by omega) (by omega) ?_
          refine J_i2lN dX8_layOrders_29 (by omega) ?_
          refine J_lconst (v := lN 1) dX8_layOrders_30 (by decide +kernel) ?_
          refine J_ldc2 dX8_layOrders_31 jqRX8_133 ?_
          refine J.stk (st' := .long (lN 4) :: [.long (lN 1), .long (lN (((x / 10) / 10) % 10))]) rfl ?_
          refine J_callSr (M' := mX8_in) (d' := (1, 0, 0)) (rest := []) dX8_layOrders_34 jmX8_in jlRX8_56 (ctX8_inM (((x / 10) / 10) % 10) 1 4   (by first | assumption | omega) (by first | assumption | omega) (by first | assumption | omega)) rfl rfl (Nat.le_of_ble_eq_true rfl) (Nat.le_of_ble_eq_true rfl) ⟨Nat.le_refl _, Nat.le_refl _⟩ ?_
          refine J_istore_n dX8_layOrders_37 (Nat.le_of_ble_eq_true rfl) (L' := [(2, .int (jb (1 ≤ (((x / 10) / 10) % 10) ∧ (((x / 10) / 10) % 10) ≤ 4))), (3, .int (nI ((x / 10) / 10))), (0, .ref (E.1 + 38)), (1, .int (nI x))]) rfl ?_
          refine J_aload_n dX8_layOrders_38 rfl ?_
          refine J_dup dX8_layOrders_39 rfl ?_
          refine J_get 10 dX8_layOrders_40 jk8 (Nat.le_of_ble_eq_true rfl) jfRX8_142 hset_eq (by omega) rfl ?_
          refine J_iconst (v := nI 1) dX8_layOrders_43 (by decide +kernel) ?_
          refine J_iaddN dX8_layOrders_44 ?_
          refine J.stk (st' := [.int (nI 3), .ref (E.1 + 38)]) rfl ?_
          refine J_put 10 dX8_layOrders_45 jk8 (Nat.le_of_ble_eq_true rfl) jfRX8_142 hset_eq (by omega) rfl rfl rfl (Nat.le_of_ble_eq_true rfl) ?_
          refine J.cast (h' := (hset (hset h 38 (.inr (7, [.ref (E.1 + 39), .ref (E.1 + 40), .ref (E.1 + 41), .ref (E.1 + 42), .long (lN xa), .long (lN xb), .ref (E.1 + 43), .int (nI dt), .ref (E.1 + 44), .ref (E.1 + 45), .int (nI 2), .ref (E.1 + 46), .ref (E.1 + 47), .int (nI bn), .int (nI ta), .int (nI tl), .int (nI tk), .int (nI va), .ref (E.1 + 48), .ref (E.1 + 49)]))) 38 (.inr (7, [.ref (E.1 + 39), .ref (E.1 + 40), .ref (E.1 + 41), .ref (E.1 + 42), .long (lN xa), .long (lN xb), .ref (E.1 + 43), .int (nI dt), .ref (E.1 + 44), .ref (E.1 + 45), .int (nI 3), .ref (E.1 + 46), .ref (E.1 + 47), .int (nI bn), .int (nI ta), .int (nI tl), .int (nI tk), .int (nI va), .ref (E.1 + 48), .ref (E.1 + 49)])))) rfl ?_
          refine J.cast hset_hset ?_
          refine J_iload_n dX8_layOrders_48 rfl ?_
          refine J_bipush (v := nI 10) dX8_layOrders_49 (by decide +kernel) ?_
          refine J_idivN dX8_layOrders_51 (by omega) (by omega) (by omega) ?_
          refine J_istore_n dX8_layOrders_52 (Nat.le_of_ble_eq_true rfl) (L' := [(3, .int (nI (((x / 10) / 10) / 10))), (2, .int (jb (1 ≤ (((x / 10) / 10) % 10) ∧ (((x / 10) / 10) % 10) ≤ 4))), (0, .ref (E.1 + 38)), (1, .int (nI x))]) rfl ?_
          refine J_goto (tgt := 17) dX8_layOrders_53 (by decide) ?_
          refine J_iload_n dX8_layOrders_17 rfl ?_
          refine J_if_leN (tgt := 56) dX8_layOrders_18 (by decide) (by omega) (fun c24 => ?_) (fun c24 => (by exfalso; omega))
          refine J_iload_n dX8_layOrders_56 rfl ?_
          refine J_istore_n dX8_layOrders_57 (Nat.le_of_ble_eq_true rfl) (L' := [(3, .int (nI x)), (2, .int (jb (1 ≤ (((x / 10) / 10) % 10) ∧ (((x / 10) / 10) % 10) ≤ 4))), (0, .ref (E.1 + 38)), (1, .int (nI x))]) rfl ?_
          refine J_aload_n dX8_layOrders_58 rfl ?_
          refine J_get 10 dX8_layOrders_59 jk8 (Nat.le_of_ble_eq_true rfl) jfRX8_142 hset_eq (by omega) rfl ?_
          refine J_iconst (v := nI 1) dX8_layOrders_62 (by decide +kernel) ?_
          refine J_isubN dX8_layOrders_63 (by omega) ?_
          refine J.stk (st' := [.int (nI 2)]) rfl ?_
          refine J_istore dX8_layOrders_64 (Nat.le_of_ble_eq_true rfl) (L' := [(4, .int (nI 2)), (3, .int (nI x)), (2, .int (jb (1 ≤ (((x / 10) / 10) % 10) ∧ (((x / 10) / 10) % 10) ≤ 4))), (0, .ref (E.1 + 38)), (1, .int (nI x))]) rfl ?_
          refine J_iload dX8_layOrders_66 rfl ?_
          refine J_if_ltN (tgt := 99) dX8_layOrders_68 (by decide) (by omega) ?_
          refine J_iload_n dX8_layOrders_71 rfl ?_
          refine J_if_eqB (tgt := 99) dX8_layOrders_72 (by decide) (fun c25 => ?_) (fun c25 => ?_)
          · skip
            refine J_iload_n dX8_layOrders_99 rfl ?_
            exact J_zret dX8_layOrders_100 rfl jb_nar ⟨Nat.le_refl _, Nat.le_refl _⟩ (by rw [hPP]; exact ⟨(congrArg some (by first | rfl | exact jbv0 (by omega) | (exfalso; exact hbad ⟨by omega, by omega, by omega, by omega, by omega⟩))), rfl, TE, 3, ((show (hset h 38 (.inr (7, [.ref (E.1 + 39), .ref (E.1 + 40), .ref (E.1 + 41), .ref (E.1 + 42), .long (lN xa), .long (lN xb), .ref (E.1 + 43), .int (nI dt), .ref (E.1 + 44), .ref (E.1 + 45), .int (nI 3), .ref (E.1 + 46), .ref (E.1 + 47), .int (nI bn), .int (nI ta), .int (nI tl), .int (nI tk), .int (nI va), .ref (E.1 + 48), .ref (E.1 + 49)]))) = (hset (hset h 38 (.inr (7, [.ref (E.1 + 39), .ref (E.1 + 40), .ref (E.1 + 41), .ref (E.1 + 42), .long (lN xa), .long (lN xb), .ref (E.1 + 43), .int (nI dt), .ref (E.1 + 44), .ref (E.1 + 45), .int (nI 3), .ref (E.1 + 46), .ref (E.1 + 47), .int (nI bn), .int (nI ta), .int (nI tl), .int (nI tk), .int (nI va), .ref (E.1 + 48), .ref (E.1 + 49)]))) 44 (cI E 4 (nF TE))) by funext z; simp only [hset]; (repeat' split) <;> first | rfl | (exfalso; omega) | (subst_vars; first | exact H1)).trans (hset_cg (hset_cg rfl rfl) rfl))⟩)
          · skip
            refine J_aload_n dX8_layOrders_75 rfl ?_
            refine J_get 8 dX8_layOrders_76 jk8 (Nat.le_of_ble_eq_true rfl) jfRX8_30 hset_eq (by omega) rfl ?_
            refine J_iload dX8_layOrders_79 rfl ?_
            refine J_iload_n dX8_layOrders_81 rfl ?_
            refine J_bipush (v := nI 10) dX8_layOrders_82 (by decide +kernel) ?_
            refine J_iremN dX8_layOrders_84 (by omega) (by omega) (by omega) ?_
            refine J_iconst (v := nI 1) dX8_layOrders_85 (by decide +kernel) ?_
            refine J_isubN dX8_layOrders_86 (by omega) ?_
            refine J_iastN (i := 2) (v := (x % 10) - 1) dX8_layOrders_87 ((hset_ne (by omega)).trans H1) (by omega) (by omega) (by omega) ?_
            refine J_iload_n dX8_layOrders_88 rfl ?_
            refine J_bipush (v := nI 10) dX8_layOrders_89 (by decide +kernel) ?_
            refine J_idivN dX8_layOrders_91 (by omega) (by omega) (by omega) ?_
            refine J_istore_n dX8_layOrders_92 (Nat.le_of_ble_eq_true rfl) (L' := [(3, .int (nI (x / 10))), (4, .int (nI 2)), (2, .int (jb (1 ≤ (((x / 10) / 10) % 10) ∧ (((x / 10) / 10) % 10) ≤ 4))), (0, .ref (E.1 + 38)), (1, .int (nI x))]) rfl ?_
            refine J_iinc (q := 1) (v := (nI 1)) dX8_layOrders_93 rfl (by decide +kernel) (Nat.le_of_ble_eq_true rfl) (L' := [(4, .int (nI 1)), (3, .int (nI (x / 10))), (2, .int (jb (1 ≤ (((x / 10) / 10) % 10) ∧ (((x / 10) / 10) % 10) ≤ 4))), (0, .ref (E.1 + 38)), (1, .int (nI x))]) rfl ?_
            refine J_goto (tgt := 66) dX8_layOrders_96 (by decide) ?_
            refine J_iload dX8_layOrders_66 rfl ?_
            refine J_if_ltN (tgt := 99) dX8_layOrders_68 (by decide) (by omega) ?_
            refine J_iload_n dX8_layOrders_71 rfl ?_
            refine J_if_eqB (tgt := 99) dX8_layOrders_72 (by decide) (fun c26 => ?_) (fun c26 => ?_)
            · skip
              refine J_iload_n dX8_layOrders_99 rfl ?_
              exact J_zret dX8_layOrders_100 rfl jb_nar ⟨Nat.le_refl _, Nat.le_refl _⟩ (by rw [hPP]; exact ⟨(congrArg some (by first | rfl | exact jbv0 (by omega) | (exfalso; exact hbad ⟨by omega, by omega, by omega, by omega, by omega⟩))), rfl, (updN TE 2 ((x % 10) - 1)), 3, rfl⟩)
            · skip
              refine J_aload_n dX8_layOrders_75 rfl ?_
              refine J_get 8 dX8_layOrders_76 jk8 (Nat.le_of_ble_eq_true rfl) jfRX8_30 ((hset_ne (by omega)).trans hset_eq) (by omega) rfl ?_
              refine J_iload dX8_layOrders_79 rfl ?_
              refine J_iload_n dX8_layOrders_81 rfl ?_
              refine J_bipush (v := nI 10) dX8_layOrders_82 (by decide +kernel) ?_
              refine J_iremN dX8_layOrders_84 (by omega) (by omega) (by omega) ?_
              refine J_iconst (v := nI 1) dX8_layOrders_85 (by decide +kernel) ?_
              refine J_isubN dX8_layOrders_86 (by omega) ?_
              refine J_iastN (i := 1) (v := ((x / 10) % 10) - 1) dX8_layOrders_87 hset_eq (by omega) (by omega) (by omega) ?_
              refine J.cast hset_hset ?_
              refine J_iload_n dX8_layOrders_88 rfl ?_
              refine J_bipush (v := nI 10) dX8_layOrders_89 (by decide +kernel) ?_
              refine J_idivN dX8_layOrders_91 (by omega) (by omega) (by omega) ?_
              refine J_istore_n dX8_layOrders_92 (Nat.le_of_ble_eq_true rfl) (L' := [(3, .int (nI ((x / 10) / 10))), (4, .int (nI 1)), (2, .int (jb (1 ≤ (((x / 10) / 10) % 10) ∧ (((x / 10) / 10) % 10) ≤ 4))), (0, .ref (E.1 + 38)), (1, .int (nI x))]) rfl ?_
              refine J_iinc (q := 1) (v := (nI 0)) dX8_layOrders_93 rfl (by decide +kernel) (Nat.le_of_ble_eq_true rfl) (L' := [(4, .int (nI 0)), (3, .int (nI ((x / 10) / 10))), (2, .int (jb (1 ≤ (((x / 10) / 10) % 10) ∧ (((x / 10) / 10) % 10) ≤ 4))), (0, .ref (E.1 + 38)), (1, .int (nI x))]) rfl ?_
              refine J_goto (tgt := 66) dX8_layOrders_96 (by decide) ?_
              refine J_iload dX8_layOrders_66 rfl ?_
              refine J_if_ltN (tgt := 99) dX8_layOrders_68 (by decide) (by omega) ?_
              refine J_iload_n dX8_layOrders_71 rfl ?_
              refine J_if_eqB (tgt := 99) dX8_layOrders_72 (by decide) (fun c27 => ?_) (fun c27 => ?_)
              · skip
                refine J_iload_n dX8_layOrders_99 rfl ?_
                exact J_zret dX8_layOrders_100 rfl jb_nar ⟨Nat.le_refl _, Nat.le_refl _⟩ (by rw [hPP]; exact ⟨(congrArg some (by first | rfl | exact jbv0 (by omega) | (exfalso; exact hbad ⟨by omega, by omega, by omega, by omega, by omega⟩))), rfl, (updN (updN TE 2 ((x % 10) - 1)) 1 (((x / 10) % 10) - 1)), 3, rfl⟩)
              · skip
                refine J_aload_n dX8_layOrders_75 rfl ?_
                refine J_get 8 dX8_layOrders_76 jk8 (Nat.le_of_ble_eq_true rfl) jfRX8_30 ((hset_ne (by omega)).trans hset_eq) (by omega) rfl ?_
                refine J_iload dX8_layOrders_79 rfl ?_
                refine J_iload_n dX8_layOrders_81 rfl ?_
                refine J_bipush (v := nI 10) dX8_layOrders_82 (by decide +kernel) ?_
                refine J_iremN dX8_layOrders_84 (by omega) (by omega) (by omega) ?_
                refine J_iconst (v := nI 1) dX8_layOrders_85 (by decide +kernel) ?_
                refine J_isubN dX8_layOrders_86 (by omega) ?_
                refine J_iastN (i := 0) (v := (((x / 10) / 10) % 10) - 1) dX8_layOrders_87 hset_eq (by omega) (by omega) (by omega) ?_
                refine J.cast hset_hset ?_
                refine J_iload_n dX8_layOrders_88 rfl ?_
                refine J_bipush (v := nI 10) dX8_layOrders_89 (by decide +kernel) ?_
                refine J_idivN dX8_layOrders_91 (by omega) (by omega) (by omega) ?_
                refine J_istore_n dX8_layOrders_92 (Nat.le_of_ble_eq_true rfl) (L' := [(3, .int (nI (((x / 10) / 10) / 10))), (4, .int (nI 0)), (2, .int (jb (1 ≤ (((x / 10) / 10) % 10) ∧ (((x / 10) / 10) % 10) ≤ 4))), (0, .ref (E.1 + 38)), (1, .int (nI x))]) rfl ?_
                refine J_iinc (q := 1) (v := (-1)) dX8_layOrders_93 rfl (by decide +kernel) (Nat.le_of_ble_eq_true rfl) (L' := [(4, .int (-1)), (3, .int (nI (((x / 10) / 10) / 10))), (2, .int (jb (1 ≤ (((x / 10) / 10) % 10) ∧ (((x / 10) / 10) % 10) ≤ 4))), (0, .ref (E.1 + 38)), (1, .int (nI x))]) rfl ?_
                refine J_goto (tgt := 66) dX8_layOrders_96 (by decide) ?_
                refine J_iload dX8_layOrders_66 rfl ?_
                refine J_if_lt (tgt := 99) dX8_layOrders_68 (by decide) (fun _ => ?_) (fun z => absurd (by decide +kernel) z)
                refine J_iload_n dX8_layOrders_99 rfl ?_
                exact J_zret dX8_layOrders_100 rfl jb_nar ⟨Nat.le_refl _, Nat.le_refl _⟩ (by rw [hPP]; exact ⟨(congrArg some (by first | rfl | exact jbv0 (by omega) | (exfalso; exact hbad ⟨by omega, by omega, by omega, by omega, by omega⟩))), rfl, (updN (updN (updN TE 2 ((x % 10) - 1)) 1 (((x / 10) % 10) - 1)) 0 ((((x / 10) / 10) % 10) - 1)), 3, rfl⟩)
  · skip
    refine J_iload_n dX8_layOrders_0 rfl ?_
    refine J_i2lN dX8_layOrders_1 (by omega) ?_
    refine J_lconst (v := lN 0) dX8_layOrders_2 (by decide +kernel) ?_
    refine J_ldc2 dX8_layOrders_3 jqRX8_140 ?_
    refine J.stk (st' := .long (lN 4444) :: [.long (lN 0), .long (lN x)]) rfl ?_
    refine J_callSr (M' := mX8_in) (d' := (1, 0, 0)) (rest := []) dX8_layOrders_6 jmX8_in jlRX8_56 (ctX8_inM x 0 4444   (by first | assumption | omega) (by first | assumption | omega) (by first | assumption | omega)) rfl rfl (Nat.le_of_ble_eq_true rfl) (Nat.le_of_ble_eq_true rfl) ⟨Nat.le_refl _, Nat.le_refl _⟩ ?_
    refine J_istore_n dX8_layOrders_9 (Nat.le_of_ble_eq_true rfl) (L' := [(2, .int (jb (0 ≤ x ∧ x ≤ 4444))), (0, .ref (E.1 + 38)), (1, .int (nI x))]) rfl ?_
    refine J_aload_n dX8_layOrders_10 rfl ?_
    refine J_iconst (v := nI 0) dX8_layOrders_11 (by decide +kernel) ?_
    refine J_put 10 dX8_layOrders_12 jk8 (Nat.le_of_ble_eq_true rfl) jfRX8_142 H0 (by omega) rfl rfl rfl (Nat.le_of_ble_eq_true rfl) ?_
    refine J.cast (h' := (hset h 38 (.inr (7, [.ref (E.1 + 39), .ref (E.1 + 40), .ref (E.1 + 41), .ref (E.1 + 42), .long (lN xa), .long (lN xb), .ref (E.1 + 43), .int (nI dt), .ref (E.1 + 44), .ref (E.1 + 45), .int (nI 0), .ref (E.1 + 46), .ref (E.1 + 47), .int (nI bn), .int (nI ta), .int (nI tl), .int (nI tk), .int (nI va), .ref (E.1 + 48), .ref (E.1 + 49)])))) rfl ?_
    refine J_iload_n dX8_layOrders_15 rfl ?_
    refine J_istore_n dX8_layOrders_16 (Nat.le_of_ble_eq_true rfl) (L' := [(3, .int (nI x)), (2, .int (jb (0 ≤ x ∧ x ≤ 4444))), (0, .ref (E.1 + 38)), (1, .int (nI x))]) rfl ?_
    refine J_iload_n dX8_layOrders_17 rfl ?_
    refine J_if_leN (tgt := 56) dX8_layOrders_18 (by decide) (by omega) (fun c28 => (by exfalso; omega)) (fun c28 => ?_)
    refine J_iload_n dX8_layOrders_21 rfl ?_
    refine J_if_eqB (tgt := 56) dX8_layOrders_22 (by decide) (fun c29 => ?_) (fun c29 => ?_)
    · skip
      refine J_iload_n dX8_layOrders_56 rfl ?_
      refine J_istore_n dX8_layOrders_57 (Nat.le_of_ble_eq_true rfl) (L' := [(3, .int (nI x)), (2, .int (jb (0 ≤ x ∧ x ≤ 4444))), (0, .ref (E.1 + 38)), (1, .int (nI x))]) rfl ?_
      refine J_aload_n dX8_layOrders_58 rfl ?_
      refine J_get 10 dX8_layOrders_59 jk8 (Nat.le_of_ble_eq_true rfl) jfRX8_142 hset_eq (by omega) rfl ?_
      refine J_iconst (v := nI 1) dX8_layOrders_62 (by decide +kernel) ?_
      refine J_isub dX8_layOrders_63 ?_
      refine J.stk (st' := [.int (-1)]) (congrArg (fun z => Value.int z :: []) (by decide +kernel)) ?_
      refine J_istore dX8_layOrders_64 (Nat.le_of_ble_eq_true rfl) (L' := [(4, .int (-1)), (3, .int (nI x)), (2, .int (jb (0 ≤ x ∧ x ≤ 4444))), (0, .ref (E.1 + 38)), (1, .int (nI x))]) rfl ?_
      refine J_iload dX8_layOrders_66 rfl ?_
      refine J_if_lt (tgt := 99) dX8_layOrders_68 (by decide) (fun _ => ?_) (fun z => absurd (by decide +kernel) z)
      refine J_iload_n dX8_layOrders_99 rfl ?_
      exact J_zret dX8_layOrders_100 rfl jb_nar ⟨Nat.le_refl _, Nat.le_refl _⟩ (by rw [hPP]; exact ⟨(congrArg some (by first | rfl | exact jbv0 (by omega) | (exfalso; exact hbad ⟨by omega, by omega, by omega, by omega, by omega⟩))), rfl, TE, 0, ((show (hset h 38 (.inr (7, [.ref (E.1 + 39), .ref (E.1 + 40), .ref (E.1 + 41), .ref (E.1 + 42), .long (lN xa), .long (lN xb), .ref (E.1 + 43), .int (nI dt), .ref (E.1 + 44), .ref (E.1 + 45), .int (nI 0), .ref (E.1 + 46), .ref (E.1 + 47), .int (nI bn), .int (nI ta), .int (nI tl), .int (nI tk), .int (nI va), .ref (E.1 + 48), .ref (E.1 + 49)]))) = (hset (hset h 38 (.inr (7, [.ref (E.1 + 39), .ref (E.1 + 40), .ref (E.1 + 41), .ref (E.1 + 42), .long (lN xa), .long (lN xb), .ref (E.1 + 43), .int (nI dt), .ref (E.1 + 44), .ref (E.1 + 45), .int (nI 0), .ref (E.1 + 46), .ref (E.1 + 47), .int (nI bn), .int (nI ta), .int (nI tl), .int (nI tk), .int (nI va), .ref (E.1 + 48), .ref (E.1 + 49)]))) 44 (cI E 4 (nF TE))) by funext z; simp only [hset]; (repeat' split) <;> first | rfl | (exfalso; omega) | (subst_vars; first | exact H1)).trans (hset_cg (hset_cg rfl rfl) rfl))⟩)
    · skip
      refine J_iload_n dX8_layOrders_25 rfl ?_
      refine J_bipush (v := nI 10) dX8_layOrders_26 (by decide +kernel) ?_
      refine J_iremN dX8_layOrders_28 (by omega) (by omega) (by omega) ?_
      refine J_i2lN dX8_layOrders_29 (by omega) ?_
      refine J_lconst (v := lN 1) dX8_layOrders_30 (by decide +kernel) ?_
      refine J_ldc2 dX8_layOrders_31 jqRX8_133 ?_
      refine J.stk (st' := .long (lN 4) :: [.long (lN 1), .long (lN (x % 10))]) rfl ?_
      refine J_callSr (M' := mX8_in) (d' := (1, 0, 0)) (rest := []) dX8_layOrders_34 jmX8_in jlRX8_56 (ctX8_inM (x % 10) 1 4   (by first | assumption | omega) (by first | assumption | omega) (by first | assumption | omega)) rfl rfl (Nat.le_of_ble_eq_true rfl) (Nat.le_of_ble_eq_true rfl) ⟨Nat.le_refl _, Nat.le_refl _⟩ ?_
      refine J_istore_n dX8_layOrders_37 (Nat.le_of_ble_eq_true rfl) (L' := [(2, .int (jb (1 ≤ (x % 10) ∧ (x % 10) ≤ 4))), (3, .int (nI x)), (0, .ref (E.1 + 38)), (1, .int (nI x))]) rfl ?_
      refine J_aload_n dX8_layOrders_38 rfl ?_
      refine J_dup dX8_layOrders_39 rfl ?_
      refine J_get 10 dX8_layOrders_40 jk8 (Nat.le_of_ble_eq_true rfl) jfRX8_142 hset_eq (by omega) rfl ?_
      refine J_iconst (v := nI 1) dX8_layOrders_43 (by decide +kernel) ?_
      refine J_iaddN dX8_layOrders_44 ?_
      refine J.stk (st' := [.int (nI 1), .ref (E.1 + 38)]) rfl ?_
      refine J_put 10 dX8_layOrders_45 jk8 (Nat.le_of_ble_eq_true rfl) jfRX8_142 hset_eq (by omega) rfl rfl rfl (Nat.le_of_ble_eq_true rfl) ?_
      refine J.cast (h' := (hset (hset h 38 (.inr (7, [.ref (E.1 + 39), .ref (E.1 + 40), .ref (E.1 + 41), .ref (E.1 + 42), .long (lN xa), .long (lN xb), .ref (E.1 + 43), .int (nI dt), .ref (E.1 + 44), .ref (E.1 + 45), .int (nI 0), .ref (E.1 + 46), .ref (E.1 + 47), .int (nI bn), .int (nI ta), .int (nI tl), .int (nI tk), .int (nI va), .ref (E.1 + 48), .ref (E.1 + 49)]))) 38 (.inr (7, [.ref (E.1 + 39), .ref (E.1 + 40), .ref (E.1 + 41), .ref (E.1 + 42), .long (lN xa), .long (lN xb), .ref (E.1 + 43), .int (nI dt), .ref (E.1 + 44), .ref (E.1 + 45), .int (nI 1), .ref (E.1 + 46), .ref (E.1 + 47), .int (nI bn), .int (nI ta), .int (nI tl), .int (nI tk), .int (nI va), .ref (E.1 + 48), .ref (E.1 + 49)])))) rfl ?_
      refine J.cast hset_hset ?_
      refine J_iload_n dX8_layOrders_48 rfl ?_
      refine J_bipush (v := nI 10) dX8_layOrders_49 (by decide +kernel) ?_
      refine J_idivN dX8_layOrders_51 (by omega) (by omega) (by omega) ?_
      refine J_istore_n dX8_layOrders_52 (Nat.le_of_ble_eq_true rfl) (L' := [(3, .int (nI (x / 10))), (2, .int (jb (1 ≤ (x % 10) ∧ (x % 10) ≤ 4))), (0, .ref (E.1 + 38)), (1, .int (nI x))]) rfl ?_
      refine J_goto (tgt := 17) dX8_layOrders_53 (by decide) ?_
      refine J_iload_n dX8_layOrders_17 rfl ?_
      refine J_if_leN (tgt := 56) dX8_layOrders_18 (by decide) (by omega) (fun c30 => (by exfalso; omega)) (fun c30 => ?_)
      refine J_iload_n dX8_layOrders_21 rfl ?_
      refine J_if_eqB (tgt := 56) dX8_layOrders_22 (by decide) (fun c31 => ?_) (fun c31 => ?_)
      · skip
        refine J_iload_n dX8_layOrders_56 rfl ?_
        refine J_istore_n dX8_layOrders_57 (Nat.le_of_ble_eq_true rfl) (L' := [(3, .int (nI x)), (2, .int (jb (1 ≤ (x % 10) ∧ (x % 10) ≤ 4))), (0, .ref (E.1 + 38)), (1, .int (nI x))]) rfl ?_
        refine J_aload_n dX8_layOrders_58 rfl ?_
        refine J_get 10 dX8_layOrders_59 jk8 (Nat.le_of_ble_eq_true rfl) jfRX8_142 hset_eq (by omega) rfl ?_
        refine J_iconst (v := nI 1) dX8_layOrders_62 (by decide +kernel) ?_
        refine J_isubN dX8_layOrders_63 (by omega) ?_
        refine J.stk (st' := [.int (nI 0)]) rfl ?_
        refine J_istore dX8_layOrders_64 (Nat.le_of_ble_eq_true rfl) (L' := [(4, .int (nI 0)), (3, .int (nI x)), (2, .int (jb (1 ≤ (x % 10) ∧ (x % 10) ≤ 4))), (0, .ref (E.1 + 38)), (1, .int (nI x))]) rfl ?_
        refine J_iload dX8_layOrders_66 rfl ?_
        refine J_if_ltN (tgt := 99) dX8_layOrders_68 (by decide) (by omega) ?_
        refine J_iload_n dX8_layOrders_71 rfl ?_
        refine J_if_eqB (tgt := 99) dX8_layOrders_72 (by decide) (fun c32 => ?_) (fun c32 => ?_)
        · skip
          refine J_iload_n dX8_layOrders_99 rfl ?_
          exact J_zret dX8_layOrders_100 rfl jb_nar ⟨Nat.le_refl _, Nat.le_refl _⟩ (by rw [hPP]; exact ⟨(congrArg some (by first | rfl | exact jbv0 (by omega) | (exfalso; exact hbad ⟨by omega, by omega, by omega, by omega, by omega⟩))), rfl, TE, 1, ((show (hset h 38 (.inr (7, [.ref (E.1 + 39), .ref (E.1 + 40), .ref (E.1 + 41), .ref (E.1 + 42), .long (lN xa), .long (lN xb), .ref (E.1 + 43), .int (nI dt), .ref (E.1 + 44), .ref (E.1 + 45), .int (nI 1), .ref (E.1 + 46), .ref (E.1 + 47), .int (nI bn), .int (nI ta), .int (nI tl), .int (nI tk), .int (nI va), .ref (E.1 + 48), .ref (E.1 + 49)]))) = (hset (hset h 38 (.inr (7, [.ref (E.1 + 39), .ref (E.1 + 40), .ref (E.1 + 41), .ref (E.1 + 42), .long (lN xa), .long (lN xb), .ref (E.1 + 43), .int (nI dt), .ref (E.1 + 44), .ref (E.1 + 45), .int (nI 1), .ref (E.1 + 46), .ref (E.1 + 47), .int (nI bn), .int (nI ta), .int (nI tl), .int (nI tk), .int (nI va), .ref (E.1 + 48), .ref (E.1 + 49)]))) 44 (cI E 4 (nF TE))) by funext z; simp only [hset]; (repeat' split) <;> first | rfl | (exfalso; omega) | (subst_vars; first | exact H1)).trans (hset_cg (hset_cg rfl rfl) rfl))⟩)
        · skip
          refine J_aload_n dX8_layOrders_75 rfl ?_
          refine J_get 8 dX8_layOrders_76 jk8 (Nat.le_of_ble_eq_true rfl) jfRX8_30 hset_eq (by omega) rfl ?_
          refine J_iload dX8_layOrders_79 rfl ?_
          refine J_iload_n dX8_layOrders_81 rfl ?_
          refine J_bipush (v := nI 10) dX8_layOrders_82 (by decide +kernel) ?_
          refine J_iremN dX8_layOrders_84 (by omega) (by omega) (by omega) ?_
          refine J_iconst (v := nI 1) dX8_layOrders_85 (by decide +kernel) ?_
          refine J_isubN dX8_layOrders_86 (by omega) ?_
          refine J_iastN (i := 0) (v := (x % 10) - 1) dX8_layOrders_87 ((hset_ne (by omega)).trans H1) (by omega) (by omega) (by omega) ?_
          refine J_iload_n dX8_layOrders_88 rfl ?_
          refine J_bipush (v := nI 10) dX8_layOrders_89 (by decide +kernel) ?_
          refine J_idivN dX8_layOrders_91 (by omega) (by omega) (by omega) ?_
          refine J_istore_n dX8_layOrders_92 (Nat.le_of_ble_eq_true rfl) (L' := [(3, .int (nI (x / 10))), (4, .int (nI 0)), (2, .int (jb (1 ≤ (x % 10) ∧ (x % 10) ≤ 4))), (0, .ref (E.1 + 38)), (1, .int (nI x))]) rfl ?_
          refine J_iinc (q := 1) (v := (-1)) dX8_layOrders_93 rfl (by decide +kernel) (Nat.le_of_ble_eq_true rfl) (L' := [(4, .int (-1)), (3, .int (nI (x / 10))), (2, .int (jb (1 ≤ (x % 10) ∧ (x % 10) ≤ 4))), (0, .ref (E.1 + 38)), (1, .int (nI x))]) rfl ?_
          refine J_goto (tgt := 66) dX8_layOrders_96 (by decide) ?_
          refine J_iload dX8_layOrders_66 rfl ?_
          refine J_if_lt (tgt := 99) dX8_layOrders_68 (by decide) (fun _ => ?_) (fun z => absurd (by decide +kernel) z)
          refine J_iload_n dX8_layOrders_99 rfl ?_
          exact J_zret dX8_layOrders_100 rfl jb_nar ⟨Nat.le_refl _, Nat.le_refl _⟩ (by rw [hPP]; exact ⟨(congrArg some (by first | rfl | exact jbv0 (by omega) | (exfalso; exact hbad ⟨by omega, by omega, by omega, by omega, by omega⟩))), rfl, (updN TE 0 ((x % 10) - 1)), 1, rfl⟩)
      · skip
        refine J_iload_n dX8_layOrders_25 rfl ?_
        refine J_bipush (v := nI 10) dX8_layOrders_26 (by decide +kernel) ?_
        refine J_iremN dX8_layOrders_28 (by omega) (by omega) (by omega) ?_
        refine J_i2lN dX8_layOrders_29 (by omega) ?_
        refine J_lconst (v := lN 1) dX8_layOrders_30 (by decide +kernel) ?_
        refine J_ldc2 dX8_layOrders_31 jqRX8_133 ?_
        refine J.stk (st' := .long (lN 4) :: [.long (lN 1), .long (lN ((x / 10) % 10))]) rfl ?_
        refine J_callSr (M' := mX8_in) (d' := (1, 0, 0)) (rest := []) dX8_layOrders_34 jmX8_in jlRX8_56 (ctX8_inM ((x / 10) % 10) 1 4   (by first | assumption | omega) (by first | assumption | omega) (by first | assumption | omega)) rfl rfl (Nat.le_of_ble_eq_true rfl) (Nat.le_of_ble_eq_true rfl) ⟨Nat.le_refl _, Nat.le_refl _⟩ ?_
        refine J_istore_n dX8_layOrders_37 (Nat.le_of_ble_eq_true rfl) (L' := [(2, .int (jb (1 ≤ ((x / 10) % 10) ∧ ((x / 10) % 10) ≤ 4))), (3, .int (nI (x / 10))), (0, .ref (E.1 + 38)), (1, .int (nI x))]) rfl ?_
        refine J_aload_n dX8_layOrders_38 rfl ?_
        refine J_dup dX8_layOrders_39 rfl ?_
        refine J_get 10 dX8_layOrders_40 jk8 (Nat.le_of_ble_eq_true rfl) jfRX8_142 hset_eq (by omega) rfl ?_
        refine J_iconst (v := nI 1) dX8_layOrders_43 (by decide +kernel) ?_
        refine J_iaddN dX8_layOrders_44 ?_
        refine J.stk (st' := [.int (nI 2), .ref (E.1 + 38)]) rfl ?_
        refine J_put 10 dX8_layOrders_45 jk8 (Nat.le_of_ble_eq_true rfl) jfRX8_142 hset_eq (by omega) rfl rfl rfl (Nat.le_of_ble_eq_true rfl) ?_
        refine J.cast (h' := (hset (hset h 38 (.inr (7, [.ref (E.1 + 39), .ref (E.1 + 40), .ref (E.1 + 41), .ref (E.1 + 42), .long (lN xa), .long (lN xb), .ref (E.1 + 43), .int (nI dt), .ref (E.1 + 44), .ref (E.1 + 45), .int (nI 1), .ref (E.1 + 46), .ref (E.1 + 47), .int (nI bn), .int (nI ta), .int (nI tl), .int (nI tk), .int (nI va), .ref (E.1 + 48), .ref (E.1 + 49)]))) 38 (.inr (7, [.ref (E.1 + 39), .ref (E.1 + 40), .ref (E.1 + 41), .ref (E.1 + 42), .long (lN xa), .long (lN xb), .ref (E.1 + 43), .int (nI dt), .ref (E.1 + 44), .ref (E.1 + 45), .int (nI 2), .ref (E.1 + 46), .ref (E.1 + 47), .int (nI bn), .int (nI ta), .int (nI tl), .int (nI tk), .int (nI va), .ref (E.1 + 48), .ref (E.1 + 49)])))) rfl ?_
        refine J.cast hset_hset ?_
        refine J_iload_n dX8_layOrders_48 rfl ?_
        refine J_bipush (v := nI 10) dX8_layOrders_49 (by decide +kernel) ?_
        refine J_idivN dX8_layOrders_51 (by omega) (by omega) (by omega) ?_
        refine J_istore_n dX8_layOrders_52 (Nat.le_of_ble_eq_true rfl) (L' := [(3, .int (nI ((x / 10) / 10))), (2, .int (jb (1 ≤ ((x / 10) % 10) ∧ ((x / 10) % 10) ≤ 4))), (0, .ref (E.1 + 38)), (1, .int (nI x))]) rfl ?_
        refine J_goto (tgt := 17) dX8_layOrders_53 (by decide) ?_
        refine J_iload_n dX8_layOrders_17 rfl ?_
        refine J_if_leN (tgt := 56) dX8_layOrders_18 (by decide) (by omega) (fun c33 => (by exfalso; omega)) (fun c33 => ?_)
        refine J_iload_n dX8_layOrders_21 rfl ?_
        refine J_if_eqB (tgt := 56) dX8_layOrders_22 (by decide) (fun c34 => ?_) (fun c34 => ?_)
        · skip
          refine J_iload_n dX8_layOrders_56 rfl ?_
          refine J_istore_n dX8_layOrders_57 (Nat.le_of_ble_eq_true rfl) (L' := [(3, .int (nI x)), (2, .int (jb (1 ≤ ((x / 10) % 10) ∧ ((x / 10) % 10) ≤ 4))), (0, .ref (E.1 + 38)), (1, .int (nI x))]) rfl ?_
          refine J_aload_n dX8_layOrders_58 rfl ?_
          refine J_get 10 dX8_layOrders_59 jk8 (Nat.le_of_ble_eq_true rfl) jfRX8_142 hset_eq (by omega) rfl ?_
          refine J_iconst (v := nI 1) dX8_layOrders_62 (by decide +kernel) ?_
          refine J_isubN dX8_layOrders_63 (by omega) ?_
          refine J.stk (st' := [.int (nI 1)]) rfl ?_
          refine J_istore dX8_layOrders_64 (Nat.le_of_ble_eq_true rfl) (L' := [(4, .int (nI 1)), (3, .int (nI x)), (2, .int (jb (1 ≤ ((x / 10) % 10) ∧ ((x / 10) % 10) ≤ 4))), (0, .ref (E.1 + 38)), (1, .int (nI x))]) rfl ?_
          refine J_iload dX8_layOrders_66 rfl ?_
          refine J_if_ltN (tgt := 99) dX8_layOrders_68 (by decide) (by omega) ?_
          refine J_iload_n dX8_layOrders_71 rfl ?_
          refine J_if_eqB (tgt := 99) dX8_layOrders_72 (by decide) (fun c35 => ?_) (fun c35 => ?_)
          · skip
            refine J_iload_n dX8_layOrders_99 rfl ?_
            exact J_zret dX8_layOrders_100 rfl jb_nar ⟨Nat.le_refl _, Nat.le_refl _⟩ (by rw [hPP]; exact ⟨(congrArg some (by first | rfl | exact jbv0 (by omega) | (exfalso; exact hbad ⟨by omega, by omega, by omega, by omega, by omega⟩))), rfl, TE, 2, ((show (hset h 38 (.inr (7, [.ref (E.1 + 39), .ref (E.1 + 40), .ref (E.1 + 41), .ref (E.1 + 42), .long (lN xa), .long (lN xb), .ref (E.1 + 43), .int (nI dt), .ref (E.1 + 44), .ref (E.1 + 45), .int (nI 2), .ref (E.1 + 46), .ref (E.1 + 47), .int (nI bn), .int (nI ta), .int (nI tl), .int (nI tk), .int (nI va), .ref (E.1 + 48), .ref (E.1 + 49)]))) = (hset (hset h 38 (.inr (7, [.ref (E.1 + 39), .ref (E.1 + 40), .ref (E.1 + 41), .ref (E.1 + 42), .long (lN xa), .long (lN xb), .ref (E.1 + 43), .int (nI dt), .ref (E.1 + 44), .ref (E.1 + 45), .int (nI 2), .ref (E.1 + 46), .ref (E.1 + 47), .int (nI bn), .int (nI ta), .int (nI tl), .int (nI tk), .int (nI va), .ref (E.1 + 48), .ref (E.1 + 49)]))) 44 (cI E 4 (nF TE))) by funext z; simp only [hset]; (repeat' split) <;> first | rfl | (exfalso; omega) | (subst_vars; first | exact H1)).trans (hset_cg (hset_cg rfl rfl) rfl))⟩)
          · skip
            refine J_aload_n dX8_layOrders_75 rfl ?_
            refine J_get 8 dX8_layOrders_76 jk8 (Nat.le_of_ble_eq_true rfl) jfRX8_30 hset_eq (by omega) rfl ?_
            refine J_iload dX8_layOrders_79 rfl ?_
            refine J_iload_n dX8_layOrders_81 rfl ?_
            refine J_bipush (v := nI 10) dX8_layOrders_82 (by decide +kernel) ?_
            refine J_iremN dX8_layOrders_84 (by omega) (by omega) (by omega) ?_
            refine J_iconst (v := nI 1) dX8_layOrders_85 (by decide +kernel) ?_
            refine J_isubN dX8_layOrders_86 (by omega) ?_
            refine J_iastN (i := 1) (v := (x % 10) - 1) dX8_layOrders_87 ((hset_ne (by omega)).trans H1) (by omega) (by omega) (by omega) ?_
            refine J_iload_n dX8_layOrders_88 rfl ?_
            refine J_bipush (v := nI 10) dX8_layOrders_89 (by decide +kernel) ?_
            refine J_idivN dX8_layOrders_91 (by omega) (by omega) (by omega) ?_
            refine J_istore_n dX8_layOrders_92 (Nat.le_of_ble_eq_true rfl) (L' := [(3, .int (nI (x / 10))), (4, .int (nI 1)), (2, .int (jb (1 ≤ ((x / 10) % 10) ∧ ((x / 10) % 10) ≤ 4))), (0, .ref (E.1 + 38)), (1, .int (nI x))]) rfl ?_
            refine J_iinc (q := 1) (v := (nI 0)) dX8_layOrders_93 rfl (by decide +kernel) (Nat.le_of_ble_eq_true rfl) (L' := [(4, .int (nI 0)), (3, .int (nI (x / 10))), (2, .int (jb (1 ≤ ((x / 10) % 10) ∧ ((x / 10) % 10) ≤ 4))), (0, .ref (E.1 + 38)), (1, .int (nI x))]) rfl ?_
            refine J_goto (tgt := 66) dX8_layOrders_96 (by decide) ?_
            refine J_iload dX8_layOrders_66 rfl ?_
            refine J_if_ltN (tgt := 99) dX8_layOrders_68 (by decide) (by omega) ?_
            refine J_iload_n dX8_layOrders_71 rfl ?_
            refine J_if_eqB (tgt := 99) dX8_layOrders_72 (by decide) (fun c36 => ?_) (fun c36 => ?_)
            · skip
              refine J_iload_n dX8_layOrders_99 rfl ?_
              exact J_zret dX8_layOrders_100 rfl jb_nar ⟨Nat.le_refl _, Nat.le_refl _⟩ (by rw [hPP]; exact ⟨(congrArg some (by first | rfl | exact jbv0 (by omega) | (exfalso; exact hbad ⟨by omega, by omega, by omega, by omega, by omega⟩))), rfl, (updN TE 1 ((x % 10) - 1)), 2, rfl⟩)
            · skip
              refine J_aload_n dX8_layOrders_75 rfl ?_
              refine J_get 8 dX8_layOrders_76 jk8 (Nat.le_of_ble_eq_true rfl) jfRX8_30 ((hset_ne (by omega)).trans hset_eq) (by omega) rfl ?_
              refine J_iload dX8_layOrders_79 rfl ?_
              refine J_iload_n dX8_layOrders_81 rfl ?_
              refine J_bipush (v := nI 10) dX8_layOrders_82 (by decide +kernel) ?_
              refine J_iremN dX8_layOrders_84 (by omega) (by omega) (by omega) ?_
              refine J_iconst (v := nI 1) dX8_layOrders_85 (by decide +kernel) ?_
              refine J_isubN dX8_layOrders_86 (by omega) ?_
              refine J_iastN (i := 0) (v := ((x / 10) % 10) - 1) dX8_layOrders_87 hset_eq (by omega) (by omega) (by omega) ?_
              refine J.cast hset_hset ?_
              refine J_iload_n dX8_layOrders_88 rfl ?_
              refine J_bipush (v := nI 10) dX8_layOrders_89 (by decide +kernel) ?_
              refine J_idivN dX8_layOrders_91 (by omega) (by omega) (by omega) ?_
              refine J_istore_n dX8_layOrders_92 (Nat.le_of_ble_eq_true rfl) (L' := [(3, .int (nI ((x / 10) / 10))), (4, .int (nI 0)), (2, .int (jb (1 ≤ ((x / 10) % 10) ∧ ((x / 10) % 10) ≤ 4))), (0, .ref (E.1 + 38)), (1, .int (nI x))]) rfl ?_
              refine J_iinc (q := 1) (v := (-1)) dX8_layOrders_93 rfl (by decide +kernel) (Nat.le_of_ble_eq_true rfl) (L' := [(4, .int (-1)), (3, .int (nI ((x / 10) / 10))), (2, .int (jb (1 ≤ ((x / 10) % 10) ∧ ((x / 10) % 10) ≤ 4))), (0, .ref (E.1 + 38)), (1, .int (nI x))]) rfl ?_
              refine J_goto (tgt := 66) dX8_layOrders_96 (by decide) ?_
              refine J_iload dX8_layOrders_66 rfl ?_
              refine J_if_lt (tgt := 99) dX8_layOrders_68 (by decide) (fun _ => ?_) (fun z => absurd (by decide +kernel) z)
              refine J_iload_n dX8_layOrders_99 rfl ?_
              exact J_zret dX8_layOrders_100 rfl jb_nar ⟨Nat.le_refl _, Nat.le_refl _⟩ (by rw [hPP]; exact ⟨(congrArg some (by first | rfl | exact jbv0 (by omega) | (exfalso; exact hbad ⟨by omega, by omega, by omega, by omega, by omega⟩))), rfl, (updN (updN TE 1 ((x % 10) - 1)) 0 (((x / 10) % 10) - 1)), 2, rfl⟩)
        · skip
          refine J_iload_n dX8_layOrders_25 rfl ?_
          refine J_bipush (v := nI 10) dX8_layOrders_26 (by decide +kernel) ?_
          refine J_iremN dX8_layOrders_28 (by omega) (by omega) (by omega) ?_
          refine J_i2lN dX8_layOrders_29 (by omega) ?_
          refine J_lconst (v := lN 1) dX8_layOrders_30 (by decide +kernel) ?_
          refine J_ldc2 dX8_layOrders_31 jqRX8_133 ?_
          refine J.stk (st' := .long (lN 4) :: [.long (lN 1), .long (lN (((x / 10) / 10) % 10))]) rfl ?_
          refine J_callSr (M' := mX8_in) (d' := (1, 0, 0)) (rest := []) dX8_layOrders_34 jmX8_in jlRX8_56 (ctX8_inM (((x / 10) / 10) % 10) 1 4   (by first | assumption | omega) (by first | assumption | omega) (by first | assumption | omega)) rfl rfl (Nat.le_of_ble_eq_true rfl) (Nat.le_of_ble_eq_true rfl) ⟨Nat.le_refl _, Nat.le_refl _⟩ ?_
          refine J_istore_n dX8_layOrders_37 (Nat.le_of_ble_eq_true rfl) (L' := [(2, .int (jb (1 ≤ (((x / 10) / 10) % 10) ∧ (((x / 10) / 10) % 10) ≤ 4))), (3, .int (nI ((x / 10) / 10))), (0, .ref (E.1 + 38)), (1, .int (nI x))]) rfl ?_
          refine J_aload_n dX8_layOrders_38 rfl ?_
          refine J_dup dX8_layOrders_39 rfl ?_
          refine J_get 10 dX8_layOrders_40 jk8 (Nat.le_of_ble_eq_true rfl) jfRX8_142 hset_eq (by omega) rfl ?_
          refine J_iconst (v := nI 1) dX8_layOrders_43 (by decide +kernel) ?_
          refine J_iaddN dX8_layOrders_44 ?_
          refine J.stk (st' := [.int (nI 3), .ref (E.1 + 38)]) rfl ?_
          refine J_put 10 dX8_layOrders_45 jk8 (Nat.le_of_ble_eq_true rfl) jfRX8_142 hset_eq (by omega) rfl rfl rfl (Nat.le_of_ble_eq_true rfl) ?_
          refine J.cast (h' := (hset (hset h 38 (.inr (7, [.ref (E.1 + 39), .ref (E.1 + 40), .ref (E.1 + 41), .ref (E.1 + 42), .long (lN xa), .long (lN xb), .ref (E.1 + 43), .int (nI dt), .ref (E.1 + 44), .ref (E.1 + 45), .int (nI 2), .ref (E.1 + 46), .ref (E.1 + 47), .int (nI bn), .int (nI ta), .int (nI tl), .int (nI tk), .int (nI va), .ref (E.1 + 48), .ref (E.1 + 49)]))) 38 (.inr (7, [.ref (E.1 + 39), .ref (E.1 + 40), .ref (E.1 + 41), .ref (E.1 + 42), .long (lN xa), .long (lN xb), .ref (E.1 + 43), .int (nI dt), .ref (E.1 + 44), .ref (E.1 + 45), .int (nI 3), .ref (E.1 + 46), .ref (E.1 + 47), .int (nI bn), .int (nI ta), .int (nI tl), .int (nI tk), .int (nI va), .ref (E.1 + 48), .ref (E.1 + 49)])))) rfl ?_
          refine J.cast hset_hset ?_
          refine J_iload_n dX8_layOrders_48 rfl ?_
          refine J_bipush (v := nI 10) dX8_layOrders_49 (by decide +kernel) ?_
          refine J_idivN dX8_layOrders_51 (by omega) (by omega) (by omega) ?_
          refine J_istore_n dX8_layOrders_52 (Nat.le_of_ble_eq_true rfl) (L' := [(3, .int (nI (((x / 10) / 10) / 10))), (2, .int (jb (1 ≤ (((x / 10) / 10) % 10) ∧ (((x / 10) / 10) % 10) ≤ 4))), (0, .ref (E.1 + 38)), (1, .int (nI x))]) rfl ?_
          refine J_goto (tgt := 17) dX8_layOrders_53 (by decide) ?_
          refine J_iload_n dX8_layOrders_17 rfl ?_
          refine J_if_leN (tgt := 56) dX8_layOrders_18 (by decide) (by omega) (fun c37 => (by exfalso; omega)) (fun c37 => ?_)
          refine J_iload_n dX8_layOrders_21 rfl ?_
          refine J_if_eqB (tgt := 56) dX8_layOrders_22 (by decide) (fun c38 => ?_) (fun c38 => ?_)
          · skip
            refine J_iload_n dX8_layOrders_56 rfl ?_
            refine J_istore_n dX8_layOrders_57 (Nat.le_of_ble_eq_true rfl) (L' := [(3, .int (nI x)), (2, .int (jb (1 ≤ (((x / 10) / 10) % 10) ∧ (((x / 10) / 10) % 10) ≤ 4))), (0, .ref (E.1 + 38)), (1, .int (nI x))]) rfl ?_
            refine J_aload_n dX8_layOrders_58 rfl ?_
            refine J_get 10 dX8_layOrders_59 jk8 (Nat.le_of_ble_eq_true rfl) jfRX8_142 hset_eq (by omega) rfl ?_
            refine J_iconst (v := nI 1) dX8_layOrders_62 (by decide +kernel) ?_
            refine J_isubN dX8_layOrders_63 (by omega) ?_
            refine J.stk (st' := [.int (nI 2)]) rfl ?_
            refine J_istore dX8_layOrders_64 (Nat.le_of_ble_eq_true rfl) (L' := [(4, .int (nI 2)), (3, .int (nI x)), (2, .int (jb (1 ≤ (((x / 10) / 10) % 10) ∧ (((x / 10) / 10) % 10) ≤ 4))), (0, .ref (E.1 + 38)), (1, .int (nI x))]) rfl ?_
            refine J_iload dX8_layOrders_66 rfl ?_
            refine J_if_ltN (tgt := 99) dX8_layOrders_68 (by decide) (by omega) ?_
            refine J_iload_n dX8_layOrders_71 rfl ?_
            refine J_if_eqB (tgt := 99) dX8_layOrders_72 (by decide) (fun c39 => ?_) (fun c39 => ?_)
            · skip
              refine J_iload_n dX8_layOrders_99 rfl ?_
              exact J_zret dX8_layOrders_100 rfl jb_nar ⟨Nat.le_refl _, Nat.le_refl _⟩ (by rw [hPP]; exact ⟨(congrArg some (by first | rfl | exact jbv0 (by omega) | (exfalso; exact hbad ⟨by omega, by omega, by omega, by omega, by omega⟩))), rfl, TE, 3, ((show (hset h 38 (.inr (7, [.ref (E.1 + 39), .ref (E.1 + 40), .ref (E.1 + 41), .ref (E.1 + 42), .long (lN xa), .long (lN xb), .ref (E.1 + 43), .int (nI dt), .ref (E.1 + 44), .ref (E.1 + 45), .int (nI 3), .ref (E.1 + 46), .ref (E.1 + 47), .int (nI bn), .int (nI ta), .int (nI tl), .int (nI tk), .int (nI va), .ref (E.1 + 48), .ref (E.1 + 49)]))) = (hset (hset h 38 (.inr (7, [.ref (E.1 + 39), .ref (E.1 + 40), .ref (E.1 + 41), .ref (E.1 + 42), .long (lN xa), .long (lN xb), .ref (E.1 + 43), .int (nI dt), .ref (E.1 + 44), .ref (E.1 + 45), .int (nI 3), .ref (E.1 + 46), .ref (E.1 + 47), .int (nI bn), .int (nI ta), .int (nI tl), .int (nI tk), .int (nI va), .ref (E.1 + 48), .ref (E.1 + 49)]))) 44 (cI E 4 (nF TE))) by funext z; simp only [hset]; (repeat' split) <;> first | rfl | (exfalso; omega) | (subst_vars; first | exact H1)).trans (hset_cg (hset_cg rfl rfl) rfl))⟩)
            · skip
              refine J_aload_n dX8_layOrders_75 rfl ?_
              refine J_get 8 dX8_layOrders_76 jk8 (Nat.le_of_ble_eq_true rfl) jfRX8_30 hset_eq (by omega) rfl ?_
              refine J_iload dX8_layOrders_79 rfl ?_
              refine J_iload_n dX8_layOrders_81 rfl ?_
              refine J_bipush (v := nI 10) dX8_layOrders_82 (by decide +kernel) ?_
              refine J_iremN dX8_layOrders_84 (by omega) (by omega) (by omega) ?_
              refine J_iconst (v := nI 1) dX8_layOrders_85 (by decide +kernel) ?_
              refine J_isubN dX8_layOrders_86 (by omega) ?_
              refine J_iastN (i := 2) (v := (x % 10) - 1) dX8_layOrders_87 ((hset_ne (by omega)).trans H1) (by omega) (by omega) (by omega) ?_
              refine J_iload_n dX8_layOrders_88 rfl ?_
              refine J_bipush (v := nI 10) dX8_layOrders_89 (by decide +kernel) ?_
              refine J_idivN dX8_layOrders_91 (by omega) (by omega) (by omega) ?_
              refine J_istore_n dX8_layOrders_92 (Nat.le_of_ble_eq_true rfl) (L' := [(3, .int (nI (x / 10))), (4, .int (nI 2)), (2, .int (jb (1 ≤ (((x / 10) / 10) % 10) ∧ (((x / 10) / 10) % 10) ≤ 4))), (0, .ref (E.1 + 38)), (1, .int (nI x))]) rfl ?_
              refine J_iinc (q := 1) (v := (nI 1)) dX8_layOrders_93 rfl (by decide +kernel) (Nat.le_of_ble_eq_true rfl) (L' := [(4, .int (nI 1)), (3, .int (nI (x / 10))), (2, .int (jb (1 ≤ (((x / 10) / 10) % 10) ∧ (((x / 10) / 10) % 10) ≤ 4))), (0, .ref (E.1 + 38)), (1, .int (nI x))]) rfl ?_
              refine J_goto (tgt := 66) dX8_layOrders_96 (by decide) ?_
              refine J_iload dX8_layOrders_66 rfl ?_
              refine J_if_ltN (tgt := 99) dX8_layOrders_68 (by decide) (by omega) ?_
              refine J_iload_n dX8_layOrders_71 rfl ?_
              refine J_if_eqB (tgt := 99) dX8_layOrders_72 (by decide) (fun c40 => ?_) (fun c40 => ?_)
              · skip
                refine J_iload_n dX8_layOrders_99 rfl ?_
                exact J_zret dX8_layOrders_100 rfl jb_nar ⟨Nat.le_refl _, Nat.le_refl _⟩ (by rw [hPP]; exact ⟨(congrArg some (by first | rfl | exact jbv0 (by omega) | (exfalso; exact hbad ⟨by omega, by omega, by omega, by omega, by omega⟩))), rfl, (updN TE 2 ((x % 10) - 1)), 3, rfl⟩)
              · skip
                refine J_aload_n dX8_layOrders_75 rfl ?_
                refine J_get 8 dX8_layOrders_76 jk8 (Nat.le_of_ble_eq_true rfl) jfRX8_30 ((hset_ne (by omega)).trans hset_eq) (by omega) rfl ?_
                refine J_iload dX8_layOrders_79 rfl ?_
                refine J_iload_n dX8_layOrders_81 rfl ?_
                refine J_bipush (v := nI 10) dX8_layOrders_82 (by decide +kernel) ?_
                refine J_iremN dX8_layOrders_84 (by omega) (by omega) (by omega) ?_
                refine J_iconst (v := nI 1) dX8_layOrders_85 (by decide +kernel) ?_
                refine J_isubN dX8_layOrders_86 (by omega) ?_
                refine J_iastN (i := 1) (v := ((x / 10) % 10) - 1) dX8_layOrders_87 hset_eq (by omega) (by omega) (by omega) ?_
                refine J.cast hset_hset ?_
                refine J_iload_n dX8_layOrders_88 rfl ?_
                refine J_bipush (v := nI 10) dX8_layOrders_89 (by decide +kernel) ?_
                refine J_idivN dX8_layOrders_91 (by omega) (by omega) (by omega) ?_
                refine J_istore_n dX8_layOrders_92 (Nat.le_of_ble_eq_true rfl) (L' := [(3, .int (nI ((x / 10) / 10))), (4, .int (nI 1)), (2, .int (jb (1 ≤ (((x / 10) / 10) % 10) ∧ (((x / 10) / 10) % 10) ≤ 4))), (0, .ref (E.1 + 38)), (1, .int (nI x))]) rfl ?_
                refine J_iinc (q := 1) (v := (nI 0)) dX8_layOrders_93 rfl (by decide +kernel) (Nat.le_of_ble_eq_true rfl) (L' := [(4, .int (nI 0)), (3, .int (nI ((x / 10) / 10))), (2, .int (jb (1 ≤ (((x / 10) / 10) % 10) ∧ (((x / 10) / 10) % 10) ≤ 4))), (0, .ref (E.1 + 38)), (1, .int (nI x))]) rfl ?_
                refine J_goto (tgt := 66) dX8_layOrders_96 (by decide) ?_
                refine J_iload dX8_layOrders_66 rfl ?_
                refine J_if_ltN (tgt := 99) dX8_layOrders_68 (by decide) (by omega) ?_
                refine J_iload_n dX8_layOrders_71 rfl ?_
                refine J_if_eqB (tgt := 99) dX8_layOrders_72 (by decide) (fun c41 => ?_) (fun c41 => ?_)
                · skip
                  refine J_iload_n dX8_layOrders_99 rfl ?_
                  exact J_zret dX8_layOrders_100 rfl jb_nar ⟨Nat.le_refl _, Nat.le_refl _⟩ (by rw [hPP]; exact ⟨(congrArg some (by first | rfl | exact jbv0 (by omega) | (exfalso; exact hbad ⟨by omega, by omega, by omega, by omega, by omega⟩))), rfl, (updN (updN TE 2 ((x % 10) - 1)) 1 (((x / 10) % 10) - 1)), 3, rfl⟩)
                · skip
                  refine J_aload_n dX8_layOrders_75 rfl ?_
                  refine J_get 8 dX8_layOrders_76 jk8 (Nat.le_of_ble_eq_true rfl) jfRX8_30 ((hset_ne (by omega)).trans hset_eq) (by omega) rfl ?_
                  refine J_iload dX8_layOrders_79 rfl ?_
                  refine J_iload_n dX8_layOrders_81 rfl ?_
                  refine J_bipush (v := nI 10) dX8_layOrders_82 (by decide +kernel) ?_
                  refine J_iremN dX8_layOrders_84 (by omega) (by omega) (by omega) ?_
                  refine J_iconst (v := nI 1) dX8_layOrders_85 (by decide +kernel) ?_
                  refine J_isubN dX8_layOrders_86 (by omega) ?_
                  refine J_iastN (i := 0) (v := (((x / 10) / 10) % 10) - 1) dX8_layOrders_87 hset_eq (by omega) (by omega) (by omega) ?_
                  refine J.cast hset_hset ?_
                  refine J_iload_n dX8_layOrders_88 rfl ?_
                  refine J_bipush (v := nI 10) dX8_layOrders_89 (by decide +kernel) ?_
                  refine J_idivN dX8_layOrders_91 (by omega) (by omega) (by omega) ?_
                  refine J_istore_n dX8_layOrders_92 (Nat.le_of_ble_eq_true rfl) (L' := [(3, .int (nI (((x / 10) / 10) / 10))), (4, .int (nI 0)), (2, .int (jb (1 ≤ (((x / 10) / 10) % 10) ∧ (((x / 10) / 10) % 10) ≤ 4))), (0, .ref (E.1 + 38)), (1, .int (nI x))]) rfl ?_
                  refine J_iinc (q := 1) (v := (-1)) dX8_layOrders_93 rfl (by decide +kernel) (Nat.le_of_ble_eq_true rfl) (L' := [(4, .int (-1)), (3, .int (nI (((x / 10) / 10) / 10))), (2, .int (jb (1 ≤ (((x / 10) / 10) % 10) ∧ (((x / 10) / 10) % 10) ≤ 4))), (0, .ref (E.1 + 38)), (1, .int (nI x))]) rfl ?_
                  refine J_goto (tgt := 66) dX8_layOrders_96 (by decide) ?_
                  refine J_iload dX8_layOrders_66 rfl ?_
                  refine J_if_lt (tgt := 99) dX8_layOrders_68 (by decide) (fun _ => ?_) (fun z => absurd (by decide +kernel) z)
                  refine J_iload_n dX8_layOrders_99 rfl ?_
                  exact J_zret dX8_layOrders_100 rfl jb_nar ⟨Nat.le_refl _, Nat.le_refl _⟩ (by rw [hPP]; exact ⟨(congrArg some (by first | rfl | exact jbv0 (by omega) | (exfalso; exact hbad ⟨by omega, by omega, by omega, by omega, by omega⟩))), rfl, (updN (updN (updN TE 2 ((x % 10) - 1)) 1 (((x / 10) % 10) - 1)) 0 ((((x / 10) / 10) % 10) - 1)), 3, rfl⟩)
          · skip
            refine J_iload_n dX8_layOrders_25 rfl ?_
            refine J_bipush (v := nI 10) dX8_layOrders_26 (by decide +kernel) ?_
            refine J_iremN dX8_layOrders_28 (by omega) (by omega) (by omega) ?_
            refine J_i2lN dX8_layOrders_29 (by omega) ?_
            refine J_lconst (v := lN 1) dX8_layOrders_30 (by decide +kernel) ?_
            refine J_ldc2 dX8_layOrders_31 jqRX8_133 ?_
            refine J.stk (st' := .long (lN 4) :: [.long (lN 1), .long (lN ((((x / 10) / 10) / 10) % 10))]) rfl ?_
            refine J_callSr (M' := mX8_in) (d' := (1, 0, 0)) (rest := []) dX8_layOrders_34 jmX8_in jlRX8_56 (ctX8_inM ((((x / 10) / 10) / 10) % 10) 1 4   (by first | assumption | omega) (by first | assumption | omega) (by first | assumption | omega)) rfl rfl (Nat.le_of_ble_eq_true rfl) (Nat.le_of_ble_eq_true rfl) ⟨Nat.le_refl _, Nat.le_refl _⟩ ?_
            refine J_istore_n dX8_layOrders_37 (Nat.le_of_ble_eq_true rfl) (L' := [(2, .int (jb (1 ≤ ((((x / 10) / 10) / 10) % 10) ∧ ((((x / 10) / 10) / 10) % 10) ≤ 4))), (3, .int (nI (((x / 10) / 10) / 10))), (0, .ref (E.1 + 38)), (1, .int (nI x))]) rfl ?_
            refine J_aload_n dX8_layOrders_38 rfl ?_
            refine J_dup dX8_layOrders_39 rfl ?_
            refine J_get 10 dX8_layOrders_40 jk8 (Nat.le_of_ble_eq_true rfl) jfRX8_142 hset_eq (by omega) rfl ?_
            refine J_iconst (v := nI 1) dX8_layOrders_43 (by decide +kernel) ?_
            refine J_iaddN dX8_layOrders_44 ?_
            refine J.stk (st' := [.int (nI 4), .ref (E.1 + 38)]) rfl ?_
            refine J_put 10 dX8_layOrders_45 jk8 (Nat.le_of_ble_eq_true rfl) jfRX8_142 hset_eq (by omega) rfl rfl rfl (Nat.le_of_ble_eq_true rfl) ?_
            refine J.cast (h' := (hset (hset h 38 (.inr (7, [.ref (E.1 + 39), .ref (E.1 + 40), .ref (E.1 + 41), .ref (E.1 + 42), .long (lN xa), .long (lN xb), .ref (E.1 + 43), .int (nI dt), .ref (E.1 + 44), .ref (E.1 + 45), .int (nI 3), .ref (E.1 + 46), .ref (E.1 + 47), .int (nI bn), .int (nI ta), .int (nI tl), .int (nI tk), .int (nI va), .ref (E.1 + 48), .ref (E.1 + 49)]))) 38 (.inr (7, [.ref (E.1 + 39), .ref (E.1 + 40), .ref (E.1 + 41), .ref (E.1 + 42), .long (lN xa), .long (lN xb), .ref (E.1 + 43), .int (nI dt), .ref (E.1 + 44), .ref (E.1 + 45), .int (nI 4), .ref (E.1 + 46), .ref (E.1 + 47), .int (nI bn), .int (nI ta), .int (nI tl), .int (nI tk), .int (nI va), .ref (E.1 + 48), .ref (E.1 + 49)])))) rfl ?_
            refine J.cast hset_hset ?_
            refine J_iload_n dX8_layOrders_48 rfl ?_
            refine J_bipush (v := nI 10) dX8_layOrders_49 (by decide +kernel) ?_
            refine J_idivN dX8_layOrders_51 (by omega) (by omega) (by omega) ?_
            refine J_istore_n dX8_layOrders_52 (Nat.le_of_ble_eq_true rfl) (L' := [(3, .int (nI ((((x / 10) / 10) / 10) / 10))), (2, .int (jb (1 ≤ ((((x / 10) / 10) / 10) % 10) ∧ ((((x / 10) / 10) / 10) % 10) ≤ 4))), (0, .ref (E.1 + 38)), (1, .int (nI x))]) rfl ?_
            refine J_goto (tgt := 17) dX8_layOrders_53 (by decide) ?_
            refine J_iload_n dX8_layOrders_17 rfl ?_
            refine J_if_leN (tgt := 56) dX8_layOrders_18 (by decide) (by omega) (fun c42 => ?_) (fun c42 => (by exfalso; omega))
            refine J_iload_n dX8_layOrders_56 rfl ?_
            refine J_istore_n dX8_layOrders_57 (Nat.le_of_ble_eq_true rfl) (L' := [(3, .int (nI x)), (2, .int (jb (1 ≤ ((((x / 10) / 10) / 10) % 10) ∧ ((((x / 10) / 10) / 10) % 10) ≤ 4))), (0, .ref (E.1 + 38)), (1, .int (nI x))]) rfl ?_
            refine J_aload_n dX8_layOrders_58 rfl ?_
            refine J_get 10 dX8_layOrders_59 jk8 (Nat.le_of_ble_eq_true rfl) jfRX8_142 hset_eq (by omega) rfl ?_
            refine J_iconst (v := nI 1) dX8_layOrders_62 (by decide +kernel) ?_
            refine J_isubN dX8_layOrders_63 (by omega) ?_
            refine J.stk (st' := [.int (nI 3)]) rfl ?_
            refine J_istore dX8_layOrders_64 (Nat.le_of_ble_eq_true rfl) (L' := [(4, .int (nI 3)), (3, .int (nI x)), (2, .int (jb (1 ≤ ((((x / 10) / 10) / 10) % 10) ∧ ((((x / 10) / 10) / 10) % 10) ≤ 4))), (0, .ref (E.1 + 38)), (1, .int (nI x))]) rfl ?_
            refine J_iload dX8_layOrders_66 rfl ?_
            refine J_if_ltN (tgt := 99) dX8_layOrders_68 (by decide) (by omega) ?_
            refine J_iload_n dX8_layOrders_71 rfl ?_
            refine J_if_eqB (tgt := 99) dX8_layOrders_72 (by decide) (fun c43 => ?_) (fun c43 => ?_)
            · skip
              refine J_iload_n dX8_layOrders_99 rfl ?_
              exact J_zret dX8_layOrders_100 rfl jb_nar ⟨Nat.le_refl _, Nat.le_refl _⟩ (by rw [hPP]; exact ⟨(congrArg some (by first | rfl | exact jbv0 (by omega) | (exfalso; exact hbad ⟨by omega, by omega, by omega, by omega, by omega⟩))), rfl, TE, 4, ((show (hset h 38 (.inr (7, [.ref (E.1 + 39), .ref (E.1 + 40), .ref (E.1 + 41), .ref (E.1 + 42), .long (lN xa), .long (lN xb), .ref (E.1 + 43), .int (nI dt), .ref (E.1 + 44), .ref (E.1 + 45), .int (nI 4), .ref (E.1 + 46), .ref (E.1 + 47), .int (nI bn), .int (nI ta), .int (nI tl), .int (nI tk), .int (nI va), .ref (E.1 + 48), .ref (E.1 + 49)]))) = (hset (hset h 38 (.inr (7, [.ref (E.1 + 39), .ref (E.1 + 40), .ref (E.1 + 41), .ref (E.1 + 42), .long (lN xa), .long (lN xb), .ref (E.1 + 43), .int (nI dt), .ref (E.1 + 44), .ref (E.1 + 45), .int (nI 4), .ref (E.1 + 46), .ref (E.1 + 47), .int (nI bn), .int (nI ta), .int (nI tl), .int (nI tk), .int (nI va), .ref (E.1 + 48), .ref (E.1 + 49)]))) 44 (cI E 4 (nF TE))) by funext z; simp only [hset]; (repeat' split) <;> first | rfl | (exfalso; omega) | (subst_vars; first | exact H1)).trans (hset_cg (hset_cg rfl rfl) rfl))⟩)
            · skip
              refine J_aload_n dX8_layOrders_75 rfl ?_
              refine J_get 8 dX8_layOrders_76 jk8 (Nat.le_of_ble_eq_true rfl) jfRX8_30 hset_eq (by omega) rfl ?_
              refine J_iload dX8_layOrders_79 rfl ?_
              refine J_iload_n dX8_layOrders_81 rfl ?_
              refine J_bipush (v := nI 10) dX8_layOrders_82 (by decide +kernel) ?_
              refine J_iremN dX8_layOrders_84 (by omega) (by omega) (by omega) ?_
              refine J_iconst (v := nI 1) dX8_layOrders_85 (by decide +kernel) ?_
              refine J_isubN dX8_layOrders_86 (by omega) ?_
              refine J_iastN (i := 3) (v := (x % 10) - 1) dX8_layOrders_87 ((hset_ne (by omega)).trans H1) (by omega) (by omega) (by omega) ?_
              refine J_iload_n dX8_layOrders_88 rfl ?_
              refine J_bipush (v := nI 10) dX8_layOrders_89 (by decide +kernel) ?_
              refine J_idivN dX8_layOrders_91 (by omega) (by omega) (by omega) ?_
              refine J_istore_n dX8_layOrders_92 (Nat.le_of_ble_eq_true rfl) (L' := [(3, .int (nI (x / 10))), (4, .int (nI 3)), (2, .int (jb (1 ≤ ((((x / 10) / 10) / 10) % 10) ∧ ((((x / 10) / 10) / 10) % 10) ≤ 4))), (0, .ref (E.1 + 38)), (1, .int (nI x))]) rfl ?_
              refine J_iinc (q := 1) (v := (nI 2)) dX8_layOrders_93 rfl (by decide +kernel) (Nat.le_of_ble_eq_true rfl) (L' := [(4, .int (nI 2)), (3, .int (nI (x / 10))), (2, .int (jb (1 ≤ ((((x / 10) / 10) / 10) % 10) ∧ ((((x / 10) / 10) / 10) % 10) ≤ 4))), (0, .ref (E.1 + 38)), (1, .int (nI x))]) rfl ?_
              refine J_goto (tgt := 66) dX8_layOrders_96 (by decide) ?_
              refine J_iload dX8_layOrders_66 rfl ?_
              refine J_if_ltN (tgt := 99) dX8_layOrders_68 (by decide) (by omega) ?_
              refine J_iload_n dX8_layOrders_71 rfl ?_
              refine J_if_eqB (tgt := 99) dX8_layOrders_72 (by decide) (fun c44 => ?_) (fun c44 => ?_)
              · skip
                refine J_iload_n dX8_layOrders_99 rfl ?_
                exact J_zret dX8_layOrders_100 rfl jb_nar ⟨Nat.le_refl _, Nat.le_refl _⟩ (by rw [hPP]; exact ⟨(congrArg some (by first | rfl | exact jbv0 (by omega) | (exfalso; exact hbad ⟨by omega, by omega, by omega, by omega, by omega⟩))), rfl, (updN TE 3 ((x % 10) - 1)), 4, rfl⟩)
              · skip
                refine J_aload_n dX8_layOrders_75 rfl ?_
                refine J_get 8 dX8_layOrders_76 jk8 (Nat.le_of_ble_eq_true rfl) jfRX8_30 ((hset_ne (by omega)).trans hset_eq) (by omega) rfl ?_
                refine J_iload dX8_layOrders_79 rfl ?_
                refine J_iload_n dX8_layOrders_81 rfl ?_
                refine J_bipush (v := nI 10) dX8_layOrders_82 (by decide +kernel) ?_
                refine J_iremN dX8_layOrders_84 (by omega) (by omega) (by omega) ?_
                refine J_iconst (v := nI 1) dX8_layOrders_85 (by decide +kernel) ?_
                refine J_isubN dX8_layOrders_86 (by omega) ?_
                refine J_iastN (i := 2) (v := ((x / 10) % 10) - 1) dX8_layOrders_87 hset_eq (by omega) (by omega) (by omega) ?_
                refine J.cast hset_hset ?_
                refine J_iload_n dX8_layOrders_88 rfl ?_
                refine J_bipush (v := nI 10) dX8_layOrders_89 (by decide +kernel) ?_
                refine J_idivN dX8_layOrders_91 (by omega) (by omega) (by omega) ?_
                refine J_istore_n dX8_layOrders_92 (Nat.le_of_ble_eq_true rfl) (L' := [(3, .int (nI ((x / 10) / 10))), (4, .int (nI 2)), (2, .int (jb (1 ≤ ((((x / 10) / 10) / 10) % 10) ∧ ((((x / 10) / 10) / 10) % 10) ≤ 4))), (0, .ref (E.1 + 38)), (1, .int (nI x))]) rfl ?_
                refine J_iinc (q := 1) (v := (nI 1)) dX8_layOrders_93 rfl (by decide +kernel) (Nat.le_of_ble_eq_true rfl) (L' := [(4, .int (nI 1)), (3, .int (nI ((x / 10) / 10))), (2, .int (jb (1 ≤ ((((x / 10) / 10) / 10) % 10) ∧ ((((x / 10) / 10) / 10) % 10) ≤ 4))), (0, .ref (E.1 + 38)), (1, .int (nI x))]) rfl ?_
                refine J_goto (tgt := 66) dX8_layOrders_96 (by decide) ?_
                refine J_iload dX8_layOrders_66 rfl ?_
                refine J_if_ltN (tgt := 99) dX8_layOrders_68 (by decide) (by omega) ?_
                refine J_iload_n dX8_layOrders_71 rfl ?_
                refine J_if_eqB (tgt := 99) dX8_layOrders_72 (by decide) (fun c45 => ?_) (fun c45 => ?_)
                · skip
                  refine J_iload_n dX8_layOrders_99 rfl ?_
                  exact J_zret dX8_layOrders_100 rfl jb_nar ⟨Nat.le_refl _, Nat.le_refl _⟩ (by rw [hPP]; exact ⟨(congrArg some (by first | rfl | exact jbv0 (by omega) | (exfalso; exact hbad ⟨by omega, by omega, by omega, by omega, by omega⟩))), rfl, (updN (updN TE 3 ((x % 10) - 1)) 2 (((x / 10) % 10) - 1)), 4, rfl⟩)
                · skip
                  refine J_aload_n dX8_layOrders_75 rfl ?_
                  refine J_get 8 dX8_layOrders_76 jk8 (Nat.le_of_ble_eq_true rfl) jfRX8_30 ((hset_ne (by omega)).trans hset_eq) (by omega) rfl ?_
                  refine J_iload dX8_layOrders_79 rfl ?_
                  refine J_iload_n dX8_layOrders_81 rfl ?_
                  refine J_bipush (v := nI 10) dX8_layOrders_82 (by decide +kernel) ?_
                  refine J_iremN dX8_layOrders_84 (by omega) (by omega) (by omega) ?_
                  refine J_iconst (v := nI 1) dX8_layOrders_85 (by decide +kernel) ?_
                  refine J_isubN dX8_layOrders_86 (by omega) ?_
                  refine J_iastN (i := 1) (v := (((x / 10) / 10) % 10) - 1) dX8_layOrders_87 hset_eq (by omega) (by omega) (by omega) ?_
                  refine J.cast hset_hset ?_
                  refine J_iload_n dX8_layOrders_88 rfl ?_
                  refine J_bipush (v := nI 10) dX8_layOrders_89 (by decide +kernel) ?_
                  refine J_idivN dX8_layOrders_91 (by omega) (by omega) (by omega) ?_
                  refine J_istore_n dX8_layOrders_92 (Nat.le_of_ble_eq_true rfl) (L' := [(3, .int (nI (((x / 10) / 10) / 10))), (4, .int (nI 1)), (2, .int (jb (1 ≤ ((((x / 10) / 10) / 10) % 10) ∧ ((((x / 10) / 10) / 10) % 10) ≤ 4))), (0, .ref (E.1 + 38)), (1, .int (nI x))]) rfl ?_
                  refine J_iinc (q := 1) (v := (nI 0)) dX8_layOrders_93 rfl (by decide +kernel) (Nat.le_of_ble_eq_true rfl) (L' := [(4, .int (nI 0)), (3, .int (nI (((x / 10) / 10) / 10))), (2, .int (jb (1 ≤ ((((x / 10) / 10) / 10) % 10) ∧ ((((x / 10) / 10) / 10) % 10) ≤ 4))), (0, .ref (E.1 + 38)), (1, .int (nI x))]) rfl ?_
                  refine J_goto (tgt := 66) dX8_layOrders_96 (by decide) ?_
                  refine J_iload dX8_layOrders_66 rfl ?_
                  refine J_if_ltN (tgt := 99) dX8_layOrders_68 (by decide) (by omega) ?_
                  refine J_iload_n dX8_layOrders_71 rfl ?_
                  refine J_if_eqB (tgt := 99) dX8_layOrders_72 (by decide) (fun c46 => ?_) (fun c46 => ?_)
                  · skip
                    refine J_iload_n dX8_layOrders_99 rfl ?_
                    exact J_zret dX8_layOrders_100 rfl jb_nar ⟨Nat.le_refl _, Nat.le_refl _⟩ (by rw [hPP]; exact ⟨(congrArg some (by first | rfl | exact jbv0 (by omega) | (exfalso; exact hbad ⟨by omega, by omega, by omega, by omega, by omega⟩))), rfl, (updN (updN (updN TE 3 ((x % 10) - 1)) 2 (((x / 10) % 10) - 1)) 1 ((((x / 10) / 10) % 10) - 1)), 4, rfl⟩)
                  · skip
                    refine J_aload_n dX8_layOrders_75 rfl ?_
                    refine J_get 8 dX8_layOrders_76 jk8 (Nat.le_of_ble_eq_true rfl) jfRX8_30 ((hset_ne (by omega)).trans hset_eq) (by omega) rfl ?_
                    refine J_iload dX8_layOrders_79 rfl ?_
                    refine J_iload_n dX8_layOrders_81 rfl ?_
                    refine J_bipush (v := nI 10) dX8_layOrders_82 (by decide +kernel) ?_
                    refine J_iremN dX8_layOrders_84 (by omega) (by omega) (by omega) ?_
                    refine J_iconst (v := nI 1) dX8_layOrders_85 (by decide +kernel) ?_
                    refine J_isubN dX8_layOrders_86 (by omega) ?_
                    refine J_iastN (i := 0) (v := ((((x / 10) / 10) / 10) % 10) - 1) dX8_layOrders_87 hset_eq (by omega) (by omega) (by omega) ?_
                    refine J.cast hset_hset ?_
                    refine J_iload_n dX8_layOrders_88 rfl ?_
                    refine J_bipush (v := nI 10) dX8_layOrders_89 (by decide +kernel) ?_
                    refine J_idivN dX8_layOrders_91 (by omega) (by omega) (by omega) ?_
                    refine J_istore_n dX8_layOrders_92 (Nat.le_of_ble_eq_true rfl) (L' := [(3, .int (nI ((((x / 10) / 10) / 10) / 10))), (4, .int (nI 0)), (2, .int (jb (1 ≤ ((((x / 10) / 10) / 10) % 10) ∧ ((((x / 10) / 10) / 10) % 10) ≤ 4))), (0, .ref (E.1 + 38)), (1, .int (nI x))]) rfl ?_
                    refine J_iinc (q := 1) (v := (-1)) dX8_layOrders_93 rfl (by decide +kernel) (Nat.le_of_ble_eq_true rfl) (L' := [(4, .int (-1)), (3, .int (nI ((((x / 10) / 10) / 10) / 10))), (2, .int (jb (1 ≤ ((((x / 10) / 10) / 10) % 10) ∧ ((((x / 10) / 10) / 10) % 10) ≤ 4))), (0, .ref (E.1 + 38)), (1, .int (nI x))]) rfl ?_
                    refine J_goto (tgt := 66) dX8_layOrders_96 (by decide) ?_
                    refine J_iload dX8_layOrders_66 rfl ?_
                    refine J_if_lt (tgt := 99) dX8_layOrders_68 (by decide) (fun _ => ?_) (fun z => absurd (by decide +kernel) z)
                    refine J_iload_n dX8_layOrders_99 rfl ?_
                    exact J_zret dX8_layOrders_100 rfl jb_nar ⟨Nat.le_refl _, Nat.le_refl _⟩ (by rw [hPP]; exact ⟨(congrArg some (by first | rfl | exact jbv0 (by omega) | (exfalso; exact hbad ⟨by omega, by omega, by omega, by omega, by omega⟩))), rfl, (updN (updN (updN (updN TE 3 ((x % 10) - 1)) 2 (((x / 10) % 10) - 1)) 1 ((((x / 10) / 10) % 10) - 1)) 0 (((((x / 10) / 10) / 10) % 10) - 1)), 4, rfl⟩)

set_option maxHeartbeats 1000000 in
set_option maxRecDepth 100000 in
theorem ctX8_layOrders_big {E : jE} {h : Nat → va_E} {n : Nat} (x : Nat) (xa : Nat) (xb : Nat) (dt : Nat) (mo : Nat) (bn : Nat) (ta : Nat) (tl : Nat) (tk : Nat) (va : Nat) (TE : Nat → Nat) (H0 : h 38 = .inr (7, [.ref (E.1 + 39), .ref (E.1 + 40), .ref (E.1 + 41), .ref (E.1 + 42), .long (lN xa), .long (lN xb), .ref (E.1 + 43), .int (nI dt), .ref (E.1 + 44), .ref (E.1 + 45), .int (nI mo), .ref (E.1 + 46), .ref (E.1 + 47), .int (nI bn), .int (nI ta), .int (nI tl), .int (nI tk), .int (nI va), .ref (E.1 + 48), .ref (E.1 + 49)])) (H1 : h 44 = cI E 4 (nF TE)) (hn : 50 ≤ n) (h32x : x < 2 ^ 32) (hbad : ¬ x ≤ 4444) : jC E mX8_layOrders (2, 0, 0) [.ref (E.1 + 38), .int (nI x)] h n (fun v h' n' => v = some (.int (nI 0)) ∧ n' = n ∧ ∃ (T1 : Nat → Nat) (ps1 : Nat), h' = (hset (hset h 38 (.inr (7, [.ref (E.1 + 39), .ref (E.1 + 40), .ref (E.1 + 41), .ref (E.1 + 42), .long (lN xa), .long (lN xb), .ref (E.1 + 43), .int (nI dt), .ref (E.1 + 44), .ref (E.1 + 45), .int (nI ps1), .ref (E.1 + 46), .ref (E.1 + 47), .int (nI bn), .int (nI ta), .int (nI tl), .int (nI tk), .int (nI va), .ref (E.1 + 48), .ref (E.1 + 49)]))) 44 (cI E 4 (nF T1)))) := by
  refine J.of (L := [(0, .ref (E.1 + 38)), (1, .int (nI x))]) rfl (by decide +kernel) (Nat.le_of_ble_eq_true rfl) ?_
  obtain ⟨PP, hPP⟩ : ∃ PP : jPost, PP = (fun v h' n' => v = some (.int (nI 0)) ∧ n' = n ∧ ∃ (T1 : Nat → Nat) (ps1 : Nat), h' = (hset (hset h 38 (.inr (7, [.ref (E.1 + 39), .ref (E.1 + 40), .ref (E.1 + 41), .ref (E.1 + 42), .long (lN xa), .long (lN xb), .ref (E.1 + 43), .int (nI dt), .ref (E.1 + 44), .ref (E.1 + 45), .int (nI ps1), .ref (E.1 + 46), .ref (E.1 + 47), .int (nI bn), .int (nI ta), .int (nI tl), .int (nI tk), .int (nI va), .ref (E.1 + 48), .ref (E.1 + 49)]))) 44 (cI E 4 (nF T1)))) := ⟨_, rfl⟩
  rw [← hPP]
  refine J_iload_n dX8_layOrders_0 rfl ?_
  refine J_i2l (v := (nI x).toInt64) dX8_layOrders_1 rfl ?_
  refine J_lconst (v := lN 0) dX8_layOrders_2 (by decide +kernel) ?_
  refine J_ldc2 dX8_layOrders_3 jqRX8_140 ?_
  refine J.stk (st' := .long (lN 4444) :: [.long (lN 0), .long (nI x).toInt64]) rfl ?_
  refine J_callSr (M' := mX8_in) (d' := (1, 0, 0)) (rest := []) dX8_layOrders_6 jmX8_in jlRX8_56 (ctX8_in x 0 4444   (by first | assumption | omega) (by first | assumption | omega) (by first | assumption | omega)) rfl rfl (Nat.le_of_ble_eq_true rfl) (Nat.le_of_ble_eq_true rfl) ⟨Nat.le_refl _, Nat.le_refl _⟩ ?_
  refine J_istore_n dX8_layOrders_9 (Nat.le_of_ble_eq_true rfl) (L' := [(2, .int (jb (0 ≤ x ∧ x ≤ 4444))), (0, .ref (E.1 + 38)), (1, .int (nI x))]) rfl ?_
  refine J_aload_n dX8_layOrders_10 rfl ?_
  refine J_iconst (v := nI 0) dX8_layOrders_11 (by decide +kernel) ?_
  refine J_put 10 dX8_layOrders_12 jk8 (Nat.le_of_ble_eq_true rfl) jfRX8_142 H0 (by omega) rfl rfl rfl (Nat.le_of_ble_eq_true rfl) ?_
  refine J.cast (h' := (hset h 38 (.inr (7, [.ref (E.1 + 39), .ref (E.1 + 40), .ref (E.1 + 41), .ref (E.1 + 42), .long (lN xa), .long (lN xb), .ref (E.1 + 43), .int (nI dt), .ref (E.1 + 44), .ref (E.1 + 45), .int (nI 0), .ref (E.1 + 46), .ref (E.1 + 47), .int (nI bn), .int (nI ta), .int (nI tl), .int (nI tk), .int (nI va), .ref (E.1 + 48), .ref (E.1 + 49)])))) rfl ?_
  refine J_iload_n dX8_layOrders_15 rfl ?_
  refine J_istore_n dX8_layOrders_16 (Nat.le_of_ble_eq_true rfl) (L' := [(3, .int (nI x)), (2, .int (jb (0 ≤ x ∧ x ≤ 4444))), (0, .ref (E.1 + 38)), (1, .int (nI x))]) rfl ?_
  refine J_iload_n dX8_layOrders_17 rfl ?_
  refine J_if_le (tgt := 56) dX8_layOrders_18 (by decide) (fun c1 => ?_) (fun c1 => ?_)
  · skip
    refine J_iload_n dX8_layOrders_56 rfl ?_
    refine J_istore_n dX8_layOrders_57 (Nat.le_of_ble_eq_true rfl) (L' := [(3, .int (nI x)), (2, .int (jb (0 ≤ x ∧ x ≤ 4444))), (0, .ref (E.1 + 38)), (1, .int (nI x))]) rfl ?_
    refine J_aload_n dX8_layOrders_58 rfl ?_
    refine J_get 10 dX8_layOrders_59 jk8 (Nat.le_of_ble_eq_true rfl) jfRX8_142 hset_eq (by omega) rfl ?_
    refine J_iconst (v := nI 1) dX8_layOrders_62 (by decide +kernel) ?_
    refine J_isub dX8_layOrders_63 ?_
    refine J.stk (st' := [.int (-1)]) (congrArg (fun z => Value.int z :: []) (by decide +kernel)) ?_
    refine J_istore dX8_layOrders_64 (Nat.le_of_ble_eq_true rfl) (L' := [(4, .int (-1)), (3, .int (nI x)), (2, .int (jb (0 ≤ x ∧ x ≤ 4444))), (0, .ref (E.1 + 38)), (1, .int (nI x))]) rfl ?_
    refine J_iload dX8_layOrders_66 rfl ?_
    refine J_if_lt (tgt := 99) dX8_layOrders_68 (by decide) (fun _ => ?_) (fun z => absurd (by decide +kernel) z)
    refine J_iload_n dX8_layOrders_99 rfl ?_
    exact J_zret dX8_layOrders_100 rfl jb_nar ⟨Nat.le_refl _, Nat.le_refl _⟩ (by rw [hPP]; exact ⟨(congrArg some (by first | rfl | exact jbv0 (by omega))), rfl, TE, 0, ((show (hset h 38 (.inr (7, [.ref (E.1 + 39), .ref (E.1 + 40), .ref (E.1 + 41), .ref (E.1 + 42), .long (lN xa), .long (lN xb), .ref (E.1 + 43), .int (nI dt), .ref (E.1 + 44), .ref (E.1 + 45), .int (nI 0), .ref (E.1 + 46), .ref (E.1 + 47), .int (nI bn), .int (nI ta), .int (nI tl), .int (nI tk), .int (nI va), .ref (E.1 + 48), .ref (E.1 + 49)]))) = (hset (hset h 38 (.inr (7, [.ref (E.1 + 39), .ref (E.1 + 40), .ref (E.1 + 41), .ref (E.1 + 42), .long (lN xa), .long (lN xb), .ref (E.1 + 43), .int (nI dt), .ref (E.1 + 44), .ref (E.1 + 45), .int (nI 0), .ref (E.1 + 46), .ref (E.1 + 47), .int (nI bn), .int (nI ta), .int (nI tl), .int (nI tk), .int (nI va), .ref (E.1 + 48), .ref (E.1 + 49)]))) 44 (cI E 4 (nF TE))) by funext z; simp only [hset]; (repeat' split) <;> first | rfl | (exfalso; omega) | (subst_vars; first | exact H1)).trans (hset_cg (hset_cg rfl rfl) rfl))⟩)
  · skip
    refine J_iload_n dX8_layOrders_21 rfl ?_
    refine J_if_eqB (tgt := 56) dX8_layOrders_22 (by decide) (fun c2 => ?_) (fun c2 => (by exfalso; omega))
    refine J_iload_n dX8_layOrders_56 rfl ?_
    refine J_istore_n dX8_layOrders_57 (Nat.le_of_ble_eq_true rfl) (L' := [(3, .int (nI x)), (2, .int (jb (0 ≤ x ∧ x ≤ 4444))), (0, .ref (E.1 + 38)), (1, .int (nI x))]) rfl ?_
    refine J_aload_n dX8_layOrders_58 rfl ?_
    refine J_get 10 dX8_layOrders_59 jk8 (Nat.le_of_ble_eq_true rfl) jfRX8_142 hset_eq (by omega) rfl ?_
    refine J_iconst (v := nI 1) dX8_layOrders_62 (by decide +kernel) ?_
    refine J_isub dX8_layOrders_63 ?_
    refine J.stk (st' := [.int (-1)]) (congrArg (fun z => Value.int z :: []) (by decide +kernel)) ?_
    refine J_istore dX8_layOrders_64 (Nat.le_of_ble_eq_true rfl) (L' := [(4, .int (-1)), (3, .int (nI x)), (2, .int (jb (0 ≤ x ∧ x ≤ 4444))), (0, .ref (E.1 + 38)), (1, .int (nI x))]) rfl ?_
    refine J_iload dX8_layOrders_66 rfl ?_
    refine J_if_lt (tgt := 99) dX8_layOrders_68 (by decide) (fun _ => ?_) (fun z => absurd (by decide +kernel) z)
    refine J_iload_n dX8_layOrders_99 rfl ?_
    exact J_zret dX8_layOrders_100 rfl jb_nar ⟨Nat.le_refl _, Nat.le_refl _⟩ (by rw [hPP]; exact ⟨(congrArg some (by first | rfl | exact jbv0 (by omega))), rfl, TE, 0, ((show (hset h 38 (.inr (7, [.ref (E.1 + 39), .ref (E.1 + 40), .ref (E.1 + 41), .ref (E.1 + 42), .long (lN xa), .long (lN xb), .ref (E.1 + 43), .int (nI dt), .ref (E.1 + 44), .ref (E.1 + 45), .int (nI 0), .ref (E.1 + 46), .ref (E.1 + 47), .int (nI bn), .int (nI ta), .int (nI tl), .int (nI tk), .int (nI va), .ref (E.1 + 48), .ref (E.1 + 49)]))) = (hset (hset h 38 (.inr (7, [.ref (E.1 + 39), .ref (E.1 + 40), .ref (E.1 + 41), .ref (E.1 + 42), .long (lN xa), .long (lN xb), .ref (E.1 + 43), .int (nI dt), .ref (E.1 + 44), .ref (E.1 + 45), .int (nI 0), .ref (E.1 + 46), .ref (E.1 + 47), .int (nI bn), .int (nI ta), .int (nI tl), .int (nI tk), .int (nI va), .ref (E.1 + 48), .ref (E.1 + 49)]))) 44 (cI E 4 (nF TE))) by funext z; simp only [hset]; (repeat' split) <;> first | rfl | (exfalso; omega) | (subst_vars; first | exact H1)).trans (hset_cg (hset_cg rfl rfl) rfl))⟩)

set_option maxHeartbeats 1000000 in
set_option maxRecDepth 100000 in
theorem ctX8_orders_big {E : jE} {h : Nat → va_E} {n : Nat} (x : Nat) (bl : Nat) (i : Nat) (xa : Nat) (xb : Nat) (dt : Nat) (mo : Nat) (bn : Nat) (ta : Nat) (tl : Nat) (tk : Nat) (va : Nat) (RF : Nat → Nat) (TE : Nat → Nat) (H0 : h 38 = .inr (7, [.ref (E.1 + 39), .ref (E.1 + 40), .ref (E.1 + 41), .ref (E.1 + 42), .long (lN xa), .long (lN xb), .ref (E.1 + 43), .int (nI dt), .ref (E.1 + 44), .ref (E.1 + 45), .int (nI mo), .ref (E.1 + 46), .ref (E.1 + 47), .int (nI bn), .int (nI ta), .int (nI tl), .int (nI tk), .int (nI va), .ref (E.1 + 48), .ref (E.1 + 49)])) (H1 : h 42 = cI E 3 (nF RF)) (H2 : h 44 = cI E 4 (nF TE)) (hn : 50 ≤ n) (h32x : x < 2 ^ 32) (h32bl : bl < 2 ^ 32) (h32i : i < 2 ^ 32) (hbad : ¬ x ≤ 4444) : jC E mX8_orders (5, 0, 0) [.ref (E.1 + 38), .int (nI x), .int (nI bl), .int (nI i)] h n (fun v h' n' => v = some (.int (-10)) ∧ n' = n ∧ ∃ (T1 : Nat → Nat) (ps1 : Nat), h' = (hset (hset (hset h 38 (.inr (7, [.ref (E.1 + 39), .ref (E.1 + 40), .ref (E.1 + 41), .ref (E.1 + 42), .long (lN xa), .long (lN xb), .ref (E.1 + 43), .int (nI dt), .ref (E.1 + 44), .ref (E.1 + 45), .int (nI ps1), .ref (E.1 + 46), .ref (E.1 + 47), .int (nI bn), .int (nI ta), .int (nI tl), .int (nI tk), .int (nI va), .ref (E.1 + 48), .ref (E.1 + 49)]))) 44 (cI E 4 (nF T1))) 42 (cI E 3 (nF (updN RF 0 (RF 0 + 1)))))) := by
  refine J.of (L := [(0, .ref (E.1 + 38)), (1, .int (nI x)), (2, .int (nI bl)), (3, .int (nI i))]) rfl (by decide +kernel) (Nat.le_of_ble_eq_true rfl) ?_
  obtain ⟨PP, hPP⟩ : ∃ PP : jPost, PP = (fun v h' n' => v = some (.int (-10)) ∧ n' = n ∧ ∃ (T1 : Nat → Nat) (ps1 : Nat), h' = (hset (hset (hset h 38 (.inr (7, [.ref (E.1 + 39), .ref (E.1 + 40), .ref (E.1 + 41), .ref (E.1 + 42), .long (lN xa), .long (lN xb), .ref (E.1 + 43), .int (nI dt), .ref (E.1 + 44), .ref (E.1 + 45), .int (nI ps1), .ref (E.1 + 46), .ref (E.1 + 47), .int (nI bn), .int (nI ta), .int (nI tl), .int (nI tk), .int (nI va), .ref (E.1 + 48), .ref (E.1 + 49)]))) 44 (cI E 4 (nF T1))) 42 (cI E 3 (nF (updN RF 0 (RF 0 + 1)))))) := ⟨_, rfl⟩
  rw [← hPP]
  refine J_aload_n dX8_orders_0 rfl ?_
  refine J_iload_n dX8_orders_1 rfl ?_
  refine J_callV (M' := mX8_layOrders) (d' := (2, 0, 0)) (rest := []) dX8_orders_2 jmX8_layOrders jlRX8_145 (ctX8_layOrders_big x xa xb dt mo bn ta tl tk va TE H0 H2 (by omega) (by first | assumption | omega) (by first | assumption | omega)) H0 (by omega) jk8.1 rfl rfl (Nat.le_of_ble_eq_true rfl) (Nat.le_of_ble_eq_true rfl) (by constructor <;> decide +kernel) (fun v9 h9 n9 q9 => ?_)
  obtain ⟨rfl, hn9, T1_1, ps1_2, rfl⟩ := q9
  replace hn9 := hn9.symm
  subst hn9
  refine J.stk (st' := [.int (nI 0)]) rfl ?_
  refine J_if_eqN (tgt := 25) dX8_orders_5 (by decide) (by omega) (fun _ => ?_) (fun z => absurd z (by decide))
  refine J_aload_n dX8_orders_25 rfl ?_
  refine J_bipush (v := (-10)) dX8_orders_26 (by decide +kernel) ?_
  refine J_callVr (M' := mX8_bad) (d' := (1, 0, 0)) (rest := []) dX8_orders_28 jmX8_bad jlRX8_66 (ctX8_bad (-10) xa xb dt ps1_2 bn ta tl tk va RF ((hset_ne (by omega)).trans hset_eq) ((hset_ne (by omega)).trans ((hset_ne (by omega)).trans H1)) (by omega) ) ((hset_ne (by omega)).trans hset_eq) (by omega) jk8.1 rfl rfl (Nat.le_of_ble_eq_true rfl) (Nat.le_of_ble_eq_true rfl) ⟨Nat.le_refl _, Nat.le_refl _⟩ ?_
  exact J_iret dX8_orders_31 rfl ⟨Nat.le_refl _, Nat.le_refl _⟩ (by rw [hPP]; exact ⟨rfl, rfl, T1_1, ps1_2, rfl⟩)

set_option maxHeartbeats 1000000 in
set_option maxRecDepth 100000 in
theorem ctX8_orders_tell {E : jE} {h : Nat → va_E} {n : Nat} (x : Nat) (bl : Nat) (i : Nat) (xa : Nat) (xb : Nat) (dt : Nat) (mo : Nat) (bn : Nat) (ta : Nat) (tl : Nat) (tk : Nat) (va : Nat) (RF : Nat → Nat) (TE : Nat → Nat) (H0 : h 38 = .inr (7, [.ref (E.1 + 39), .ref (E.1 + 40), .ref (E.1 + 41), .ref (E.1 + 42), .long (lN xa), .long (lN xb), .ref (E.1 + 43), .int (nI dt), .ref (E.1 + 44), .ref (E.1 + 45), .int (nI mo), .ref (E.1 + 46), .ref (E.1 + 47), .int (nI bn), .int (nI ta), .int (nI tl), .int (nI tk), .int (nI va), .ref (E.1 + 48), .ref (E.1 + 49)])) (H1 : h 42 = cI E 3 (nF RF)) (H2 : h 44 = cI E 4 (nF TE)) (hn : 50 ≤ n) (h32bl : bl < 2 ^ 32) (h32i : i < 2 ^ 32) (hx : x ≤ 4444) (hbad : ¬ okW x) : jC E mX8_orders (5, 0, 0) [.ref (E.1 + 38), .int (nI x), .int (nI bl), .int (nI i)] h n (fun v h' n' => v = some (.int (-10)) ∧ n' = n ∧ ∃ (T1 : Nat → Nat) (ps1 : Nat), h' = (hset (hset (hset h 38 (.inr (7, [.ref (E.1 + 39), .ref (E.1 + 40), .ref (E.1 + 41), .ref (E.1 + 42), .long (lN xa), .long (lN xb), .ref (E.1 + 43), .int (nI dt), .ref (E.1 + 44), .ref (E.1 + 45), .int (nI ps1), .ref (E.1 + 46), .ref (E.1 + 47), .int (nI bn), .int (nI ta), .int (nI tl), .int (nI tk), .int (nI va), .ref (E.1 + 48), .ref (E.1 + 49)]))) 44 (cI E 4 (nF T1))) 42 (cI E 3 (nF (updN RF 0 (RF 0 + 1)))))) := by
  refine J.of (L := [(0, .ref (E.1 + 38)), (1, .int (nI x)), (2, .int (nI bl)), (3, .int (nI i))]) rfl (by decide +kernel) (Nat.le_of_ble_eq_true rfl) ?_
  obtain ⟨PP, hPP⟩ : ∃ PP : jPost, PP = (fun v h' n' => v = some (.int (-10)) ∧ n' = n ∧ ∃ (T1 : Nat → Nat) (ps1 : Nat), h' = (hset (hset (hset h 38 (.inr (7, [.ref (E.1 + 39), .ref (E.1 + 40), .ref (E.1 + 41), .ref (E.1 + 42), .long (lN xa), .long (lN xb), .ref (E.1 + 43), .int (nI dt), .ref (E.1 + 44), .ref (E.1 + 45), .int (nI ps1), .ref (E.1 + 46), .ref (E.1 + 47), .int (nI bn), .int (nI ta), .int (nI tl), .int (nI tk), .int (nI va), .ref (E.1 + 48), .ref (E.1 + 49)]))) 44 (cI E 4 (nF T1))) 42 (cI E 3 (nF (updN RF 0 (RF 0 + 1)))))) := ⟨_, rfl⟩
  rw [← hPP]
  refine J_aload_n dX8_orders_0 rfl ?_
  refine J_iload_n dX8_orders_1 rfl ?_
  refine J_callV (M' := mX8_layOrders) (d' := (2, 0, 0)) (rest := []) dX8_orders_2 jmX8_layOrders jlRX8_145 (ctX8_layOrders_bad x xa xb dt mo bn ta tl tk va TE H0 H2 (by omega) (by first | assumption | omega) (by first | assumption | omega)) H0 (by omega) jk8.1 rfl rfl (Nat.le_of_ble_eq_true rfl) (Nat.le_of_ble_eq_true rfl) (by constructor <;> decide +kernel) (fun v9 h9 n9 q9 => ?_)
  obtain ⟨rfl, hn9, T1_1, ps1_2, rfl⟩ := q9
  replace hn9 := hn9.symm
  subst hn9
  refine J.stk (st' := [.int (nI 0)]) rfl ?_
  refine J_if_eqN (tgt := 25) dX8_orders_5 (by decide) (by omega) (fun _ => ?_) (fun z => absurd z (by decide))
  refine J_aload_n dX8_orders_25 rfl ?_
  refine J_bipush (v := (-10)) dX8_orders_26 (by decide +kernel) ?_
  refine J_callVr (M' := mX8_bad) (d' := (1, 0, 0)) (rest := []) dX8_orders_28 jmX8_bad jlRX8_66 (ctX8_bad (-10) xa xb dt ps1_2 bn ta tl tk va RF ((hset_ne (by omega)).trans hset_eq) ((hset_ne (by omega)).trans ((hset_ne (by omega)).trans H1)) (by omega) ) ((hset_ne (by omega)).trans hset_eq) (by omega) jk8.1 rfl rfl (Nat.le_of_ble_eq_true rfl) (Nat.le_of_ble_eq_true rfl) ⟨Nat.le_refl _, Nat.le_refl _⟩ ?_
  exact J_iret dX8_orders_31 rfl ⟨Nat.le_refl _, Nat.le_refl _⟩ (by rw [hPP]; exact ⟨rfl, rfl, T1_1, ps1_2, rfl⟩)

set_option maxHeartbeats 1000000 in
set_option maxRecDepth 100000 in
theorem ctX8_orders_bad {E : jE} {h : Nat → va_E} {n : Nat} (x : Nat) (bl : Nat) (i : Nat) (xa : Nat) (xb : Nat) (dt : Nat) (mo : Nat) (bn : Nat) (ta : Nat) (tl : Nat) (tk : Nat) (va : Nat) (RF : Nat → Nat) (TE : Nat → Nat) (H0 : h 38 = .inr (7, [.ref (E.1 + 39), .ref (E.1 + 40), .ref (E.1 + 41), .ref (E.1 + 42), .long (lN xa), .long (lN xb), .ref (E.1 + 43), .int (nI dt), .ref (E.1 + 44), .ref (E.1 + 45), .int (nI mo), .ref (E.1 + 46), .ref (E.1 + 47), .int (nI bn), .int (nI ta), .int (nI tl), .int (nI tk), .int (nI va), .ref (E.1 + 48), .ref (E.1 + 49)])) (H1 : h 42 = cI E 3 (nF RF)) (H2 : h 44 = cI E 4 (nF TE)) (hn : 50 ≤ n) (h32bl : bl < 2 ^ 32) (h32i : i < 2 ^ 32) (hok : okW x) (hbad : ¬ ((1 ≤ bl ∧ bl ≤ 5) ∧ (i < 2 ^ 31 ∨ i = 4294967295))) : jC E mX8_orders (5, 0, 0) [.ref (E.1 + 38), .int (nI x), .int (nI bl), .int (nI i)] h n (fun v h' n' => v = some (.int (-10)) ∧ n' = n ∧ ∃ (T1 : Nat → Nat) (ps1 : Nat), h' = (hset (hset (hset h 38 (.inr (7, [.ref (E.1 + 39), .ref (E.1 + 40), .ref (E.1 + 41), .ref (E.1 + 42), .long (lN xa), .long (lN xb), .ref (E.1 + 43), .int (nI dt), .ref (E.1 + 44), .ref (E.1 + 45), .int (nI ps1), .ref (E.1 + 46), .ref (E.1 + 47), .int (nI bn), .int (nI ta), .int (nI tl), .int (nI tk), .int (nI va), .ref (E.1 + 48), .ref (E.1 + 49)]))) 44 (cI E 4 (nF T1))) 42 (cI E 3 (nF (updN RF 0 (RF 0 + 1)))))) := by
  refine J.of (L := [(0, .ref (E.1 + 38)), (1, .int (nI x)), (2, .int (nI bl)), (3, .int (nI i))]) rfl (by decide +kernel) (Nat.le_of_ble_eq_true rfl) ?_
  obtain ⟨PP, hPP⟩ : ∃ PP : jPost, PP = (fun v h' n' => v = some (.int (-10)) ∧ n' = n ∧ ∃ (T1 : Nat → Nat) (ps1 : Nat), h' = (hset (hset (hset h 38 (.inr (7, [.ref (E.1 + 39), .ref (E.1 + 40), .ref (E.1 + 41), .ref (E.1 + 42), .long (lN xa), .long (lN xb), .ref (E.1 + 43), .int (nI dt), .ref (E.1 + 44), .ref (E.1 + 45), .int (nI ps1), .ref (E.1 + 46), .ref (E.1 + 47), .int (nI bn), .int (nI ta), .int (nI tl), .int (nI tk), .int (nI va), .ref (E.1 + 48), .ref (E.1 + 49)]))) 44 (cI E 4 (nF T1))) 42 (cI E 3 (nF (updN RF 0 (RF 0 + 1)))))) := ⟨_, rfl⟩
  rw [← hPP]
  refine J_aload_n dX8_orders_0 rfl ?_
  refine J_iload_n dX8_orders_1 rfl ?_
  refine J_callV (M' := mX8_layOrders) (d' := (2, 0, 0)) (rest := []) dX8_orders_2 jmX8_layOrders jlRX8_145 (ctX8_layOrders x xa xb dt mo bn ta tl tk va TE H0 H2 (by omega) (by first | assumption | omega)) H0 (by omega) jk8.1 rfl rfl (Nat.le_of_ble_eq_true rfl) (Nat.le_of_ble_eq_true rfl) (by constructor <;> decide +kernel) (fun v9 h9 n9 q9 => ?_)
  obtain ⟨rfl, hn9, T1_1, rfl, hT_2⟩ := q9
  replace hn9 := hn9.symm
  subst hn9
  refine J.stk (st' := [.int (nI 1)]) rfl ?_
  refine J_if_eqN (tgt := 25) dX8_orders_5 (by decide) (by omega) (fun z => absurd z (by decide)) (fun _ => ?_)
  refine J_iload_n dX8_orders_8 rfl ?_
  refine J_i2l (v := (nI bl).toInt64) dX8_orders_9 rfl ?_
  refine J_lconst (v := lN 1) dX8_orders_10 (by decide +kernel) ?_
  refine J_ldc2 dX8_orders_11 jqRX8_70 ?_
  refine J.stk (st' := .long (lN 5) :: [.long (lN 1), .long (nI bl).toInt64]) rfl ?_
  refine J_callSr (M' := mX8_in) (d' := (1, 0, 0)) (rest := []) dX8_orders_14 jmX8_in jlRX8_56 (ctX8_in bl 1 5   (by first | assumption | omega) (by first | assumption | omega) (by first | assumption | omega)) rfl rfl (Nat.le_of_ble_eq_true rfl) (Nat.le_of_ble_eq_true rfl) ⟨Nat.le_refl _, Nat.le_refl _⟩ ?_
  refine J_if_eqB (tgt := 25) dX8_orders_17 (by decide) (fun c4 => ?_) (fun c4 => ?_)
  · skip
    refine J_aload_n dX8_orders_25 rfl ?_
    refine J_bipush (v := (-10)) dX8_orders_26 (by decide +kernel) ?_
    refine J_callVr (M' := mX8_bad) (d' := (1, 0, 0)) (rest := []) dX8_orders_28 jmX8_bad jlRX8_66 (ctX8_bad (-10) xa xb dt (ndig x) bn ta tl tk va RF ((hset_ne (by omega)).trans hset_eq) ((hset_ne (by omega)).trans ((hset_ne (by omega)).trans H1)) (by omega) ) ((hset_ne (by omega)).trans hset_eq) (by omega) jk8.1 rfl rfl (Nat.le_of_ble_eq_true rfl) (Nat.le_of_ble_eq_true rfl) ⟨Nat.le_refl _, Nat.le_refl _⟩ ?_
    exact J_iret dX8_orders_31 rfl ⟨Nat.le_refl _, Nat.le_refl _⟩ (by rw [hPP]; exact ⟨rfl, rfl, T1_1, (ndig x), rfl⟩)
  · skip
    refine J_iload_n dX8_orders_20 rfl ?_
    refine J_iconst (v := (-1)) dX8_orders_21 (by decide +kernel) ?_
    refine J_icmp_geV (tgt := 32) dX8_orders_22 (by decide) (by omega) (fun c5 => (by exfalso; omega)) (fun c5 => ?_)
    refine J_aload_n dX8_orders_25 rfl ?_
    refine J_bipush (v := (-10)) dX8_orders_26 (by decide +kernel) ?_
    refine J_callVr (M' := mX8_bad) (d' := (1, 0, 0)) (rest := []) dX8_orders_28 jmX8_bad jlRX8_66 (ctX8_bad (-10) xa xb dt (ndig x) bn ta tl tk va RF ((hset_ne (by omega)).trans hset_eq) ((hset_ne (by omega)).trans ((hset_ne (by omega)).trans H1)) (by omega) ) ((hset_ne (by omega)).trans hset_eq) (by omega) jk8.1 rfl rfl (Nat.le_of_ble_eq_true rfl) (Nat.le_of_ble_eq_true rfl) ⟨Nat.le_refl _, Nat.le_refl _⟩ ?_
    exact J_iret dX8_orders_31 rfl ⟨Nat.le_refl _, Nat.le_refl _⟩ (by rw [hPP]; exact ⟨rfl, rfl, T1_1, (ndig x), rfl⟩)

set_option maxHeartbeats 1000000 in
set_option maxRecDepth 100000 in
theorem ctX8_orders_0 {E : jE} {h : Nat → va_E} {n : Nat} (x : Nat) (bl : Nat) (i : Nat) (xa : Nat) (xb : Nat) (dt : Nat) (mo : Nat) (bn : Nat) (ta : Nat) (tl : Nat) (tk : Nat) (va : Nat) (Q : Nat → Nat) (TE : Nat → Nat) (H0 : h 38 = .inr (7, [.ref (E.1 + 39), .ref (E.1 + 40), .ref (E.1 + 41), .ref (E.1 + 42), .long (lN xa), .long (lN xb), .ref (E.1 + 43), .int (nI dt), .ref (E.1 + 44), .ref (E.1 + 45), .int (nI mo), .ref (E.1 + 46), .ref (E.1 + 47), .int (nI bn), .int (nI ta), .int (nI tl), .int (nI tk), .int (nI va), .ref (E.1 + 48), .ref (E.1 + 49)])) (H1 : h 39 = cI E 218 (nF Q)) (H2 : h 44 = cI E 4 (nF TE)) (hn : 50 ≤ n) (hok : okW x) (hb1 : 1 ≤ bl) (hb5 : bl ≤ 5) (h32i : i < 2 ^ 32) (hi : i < 2 ^ 31 ∨ i = 4294967295) (han : Q 0 = 0) : jC E mX8_orders (5, 0, 0) [.ref (E.1 + 38), .int (nI x), .int (nI bl), .int (nI i)] h n (fun v h' n' => v = some (.int (-1)) ∧ n' = n ∧ ∃ (T1 : Nat → Nat), h' = (hset (hset h 38 (.inr (7, [.ref (E.1 + 39), .ref (E.1 + 40), .ref (E.1 + 41), .ref (E.1 + 42), .long (lN xa), .long (lN xb), .ref (E.1 + 43), .int (nI dt), .ref (E.1 + 44), .ref (E.1 + 45), .int (nI (ndig x)), .ref (E.1 + 46), .ref (E.1 + 47), .int (nI bn), .int (nI ta), .int (nI tl), .int (nI tk), .int (nI va), .ref (E.1 + 48), .ref (E.1 + 49)]))) 44 (cI E 4 (nF T1)))) := by
  refine J.of (L := [(0, .ref (E.1 + 38)), (1, .int (nI x)), (2, .int (nI bl)), (3, .int (nI i))]) rfl (by decide +kernel) (Nat.le_of_ble_eq_true rfl) ?_
  obtain ⟨PP, hPP⟩ : ∃ PP : jPost, PP = (fun v h' n' => v = some (.int (-1)) ∧ n' = n ∧ ∃ (T1 : Nat → Nat), h' = (hset (hset h 38 (.inr (7, [.ref (E.1 + 39), .ref (E.1 + 40), .ref (E.1 + 41), .ref (E.1 + 42), .long (lN xa), .long (lN xb), .ref (E.1 + 43), .int (nI dt), .ref (E.1 + 44), .ref (E.1 + 45), .int (nI (ndig x)), .ref (E.1 + 46), .ref (E.1 + 47), .int (nI bn), .int (nI ta), .int (nI tl), .int (nI tk), .int (nI va), .ref (E.1 + 48), .ref (E.1 + 49)]))) 44 (cI E 4 (nF T1)))) := ⟨_, rfl⟩
  rw [← hPP]
  refine J_aload_n dX8_orders_0 rfl ?_
  refine J_iload_n dX8_orders_1 rfl ?_
  refine J_callV (M' := mX8_layOrders) (d' := (2, 0, 0)) (rest := []) dX8_orders_2 jmX8_layOrders jlRX8_145 (ctX8_layOrders x xa xb dt mo bn ta tl tk va TE H0 H2 (by omega) (by first | assumption | omega)) H0 (by omega) jk8.1 rfl rfl (Nat.le_of_ble_eq_true rfl) (Nat.le_of_ble_eq_true rfl) (by constructor <;> decide +kernel) (fun v9 h9 n9 q9 => ?_)
  obtain ⟨rfl, hn9, T1_1, rfl, hT_2⟩ := q9
  replace hn9 := hn9.symm
  subst hn9
  refine J.stk (st' := [.int (nI 1)]) rfl ?_
  refine J_if_eqN (tgt := 25) dX8_orders_5 (by decide) (by omega) (fun z => absurd z (by decide)) (fun _ => ?_)
  refine J_iload_n dX8_orders_8 rfl ?_
  refine J_i2lN dX8_orders_9 (by omega) ?_
  refine J_lconst (v := lN 1) dX8_orders_10 (by decide +kernel) ?_
  refine J_ldc2 dX8_orders_11 jqRX8_70 ?_
  refine J.stk (st' := .long (lN 5) :: [.long (lN 1), .long (lN bl)]) rfl ?_
  refine J_callSr (M' := mX8_in) (d' := (1, 0, 0)) (rest := []) dX8_orders_14 jmX8_in jlRX8_56 (ctX8_inM bl 1 5   (by first | assumption | omega) (by first | assumption | omega) (by first | assumption | omega)) rfl rfl (Nat.le_of_ble_eq_true rfl) (Nat.le_of_ble_eq_true rfl) ⟨Nat.le_refl _, Nat.le_refl _⟩ ?_
  refine J_if_eqB (tgt := 25) dX8_orders_17 (by decide) (fun c4 => (by exfalso; omega)) (fun c4 => ?_)
  refine J_iload_n dX8_orders_20 rfl ?_
  refine J_iconst (v := (-1)) dX8_orders_21 (by decide +kernel) ?_
  refine J_icmp_geV (tgt := 32) dX8_orders_22 (by decide) (by omega) (fun c5 => ?_) (fun c5 => (by exfalso; omega))
  refine J_aload_n dX8_orders_32 rfl ?_
  refine J_callVr (M' := mX8_many) (d' := (1, 0, 0)) (rest := []) dX8_orders_33 jmX8_many jlRX8_52 (ctX8_many xa xb dt (ndig x) bn ta tl tk va Q ((hset_ne (by omega)).trans hset_eq) ((hset_ne (by omega)).trans ((hset_ne (by omega)).trans H1)) (by omega) ) ((hset_ne (by omega)).trans hset_eq) (by omega) jk8.1 rfl rfl (Nat.le_of_ble_eq_true rfl) (Nat.le_of_ble_eq_true rfl) ⟨Nat.le_refl _, Nat.le_refl _⟩ ?_
  refine J_if_neN (tgt := 41) dX8_orders_36 (by decide) (by omega) (fun c6 => (by exfalso; omega)) (fun c6 => ?_)
  refine J_iconst (v := (-1)) dX8_orders_39 (by decide +kernel) ?_
  exact J_iret dX8_orders_40 rfl ⟨Nat.le_refl _, Nat.le_refl _⟩ (by rw [hPP]; exact ⟨rfl, rfl, T1_1, rfl⟩)

set_option maxHeartbeats 1000000 in
set_option maxRecDepth 100000 in
theorem ctX8_orders_n {E : jE} {h : Nat → va_E} {n : Nat} (w : oW) (x : Nat) (bl : Nat) (i : Nat) (xa : Nat) (xb : Nat) (dt : Nat) (mo : Nat) (bn : Nat) (ta : Nat) (tl : Nat) (tk : Nat) (va : Nat) (Q : Nat → Nat) (MM : Nat → Nat) (TE : Nat → Nat) (BE : Nat → Nat) (H0 : h 38 = .inr (7, [.ref (E.1 + 39), .ref (E.1 + 40), .ref (E.1 + 41), .ref (E.1 + 42), .long (lN xa), .long (lN xb), .ref (E.1 + 43), .int (nI dt), .ref (E.1 + 44), .ref (E.1 + 45), .int (nI mo), .ref (E.1 + 46), .ref (E.1 + 47), .int (nI bn), .int (nI ta), .int (nI tl), .int (nI tk), .int (nI va), .ref (E.1 + 48), .ref (E.1 + 49)])) (H1 : h 39 = cI E 218 (nF Q)) (H2 : h 43 = cI E 16 (nF MM)) (H3 : h 44 = cI E 4 (nF TE)) (H4 : h 45 = cI E 4 (nF BE)) (hn : 50 ≤ n) (hn4 : Q 0 ≤ 4) (hK : ∀ zz, zz < 4 → KQ Q zz ≤ 5) (hM4 : ∀ zz, zz < 16 → Q (4 + zz) ≤ 20) (hg : Q 21 ≤ 9) (hM : ∀ zz, MM zz ≤ 20) (hok : okW x) (hb1 : 1 ≤ bl) (hb5 : bl ≤ 5) (h32i : i < 2 ^ 32) (hi : i = 4294967295) (han : 1 ≤ Q 0) (hw1 : w.an = Q 0 ∧ w.g = Q 21 ∧ w.bl = bl) (hwK : ∀ zz, zz < Q 0 → KQ Q zz = w.K zz) (hwT : ∀ zz, zz < ndig x → figT x zz = w.T zz) (hwM : ∀ zz, zz < 4 * Q 0 → MV Q zz = w.M zz) (hwL : ∀ zz, w.M zz ≤ 20) : jC E mX8_orders (5, 0, 0) [.ref (E.1 + 38), .int (nI x), .int (nI bl), .int (nI i)] h n (fun v h' n' => v = some (.int (nI ((dfsO w (ndig x) 0 0 (1000, 0)).1))) ∧ n' = n ∧ ∃ (T1 : Nat → Nat) (MM1 : Nat → Nat) (BE1 : Nat → Nat) (dt1 : Nat), h' = (hset (hset (hset (hset h 43 (cI E 16 (nF MM1))) 38 (.inr (7, [.ref (E.1 + 39), .ref (E.1 + 40), .ref (E.1 + 41), .ref (E.1 + 42), .long (lN xa), .long (lN xb), .ref (E.1 + 43), .int (nI dt1), .ref (E.1 + 44), .ref (E.1 + 45), .int (nI (ndig x)), .ref (E.1 + 46), .ref (E.1 + 47), .int (nI bn), .int (nI ta), .int (nI tl), .int (nI tk), .int (nI va), .ref (E.1 + 48), .ref (E.1 + 49)]))) 44 (cI E 4 (nF T1))) 45 (cI E 4 (nF BE1))) ∧ (∀ zz, MM1 zz ≤ 20)) := by
  refine J.of (L := [(0, .ref (E.1 + 38)), (1, .int (nI x)), (2, .int (nI bl)), (3, .int (nI i))]) rfl (by decide +kernel) (Nat.le_of_ble_eq_true rfl) ?_
  obtain ⟨PP, hPP⟩ : ∃ PP : jPost, PP = (fun v h' n' => v = some (.int (nI ((dfsO w (ndig x) 0 0 (1000, 0)).1))) ∧ n' = n ∧ ∃ (T1 : Nat → Nat) (MM1 : Nat → Nat) (BE1 : Nat → Nat) (dt1 : Nat), h' = (hset (hset (hset (hset h 43 (cI E 16 (nF MM1))) 38 (.inr (7, [.ref (E.1 + 39), .ref (E.1 + 40), .ref (E.1 + 41), .ref (E.1 + 42), .long (lN xa), .long (lN xb), .ref (E.1 + 43), .int (nI dt1), .ref (E.1 + 44), .ref (E.1 + 45), .int (nI (ndig x)), .ref (E.1 + 46), .ref (E.1 + 47), .int (nI bn), .int (nI ta), .int (nI tl), .int (nI tk), .int (nI va), .ref (E.1 + 48), .ref (E.1 + 49)]))) 44 (cI E 4 (nF T1))) 45 (cI E 4 (nF BE1))) ∧ (∀ zz, MM1 zz ≤ 20)) := ⟨_, rfl⟩
  rw [← hPP]
  refine J_aload_n dX8_orders_0 rfl ?_
  refine J_iload_n dX8_orders_1 rfl ?_
  refine J_callV (M' := mX8_layOrders) (d' := (2, 0, 0)) (rest := []) dX8_orders_2 jmX8_layOrders jlRX8_145 (ctX8_layOrders x xa xb dt mo bn ta tl tk va TE H0 H3 (by omega) (by first | assumption | omega)) H0 (by omega) jk8.1 rfl rfl (Nat.le_of_ble_eq_true rfl) (Nat.le_of_ble_eq_true rfl) (by constructor <;> decide +kernel) (fun v9 h9 n9 q9 => ?_)
  obtain ⟨rfl, hn9, T1_1, rfl, hT_2⟩ := q9
  replace hn9 := hn9.symm
  subst hn9
  refine J.stk (st' := [.int (nI 1)]) rfl ?_
  have hT := hT_2
  have nd := ndig_le x
  have p4 : 4 ^ ndig x ≤ 4 ^ 4 := Nat.pow_le_pow_right (by omega) nd
  have p41 : 1 ≤ 4 ^ ndig x := Nat.one_le_pow _ _ (by omega)
  have T1h : ∀ zz, zz < ndig x → T1_1 zz < 4 := fun zz hz => by rw [hT zz hz]; exact figT_lt hok hz
  have wan : w.an = Q 0 := hw1.1
  have hw : oH w (Q 0) (Q 21) bl (KQ Q) T1_1 (ndig x) := ⟨hw1.1, hw1.2.1, hw1.2.2, by omega, hwK, fun zz hz => ⟨(hT zz hz).trans (hwT zz hz), T1h zz hz⟩⟩
  refine J_if_eqN (tgt := 25) dX8_orders_5 (by decide) (by omega) (fun z => absurd z (by decide)) (fun _ => ?_)
  refine J_iload_n dX8_orders_8 rfl ?_
  refine J_i2lN dX8_orders_9 (by omega) ?_
  refine J_lconst (v := lN 1) dX8_orders_10 (by decide +kernel) ?_
  refine J_ldc2 dX8_orders_11 jqRX8_70 ?_
  refine J.stk (st' := .long (lN 5) :: [.long (lN 1), .long (lN bl)]) rfl ?_
  refine J_callSr (M' := mX8_in) (d' := (1, 0, 0)) (rest := []) dX8_orders_14 jmX8_in jlRX8_56 (ctX8_inM bl 1 5   (by first | assumption | omega) (by first | assumption | omega) (by first | assumption | omega)) rfl rfl (Nat.le_of_ble_eq_true rfl) (Nat.le_of_ble_eq_true rfl) ⟨Nat.le_refl _, Nat.le_refl _⟩ ?_
  refine J_if_eqB (tgt := 25) dX8_orders_17 (by decide) (fun c4 => (by exfalso; omega)) (fun c4 => ?_)
  refine J_iload_n dX8_orders_20 rfl ?_
  refine J_iconst (v := (-1)) dX8_orders_21 (by decide +kernel) ?_
  refine J_icmp_geV (tgt := 32) dX8_orders_22 (by decide) (by omega) (fun c5 => ?_) (fun c5 => (by exfalso; omega))
  refine J_aload_n dX8_orders_32 rfl ?_
  refine J_callVr (M' := mX8_many) (d' := (1, 0, 0)) (rest := []) dX8_orders_33 jmX8_many jlRX8_52 (ctX8_many xa xb dt (ndig x) bn ta tl tk va Q ((hset_ne (by omega)).trans hset_eq) ((hset_ne (by omega)).trans ((hset_ne (by omega)).trans H1)) (by omega) ) ((hset_ne (by omega)).trans hset_eq) (by omega) jk8.1 rfl rfl (Nat.le_of_ble_eq_true rfl) (Nat.le_of_ble_eq_true rfl) ⟨Nat.le_refl _, Nat.le_refl _⟩ ?_
  refine J_if_neN (tgt := 41) dX8_orders_36 (by decide) (by omega) (fun c6 => ?_) (fun c6 => (by exfalso; omega))
  refine J_ldc dX8_orders_41 jqRX8_148 ?_
  refine J.stk (st' := .int (nI 1000000) :: []) rfl ?_
  refine J_istore dX8_orders_43 (Nat.le_of_ble_eq_true rfl) (L' := [(4, .int (nI 1000000)), (0, .ref (E.1 + 38)), (1, .int (nI x)), (2, .int (nI bl)), (3, .int (nI i))]) rfl ?_
  refine J_iconst (v := nI 0) dX8_orders_45 (by decide +kernel) ?_
  refine J_istore dX8_orders_46 (Nat.le_of_ble_eq_true rfl) (L' := [(5, .int (nI 0)), (4, .int (nI 1000000)), (0, .ref (E.1 + 38)), (1, .int (nI x)), (2, .int (nI bl)), (3, .int (nI i))]) rfl ?_
  have CUT48 : ∀ (f48 : Nat) (c : Nat) (MM1 : Nat → Nat) (BE1 : Nat → Nat) (dt1 : Nat) (hm48 : 4 ^ (ndig x) - c < f48) (hc : c ≤ 4 ^ (ndig x)) (hM1 : ∀ zz, MM1 zz ≤ 20) (hB : (foldN (stepO w (ndig x)) (1000000, 0) c).1 < 1000000 → ∀ zz, zz < (ndig x) → BE1 zz = digO (ndig x) (foldN (stepO w (ndig x)) (1000000, 0) c).2 zz), J E mX8_orders (5, 0, 0) jS0 PP (hset (hset (hset (hset h 43 (cI E 16 (nF MM1))) 38 (.inr (7, [.ref (E.1 + 39), .ref (E.1 + 40), .ref (E.1 + 41), .ref (E.1 + 42), .long (lN xa), .long (lN xb), .ref (E.1 + 43), .int (nI dt1), .ref (E.1 + 44), .ref (E.1 + 45), .int (nI (ndig x)), .ref (E.1 + 46), .ref (E.1 + 47), .int (nI bn), .int (nI ta), .int (nI tl), .int (nI tk), .int (nI va), .ref (E.1 + 48), .ref (E.1 + 49)]))) 44 (cI E 4 (nF T1_1))) 45 (cI E 4 (nF BE1))) n (0, 0) 48 [(5, .int (nI c)), (4, .int (nI ((foldN (stepO w (ndig x)) (1000000, 0) c).1))), (0, .ref (E.1 + 38)), (1, .int (nI x)), (2, .int (nI bl)), (3, .int (nI i))] [] := by
    intro f48
    induction f48 with
    | zero => intro c MM1 BE1 dt1 hm48; exact absurd hm48 (Nat.not_lt_zero _)
    | succ f48 ih48 =>
      intro c MM1 BE1 dt1 hm48 hc hM1 hB
      have fl : (foldN (stepO w (ndig x)) (1000000, 0) c).1 ≤ 1000000 := foldN_le1 (f := stepO w (ndig x)) (s := (1000000, 0)) (fun x1 x2 => stepO_le) c
      refine J_iload dX8_orders_48 rfl ?_
      refine J_iconst (v := nI 1) dX8_orders_50 (by decide +kernel) ?_
      refine J_iconst (v := nI 2) dX8_orders_51 (by decide +kernel) ?_
      refine J_aload_n dX8_orders_52 rfl ?_
      refine J_get 10 dX8_orders_53 jk8 (Nat.le_of_ble_eq_true rfl) jfRX8_142 ((hset_ne (by omega)).trans ((hset_ne (by omega)).trans hset_eq)) (by omega) rfl ?_
      refine J_imulN dX8_orders_56 ?_
      refine J_ishlN dX8_orders_57 (by omega) (by rw [two_four]; omega) ?_
      refine J.stk (st' := [.int (nI (4 ^ (ndig x))), .int (nI c)]) (congrArg (fun z => Value.int (nI z) :: [.int (nI c)]) (by exact two_four)) ?_
      refine J_icmp_geN (tgt := 207) dX8_orders_58 (by decide) (by omega) (by omega) (fun c7 => ?_) (fun c7 => ?_)
      · skip
        refine J_iload_n dX8_orders_207 rfl ?_
        refine J_iconst (v := (-1)) dX8_orders_208 (by decide +kernel) ?_
        refine J_icmp_neV (tgt := 217) dX8_orders_209 (by decide) (by omega) (fun c8 => (by exfalso; omega)) (fun c8 => ?_)
        refine J_iload dX8_orders_212 rfl ?_
        refine J_goto (tgt := 236) dX8_orders_214 (by decide) ?_
        exact J_iret dX8_orders_236 rfl ⟨Nat.le_refl _, Nat.le_refl _⟩ (by rw [hPP]; exact ⟨(congrArg some (jv_N (by rw [ord_same (by omega) (by omega) hwL nd, ← show c = 4 ^ ndig x by omega]))), rfl, T1_1, MM1, BE1, dt1, (hset_cg (hset_cg (hset_cg (hset_cg rfl rfl) (congrArg (fun z => (Sum.inr (7, z) : va_E)) (jS_c rfl (jS_c rfl (jS_c rfl (jS_c rfl (jS_c rfl (jS_c rfl (jS_c rfl (jS_c rfl (jS_c rfl (jS_c rfl (jS_c (jv_N (by rfl)) (jS_c rfl (jS_c rfl (jS_c rfl (jS_c rfl (jS_c rfl (jS_c rfl (jS_c rfl (jS_c rfl (jS_c rfl rfl)))))))))))))))))))))) rfl) rfl), (by assumption)⟩)
      · skip
        refine J_iconst (v := nI 0) dX8_orders_61 (by decide +kernel) ?_
        refine J_istore dX8_orders_62 (Nat.le_of_ble_eq_true rfl) (L' := [(6, .int (nI 0)), (5, .int (nI c)), (4, .int (nI ((foldN (stepO w (ndig x)) (1000000, 0) c).1))), (0, .ref (E.1 + 38)), (1, .int (nI x)), (2, .int (nI bl)), (3, .int (nI i))]) rfl ?_
        refine J_aload_n dX8_orders_64 rfl ?_
        refine J_callVn (M' := mX8_layHand) (d' := (1, 0, 0)) (rest := []) dX8_orders_65 jmX8_layHand jlRX8_116 (ctX8_layHand xa xb dt1 (ndig x) bn ta tl tk va Q MM1 ((hset_ne (by omega)).trans ((hset_ne (by omega)).trans hset_eq)) ((hset_ne (by omega)).trans ((hset_ne (by omega)).trans ((hset_ne (by omega)).trans ((hset_ne (by omega)).trans H1)))) ((hset_ne (by omega)).trans ((hset_ne (by omega)).trans ((hset_ne (by omega)).trans hset_eq))) (by omega) ) ((hset_ne (by omega)).trans ((hset_ne (by omega)).trans hset_eq)) (by omega) jk8.1 rfl rfl (Nat.le_of_ble_eq_true rfl) (Nat.le_of_ble_eq_true rfl) ⟨Nat.le_refl _, Nat.le_refl _⟩ ?_
        refine J.cast ((hset_cg ((hset_comm (by omega)).trans (hset_cg ((hset_comm (by omega)).trans (hset_cg ((hset_comm (by omega)).trans (hset_cg hset_hset rfl)) rfl)) rfl)) rfl).trans ((hset_comm (by omega)).trans (hset_cg ((hset_comm (by omega)).trans (hset_cg hset_hset rfl)) rfl))) ?_
        refine J_iconst (v := nI 0) dX8_orders_68 (by decide +kernel) ?_
        refine J_istore dX8_orders_69 (Nat.le_of_ble_eq_true rfl) (L' := [(7, .int (nI 0)), (6, .int (nI 0)), (5, .int (nI c)), (4, .int (nI ((foldN (stepO w (ndig x)) (1000000, 0) c).1))), (0, .ref (E.1 + 38)), (1, .int (nI x)), (2, .int (nI bl)), (3, .int (nI i))]) rfl ?_
        have CUT71 : ∀ (f71 : Nat) (k : Nat) (MM2 : Nat → Nat) (hm71 : (ndig x) - k < f71) (hk : k ≤ (ndig x)) (hM2 : ∀ zz, MM2 zz ≤ 20) (hMM : ∀ zz, zz < 4 * Q 0 → MM2 zz = PM w k (c / 4 ^ ((ndig x) - k)) zz), J E mX8_orders (5, 0, 0) jS0 PP (hset (hset (hset (hset h 43 (cI E 16 (nF MM2))) 38 (.inr (7, [.ref (E.1 + 39), .ref (E.1 + 40), .ref (E.1 + 41), .ref (E.1 + 42), .long (lN xa), .long (lN xb), .ref (E.1 + 43), .int (nI (Q 20)), .ref (E.1 + 44), .ref (E.1 + 45), .int (nI (ndig x)), .ref (E.1 + 46), .ref (E.1 + 47), .int (nI bn), .int (nI ta), .int (nI tl), .int (nI tk), .int (nI va), .ref (E.1 + 48), .ref (E.1 + 49)]))) 44 (cI E 4 (nF T1_1))) 45 (cI E 4 (nF BE1))) n (0, 0) 71 [(7, .int (nI k)), (6, .int (nI (PS w k (c / 4 ^ ((ndig x) - k))))), (5, .int (nI c)), (4, .int (nI ((foldN (stepO w (ndig x)) (1000000, 0) c).1))), (0, .ref (E.1 + 38)), (1, .int (nI x)), (2, .int (nI bl)), (3, .int (nI i))] [] := by
          intro f71
          induction f71 with
          | zero => intro k MM2 hm71; exact absurd hm71 (Nat.not_lt_zero _)
          | succ f71 ih71 =>
            intro k MM2 hm71 hk hM2 hMM
            have pl := PS_le hwL k (c / 4 ^ ((ndig x) - k))
            have fg := fgnN_le (K := KQ Q) (g := Q 21) (a := digO (ndig x) c k) (t := T1_1 k) hM2 4
            refine J_iload dX8_orders_71 rfl ?_
            refine J_aload_n dX8_orders_73 rfl ?_
            refine J_get 10 dX8_orders_74 jk8 (Nat.le_of_ble_eq_true rfl) jfRX8_142 ((hset_ne (by omega)).trans ((hset_ne (by omega)).trans hset_eq)) (by omega) rfl ?_
            refine J_icmp_geN (tgt := 137) dX8_orders_77 (by decide) (by omega) (by omega) (fun c9 => ?_) (fun c9 => ?_)
            · skip
              refine J_iconst (v := nI 0) dX8_orders_137 (by decide +kernel) ?_
              refine J_istore dX8_orders_138 (Nat.le_of_ble_eq_true rfl) (L' := [(7, .int (nI 0)), (6, .int (nI (PS w k (c / 4 ^ ((ndig x) - k))))), (5, .int (nI c)), (4, .int (nI ((foldN (stepO w (ndig x)) (1000000, 0) c).1))), (0, .ref (E.1 + 38)), (1, .int (nI x)), (2, .int (nI bl)), (3, .int (nI i))]) rfl ?_
              have CUT140 : ∀ (f140 : Nat) (j : Nat) (BE2 : Nat → Nat) (hm140 : (ndig x) - j < f140) (hj : j ≤ (ndig x)) (hB2 : ∀ zz, zz < j → BE2 zz = digO (ndig x) c zz) (hB3 : ¬ PS w (ndig x) c < (foldN (stepO w (ndig x)) (1000000, 0) c).1 → ∀ zz, BE2 zz = BE1 zz), J E mX8_orders (5, 0, 0) jS0 PP (hset (hset (hset (hset h 43 (cI E 16 (nF MM2))) 38 (.inr (7, [.ref (E.1 + 39), .ref (E.1 + 40), .ref (E.1 + 41), .ref (E.1 + 42), .long (lN xa), .long (lN xb), .ref (E.1 + 43), .int (nI (Q 20)), .ref (E.1 + 44), .ref (E.1 + 45), .int (nI (ndig x)), .ref (E.1 + 46), .ref (E.1 + 47), .int (nI bn), .int (nI ta), .int (nI tl), .int (nI tk), .int (nI va), .ref (E.1 + 48), .ref (E.1 + 49)]))) 44 (cI E 4 (nF T1_1))) 45 (cI E 4 (nF BE2))) n (0, 0) 140 [(7, .int (nI j)), (6, .int (nI (PS w (ndig x) c))), (5, .int (nI c)), (4, .int (nI ((foldN (stepO w (ndig x)) (1000000, 0) c).1))), (0, .ref (E.1 + 38)), (1, .int (nI x)), (2, .int (nI bl)), (3, .int (nI i))] [] := by
                intro f140
                induction f140 with
                | zero => intro j BE2 hm140; exact absurd hm140 (Nat.not_lt_zero _)
                | succ f140 ih140 =>
                  intro j BE2 hm140 hj hB2 hB3
                  have pl := PS_le hwL (ndig x) c
                  refine J_iload dX8_orders_140 rfl ?_
                  refine J_aload_n dX8_orders_142 rfl ?_
                  refine J_get 10 dX8_orders_143 jk8 (Nat.le_of_ble_eq_true rfl) jfRX8_142 ((hset_ne (by omega)).trans ((hset_ne (by omega)).trans hset_eq)) (by omega) rfl ?_
                  refine J_icmp_geN (tgt := 185) dX8_orders_146 (by decide) (by omega) (by omega) (fun c10 => ?_) (fun c10 => ?_)
                  · skip
                    refine J_iload dX8_orders_185 rfl ?_
                    refine J_iload dX8_orders_187 rfl ?_
                    refine J_icmp_geN (tgt := 197) dX8_orders_189 (by decide) (by omega) (by omega) (fun c11 => ?_) (fun c11 => ?_)
                    · skip
                      refine J_iload dX8_orders_197 rfl ?_
                      refine J_istore dX8_orders_199 (Nat.le_of_ble_eq_true rfl) (L' := [(4, .int (nI ((foldN (stepO w (ndig x)) (1000000, 0) c).1))), (7, .int (nI j)), (6, .int (nI (PS w (ndig x) c))), (5, .int (nI c)), (0, .ref (E.1 + 38)), (1, .int (nI x)), (2, .int (nI bl)), (3, .int (nI i))]) rfl ?_
                      refine J_iincN (q := 3) (a := c) (m := 1) dX8_orders_201 rfl (by decide +kernel) (Nat.le_of_ble_eq_true rfl) (L' := [(5, .int (nI (c + 1))), (4, .int (nI ((foldN (stepO w (ndig x)) (1000000, 0) c).1))), (7, .int (nI j)), (6, .int (nI (PS w (ndig x) c))), (0, .ref (E.1 + 38)), (1, .int (nI x)), (2, .int (nI bl)), (3, .int (nI i))]) rfl ?_
                      refine J_goto (tgt := 48) dX8_orders_204 (by decide) ?_
                      refine J.sub [0, 1, 4, 5, 6, 7] (L' := [(5, .int (nI (c + 1))), (4, .int (nI ((foldN (stepO w (ndig x)) (1000000, 0) c).1))), (0, .ref (E.1 + 38)), (1, .int (nI x)), (2, .int (nI bl)), (3, .int (nI i))]) rfl ?_
                      refine J.eqs (h' := (hset (hset (hset (hset h 43 (cI E 16 (nF MM2))) 38 (.inr (7, [.ref (E.1 + 39), .ref (E.1 + 40), .ref (E.1 + 41), .ref (E.1 + 42), .long (lN xa), .long (lN xb), .ref (E.1 + 43), .int (nI (Q 20)), .ref (E.1 + 44), .ref (E.1 + 45), .int (nI (ndig x)), .ref (E.1 + 46), .ref (E.1 + 47), .int (nI bn), .int (nI ta), .int (nI tl), .int (nI tk), .int (nI va), .ref (E.1 + 48), .ref (E.1 + 49)]))) 44 (cI E 4 (nF T1_1))) 45 (cI E 4 (nF BE2)))) (L' := [(5, .int (nI (c + 1))), (4, .int (nI ((foldN (stepO w (ndig x)) (1000000, 0) (c + 1)).1))), (0, .ref (E.1 + 38)), (1, .int (nI x)), (2, .int (nI bl)), (3, .int (nI i))]) (st' := []) (hset_cg (hset_cg (hset_cg (hset_cg rfl rfl) (congrArg (fun z => (Sum.inr (7, z) : va_E)) (jS_c rfl (jS_c rfl (jS_c rfl (jS_c rfl (jS_c rfl (jS_c rfl (jS_c rfl (jS_c rfl (jS_c rfl (jS_c rfl (jS_c (jv_N (by first | (rw [st_t (by assumption)]; done) | (rw [st_f (by omega)]; done) | (exfalso; omega) | rfl)) (jS_c rfl (jS_c rfl (jS_c rfl (jS_c rfl (jS_c rfl (jS_c rfl (jS_c rfl (jS_c rfl (jS_c rfl rfl)))))))))))))))))))))) rfl) rfl) (jL_c rfl (jL_c (jv_N (by first | (rw [st_t (by assumption)]; done) | (rw [st_f (by omega)]; done) | (exfalso; omega) | rfl)) (jL_c rfl (jL_c rfl (jL_c rfl (jL_c rfl rfl)))))) rfl ?_
                      exact ih48 (c + 1) MM2 BE2 (Q 20) (by omega) (by first | assumption | omega) (by first | exact hM | exact hM2) (by first | exact (fun q => absurd q (Nat.lt_irrefl _)) | (rw [st_t (by assumption)]; intro _ zz hz; exact hB2 zz (by omega)) | (rw [st_f (by omega)]; intro q zz hz; rw [hB3 (by omega) zz]; exact hB q zz hz) | (exfalso; omega))
                    · skip
                      refine J_iload dX8_orders_192 rfl ?_
                      refine J_goto (tgt := 199) dX8_orders_194 (by decide) ?_
                      refine J_istore dX8_orders_199 (Nat.le_of_ble_eq_true rfl) (L' := [(4, .int (nI (PS w (ndig x) c))), (7, .int (nI j)), (6, .int (nI (PS w (ndig x) c))), (5, .int (nI c)), (0, .ref (E.1 + 38)), (1, .int (nI x)), (2, .int (nI bl)), (3, .int (nI i))]) rfl ?_
                      refine J_iincN (q := 3) (a := c) (m := 1) dX8_orders_201 rfl (by decide +kernel) (Nat.le_of_ble_eq_true rfl) (L' := [(5, .int (nI (c + 1))), (4, .int (nI (PS w (ndig x) c))), (7, .int (nI j)), (6, .int (nI (PS w (ndig x) c))), (0, .ref (E.1 + 38)), (1, .int (nI x)), (2, .int (nI bl)), (3, .int (nI i))]) rfl ?_
                      refine J_goto (tgt := 48) dX8_orders_204 (by decide) ?_
                      refine J.sub [0, 1, 4, 5, 6, 7] (L' := [(5, .int (nI (c + 1))), (4, .int (nI (PS w (ndig x) c))), (0, .ref (E.1 + 38)), (1, .int (nI x)), (2, .int (nI bl)), (3, .int (nI i))]) rfl ?_
                      refine J.eqs (h' := (hset (hset (hset (hset h 43 (cI E 16 (nF MM2))) 38 (.inr (7, [.ref (E.1 + 39), .ref (E.1 + 40), .ref (E.1 + 41), .ref (E.1 + 42), .long (lN xa), .long (lN xb), .ref (E.1 + 43), .int (nI (Q 20)), .ref (E.1 + 44), .ref (E.1 + 45), .int (nI (ndig x)), .ref (E.1 + 46), .ref (E.1 + 47), .int (nI bn), .int (nI ta), .int (nI tl), .int (nI tk), .int (nI va), .ref (E.1 + 48), .ref (E.1 + 49)]))) 44 (cI E 4 (nF T1_1))) 45 (cI E 4 (nF BE2)))) (L' := [(5, .int (nI (c + 1))), (4, .int (nI ((foldN (stepO w (ndig x)) (1000000, 0) (c + 1)).1))), (0, .ref (E.1 + 38)), (1, .int (nI x)), (2, .int (nI bl)), (3, .int (nI i))]) (st' := []) (hset_cg (hset_cg (hset_cg (hset_cg rfl rfl) (congrArg (fun z => (Sum.inr (7, z) : va_E)) (jS_c rfl (jS_c rfl (jS_c rfl (jS_c rfl (jS_c rfl (jS_c rfl (jS_c rfl (jS_c rfl (jS_c rfl (jS_c rfl (jS_c (jv_N (by first | (rw [st_t (by assumption)]; done) | (rw [st_f (by omega)]; done) | (exfalso; omega) | rfl)) (jS_c rfl (jS_c rfl (jS_c rfl (jS_c rfl (jS_c rfl (jS_c rfl (jS_c rfl (jS_c rfl (jS_c rfl rfl)))))))))))))))))))))) rfl) rfl) (jL_c rfl (jL_c (jv_N (by first | (rw [st_t (by assumption)]; done) | (rw [st_f (by omega)]; done) | (exfalso; omega) | rfl)) (jL_c rfl (jL_c rfl (jL_c rfl (jL_c rfl rfl)))))) rfl ?_
                      exact ih48 (c + 1) MM2 BE2 (Q 20) (by omega) (by first | assumption | omega) (by first | exact hM | exact hM2) (by first | exact (fun q => absurd q (Nat.lt_irrefl _)) | (rw [st_t (by assumption)]; intro _ zz hz; exact hB2 zz (by omega)) | (rw [st_f (by omega)]; intro q zz hz; rw [hB3 (by omega) zz]; exact hB q zz hz) | (exfalso; omega))
                  · skip
                    refine J_iload dX8_orders_149 rfl ?_
                    refine J_iload dX8_orders_151 rfl ?_
                    refine J_icmp_geN (tgt := 185) dX8_orders_153 (by decide) (by omega) (by omega) (fun c12 => ?_) (fun c12 => ?_)
                    · skip
                      refine J_iload dX8_orders_185 rfl ?_
                      refine J_iload dX8_orders_187 rfl ?_
                      refine J_icmp_geN (tgt := 197) dX8_orders_189 (by decide) (by omega) (by omega) (fun c13 => ?_) (fun c13 => ?_)
                      · skip
                        refine J_iload dX8_orders_197 rfl ?_
                        refine J_istore dX8_orders_199 (Nat.le_of_ble_eq_true rfl) (L' := [(4, .int (nI ((foldN (stepO w (ndig x)) (1000000, 0) c).1))), (7, .int (nI j)), (6, .int (nI (PS w (ndig x) c))), (5, .int (nI c)), (0, .ref (E.1 + 38)), (1, .int (nI x)), (2, .int (nI bl)), (3, .int (nI i))]) rfl ?_
                        refine J_iincN (q := 3) (a := c) (m := 1) dX8_orders_201 rfl (by decide +kernel) (Nat.le_of_ble_eq_true rfl) (L' := [(5, .int (nI (c + 1))), (4, .int (nI ((foldN (stepO w (ndig x)) (1000000, 0) c).1))), (7, .int (nI j)), (6, .int (nI (PS w (ndig x) c))), (0, .ref (E.1 + 38)), (1, .int (nI x)), (2, .int (nI bl)), (3, .int (nI i))]) rfl ?_
                        refine J_goto (tgt := 48) dX8_orders_204 (by decide) ?_
                        refine J.sub [0, 1, 4, 5, 6, 7] (L' := [(5, .int (nI (c + 1))), (4, .int (nI ((foldN (stepO w (ndig x)) (1000000, 0) c).1))), (0, .ref (E.1 + 38)), (1, .int (nI x)), (2, .int (nI bl)), (3, .int (nI i))]) rfl ?_
                        refine J.eqs (h' := (hset (hset (hset (hset h 43 (cI E 16 (nF MM2))) 38 (.inr (7, [.ref (E.1 + 39), .ref (E.1 + 40), .ref (E.1 + 41), .ref (E.1 + 42), .long (lN xa), .long (lN xb), .ref (E.1 + 43), .int (nI (Q 20)), .ref (E.1 + 44), .ref (E.1 + 45), .int (nI (ndig x)), .ref (E.1 + 46), .ref (E.1 + 47), .int (nI bn), .int (nI ta), .int (nI tl), .int (nI tk), .int (nI va), .ref (E.1 + 48), .ref (E.1 + 49)]))) 44 (cI E 4 (nF T1_1))) 45 (cI E 4 (nF BE2)))) (L' := [(5, .int (nI (c + 1))), (4, .int (nI ((foldN (stepO w (ndig x)) (1000000, 0) (c + 1)).1))), (0, .ref (E.1 + 38)), (1, .int (nI x)), (2, .int (nI bl)), (3, .int (nI i))]) (st' := []) (hset_cg (hset_cg (hset_cg (hset_cg rfl rfl) (congrArg (fun z => (Sum.inr (7, z) : va_E)) (jS_c rfl (jS_c rfl (jS_c rfl (jS_c rfl (jS_c rfl (jS_c rfl (jS_c rfl (jS_c rfl (jS_c rfl (jS_c rfl (jS_c (jv_N (by first | (rw [st_t (by assumption)]; done) | (rw [st_f (by omega)]; done) | (exfalso; omega) | rfl)) (jS_c rfl (jS_c rfl (jS_c rfl (jS_c rfl (jS_c rfl (jS_c rfl (jS_c rfl (jS_c rfl (jS_c rfl rfl)))))))))))))))))))))) rfl) rfl) (jL_c rfl (jL_c (jv_N (by first | (rw [st_t (by assumption)]; done) | (rw [st_f (by omega)]; done) | (exfalso; omega) | rfl)) (jL_c rfl (jL_c rfl (jL_c rfl (jL_c rfl rfl)))))) rfl ?_
                        exact ih48 (c + 1) MM2 BE2 (Q 20) (by omega) (by first | assumption | omega) (by first | exact hM | exact hM2) (by first | exact (fun q => absurd q (Nat.lt_irrefl _)) | (rw [st_t (by assumption)]; intro _ zz hz; exact hB2 zz (by omega)) | (rw [st_f (by omega)]; intro q zz hz; rw [hB3 (by omega) zz]; exact hB q zz hz) | (exfalso; omega))
                      · skip
                        refine J_iload dX8_orders_192 rfl ?_
                        refine J_goto (tgt := 199) dX8_orders_194 (by decide) ?_
                        refine J_istore dX8_orders_199 (Nat.le_of_ble_eq_true rfl) (L' := [(4, .int (nI (PS w (ndig x) c))), (7, .int (nI j)), (6, .int (nI (PS w (ndig x) c))), (5, .int (nI c)), (0, .ref (E.1 + 38)), (1, .int (nI x)), (2, .int (nI bl)), (3, .int (nI i))]) rfl ?_
                        refine J_iincN (q := 3) (a := c) (m := 1) dX8_orders_201 rfl (by decide +kernel) (Nat.le_of_ble_eq_true rfl) (L' := [(5, .int (nI (c + 1))), (4, .int (nI (PS w (ndig x) c))), (7, .int (nI j)), (6, .int (nI (PS w (ndig x) c))), (0, .ref (E.1 + 38)), (1, .int (nI x)), (2, .int (nI bl)), (3, .int (nI i))]) rfl ?_
                        refine J_goto (tgt := 48) dX8_orders_204 (by decide) ?_
                        refine J.sub [0, 1, 4, 5, 6, 7] (L' := [(5, .int (nI (c + 1))), (4, .int (nI (PS w (ndig x) c))), (0, .ref (E.1 + 38)), (1, .int (nI x)), (2, .int (nI bl)), (3, .int (nI i))]) rfl ?_
                        refine J.eqs (h' := (hset (hset (hset (hset h 43 (cI E 16 (nF MM2))) 38 (.inr (7, [.ref (E.1 + 39), .ref (E.1 + 40), .ref (E.1 + 41), .ref (E.1 + 42), .long (lN xa), .long (lN xb), .ref (E.1 + 43), .int (nI (Q 20)), .ref (E.1 + 44), .ref (E.1 + 45), .int (nI (ndig x)), .ref (E.1 + 46), .ref (E.1 + 47), .int (nI bn), .int (nI ta), .int (nI tl), .int (nI tk), .int (nI va), .ref (E.1 + 48), .ref (E.1 + 49)]))) 44 (cI E 4 (nF T1_1))) 45 (cI E 4 (nF BE2)))) (L' := [(5, .int (nI (c + 1))), (4, .int (nI ((foldN (stepO w (ndig x)) (1000000, 0) (c + 1)).1))), (0, .ref (E.1 + 38)), (1, .int (nI x)), (2, .int (nI bl)), (3, .int (nI i))]) (st' := []) (hset_cg (hset_cg (hset_cg (hset_cg rfl rfl) (congrArg (fun z => (Sum.inr (7, z) : va_E)) (jS_c rfl (jS_c rfl (jS_c rfl (jS_c rfl (jS_c rfl (jS_c rfl (jS_c rfl (jS_c rfl (jS_c rfl (jS_c rfl (jS_c (jv_N (by first | (rw [st_t (by assumption)]; done) | (rw [st_f (by omega)]; done) | (exfalso; omega) | rfl)) (jS_c rfl (jS_c rfl (jS_c rfl (jS_c rfl (jS_c rfl (jS_c rfl (jS_c rfl (jS_c rfl (jS_c rfl rfl)))))))))))))))))))))) rfl) rfl) (jL_c rfl (jL_c (jv_N (by first | (rw [st_t (by assumption)]; done) | (rw [st_f (by omega)]; done) | (exfalso; omega) | rfl)) (jL_c rfl (jL_c rfl (jL_c rfl (jL_c rfl rfl)))))) rfl ?_
                        exact ih48 (c + 1) MM2 BE2 (Q 20) (by omega) (by first | assumption | omega) (by first | exact hM | exact hM2) (by first | exact (fun q => absurd q (Nat.lt_irrefl _)) | (rw [st_t (by assumption)]; intro _ zz hz; exact hB2 zz (by omega)) | (rw [st_f (by omega)]; intro q zz hz; rw [hB3 (by omega) zz]; exact hB q zz hz) | (exfalso; omega))
                    · skip
                      refine J_aload_n dX8_orders_156 rfl ?_
                      refine J_get 9 dX8_orders_157 jk8 (Nat.le_of_ble_eq_true rfl) jfRX8_33 ((hset_ne (by omega)).trans ((hset_ne (by omega)).trans hset_eq)) (by omega) rfl ?_
                      refine J_iload dX8_orders_160 rfl ?_
                      refine J_iload dX8_orders_162 rfl ?_
                      refine J_iconst (v := nI 2) dX8_orders_164 (by decide +kernel) ?_
                      refine J_aload_n dX8_orders_165 rfl ?_
                      refine J_get 10 dX8_orders_166 jk8 (Nat.le_of_ble_eq_true rfl) jfRX8_142 ((hset_ne (by omega)).trans ((hset_ne (by omega)).trans hset_eq)) (by omega) rfl ?_
                      refine J_iconst (v := nI 1) dX8_orders_169 (by decide +kernel) ?_
                      refine J_isubN dX8_orders_170 (by omega) ?_
                      refine J_iload dX8_orders_171 rfl ?_
                      refine J_isubN dX8_orders_173 (by omega) ?_
                      refine J_imulN dX8_orders_174 ?_
                      refine J_ishrN dX8_orders_175 (by omega) (by omega) ?_
                      refine J_iconst (v := nI 3) dX8_orders_176 (by decide +kernel) ?_
                      refine J_iandN 2 dX8_orders_177 (by exact Nat.lt_of_le_of_lt (Nat.div_le_self _ _) (by omega)) (by decide +kernel) ?_
                      refine J.stk (st' := [.int (nI (digO (ndig x) c j)), .int (nI j), .ref (E.1 + 45)]) (congrArg (fun z => Value.int (nI z) :: [.int (nI j), .ref (E.1 + 45)]) (by exact dig_eq)) ?_
                      refine J_iastN (i := j) (v := digO (ndig x) c j) dX8_orders_178 hset_eq (by omega) (by omega) (by omega) ?_
                      refine J.cast hset_hset ?_
                      refine J_iincN (q := 0) (a := j) (m := 1) dX8_orders_179 rfl (by decide +kernel) (Nat.le_of_ble_eq_true rfl) (L' := [(7, .int (nI (j + 1))), (6, .int (nI (PS w (ndig x) c))), (5, .int (nI c)), (4, .int (nI ((foldN (stepO w (ndig x)) (1000000, 0) c).1))), (0, .ref (E.1 + 38)), (1, .int (nI x)), (2, .int (nI bl)), (3, .int (nI i))]) rfl ?_
                      refine J_goto (tgt := 140) dX8_orders_182 (by decide) ?_
                      refine J.eqs (h' := (hset (hset (hset (hset h 43 (cI E 16 (nF MM2))) 38 (.inr (7, [.ref (E.1 + 39), .ref (E.1 + 40), .ref (E.1 + 41), .ref (E.1 + 42), .long (lN xa), .long (lN xb), .ref (E.1 + 43), .int (nI (Q 20)), .ref (E.1 + 44), .ref (E.1 + 45), .int (nI (ndig x)), .ref (E.1 + 46), .ref (E.1 + 47), .int (nI bn), .int (nI ta), .int (nI tl), .int (nI tk), .int (nI va), .ref (E.1 + 48), .ref (E.1 + 49)]))) 44 (cI E 4 (nF T1_1))) 45 (cI E 4 (nF (updN BE2 j (digO (ndig x) c j)))))) (L' := [(7, .int (nI (j + 1))), (6, .int (nI (PS w (ndig x) c))), (5, .int (nI c)), (4, .int (nI ((foldN (stepO w (ndig x)) (1000000, 0) c).1))), (0, .ref (E.1 + 38)), (1, .int (nI x)), (2, .int (nI bl)), (3, .int (nI i))]) (st' := []) (hset_cg (hset_cg (hset_cg (hset_cg rfl rfl) (congrArg (fun z => (Sum.inr (7, z) : va_E)) (jS_c rfl (jS_c rfl (jS_c rfl (jS_c rfl (jS_c rfl (jS_c rfl (jS_c rfl (jS_c rfl (jS_c rfl (jS_c rfl (jS_c (jv_N (by first | exact PS_end (by omega) | rfl)) (jS_c rfl (jS_c rfl (jS_c rfl (jS_c rfl (jS_c rfl (jS_c rfl (jS_c rfl (jS_c rfl (jS_c rfl rfl)))))))))))))))))))))) rfl) rfl) rfl rfl ?_
                      exact ih140 (j + 1) (updN BE2 j (digO (ndig x) c j)) (by omega) (by first | assumption | omega) (by first | exact (fun zz hz => absurd hz (Nat.not_lt_zero zz)) | exact dg_st hB2) (by first | exact (fun _ zz => rfl) | (intro q; exfalso; omega))
              refine J.eqs (h' := (hset (hset (hset (hset h 43 (cI E 16 (nF MM2))) 38 (.inr (7, [.ref (E.1 + 39), .ref (E.1 + 40), .ref (E.1 + 41), .ref (E.1 + 42), .long (lN xa), .long (lN xb), .ref (E.1 + 43), .int (nI (Q 20)), .ref (E.1 + 44), .ref (E.1 + 45), .int (nI (ndig x)), .ref (E.1 + 46), .ref (E.1 + 47), .int (nI bn), .int (nI ta), .int (nI tl), .int (nI tk), .int (nI va), .ref (E.1 + 48), .ref (E.1 + 49)]))) 44 (cI E 4 (nF T1_1))) 45 (cI E 4 (nF BE1)))) (L' := [(7, .int (nI 0)), (6, .int (nI (PS w (ndig x) c))), (5, .int (nI c)), (4, .int (nI ((foldN (stepO w (ndig x)) (1000000, 0) c).1))), (0, .ref (E.1 + 38)), (1, .int (nI x)), (2, .int (nI bl)), (3, .int (nI i))]) (st' := []) (hset_cg (hset_cg (hset_cg (hset_cg rfl rfl) (congrArg (fun z => (Sum.inr (7, z) : va_E)) (jS_c rfl (jS_c rfl (jS_c rfl (jS_c rfl (jS_c rfl (jS_c rfl (jS_c rfl (jS_c rfl (jS_c rfl (jS_c rfl (jS_c (jv_N (by first | exact PS_end (by omega) | rfl)) (jS_c rfl (jS_c rfl (jS_c rfl (jS_c rfl (jS_c rfl (jS_c rfl (jS_c rfl (jS_c rfl (jS_c rfl rfl)))))))))))))))))))))) rfl) rfl) (jL_c rfl (jL_c (jv_N (by first | exact PS_end (by omega) | rfl)) (jL_c rfl (jL_c rfl (jL_c rfl (jL_c rfl (jL_c rfl (jL_c rfl rfl)))))))) rfl ?_
              exact CUT140 ((ndig x) - 0 + 1) 0 BE1 (Nat.lt_succ_self _) (by first | assumption | omega) (by first | exact (fun zz hz => absurd hz (Nat.not_lt_zero zz)) | exact dg_st hB2) (by first | exact (fun _ zz => rfl) | (intro q; exfalso; omega))
            · skip
              refine J_iload dX8_orders_80 rfl ?_
              refine J_iconst (v := nI 2) dX8_orders_82 (by decide +kernel) ?_
              refine J_aload_n dX8_orders_83 rfl ?_
              refine J_get 10 dX8_orders_84 jk8 (Nat.le_of_ble_eq_true rfl) jfRX8_142 ((hset_ne (by omega)).trans ((hset_ne (by omega)).trans hset_eq)) (by omega) rfl ?_
              refine J_iconst (v := nI 1) dX8_orders_87 (by decide +kernel) ?_
              refine J_isubN dX8_orders_88 (by omega) ?_
              refine J_iload dX8_orders_89 rfl ?_
              refine J_isubN dX8_orders_91 (by omega) ?_
              refine J_imulN dX8_orders_92 ?_
              refine J_ishrN dX8_orders_93 (by omega) (by omega) ?_
              refine J_iconst (v := nI 3) dX8_orders_94 (by decide +kernel) ?_
              refine J_iandN 2 dX8_orders_95 (by exact Nat.lt_of_le_of_lt (Nat.div_le_self _ _) (by omega)) (by decide +kernel) ?_
              refine J.stk (st' := [.int (nI (digO (ndig x) c k))]) (congrArg (fun z => Value.int (nI z) :: []) (by exact dig_eq)) ?_
              refine J_istore dX8_orders_96 (Nat.le_of_ble_eq_true rfl) (L' := [(8, .int (nI (digO (ndig x) c k))), (7, .int (nI k)), (6, .int (nI (PS w k (c / 4 ^ ((ndig x) - k))))), (5, .int (nI c)), (4, .int (nI ((foldN (stepO w (ndig x)) (1000000, 0) c).1))), (0, .ref (E.1 + 38)), (1, .int (nI x)), (2, .int (nI bl)), (3, .int (nI i))]) rfl ?_
              have dl : digO (ndig x) c k < 4 := dig_lt
              refine J_iload dX8_orders_98 rfl ?_
              refine J_iload dX8_orders_100 rfl ?_
              refine J_aload_n dX8_orders_102 rfl ?_
              refine J_callVr (M' := mX8_many) (d' := (1, 0, 0)) (rest := [.int (nI (digO (ndig x) c k)), .int (nI (PS w k (c / 4 ^ ((ndig x) - k))))]) dX8_orders_103 jmX8_many jlRX8_52 (ctX8_many xa xb (Q 20) (ndig x) bn ta tl tk va Q ((hset_ne (by omega)).trans ((hset_ne (by omega)).trans hset_eq)) ((hset_ne (by omega)).trans ((hset_ne (by omega)).trans ((hset_ne (by omega)).trans ((hset_ne (by omega)).trans H1)))) (by omega) ) ((hset_ne (by omega)).trans ((hset_ne (by omega)).trans hset_eq)) (by omega) jk8.1 rfl rfl (Nat.le_of_ble_eq_true rfl) (Nat.le_of_ble_eq_true rfl) ⟨Nat.le_refl _, Nat.le_refl _⟩ ?_
              refine J_icmp_geN (tgt := 126) dX8_orders_106 (by decide) (by omega) (by omega) (fun c14 => ?_) (fun c14 => ?_)
              · skip
                refine J_ldc dX8_orders_126 jqRX8_148 ?_
                refine J.stk (st' := .int (nI 1000000) :: [.int (nI (PS w k (c / 4 ^ ((ndig x) - k))))]) rfl ?_
                refine J_iaddN dX8_orders_128 ?_
                refine J_istore dX8_orders_129 (Nat.le_of_ble_eq_true rfl) (L' := [(6, .int (nI ((PS w k (c / 4 ^ ((ndig x) - k))) + 1000000))), (8, .int (nI (digO (ndig x) c k))), (7, .int (nI k)), (5, .int (nI c)), (4, .int (nI ((foldN (stepO w (ndig x)) (1000000, 0) c).1))), (0, .ref (E.1 + 38)), (1, .int (nI x)), (2, .int (nI bl)), (3, .int (nI i))]) rfl ?_
                refine J_iincN (q := 2) (a := k) (m := 1) dX8_orders_131 rfl (by decide +kernel) (Nat.le_of_ble_eq_true rfl) (L' := [(7, .int (nI (k + 1))), (6, .int (nI ((PS w k (c / 4 ^ ((ndig x) - k))) + 1000000))), (8, .int (nI (digO (ndig x) c k))), (5, .int (nI c)), (4, .int (nI ((foldN (stepO w (ndig x)) (1000000, 0) c).1))), (0, .ref (E.1 + 38)), (1, .int (nI x)), (2, .int (nI bl)), (3, .int (nI i))]) rfl ?_
                refine J_goto (tgt := 71) dX8_orders_134 (by decide) ?_
                refine J.sub [0, 1, 3, 4, 5, 6, 7, 8] (L' := [(7, .int (nI (k + 1))), (6, .int (nI ((PS w k (c / 4 ^ ((ndig x) - k))) + 1000000))), (5, .int (nI c)), (4, .int (nI ((foldN (stepO w (ndig x)) (1000000, 0) c).1))), (0, .ref (E.1 + 38)), (1, .int (nI x)), (2, .int (nI bl)), (3, .int (nI i))]) rfl ?_
                refine J.eqs (h' := (hset (hset (hset (hset h 43 (cI E 16 (nF MM2))) 38 (.inr (7, [.ref (E.1 + 39), .ref (E.1 + 40), .ref (E.1 + 41), .ref (E.1 + 42), .long (lN xa), .long (lN xb), .ref (E.1 + 43), .int (nI (Q 20)), .ref (E.1 + 44), .ref (E.1 + 45), .int (nI (ndig x)), .ref (E.1 + 46), .ref (E.1 + 47), .int (nI bn), .int (nI ta), .int (nI tl), .int (nI tk), .int (nI va), .ref (E.1 + 48), .ref (E.1 + 49)]))) 44 (cI E 4 (nF T1_1))) 45 (cI E 4 (nF BE1)))) (L' := [(7, .int (nI (k + 1))), (6, .int (nI (PS w (k + 1) (c / 4 ^ ((ndig x) - (k + 1)))))), (5, .int (nI c)), (4, .int (nI ((foldN (stepO w (ndig x)) (1000000, 0) c).1))), (0, .ref (E.1 + 38)), (1, .int (nI x)), (2, .int (nI bl)), (3, .int (nI i))]) (st' := []) (hset_cg (hset_cg (hset_cg (hset_cg rfl rfl) (congrArg (fun z => (Sum.inr (7, z) : va_E)) (jS_c rfl (jS_c rfl (jS_c rfl (jS_c rfl (jS_c rfl (jS_c rfl (jS_c rfl (jS_c rfl (jS_c rfl (jS_c rfl (jS_c (jv_N (by first | exact PS_r1 hw (by omega) (by assumption) hMM | exact PS_r2 (by omega) (by omega) | rfl)) (jS_c rfl (jS_c rfl (jS_c rfl (jS_c rfl (jS_c rfl (jS_c rfl (jS_c rfl (jS_c rfl (jS_c rfl rfl)))))))))))))))))))))) rfl) rfl) (jL_c rfl (jL_c (jv_N (by first | exact PS_r1 hw (by omega) (by assumption) hMM | exact PS_r2 (by omega) (by omega) | rfl)) (jL_c rfl (jL_c rfl (jL_c rfl (jL_c rfl (jL_c rfl (jL_c rfl rfl)))))))) rfl ?_
                exact ih71 (k + 1) MM2 (by omega) (by first | assumption | omega) (by first | exact handM_le hM4 hM1 | exact addMN_le hM2 | exact hM2) (by first | exact (fun zz hz => (handM_at (by omega)).trans (hwM zz hz)) | exact PM_r1 hw (by omega) (by assumption) hMM | (rw [← PM_r2 (by omega) (by omega)]; exact hMM))
              · skip
                refine J_aload_n dX8_orders_109 rfl ?_
                refine J_iload dX8_orders_110 rfl ?_
                refine J_aload_n dX8_orders_112 rfl ?_
                refine J_get 8 dX8_orders_113 jk8 (Nat.le_of_ble_eq_true rfl) jfRX8_30 ((hset_ne (by omega)).trans ((hset_ne (by omega)).trans hset_eq)) (by omega) rfl ?_
                have t4 := T1h k (by omega)
                refine J_iload dX8_orders_116 rfl ?_
                refine J_ialdN (i := k) dX8_orders_118 ((hset_ne (by omega)).trans hset_eq) (by omega) (by omega) (by omega) ?_
                refine J_iload_n dX8_orders_119 rfl ?_
                refine J_callVr (M' := mX8_goWork) (d' := (4, 0, 0)) (rest := [.int (nI (PS w k (c / 4 ^ ((ndig x) - k))))]) dX8_orders_120 jmX8_goWork jlRX8_119 (ctX8_goWork (digO (ndig x) c k) (T1_1 k) bl xa xb (Q 20) (ndig x) bn ta tl tk va Q MM2 ((hset_ne (by omega)).trans ((hset_ne (by omega)).trans hset_eq)) ((hset_ne (by omega)).trans ((hset_ne (by omega)).trans ((hset_ne (by omega)).trans ((hset_ne (by omega)).trans H1)))) ((hset_ne (by omega)).trans ((hset_ne (by omega)).trans ((hset_ne (by omega)).trans hset_eq))) (by omega) (by first | assumption | omega) (by first | assumption | omega) (by first | assumption | omega) (by exact hM2) (by first | assumption | omega) (by first | assumption | omega)) ((hset_ne (by omega)).trans ((hset_ne (by omega)).trans hset_eq)) (by omega) jk8.1 rfl rfl (Nat.le_of_ble_eq_true rfl) (Nat.le_of_ble_eq_true rfl) ⟨Nat.le_refl _, Nat.le_refl _⟩ ?_
                refine J.cast ((hset_comm (by omega)).trans (hset_cg ((hset_comm (by omega)).trans (hset_cg ((hset_comm (by omega)).trans (hset_cg hset_hset rfl)) rfl)) rfl)) ?_
                have fc15 : fgnN (KQ Q) MM2 (Q 21) (digO (ndig x) c k) (T1_1 k) 4 ≤ 42 * 4 := fgnN_le (show ∀ zz, MM2 zz ≤ 20 from by exact hM2) 4
                refine J_goto (tgt := 128) dX8_orders_123 (by decide) ?_
                refine J_iaddN dX8_orders_128 ?_
                refine J_istore dX8_orders_129 (Nat.le_of_ble_eq_true rfl) (L' := [(6, .int (nI ((PS w k (c / 4 ^ ((ndig x) - k))) + (fgnN (KQ Q) MM2 (Q 21) (digO (ndig x) c k) (T1_1 k) 4)))), (8, .int (nI (digO (ndig x) c k))), (7, .int (nI k)), (5, .int (nI c)), (4, .int (nI ((foldN (stepO w (ndig x)) (1000000, 0) c).1))), (0, .ref (E.1 + 38)), (1, .int (nI x)), (2, .int (nI bl)), (3, .int (nI i))]) rfl ?_
                refine J_iincN (q := 2) (a := k) (m := 1) dX8_orders_131 rfl (by decide +kernel) (Nat.le_of_ble_eq_true rfl) (L' := [(7, .int (nI (k + 1))), (6, .int (nI ((PS w k (c / 4 ^ ((ndig x) - k))) + (fgnN (KQ Q) MM2 (Q 21) (digO (ndig x) c k) (T1_1 k) 4)))), (8, .int (nI (digO (ndig x) c k))), (5, .int (nI c)), (4, .int (nI ((foldN (stepO w (ndig x)) (1000000, 0) c).1))), (0, .ref (E.1 + 38)), (1, .int (nI x)), (2, .int (nI bl)), (3, .int (nI i))]) rfl ?_
                refine J_goto (tgt := 71) dX8_orders_134 (by decide) ?_
                refine J.sub [0, 1, 3, 4, 5, 6, 7, 8] (L' := [(7, .int (nI (k + 1))), (6, .int (nI ((PS w k (c / 4 ^ ((ndig x) - k))) + (fgnN (KQ Q) MM2 (Q 21) (digO (ndig x) c k) (T1_1 k) 4)))), (5, .int (nI c)), (4, .int (nI ((foldN (stepO w (ndig x)) (1000000, 0) c).1))), (0, .ref (E.1 + 38)), (1, .int (nI x)), (2, .int (nI bl)), (3, .int (nI i))]) rfl ?_
                refine J.eqs (h' := (hset (hset (hset (hset h 43 (cI E 16 (nF (addMN (KQ Q) MM2 (digO (ndig x) c k) (T1_1 k) bl)))) 38 (.inr (7, [.ref (E.1 + 39), .ref (E.1 + 40), .ref (E.1 + 41), .ref (E.1 + 42), .long (lN xa), .long (lN xb), .ref (E.1 + 43), .int (nI (Q 20)), .ref (E.1 + 44), .ref (E.1 + 45), .int (nI (ndig x)), .ref (E.1 + 46), .ref (E.1 + 47), .int (nI bn), .int (nI ta), .int (nI tl), .int (nI tk), .int (nI va), .ref (E.1 + 48), .ref (E.1 + 49)]))) 44 (cI E 4 (nF T1_1))) 45 (cI E 4 (nF BE1)))) (L' := [(7, .int (nI (k + 1))), (6, .int (nI (PS w (k + 1) (c / 4 ^ ((ndig x) - (k + 1)))))), (5, .int (nI c)), (4, .int (nI ((foldN (stepO w (ndig x)) (1000000, 0) c).1))), (0, .ref (E.1 + 38)), (1, .int (nI x)), (2, .int (nI bl)), (3, .int (nI i))]) (st' := []) (hset_cg (hset_cg (hset_cg (hset_cg rfl rfl) (congrArg (fun z => (Sum.inr (7, z) : va_E)) (jS_c rfl (jS_c rfl (jS_c rfl (jS_c rfl (jS_c rfl (jS_c rfl (jS_c rfl (jS_c rfl (jS_c rfl (jS_c rfl (jS_c (jv_N (by first | exact PS_r1 hw (by omega) (by assumption) hMM | exact PS_r2 (by omega) (by omega) | rfl)) (jS_c rfl (jS_c rfl (jS_c rfl (jS_c rfl (jS_c rfl (jS_c rfl (jS_c rfl (jS_c rfl (jS_c rfl rfl)))))))))))))))))))))) rfl) rfl) (jL_c rfl (jL_c (jv_N (by first | exact PS_r1 hw (by omega) (by assumption) hMM | exact PS_r2 (by omega) (by omega) | rfl)) (jL_c rfl (jL_c rfl (jL_c rfl (jL_c rfl (jL_c rfl (jL_c rfl rfl)))))))) rfl ?_
                exact ih71 (k + 1) (addMN (KQ Q) MM2 (digO (ndig x) c k) (T1_1 k) bl) (by omega) (by first | assumption | omega) (by first | exact handM_le hM4 hM1 | exact addMN_le hM2 | exact hM2) (by first | exact (fun zz hz => (handM_at (by omega)).trans (hwM zz hz)) | exact PM_r1 hw (by omega) (by assumption) hMM | (rw [← PM_r2 (by omega) (by omega)]; exact hMM))
        refine J.eqs (h' := (hset (hset (hset (hset h 43 (cI E 16 (nF (handM Q MM1 16)))) 38 (.inr (7, [.ref (E.1 + 39), .ref (E.1 + 40), .ref (E.1 + 41), .ref (E.1 + 42), .long (lN xa), .long (lN xb), .ref (E.1 + 43), .int (nI (Q 20)), .ref (E.1 + 44), .ref (E.1 + 45), .int (nI (ndig x)), .ref (E.1 + 46), .ref (E.1 + 47), .int (nI bn), .int (nI ta), .int (nI tl), .int (nI tk), .int (nI va), .ref (E.1 + 48), .ref (E.1 + 49)]))) 44 (cI E 4 (nF T1_1))) 45 (cI E 4 (nF BE1)))) (L' := [(7, .int (nI 0)), (6, .int (nI (PS w 0 (c / 4 ^ ((ndig x) - 0))))), (5, .int (nI c)), (4, .int (nI ((foldN (stepO w (ndig x)) (1000000, 0) c).1))), (0, .ref (E.1 + 38)), (1, .int (nI x)), (2, .int (nI bl)), (3, .int (nI i))]) (st' := []) rfl (jL_c rfl (jL_c (jv_N (by first | exact PS_r1 hw (by omega) (by assumption) hMM | exact PS_r2 (by omega) (by omega) | rfl)) (jL_c rfl (jL_c rfl (jL_c rfl (jL_c rfl (jL_c rfl (jL_c rfl rfl)))))))) rfl ?_
        exact CUT71 ((ndig x) - 0 + 1) 0 (handM Q MM1 16) (Nat.lt_succ_self _) (by first | assumption | omega) (by first | exact handM_le hM4 hM1 | exact addMN_le hM2 | exact hM2) (by first | exact (fun zz hz => (handM_at (by omega)).trans (hwM zz hz)) | exact PM_r1 hw (by omega) (by assumption) hMM | (rw [← PM_r2 (by omega) (by omega)]; exact hMM))
  refine J.eqs (h' := (hset (hset (hset (hset h 43 (cI E 16 (nF MM))) 38 (.inr (7, [.ref (E.1 + 39), .ref (E.1 + 40), .ref (E.1 + 41), .ref (E.1 + 42), .long (lN xa), .long (lN xb), .ref (E.1 + 43), .int (nI dt), .ref (E.1 + 44), .ref (E.1 + 45), .int (nI (ndig x)), .ref (E.1 + 46), .ref (E.1 + 47), .int (nI bn), .int (nI ta), .int (nI tl), .int (nI tk), .int (nI va), .ref (E.1 + 48), .ref (E.1 + 49)]))) 44 (cI E 4 (nF T1_1))) 45 (cI E 4 (nF BE)))) (L' := [(5, .int (nI 0)), (4, .int (nI ((foldN (stepO w (ndig x)) (1000000, 0) 0).1))), (0, .ref (E.1 + 38)), (1, .int (nI x)), (2, .int (nI bl)), (3, .int (nI i))]) (st' := []) ((show (hset (hset h 38 (.inr (7, [.ref (E.1 + 39), .ref (E.1 + 40), .ref (E.1 + 41), .ref (E.1 + 42), .long (lN xa), .long (lN xb), .ref (E.1 + 43), .int (nI dt), .ref (E.1 + 44), .ref (E.1 + 45), .int (nI (ndig x)), .ref (E.1 + 46), .ref (E.1 + 47), .int (nI bn), .int (nI ta), .int (nI tl), .int (nI tk), .int (nI va), .ref (E.1 + 48), .ref (E.1 + 49)]))) 44 (cI E 4 (nF T1_1))) = (hset (hset (hset (hset h 43 (cI E 16 (nF MM))) 38 (.inr (7, [.ref (E.1 + 39), .ref (E.1 + 40), .ref (E.1 + 41), .ref (E.1 + 42), .long (lN xa), .long (lN xb), .ref (E.1 + 43), .int (nI dt), .ref (E.1 + 44), .ref (E.1 + 45), .int (nI (ndig x)), .ref (E.1 + 46), .ref (E.1 + 47), .int (nI bn), .int (nI ta), .int (nI tl), .int (nI tk), .int (nI va), .ref (E.1 + 48), .ref (E.1 + 49)]))) 44 (cI E 4 (nF T1_1))) 45 (cI E 4 (nF BE))) by funext z; simp only [hset]; (repeat' split) <;> first | rfl | (exfalso; omega) | (subst_vars; first | exact H2 | exact H4)).trans (hset_cg (hset_cg (hset_cg (hset_cg rfl rfl) rfl) rfl) rfl)) (jL_c rfl (jL_c (jv_N (by first | (rw [st_t (by assumption)]; done) | (rw [st_f (by omega)]; done) | (exfalso; omega) | rfl)) (jL_c rfl (jL_c rfl (jL_c rfl (jL_c rfl rfl)))))) rfl ?_
  exact CUT48 (4 ^ (ndig x) - 0 + 1) 0 MM BE dt (Nat.lt_succ_self _) (by first | assumption | omega) (by first | exact hM | exact hM2) (by first | exact (fun q => absurd q (Nat.lt_irrefl _)) | (rw [st_t (by assumption)]; intro _ zz hz; exact hB2 zz (by omega)) | (rw [st_f (by omega)]; intro q zz hz; rw [hB3 (by omega) zz]; exact hB q zz hz) | (exfalso; omega))

set_option maxHeartbeats 1000000 in
set_option maxRecDepth 100000 in
theorem ctX8_orders_k {E : jE} {h : Nat → va_E} {n : Nat} (w : oW) (x : Nat) (bl : Nat) (i : Nat) (xa : Nat) (xb : Nat) (dt : Nat) (mo : Nat) (bn : Nat) (ta : Nat) (tl : Nat) (tk : Nat) (va : Nat) (Q : Nat → Nat) (MM : Nat → Nat) (TE : Nat → Nat) (BE : Nat → Nat) (H0 : h 38 = .inr (7, [.ref (E.1 + 39), .ref (E.1 + 40), .ref (E.1 + 41), .ref (E.1 + 42), .long (lN xa), .long (lN xb), .ref (E.1 + 43), .int (nI dt), .ref (E.1 + 44), .ref (E.1 + 45), .int (nI mo), .ref (E.1 + 46), .ref (E.1 + 47), .int (nI bn), .int (nI ta), .int (nI tl), .int (nI tk), .int (nI va), .ref (E.1 + 48), .ref (E.1 + 49)])) (H1 : h 39 = cI E 218 (nF Q)) (H2 : h 43 = cI E 16 (nF MM)) (H3 : h 44 = cI E 4 (nF TE)) (H4 : h 45 = cI E 4 (nF BE)) (hn : 50 ≤ n) (hn4 : Q 0 ≤ 4) (hK : ∀ zz, zz < 4 → KQ Q zz ≤ 5) (hM4 : ∀ zz, zz < 16 → Q (4 + zz) ≤ 20) (hg : Q 21 ≤ 9) (hM : ∀ zz, MM zz ≤ 20) (hok : okW x) (hb1 : 1 ≤ bl) (hb5 : bl ≤ 5) (h32i : i < 2 ^ 32) (hi : i < 2 ^ 31) (han : 1 ≤ Q 0) (hw1 : w.an = Q 0 ∧ w.g = Q 21 ∧ w.bl = bl) (hwK : ∀ zz, zz < Q 0 → KQ Q zz = w.K zz) (hwT : ∀ zz, zz < ndig x → figT x zz = w.T zz) (hwM : ∀ zz, zz < 4 * Q 0 → MV Q zz = w.M zz) (hwL : ∀ zz, w.M zz ≤ 20) : jC E mX8_orders (5, 0, 0) [.ref (E.1 + 38), .int (nI x), .int (nI bl), .int (nI i)] h n (fun v h' n' => v = some (.int (ordI w (ndig x) i)) ∧ n' = n ∧ ∃ (T1 : Nat → Nat) (MM1 : Nat → Nat) (BE1 : Nat → Nat) (dt1 : Nat), h' = (hset (hset (hset (hset h 43 (cI E 16 (nF MM1))) 38 (.inr (7, [.ref (E.1 + 39), .ref (E.1 + 40), .ref (E.1 + 41), .ref (E.1 + 42), .long (lN xa), .long (lN xb), .ref (E.1 + 43), .int (nI dt1), .ref (E.1 + 44), .ref (E.1 + 45), .int (nI (ndig x)), .ref (E.1 + 46), .ref (E.1 + 47), .int (nI bn), .int (nI ta), .int (nI tl), .int (nI tk), .int (nI va), .ref (E.1 + 48), .ref (E.1 + 49)]))) 44 (cI E 4 (nF T1))) 45 (cI E 4 (nF BE1))) ∧ (∀ zz, MM1 zz ≤ 20)) := by
  refine J.of (L := [(0, .ref (E.1 + 38)), (1, .int (nI x)), (2, .int (nI bl)), (3, .int (nI i))]) rfl (by decide +kernel) (Nat.le_of_ble_eq_true rfl) ?_
  obtain ⟨PP, hPP⟩ : ∃ PP : jPost, PP = (fun v h' n' => v = some (.int (ordI w (ndig x) i)) ∧ n' = n ∧ ∃ (T1 : Nat → Nat) (MM1 : Nat → Nat) (BE1 : Nat → Nat) (dt1 : Nat), h' = (hset (hset (hset (hset h 43 (cI E 16 (nF MM1))) 38 (.inr (7, [.ref (E.1 + 39), .ref (E.1 + 40), .ref (E.1 + 41), .ref (E.1 + 42), .long (lN xa), .long (lN xb), .ref (E.1 + 43), .int (nI dt1), .ref (E.1 + 44), .ref (E.1 + 45), .int (nI (ndig x)), .ref (E.1 + 46), .ref (E.1 + 47), .int (nI bn), .int (nI ta), .int (nI tl), .int (nI tk), .int (nI va), .ref (E.1 + 48), .ref (E.1 + 49)]))) 44 (cI E 4 (nF T1))) 45 (cI E 4 (nF BE1))) ∧ (∀ zz, MM1 zz ≤ 20)) := ⟨_, rfl⟩
  rw [← hPP]
  refine J_aload_n dX8_orders_0 rfl ?_
  refine J_iload_n dX8_orders_1 rfl ?_
  refine J_callV (M' := mX8_layOrders) (d' := (2, 0, 0)) (rest := []) dX8_orders_2 jmX8_layOrders jlRX8_145 (ctX8_layOrders x xa xb dt mo bn ta tl tk va TE H0 H3 (by omega) (by first | assumption | omega)) H0 (by omega) jk8.1 rfl rfl (Nat.le_of_ble_eq_true rfl) (Nat.le_of_ble_eq_true rfl) (by constructor <;> decide +kernel) (fun v9 h9 n9 q9 => ?_)
  obtain ⟨rfl, hn9, T1_1, rfl, hT_2⟩ := q9
  replace hn9 := hn9.symm
  subst hn9
  refine J.stk (st' := [.int (nI 1)]) rfl ?_
  have hT := hT_2
  have nd := ndig_le x
  have p4 : 4 ^ ndig x ≤ 4 ^ 4 := Nat.pow_le_pow_right (by omega) nd
  have p41 : 1 ≤ 4 ^ ndig x := Nat.one_le_pow _ _ (by omega)
  have T1h : ∀ zz, zz < ndig x → T1_1 zz < 4 := fun zz hz => by rw [hT zz hz]; exact figT_lt hok hz
  have wan : w.an = Q 0 := hw1.1
  have hw : oH w (Q 0) (Q 21) bl (KQ Q) T1_1 (ndig x) := ⟨hw1.1, hw1.2.1, hw1.2.2, by omega, hwK, fun zz hz => ⟨(hT zz hz).trans (hwT zz hz), T1h zz hz⟩⟩
  refine J_if_eqN (tgt := 25) dX8_orders_5 (by decide) (by omega) (fun z => absurd z (by decide)) (fun _ => ?_)
  refine J_iload_n dX8_orders_8 rfl ?_
  refine J_i2lN dX8_orders_9 (by omega) ?_
  refine J_lconst (v := lN 1) dX8_orders_10 (by decide +kernel) ?_
  refine J_ldc2 dX8_orders_11 jqRX8_70 ?_
  refine J.stk (st' := .long (lN 5) :: [.long (lN 1), .long (lN bl)]) rfl ?_
  refine J_callSr (M' := mX8_in) (d' := (1, 0, 0)) (rest := []) dX8_orders_14 jmX8_in jlRX8_56 (ctX8_inM bl 1 5   (by first | assumption | omega) (by first | assumption | omega) (by first | assumption | omega)) rfl rfl (Nat.le_of_ble_eq_true rfl) (Nat.le_of_ble_eq_true rfl) ⟨Nat.le_refl _, Nat.le_refl _⟩ ?_
  refine J_if_eqB (tgt := 25) dX8_orders_17 (by decide) (fun c4 => (by exfalso; omega)) (fun c4 => ?_)
  refine J_iload_n dX8_orders_20 rfl ?_
  refine J_iconst (v := (-1)) dX8_orders_21 (by decide +kernel) ?_
  refine J_icmp_geV (tgt := 32) dX8_orders_22 (by decide) (by omega) (fun c5 => ?_) (fun c5 => (by exfalso; omega))
  refine J_aload_n dX8_orders_32 rfl ?_
  refine J_callVr (M' := mX8_many) (d' := (1, 0, 0)) (rest := []) dX8_orders_33 jmX8_many jlRX8_52 (ctX8_many xa xb dt (ndig x) bn ta tl tk va Q ((hset_ne (by omega)).trans hset_eq) ((hset_ne (by omega)).trans ((hset_ne (by omega)).trans H1)) (by omega) ) ((hset_ne (by omega)).trans hset_eq) (by omega) jk8.1 rfl rfl (Nat.le_of_ble_eq_true rfl) (Nat.le_of_ble_eq_true rfl) ⟨Nat.le_refl _, Nat.le_refl _⟩ ?_
  refine J_if_neN (tgt := 41) dX8_orders_36 (by decide) (by omega) (fun c6 => ?_) (fun c6 => (by exfalso; omega))
  refine J_ldc dX8_orders_41 jqRX8_148 ?_
  refine J.stk (st' := .int (nI 1000000) :: []) rfl ?_
  refine J_istore dX8_orders_43 (Nat.le_of_ble_eq_true rfl) (L' := [(4, .int (nI 1000000)), (0, .ref (E.1 + 38)), (1, .int (nI x)), (2, .int (nI bl)), (3, .int (nI i))]) rfl ?_
  refine J_iconst (v := nI 0) dX8_orders_45 (by decide +kernel) ?_
  refine J_istore dX8_orders_46 (Nat.le_of_ble_eq_true rfl) (L' := [(5, .int (nI 0)), (4, .int (nI 1000000)), (0, .ref (E.1 + 38)), (1, .int (nI x)), (2, .int (nI bl)), (3, .int (nI i))]) rfl ?_
  have CUT48 : ∀ (f48 : Nat) (c : Nat) (MM1 : Nat → Nat) (BE1 : Nat → Nat) (dt1 : Nat) (hm48 : 4 ^ (ndig x) - c < f48) (hc : c ≤ 4 ^ (ndig x)) (hM1 : ∀ zz, MM1 zz ≤ 20) (hB : (foldN (stepO w (ndig x)) (1000000, 0) c).1 < 1000000 → ∀ zz, zz < (ndig x) → BE1 zz = digO (ndig x) (foldN (stepO w (ndig x)) (1000000, 0) c).2 zz), J E mX8_orders (5, 0, 0) jS0 PP (hset (hset (hset (hset h 43 (cI E 16 (nF MM1))) 38 (.inr (7, [.ref (E.1 + 39), .ref (E.1 + 40), .ref (E.1 + 41), .ref (E.1 + 42), .long (lN xa), .long (lN xb), .ref (E.1 + 43), .int (nI dt1), .ref (E.1 + 44), .ref (E.1 + 45), .int (nI (ndig x)), .ref (E.1 + 46), .ref (E.1 + 47), .int (nI bn), .int (nI ta), .int (nI tl), .int (nI tk), .int (nI va), .ref (E.1 + 48), .ref (E.1 + 49)]))) 44 (cI E 4 (nF T1_1))) 45 (cI E 4 (nF BE1))) n (0, 0) 48 [(5, .int (nI c)), (4, .int (nI ((foldN (stepO w (ndig x)) (1000000, 0) c).1))), (0, .ref (E.1 + 38)), (1, .int (nI x)), (2, .int (nI bl)), (3, .int (nI i))] [] := by
    intro f48
    induction f48 with
    | zero => intro c MM1 BE1 dt1 hm48; exact absurd hm48 (Nat.not_lt_zero _)
    | succ f48 ih48 =>
      intro c MM1 BE1 dt1 hm48 hc hM1 hB
      have fl : (foldN (stepO w (ndig x)) (1000000, 0) c).1 ≤ 1000000 := foldN_le1 (f := stepO w (ndig x)) (s := (1000000, 0)) (fun x1 x2 => stepO_le) c
      refine J_iload dX8_orders_48 rfl ?_
      refine J_iconst (v := nI 1) dX8_orders_50 (by decide +kernel) ?_
      refine J_iconst (v := nI 2) dX8_orders_51 (by decide +kernel) ?_
      refine J_aload_n dX8_orders_52 rfl ?_
      refine J_get 10 dX8_orders_53 jk8 (Nat.le_of_ble_eq_true rfl) jfRX8_142 ((hset_ne (by omega)).trans ((hset_ne (by omega)).trans hset_eq)) (by omega) rfl ?_
      refine J_imulN dX8_orders_56 ?_
      refine J_ishlN dX8_orders_57 (by omega) (by rw [two_four]; omega) ?_
      refine J.stk (st' := [.int (nI (4 ^ (ndig x))), .int (nI c)]) (congrArg (fun z => Value.int (nI z) :: [.int (nI c)]) (by exact two_four)) ?_
      refine J_icmp_geN (tgt := 207) dX8_orders_58 (by decide) (by omega) (by omega) (fun c7 => ?_) (fun c7 => ?_)
      · skip
        refine J_iload_n dX8_orders_207 rfl ?_
        refine J_iconst (v := (-1)) dX8_orders_208 (by decide +kernel) ?_
        refine J_icmp_neV (tgt := 217) dX8_orders_209 (by decide) (by omega) (fun c8 => ?_) (fun c8 => (by exfalso; omega))
        refine J_iload_n dX8_orders_217 rfl ?_
        refine J_aload_n dX8_orders_218 rfl ?_
        refine J_get 10 dX8_orders_219 jk8 (Nat.le_of_ble_eq_true rfl) jfRX8_142 ((hset_ne (by omega)).trans ((hset_ne (by omega)).trans hset_eq)) (by omega) rfl ?_
        refine J_icmp_geW (tgt := 234) dX8_orders_222 (by decide) (by omega) (by omega) (fun c9 => ?_) (fun c9 => ?_)
        · skip
          refine J_bipush (v := (-5)) dX8_orders_234 (by decide +kernel) ?_
          exact J_iret dX8_orders_236 rfl ⟨Nat.le_refl _, Nat.le_refl _⟩ (by rw [hPP]; exact ⟨(congrArg some (jv_I (by first | exact ordI_f (by omega) | (refine ordI_t (by omega) ?_; rw [ord_same (by omega) (by omega) hwL nd, ← show c = 4 ^ ndig x by omega]; exact hB (by rw [show c = 4 ^ ndig x by omega]; exact ord_lt (by omega) (by omega) hwL nd) i (by omega))))), rfl, T1_1, MM1, BE1, dt1, (hset_cg (hset_cg (hset_cg (hset_cg rfl rfl) (congrArg (fun z => (Sum.inr (7, z) : va_E)) (jS_c rfl (jS_c rfl (jS_c rfl (jS_c rfl (jS_c rfl (jS_c rfl (jS_c rfl (jS_c rfl (jS_c rfl (jS_c rfl (jS_c (jv_N (by rfl)) (jS_c rfl (jS_c rfl (jS_c rfl (jS_c rfl (jS_c rfl (jS_c rfl (jS_c rfl (jS_c rfl (jS_c rfl rfl)))))))))))))))))))))) rfl) rfl), (by assumption)⟩)
        · skip
          refine J_aload_n dX8_orders_225 rfl ?_
          refine J_get 9 dX8_orders_226 jk8 (Nat.le_of_ble_eq_true rfl) jfRX8_33 ((hset_ne (by omega)).trans ((hset_ne (by omega)).trans hset_eq)) (by omega) rfl ?_
          refine J_iload_n dX8_orders_229 rfl ?_
          refine J_ialdN (i := i) dX8_orders_230 hset_eq (by omega) (by omega) (by omega) ?_
          refine J_goto (tgt := 236) dX8_orders_231 (by decide) ?_
          exact J_iret dX8_orders_236 rfl ⟨Nat.le_refl _, Nat.le_refl _⟩ (by rw [hPP]; exact ⟨(congrArg some (jv_I (a := nI (BE1 i)) (by first | exact ordI_f (by omega) | (refine ordI_t (by omega) ?_; rw [ord_same (by omega) (by omega) hwL nd, ← show c = 4 ^ ndig x by omega]; exact hB (by rw [show c = 4 ^ ndig x by omega]; exact ord_lt (by omega) (by omega) hwL nd) i (by omega))))), rfl, T1_1, MM1, BE1, dt1, (hset_cg (hset_cg (hset_cg (hset_cg rfl rfl) (congrArg (fun z => (Sum.inr (7, z) : va_E)) (jS_c rfl (jS_c rfl (jS_c rfl (jS_c rfl (jS_c rfl (jS_c rfl (jS_c rfl (jS_c rfl (jS_c rfl (jS_c rfl (jS_c (jv_N (by rfl)) (jS_c rfl (jS_c rfl (jS_c rfl (jS_c rfl (jS_c rfl (jS_c rfl (jS_c rfl (jS_c rfl (jS_c rfl rfl)))))))))))))))))))))) rfl) rfl), (by assumption)⟩)
      · skip
        refine J_iconst (v := nI 0) dX8_orders_61 (by decide +kernel) ?_
        refine J_istore dX8_orders_62 (Nat.le_of_ble_eq_true rfl) (L' := [(6, .int (nI 0)), (5, .int (nI c)), (4, .int (nI ((foldN (stepO w (ndig x)) (1000000, 0) c).1))), (0, .ref (E.1 + 38)), (1, .int (nI x)), (2, .int (nI bl)), (3, .int (nI i))]) rfl ?_
        refine J_aload_n dX8_orders_64 rfl ?_
        refine J_callVn (M' := mX8_layHand) (d' := (1, 0, 0)) (rest := []) dX8_orders_65 jmX8_layHand jlRX8_116 (ctX8_layHand xa xb dt1 (ndig x) bn ta tl tk va Q MM1 ((hset_ne (by omega)).trans ((hset_ne (by omega)).trans hset_eq)) ((hset_ne (by omega)).trans ((hset_ne (by omega)).trans ((hset_ne (by omega)).trans ((hset_ne (by omega)).trans H1)))) ((hset_ne (by omega)).trans ((hset_ne (by omega)).trans ((hset_ne (by omega)).trans hset_eq))) (by omega) ) ((hset_ne (by omega)).trans ((hset_ne (by omega)).trans hset_eq)) (by omega) jk8.1 rfl rfl (Nat.le_of_ble_eq_true rfl) (Nat.le_of_ble_eq_true rfl) ⟨Nat.le_refl _, Nat.le_refl _⟩ ?_
        refine J.cast ((hset_cg ((hset_comm (by omega)).trans (hset_cg ((hset_comm (by omega)).trans (hset_cg ((hset_comm (by omega)).trans (hset_cg hset_hset rfl)) rfl)) rfl)) rfl).trans ((hset_comm (by omega)).trans (hset_cg ((hset_comm (by omega)).trans (hset_cg hset_hset rfl)) rfl))) ?_
        refine J_iconst (v := nI 0) dX8_orders_68 (by decide +kernel) ?_
        refine J_istore dX8_orders_69 (Nat.le_of_ble_eq_true rfl) (L' := [(7, .int (nI 0)), (6, .int (nI 0)), (5, .int (nI c)), (4, .int (nI ((foldN (stepO w (ndig x)) (1000000, 0) c).1))), (0, .ref (E.1 + 38)), (1, .int (nI x)), (2, .int (nI bl)), (3, .int (nI i))]) rfl ?_
        have CUT71 : ∀ (f71 : Nat) (k : Nat) (MM2 : Nat → Nat) (hm71 : (ndig x) - k < f71) (hk : k ≤ (ndig x)) (hM2 : ∀ zz, MM2 zz ≤ 20) (hMM : ∀ zz, zz < 4 * Q 0 → MM2 zz = PM w k (c / 4 ^ ((ndig x) - k)) zz), J E mX8_orders (5, 0, 0) jS0 PP (hset (hset (hset (hset h 43 (cI E 16 (nF MM2))) 38 (.inr (7, [.ref (E.1 + 39), .ref (E.1 + 40), .ref (E.1 + 41), .ref (E.1 + 42), .long (lN xa), .long (lN xb), .ref (E.1 + 43), .int (nI (Q 20)), .ref (E.1 + 44), .ref (E.1 + 45), .int (nI (ndig x)), .ref (E.1 + 46), .ref (E.1 + 47), .int (nI bn), .int (nI ta), .int (nI tl), .int (nI tk), .int (nI va), .ref (E.1 + 48), .ref (E.1 + 49)]))) 44 (cI E 4 (nF T1_1))) 45 (cI E 4 (nF BE1))) n (0, 0) 71 [(7, .int (nI k)), (6, .int (nI (PS w k (c / 4 ^ ((ndig x) - k))))), (5, .int (nI c)), (4, .int (nI ((foldN (stepO w (ndig x)) (1000000, 0) c).1))), (0, .ref (E.1 + 38)), (1, .int (nI x)), (2, .int (nI bl)), (3, .int (nI i))] [] := by
          intro f71
          induction f71 with
          | zero => intro k MM2 hm71; exact absurd hm71 (Nat.not_lt_zero _)
          | succ f71 ih71 =>
            intro k MM2 hm71 hk hM2 hMM
            have pl := PS_le hwL k (c / 4 ^ ((ndig x) - k))
            have fg := fgnN_le (K := KQ Q) (g := Q 21) (a := digO (ndig x) c k) (t := T1_1 k) hM2 4
            refine J_iload dX8_orders_71 rfl ?_
            refine J_aload_n dX8_orders_73 rfl ?_
            refine J_get 10 dX8_orders_74 jk8 (Nat.le_of_ble_eq_true rfl) jfRX8_142 ((hset_ne (by omega)).trans ((hset_ne (by omega)).trans hset_eq)) (by omega) rfl ?_
            refine J_icmp_geN (tgt := 137) dX8_orders_77 (by decide) (by omega) (by omega) (fun c10 => ?_) (fun c10 => ?_)
            · skip
              refine J_iconst (v := nI 0) dX8_orders_137 (by decide +kernel) ?_
              refine J_istore dX8_orders_138 (Nat.le_of_ble_eq_true rfl) (L' := [(7, .int (nI 0)), (6, .int (nI (PS w k (c / 4 ^ ((ndig x) - k))))), (5, .int (nI c)), (4, .int (nI ((foldN (stepO w (ndig x)) (1000000, 0) c).1))), (0, .ref (E.1 + 38)), (1, .int (nI x)), (2, .int (nI bl)), (3, .int (nI i))]) rfl ?_
              have CUT140 : ∀ (f140 : Nat) (j : Nat) (BE2 : Nat → Nat) (hm140 : (ndig x) - j < f140) (hj : j ≤ (ndig x)) (hB2 : ∀ zz, zz < j → BE2 zz = digO (ndig x) c zz) (hB3 : ¬ PS w (ndig x) c < (foldN (stepO w (ndig x)) (1000000, 0) c).1 → ∀ zz, BE2 zz = BE1 zz), J E mX8_orders (5, 0, 0) jS0 PP (hset (hset (hset (hset h 43 (cI E 16 (nF MM2))) 38 (.inr (7, [.ref (E.1 + 39), .ref (E.1 + 40), .ref (E.1 + 41), .ref (E.1 + 42), .long (lN xa), .long (lN xb), .ref (E.1 + 43), .int (nI (Q 20)), .ref (E.1 + 44), .ref (E.1 + 45), .int (nI (ndig x)), .ref (E.1 + 46), .ref (E.1 + 47), .int (nI bn), .int (nI ta), .int (nI tl), .int (nI tk), .int (nI va), .ref (E.1 + 48), .ref (E.1 + 49)]))) 44 (cI E 4 (nF T1_1))) 45 (cI E 4 (nF BE2))) n (0, 0) 140 [(7, .int (nI j)), (6, .int (nI (PS w (ndig x) c))), (5, .int (nI c)), (4, .int (nI ((foldN (stepO w (ndig x)) (1000000, 0) c).1))), (0, .ref (E.1 + 38)), (1, .int (nI x)), (2, .int (nI bl)), (3, .int (nI i))] [] := by
                intro f140
                induction f140 with
                | zero => intro j BE2 hm140; exact absurd hm140 (Nat.not_lt_zero _)
                | succ f140 ih140 =>
                  intro j BE2 hm140 hj hB2 hB3
                  have pl := PS_le hwL (ndig x) c
                  refine J_iload dX8_orders_140 rfl ?_
                  refine J_aload_n dX8_orders_142 rfl ?_
                  refine J_get 10 dX8_orders_143 jk8 (Nat.le_of_ble_eq_true rfl) jfRX8_142 ((hset_ne (by omega)).trans ((hset_ne (by omega)).trans hset_eq)) (by omega) rfl ?_
                  refine J_icmp_geN (tgt := 185) dX8_orders_146 (by decide) (by omega) (by omega) (fun c11 => ?_) (fun c11 => ?_)
                  · skip
                    refine J_iload dX8_orders_185 rfl ?_
                    refine J_iload dX8_orders_187 rfl ?_
                    refine J_icmp_geN (tgt := 197) dX8_orders_189 (by decide) (by omega) (by omega) (fun c12 => ?_) (fun c12 => ?_)
                    · skip
                      refine J_iload dX8_orders_197 rfl ?_
                      refine J_istore dX8_orders_199 (Nat.le_of_ble_eq_true rfl) (L' := [(4, .int (nI ((foldN (stepO w (ndig x)) (1000000, 0) c).1))), (7, .int (nI j)), (6, .int (nI (PS w (ndig x) c))), (5, .int (nI c)), (0, .ref (E.1 + 38)), (1, .int (nI x)), (2, .int (nI bl)), (3, .int (nI i))]) rfl ?_
                      refine J_iincN (q := 3) (a := c) (m := 1) dX8_orders_201 rfl (by decide +kernel) (Nat.le_of_ble_eq_true rfl) (L' := [(5, .int (nI (c + 1))), (4, .int (nI ((foldN (stepO w (ndig x)) (1000000, 0) c).1))), (7, .int (nI j)), (6, .int (nI (PS w (ndig x) c))), (0, .ref (E.1 + 38)), (1, .int (nI x)), (2, .int (nI bl)), (3, .int (nI i))]) rfl ?_
                      refine J_goto (tgt := 48) dX8_orders_204 (by decide) ?_
                      refine J.sub [0, 1, 4, 5, 6, 7] (L' := [(5, .int (nI (c + 1))), (4, .int (nI ((foldN (stepO w (ndig x)) (1000000, 0) c).1))), (0, .ref (E.1 + 38)), (1, .int (nI x)), (2, .int (nI bl)), (3, .int (nI i))]) rfl ?_
                      refine J.eqs (h' := (hset (hset (hset (hset h 43 (cI E 16 (nF MM2))) 38 (.inr (7, [.ref (E.1 + 39), .ref (E.1 + 40), .ref (E.1 + 41), .ref (E.1 + 42), .long (lN xa), .long (lN xb), .ref (E.1 + 43), .int (nI (Q 20)), .ref (E.1 + 44), .ref (E.1 + 45), .int (nI (ndig x)), .ref (E.1 + 46), .ref (E.1 + 47), .int (nI bn), .int (nI ta), .int (nI tl), .int (nI tk), .int (nI va), .ref (E.1 + 48), .ref (E.1 + 49)]))) 44 (cI E 4 (nF T1_1))) 45 (cI E 4 (nF BE2)))) (L' := [(5, .int (nI (c + 1))), (4, .int (nI ((foldN (stepO w (ndig x)) (1000000, 0) (c + 1)).1))), (0, .ref (E.1 + 38)), (1, .int (nI x)), (2, .int (nI bl)), (3, .int (nI i))]) (st' := []) (hset_cg (hset_cg (hset_cg (hset_cg rfl rfl) (congrArg (fun z => (Sum.inr (7, z) : va_E)) (jS_c rfl (jS_c rfl (jS_c rfl (jS_c rfl (jS_c rfl (jS_c rfl (jS_c rfl (jS_c rfl (jS_c rfl (jS_c rfl (jS_c (jv_N (by first | (rw [st_t (by assumption)]; done) | (rw [st_f (by omega)]; done) | (exfalso; omega) | rfl)) (jS_c rfl (jS_c rfl (jS_c rfl (jS_c rfl (jS_c rfl (jS_c rfl (jS_c rfl (jS_c rfl (jS_c rfl rfl)))))))))))))))))))))) rfl) rfl) (jL_c rfl (jL_c (jv_N (by first | (rw [st_t (by assumption)]; done) | (rw [st_f (by omega)]; done) | (exfalso; omega) | rfl)) (jL_c rfl (jL_c rfl (jL_c rfl (jL_c rfl rfl)))))) rfl ?_
                      exact ih48 (c + 1) MM2 BE2 (Q 20) (by omega) (by first | assumption | omega) (by first | exact hM | exact hM2) (by first | exact (fun q => absurd q (Nat.lt_irrefl _)) | (rw [st_t (by assumption)]; intro _ zz hz; exact hB2 zz (by omega)) | (rw [st_f (by omega)]; intro q zz hz; rw [hB3 (by omega) zz]; exact hB q zz hz) | (exfalso; omega))
                    · skip
                      refine J_iload dX8_orders_192 rfl ?_
                      refine J_goto (tgt := 199) dX8_orders_194 (by decide) ?_
                      refine J_istore dX8_orders_199 (Nat.le_of_ble_eq_true rfl) (L' := [(4, .int (nI (PS w (ndig x) c))), (7, .int (nI j)), (6, .int (nI (PS w (ndig x) c))), (5, .int (nI c)), (0, .ref (E.1 + 38)), (1, .int (nI x)), (2, .int (nI bl)), (3, .int (nI i))]) rfl ?_
                      refine J_iincN (q := 3) (a := c) (m := 1) dX8_orders_201 rfl (by decide +kernel) (Nat.le_of_ble_eq_true rfl) (L' := [(5, .int (nI (c + 1))), (4, .int (nI (PS w (ndig x) c))), (7, .int (nI j)), (6, .int (nI (PS w (ndig x) c))), (0, .ref (E.1 + 38)), (1, .int (nI x)), (2, .int (nI bl)), (3, .int (nI i))]) rfl ?_
                      refine J_goto (tgt := 48) dX8_orders_204 (by decide) ?_
                      refine J.sub [0, 1, 4, 5, 6, 7] (L' := [(5, .int (nI (c + 1))), (4, .int (nI (PS w (ndig x) c))), (0, .ref (E.1 + 38)), (1, .int (nI x)), (2, .int (nI bl)), (3, .int (nI i))]) rfl ?_
                      refine J.eqs (h' := (hset (hset (hset (hset h 43 (cI E 16 (nF MM2))) 38 (.inr (7, [.ref (E.1 + 39), .ref (E.1 + 40), .ref (E.1 + 41), .ref (E.1 + 42), .long (lN xa), .long (lN xb), .ref (E.1 + 43), .int (nI (Q 20)), .ref (E.1 + 44), .ref (E.1 + 45), .int (nI (ndig x)), .ref (E.1 + 46), .ref (E.1 + 47), .int (nI bn), .int (nI ta), .int (nI tl), .int (nI tk), .int (nI va), .ref (E.1 + 48), .ref (E.1 + 49)]))) 44 (cI E 4 (nF T1_1))) 45 (cI E 4 (nF BE2)))) (L' := [(5, .int (nI (c + 1))), (4, .int (nI ((foldN (stepO w (ndig x)) (1000000, 0) (c + 1)).1))), (0, .ref (E.1 + 38)), (1, .int (nI x)), (2, .int (nI bl)), (3, .int (nI i))]) (st' := []) (hset_cg (hset_cg (hset_cg (hset_cg rfl rfl) (congrArg (fun z => (Sum.inr (7, z) : va_E)) (jS_c rfl (jS_c rfl (jS_c rfl (jS_c rfl (jS_c rfl (jS_c rfl (jS_c rfl (jS_c rfl (jS_c rfl (jS_c rfl (jS_c (jv_N (by first | (rw [st_t (by assumption)]; done) | (rw [st_f (by omega)]; done) | (exfalso; omega) | rfl)) (jS_c rfl (jS_c rfl (jS_c rfl (jS_c rfl (jS_c rfl (jS_c rfl (jS_c rfl (jS_c rfl (jS_c rfl rfl)))))))))))))))))))))) rfl) rfl) (jL_c rfl (jL_c (jv_N (by first | (rw [st_t (by assumption)]; done) | (rw [st_f (by omega)]; done) | (exfalso; omega) | rfl)) (jL_c rfl (jL_c rfl (jL_c rfl (jL_c rfl rfl)))))) rfl ?_
                      exact ih48 (c + 1) MM2 BE2 (Q 20) (by omega) (by first | assumption | omega) (by first | exact hM | exact hM2) (by first | exact (fun q => absurd q (Nat.lt_irrefl _)) | (rw [st_t (by assumption)]; intro _ zz hz; exact hB2 zz (by omega)) | (rw [st_f (by omega)]; intro q zz hz; rw [hB3 (by omega) zz]; exact hB q zz hz) | (exfalso; omega))
                  · skip
                    refine J_iload dX8_orders_149 rfl ?_
                    refine J_iload dX8_orders_151 rfl ?_
                    refine J_icmp_geN (tgt := 185) dX8_orders_153 (by decide) (by omega) (by omega) (fun c13 => ?_) (fun c13 => ?_)
                    · skip
                      refine J_iload dX8_orders_185 rfl ?_
                      refine J_iload dX8_orders_187 rfl ?_
                      refine J_icmp_geN (tgt := 197) dX8_orders_189 (by decide) (by omega) (by omega) (fun c14 => ?_) (fun c14 => ?_)
                      · skip
                        refine J_iload dX8_orders_197 rfl ?_
                        refine J_istore dX8_orders_199 (Nat.le_of_ble_eq_true rfl) (L' := [(4, .int (nI ((foldN (stepO w (ndig x)) (1000000, 0) c).1))), (7, .int (nI j)), (6, .int (nI (PS w (ndig x) c))), (5, .int (nI c)), (0, .ref (E.1 + 38)), (1, .int (nI x)), (2, .int (nI bl)), (3, .int (nI i))]) rfl ?_
                        refine J_iincN (q := 3) (a := c) (m := 1) dX8_orders_201 rfl (by decide +kernel) (Nat.le_of_ble_eq_true rfl) (L' := [(5, .int (nI (c + 1))), (4, .int (nI ((foldN (stepO w (ndig x)) (1000000, 0) c).1))), (7, .int (nI j)), (6, .int (nI (PS w (ndig x) c))), (0, .ref (E.1 + 38)), (1, .int (nI x)), (2, .int (nI bl)), (3, .int (nI i))]) rfl ?_
                        refine J_goto (tgt := 48) dX8_orders_204 (by decide) ?_
                        refine J.sub [0, 1, 4, 5, 6, 7] (L' := [(5, .int (nI (c + 1))), (4, .int (nI ((foldN (stepO w (ndig x)) (1000000, 0) c).1))), (0, .ref (E.1 + 38)), (1, .int (nI x)), (2, .int (nI bl)), (3, .int (nI i))]) rfl ?_
                        refine J.eqs (h' := (hset (hset (hset (hset h 43 (cI E 16 (nF MM2))) 38 (.inr (7, [.ref (E.1 + 39), .ref (E.1 + 40), .ref (E.1 + 41), .ref (E.1 + 42), .long (lN xa), .long (lN xb), .ref (E.1 + 43), .int (nI (Q 20)), .ref (E.1 + 44), .ref (E.1 + 45), .int (nI (ndig x)), .ref (E.1 + 46), .ref (E.1 + 47), .int (nI bn), .int (nI ta), .int (nI tl), .int (nI tk), .int (nI va), .ref (E.1 + 48), .ref (E.1 + 49)]))) 44 (cI E 4 (nF T1_1))) 45 (cI E 4 (nF BE2)))) (L' := [(5, .int (nI (c + 1))), (4, .int (nI ((foldN (stepO w (ndig x)) (1000000, 0) (c + 1)).1))), (0, .ref (E.1 + 38)), (1, .int (nI x)), (2, .int (nI bl)), (3, .int (nI i))]) (st' := []) (hset_cg (hset_cg (hset_cg (hset_cg rfl rfl) (congrArg (fun z => (Sum.inr (7, z) : va_E)) (jS_c rfl (jS_c rfl (jS_c rfl (jS_c rfl (jS_c rfl (jS_c rfl (jS_c rfl (jS_c rfl (jS_c rfl (jS_c rfl (jS_c (jv_N (by first | (rw [st_t (by assumption)]; done) | (rw [st_f (by omega)]; done) | (exfalso; omega) | rfl)) (jS_c rfl (jS_c rfl (jS_c rfl (jS_c rfl (jS_c rfl (jS_c rfl (jS_c rfl (jS_c rfl (jS_c rfl rfl)))))))))))))))))))))) rfl) rfl) (jL_c rfl (jL_c (jv_N (by first | (rw [st_t (by assumption)]; done) | (rw [st_f (by omega)]; done) | (exfalso; omega) | rfl)) (jL_c rfl (jL_c rfl (jL_c rfl (jL_c rfl rfl)))))) rfl ?_
                        exact ih48 (c + 1) MM2 BE2 (Q 20) (by omega) (by first | assumption | omega) (by first | exact hM | exact hM2) (by first | exact (fun q => absurd q (Nat.lt_irrefl _)) | (rw [st_t (by assumption)]; intro _ zz hz; exact hB2 zz (by omega)) | (rw [st_f (by omega)]; intro q zz hz; rw [hB3 (by omega) zz]; exact hB q zz hz) | (exfalso; omega))
                      · skip
                        refine J_iload dX8_orders_192 rfl ?_
                        refine J_goto (tgt := 199) dX8_orders_194 (by decide) ?_
                        refine J_istore dX8_orders_199 (Nat.le_of_ble_eq_true rfl) (L' := [(4, .int (nI (PS w (ndig x) c))), (7, .int (nI j)), (6, .int (nI (PS w (ndig x) c))), (5, .int (nI c)), (0, .ref (E.1 + 38)), (1, .int (nI x)), (2, .int (nI bl)), (3, .int (nI i))]) rfl ?_
                        refine J_iincN (q := 3) (a := c) (m := 1) dX8_orders_201 rfl (by decide +kernel) (Nat.le_of_ble_eq_true rfl) (L' := [(5, .int (nI (c + 1))), (4, .int (nI (PS w (ndig x) c))), (7, .int (nI j)), (6, .int (nI (PS w (ndig x) c))), (0, .ref (E.1 + 38)), (1, .int (nI x)), (2, .int (nI bl)), (3, .int (nI i))]) rfl ?_
                        refine J_goto (tgt := 48) dX8_orders_204 (by decide) ?_
                        refine J.sub [0, 1, 4, 5, 6, 7] (L' := [(5, .int (nI (c + 1))), (4, .int (nI (PS w (ndig x) c))), (0, .ref (E.1 + 38)), (1, .int (nI x)), (2, .int (nI bl)), (3, .int (nI i))]) rfl ?_
                        refine J.eqs (h' := (hset (hset (hset (hset h 43 (cI E 16 (nF MM2))) 38 (.inr (7, [.ref (E.1 + 39), .ref (E.1 + 40), .ref (E.1 + 41), .ref (E.1 + 42), .long (lN xa), .long (lN xb), .ref (E.1 + 43), .int (nI (Q 20)), .ref (E.1 + 44), .ref (E.1 + 45), .int (nI (ndig x)), .ref (E.1 + 46), .ref (E.1 + 47), .int (nI bn), .int (nI ta), .int (nI tl), .int (nI tk), .int (nI va), .ref (E.1 + 48), .ref (E.1 + 49)]))) 44 (cI E 4 (nF T1_1))) 45 (cI E 4 (nF BE2)))) (L' := [(5, .int (nI (c + 1))), (4, .int (nI ((foldN (stepO w (ndig x)) (1000000, 0) (c + 1)).1))), (0, .ref (E.1 + 38)), (1, .int (nI x)), (2, .int (nI bl)), (3, .int (nI i))]) (st' := []) (hset_cg (hset_cg (hset_cg (hset_cg rfl rfl) (congrArg (fun z => (Sum.inr (7, z) : va_E)) (jS_c rfl (jS_c rfl (jS_c rfl (jS_c rfl (jS_c rfl (jS_c rfl (jS_c rfl (jS_c rfl (jS_c rfl (jS_c rfl (jS_c (jv_N (by first | (rw [st_t (by assumption)]; done) | (rw [st_f (by omega)]; done) | (exfalso; omega) | rfl)) (jS_c rfl (jS_c rfl (jS_c rfl (jS_c rfl (jS_c rfl (jS_c rfl (jS_c rfl (jS_c rfl (jS_c rfl rfl)))))))))))))))))))))) rfl) rfl) (jL_c rfl (jL_c (jv_N (by first | (rw [st_t (by assumption)]; done) | (rw [st_f (by omega)]; done) | (exfalso; omega) | rfl)) (jL_c rfl (jL_c rfl (jL_c rfl (jL_c rfl rfl)))))) rfl ?_
                        exact ih48 (c + 1) MM2 BE2 (Q 20) (by omega) (by first | assumption | omega) (by first | exact hM | exact hM2) (by first | exact (fun q => absurd q (Nat.lt_irrefl _)) | (rw [st_t (by assumption)]; intro _ zz hz; exact hB2 zz (by omega)) | (rw [st_f (by omega)]; intro q zz hz; rw [hB3 (by omega) zz]; exact hB q zz hz) | (exfalso; omega))
                    · skip
                      refine J_aload_n dX8_orders_156 rfl ?_
                      refine J_get 9 dX8_orders_157 jk8 (Nat.le_of_ble_eq_true rfl) jfRX8_33 ((hset_ne (by omega)).trans ((hset_ne (by omega)).trans hset_eq)) (by omega) rfl ?_
                      refine J_iload dX8_orders_160 rfl ?_
                      refine J_iload dX8_orders_162 rfl ?_
                      refine J_iconst (v := nI 2) dX8_orders_164 (by decide +kernel) ?_
                      refine J_aload_n dX8_orders_165 rfl ?_
                      refine J_get 10 dX8_orders_166 jk8 (Nat.le_of_ble_eq_true rfl) jfRX8_142 ((hset_ne (by omega)).trans ((hset_ne (by omega)).trans hset_eq)) (by omega) rfl ?_
                      refine J_iconst (v := nI 1) dX8_orders_169 (by decide +kernel) ?_
                      refine J_isubN dX8_orders_170 (by omega) ?_
                      refine J_iload dX8_orders_171 rfl ?_
                      refine J_isubN dX8_orders_173 (by omega) ?_
                      refine J_imulN dX8_orders_174 ?_
                      refine J_ishrN dX8_orders_175 (by omega) (by omega) ?_
                      refine J_iconst (v := nI 3) dX8_orders_176 (by decide +kernel) ?_
                      refine J_iandN 2 dX8_orders_177 (by exact Nat.lt_of_le_of_lt (Nat.div_le_self _ _) (by omega)) (by decide +kernel) ?_
                      refine J.stk (st' := [.int (nI (digO (ndig x) c j)), .int (nI j), .ref (E.1 + 45)]) (congrArg (fun z => Value.int (nI z) :: [.int (nI j), .ref (E.1 + 45)]) (by exact dig_eq)) ?_
                      refine J_iastN (i := j) (v := digO (ndig x) c j) dX8_orders_178 hset_eq (by omega) (by omega) (by omega) ?_
                      refine J.cast hset_hset ?_
                      refine J_iincN (q := 0) (a := j) (m := 1) dX8_orders_179 rfl (by decide +kernel) (Nat.le_of_ble_eq_true rfl) (L' := [(7, .int (nI (j + 1))), (6, .int (nI (PS w (ndig x) c))), (5, .int (nI c)), (4, .int (nI ((foldN (stepO w (ndig x)) (1000000, 0) c).1))), (0, .ref (E.1 + 38)), (1, .int (nI x)), (2, .int (nI bl)), (3, .int (nI i))]) rfl ?_
                      refine J_goto (tgt := 140) dX8_orders_182 (by decide) ?_
                      refine J.eqs (h' := (hset (hset (hset (hset h 43 (cI E 16 (nF MM2))) 38 (.inr (7, [.ref (E.1 + 39), .ref (E.1 + 40), .ref (E.1 + 41), .ref (E.1 + 42), .long (lN xa), .long (lN xb), .ref (E.1 + 43), .int (nI (Q 20)), .ref (E.1 + 44), .ref (E.1 + 45), .int (nI (ndig x)), .ref (E.1 + 46), .ref (E.1 + 47), .int (nI bn), .int (nI ta), .int (nI tl), .int (nI tk), .int (nI va), .ref (E.1 + 48), .ref (E.1 + 49)]))) 44 (cI E 4 (nF T1_1))) 45 (cI E 4 (nF (updN BE2 j (digO (ndig x) c j)))))) (L' := [(7, .int (nI (j + 1))), (6, .int (nI (PS w (ndig x) c))), (5, .int (nI c)), (4, .int (nI ((foldN (stepO w (ndig x)) (1000000, 0) c).1))), (0, .ref (E.1 + 38)), (1, .int (nI x)), (2, .int (nI bl)), (3, .int (nI i))]) (st' := []) (hset_cg (hset_cg (hset_cg (hset_cg rfl rfl) (congrArg (fun z => (Sum.inr (7, z) : va_E)) (jS_c rfl (jS_c rfl (jS_c rfl (jS_c rfl (jS_c rfl (jS_c rfl (jS_c rfl (jS_c rfl (jS_c rfl (jS_c rfl (jS_c (jv_N (by first | exact PS_end (by omega) | rfl)) (jS_c rfl (jS_c rfl (jS_c rfl (jS_c rfl (jS_c rfl (jS_c rfl (jS_c rfl (jS_c rfl (jS_c rfl rfl)))))))))))))))))))))) rfl) rfl) rfl rfl ?_
                      exact ih140 (j + 1) (updN BE2 j (digO (ndig x) c j)) (by omega) (by first | assumption | omega) (by first | exact (fun zz hz => absurd hz (Nat.not_lt_zero zz)) | exact dg_st hB2) (by first | exact (fun _ zz => rfl) | (intro q; exfalso; omega))
              refine J.eqs (h' := (hset (hset (hset (hset h 43 (cI E 16 (nF MM2))) 38 (.inr (7, [.ref (E.1 + 39), .ref (E.1 + 40), .ref (E.1 + 41), .ref (E.1 + 42), .long (lN xa), .long (lN xb), .ref (E.1 + 43), .int (nI (Q 20)), .ref (E.1 + 44), .ref (E.1 + 45), .int (nI (ndig x)), .ref (E.1 + 46), .ref (E.1 + 47), .int (nI bn), .int (nI ta), .int (nI tl), .int (nI tk), .int (nI va), .ref (E.1 + 48), .ref (E.1 + 49)]))) 44 (cI E 4 (nF T1_1))) 45 (cI E 4 (nF BE1)))) (L' := [(7, .int (nI 0)), (6, .int (nI (PS w (ndig x) c))), (5, .int (nI c)), (4, .int (nI ((foldN (stepO w (ndig x)) (1000000, 0) c).1))), (0, .ref (E.1 + 38)), (1, .int (nI x)), (2, .int (nI bl)), (3, .int (nI i))]) (st' := []) (hset_cg (hset_cg (hset_cg (hset_cg rfl rfl) (congrArg (fun z => (Sum.inr (7, z) : va_E)) (jS_c rfl (jS_c rfl (jS_c rfl (jS_c rfl (jS_c rfl (jS_c rfl (jS_c rfl (jS_c rfl (jS_c rfl (jS_c rfl (jS_c (jv_N (by first | exact PS_end (by omega) | rfl)) (jS_c rfl (jS_c rfl (jS_c rfl (jS_c rfl (jS_c rfl (jS_c rfl (jS_c rfl (jS_c rfl (jS_c rfl rfl)))))))))))))))))))))) rfl) rfl) (jL_c rfl (jL_c (jv_N (by first | exact PS_end (by omega) | rfl)) (jL_c rfl (jL_c rfl (jL_c rfl (jL_c rfl (jL_c rfl (jL_c rfl rfl)))))))) rfl ?_
              exact CUT140 ((ndig x) - 0 + 1) 0 BE1 (Nat.lt_succ_self _) (by first | assumption | omega) (by first | exact (fun zz hz => absurd hz (Nat.not_lt_zero zz)) | exact dg_st hB2) (by first | exact (fun _ zz => rfl) | (intro q; exfalso; omega))
            · skip
              refine J_iload dX8_orders_80 rfl ?_
              refine J_iconst (v := nI 2) dX8_orders_82 (by decide +kernel) ?_
              refine J_aload_n dX8_orders_83 rfl ?_
              refine J_get 10 dX8_orders_84 jk8 (Nat.le_of_ble_eq_true rfl) jfRX8_142 ((hset_ne (by omega)).trans ((hset_ne (by omega)).trans hset_eq)) (by omega) rfl ?_
              refine J_iconst (v := nI 1) dX8_orders_87 (by decide +kernel) ?_
              refine J_isubN dX8_orders_88 (by omega) ?_
              refine J_iload dX8_orders_89 rfl ?_
              refine J_isubN dX8_orders_91 (by omega) ?_
              refine J_imulN dX8_orders_92 ?_
              refine J_ishrN dX8_orders_93 (by omega) (by omega) ?_
              refine J_iconst (v := nI 3) dX8_orders_94 (by decide +kernel) ?_
              refine J_iandN 2 dX8_orders_95 (by exact Nat.lt_of_le_of_lt (Nat.div_le_self _ _) (by omega)) (by decide +kernel) ?_
              refine J.stk (st' := [.int (nI (digO (ndig x) c k))]) (congrArg (fun z => Value.int (nI z) :: []) (by exact dig_eq)) ?_
              refine J_istore dX8_orders_96 (Nat.le_of_ble_eq_true rfl) (L' := [(8, .int (nI (digO (ndig x) c k))), (7, .int (nI k)), (6, .int (nI (PS w k (c / 4 ^ ((ndig x) - k))))), (5, .int (nI c)), (4, .int (nI ((foldN (stepO w (ndig x)) (1000000, 0) c).1))), (0, .ref (E.1 + 38)), (1, .int (nI x)), (2, .int (nI bl)), (3, .int (nI i))]) rfl ?_
              have dl : digO (ndig x) c k < 4 := dig_lt
              refine J_iload dX8_orders_98 rfl ?_
              refine J_iload dX8_orders_100 rfl ?_
              refine J_aload_n dX8_orders_102 rfl ?_
              refine J_callVr (M' := mX8_many) (d' := (1, 0, 0)) (rest := [.int (nI (digO (ndig x) c k)), .int (nI (PS w k (c / 4 ^ ((ndig x) - k))))]) dX8_orders_103 jmX8_many jlRX8_52 (ctX8_many xa xb (Q 20) (ndig x) bn ta tl tk va Q ((hset_ne (by omega)).trans ((hset_ne (by omega)).trans hset_eq)) ((hset_ne (by omega)).trans ((hset_ne (by omega)).trans ((hset_ne (by omega)).trans ((hset_ne (by omega)).trans H1)))) (by omega) ) ((hset_ne (by omega)).trans ((hset_ne (by omega)).trans hset_eq)) (by omega) jk8.1 rfl rfl (Nat.le_of_ble_eq_true rfl) (Nat.le_of_ble_eq_true rfl) ⟨Nat.le_refl _, Nat.le_refl _⟩ ?_
              refine J_icmp_geN (tgt := 126) dX8_orders_106 (by decide) (by omega) (by omega) (fun c15 => ?_) (fun c15 => ?_)
              · skip
                refine J_ldc dX8_orders_126 jqRX8_148 ?_
                refine J.stk (st' := .int (nI 1000000) :: [.int (nI (PS w k (c / 4 ^ ((ndig x) - k))))]) rfl ?_
                refine J_iaddN dX8_orders_128 ?_
                refine J_istore dX8_orders_129 (Nat.le_of_ble_eq_true rfl) (L' := [(6, .int (nI ((PS w k (c / 4 ^ ((ndig x) - k))) + 1000000))), (8, .int (nI (digO (ndig x) c k))), (7, .int (nI k)), (5, .int (nI c)), (4, .int (nI ((foldN (stepO w (ndig x)) (1000000, 0) c).1))), (0, .ref (E.1 + 38)), (1, .int (nI x)), (2, .int (nI bl)), (3, .int (nI i))]) rfl ?_
                refine J_iincN (q := 2) (a := k) (m := 1) dX8_orders_131 rfl (by decide +kernel) (Nat.le_of_ble_eq_true rfl) (L' := [(7, .int (nI (k + 1))), (6, .int (nI ((PS w k (c / 4 ^ ((ndig x) - k))) + 1000000))), (8, .int (nI (digO (ndig x) c k))), (5, .int (nI c)), (4, .int (nI ((foldN (stepO w (ndig x)) (1000000, 0) c).1))), (0, .ref (E.1 + 38)), (1, .int (nI x)), (2, .int (nI bl)), (3, .int (nI i))]) rfl ?_
                refine J_goto (tgt := 71) dX8_orders_134 (by decide) ?_
                refine J.sub [0, 1, 3, 4, 5, 6, 7, 8] (L' := [(7, .int (nI (k + 1))), (6, .int (nI ((PS w k (c / 4 ^ ((ndig x) - k))) + 1000000))), (5, .int (nI c)), (4, .int (nI ((foldN (stepO w (ndig x)) (1000000, 0) c).1))), (0, .ref (E.1 + 38)), (1, .int (nI x)), (2, .int (nI bl)), (3, .int (nI i))]) rfl ?_
                refine J.eqs (h' := (hset (hset (hset (hset h 43 (cI E 16 (nF MM2))) 38 (.inr (7, [.ref (E.1 + 39), .ref (E.1 + 40), .ref (E.1 + 41), .ref (E.1 + 42), .long (lN xa), .long (lN xb), .ref (E.1 + 43), .int (nI (Q 20)), .ref (E.1 + 44), .ref (E.1 + 45), .int (nI (ndig x)), .ref (E.1 + 46), .ref (E.1 + 47), .int (nI bn), .int (nI ta), .int (nI tl), .int (nI tk), .int (nI va), .ref (E.1 + 48), .ref (E.1 + 49)]))) 44 (cI E 4 (nF T1_1))) 45 (cI E 4 (nF BE1)))) (L' := [(7, .int (nI (k + 1))), (6, .int (nI (PS w (k + 1) (c / 4 ^ ((ndig x) - (k + 1)))))), (5, .int (nI c)), (4, .int (nI ((foldN (stepO w (ndig x)) (1000000, 0) c).1))), (0, .ref (E.1 + 38)), (1, .int (nI x)), (2, .int (nI bl)), (3, .int (nI i))]) (st' := []) (hset_cg (hset_cg (hset_cg (hset_cg rfl rfl) (congrArg (fun z => (Sum.inr (7, z) : va_E)) (jS_c rfl (jS_c rfl (jS_c rfl (jS_c rfl (jS_c rfl (jS_c rfl (jS_c rfl (jS_c rfl (jS_c rfl (jS_c rfl (jS_c (jv_N (by first | exact PS_r1 hw (by omega) (by assumption) hMM | exact PS_r2 (by omega) (by omega) | rfl)) (jS_c rfl (jS_c rfl (jS_c rfl (jS_c rfl (jS_c rfl (jS_c rfl (jS_c rfl (jS_c rfl (jS_c rfl rfl)))))))))))))))))))))) rfl) rfl) (jL_c rfl (jL_c (jv_N (by first | exact PS_r1 hw (by omega) (by assumption) hMM | exact PS_r2 (by omega) (by omega) | rfl)) (jL_c rfl (jL_c rfl (jL_c rfl (jL_c rfl (jL_c rfl (jL_c rfl rfl)))))))) rfl ?_
                exact ih71 (k + 1) MM2 (by omega) (by first | assumption | omega) (by first | exact handM_le hM4 hM1 | exact addMN_le hM2 | exact hM2) (by first | exact (fun zz hz => (handM_at (by omega)).trans (hwM zz hz)) | exact PM_r1 hw (by omega) (by assumption) hMM | (rw [← PM_r2 (by omega) (by omega)]; exact hMM))
              · skip
                refine J_aload_n dX8_orders_109 rfl ?_
                refine J_iload dX8_orders_110 rfl ?_
                refine J_aload_n dX8_orders_112 rfl ?_
                refine J_get 8 dX8_orders_113 jk8 (Nat.le_of_ble_eq_true rfl) jfRX8_30 ((hset_ne (by omega)).trans ((hset_ne (by omega)).trans hset_eq)) (by omega) rfl ?_
                have t4 := T1h k (by omega)
                refine J_iload dX8_orders_116 rfl ?_
                refine J_ialdN (i := k) dX8_orders_118 ((hset_ne (by omega)).trans hset_eq) (by omega) (by omega) (by omega) ?_
                refine J_iload_n dX8_orders_119 rfl ?_
                refine J_callVr (M' := mX8_goWork) (d' := (4, 0, 0)) (rest := [.int (nI (PS w k (c / 4 ^ ((ndig x) - k))))]) dX8_orders_120 jmX8_goWork jlRX8_119 (ctX8_goWork (digO (ndig x) c k) (T1_1 k) bl xa xb (Q 20) (ndig x) bn ta tl tk va Q MM2 ((hset_ne (by omega)).trans ((hset_ne (by omega)).trans hset_eq)) ((hset_ne (by omega)).trans ((hset_ne (by omega)).trans ((hset_ne (by omega)).trans ((hset_ne (by omega)).trans H1)))) ((hset_ne (by omega)).trans ((hset_ne (by omega)).trans ((hset_ne (by omega)).trans hset_eq))) (by omega) (by first | assumption | omega) (by first | assumption | omega) (by first | assumption | omega) (by exact hM2) (by first | assumption | omega) (by first | assumption | omega)) ((hset_ne (by omega)).trans ((hset_ne (by omega)).trans hset_eq)) (by omega) jk8.1 rfl rfl (Nat.le_of_ble_eq_true rfl) (Nat.le_of_ble_eq_true rfl) ⟨Nat.le_refl _, Nat.le_refl _⟩ ?_
                refine J.cast ((hset_comm (by omega)).trans (hset_cg ((hset_comm (by omega)).trans (hset_cg ((hset_comm (by omega)).trans (hset_cg hset_hset rfl)) rfl)) rfl)) ?_
                have fc16 : fgnN (KQ Q) MM2 (Q 21) (digO (ndig x) c k) (T1_1 k) 4 ≤ 42 * 4 := fgnN_le (show ∀ zz, MM2 zz ≤ 20 from by exact hM2) 4
                refine J_goto (tgt := 128) dX8_orders_123 (by decide) ?_
                refine J_iaddN dX8_orders_128 ?_
                refine J_istore dX8_orders_129 (Nat.le_of_ble_eq_true rfl) (L' := [(6, .int (nI ((PS w k (c / 4 ^ ((ndig x) - k))) + (fgnN (KQ Q) MM2 (Q 21) (digO (ndig x) c k) (T1_1 k) 4)))), (8, .int (nI (digO (ndig x) c k))), (7, .int (nI k)), (5, .int (nI c)), (4, .int (nI ((foldN (stepO w (ndig x)) (1000000, 0) c).1))), (0, .ref (E.1 + 38)), (1, .int (nI x)), (2, .int (nI bl)), (3, .int (nI i))]) rfl ?_
                refine J_iincN (q := 2) (a := k) (m := 1) dX8_orders_131 rfl (by decide +kernel) (Nat.le_of_ble_eq_true rfl) (L' := [(7, .int (nI (k + 1))), (6, .int (nI ((PS w k (c / 4 ^ ((ndig x) - k))) + (fgnN (KQ Q) MM2 (Q 21) (digO (ndig x) c k) (T1_1 k) 4)))), (8, .int (nI (digO (ndig x) c k))), (5, .int (nI c)), (4, .int (nI ((foldN (stepO w (ndig x)) (1000000, 0) c).1))), (0, .ref (E.1 + 38)), (1, .int (nI x)), (2, .int (nI bl)), (3, .int (nI i))]) rfl ?_
                refine J_goto (tgt := 71) dX8_orders_134 (by decide) ?_
                refine J.sub [0, 1, 3, 4, 5, 6, 7, 8] (L' := [(7, .int (nI (k + 1))), (6, .int (nI ((PS w k (c / 4 ^ ((ndig x) - k))) + (fgnN (KQ Q) MM2 (Q 21) (digO (ndig x) c k) (T1_1 k) 4)))), (5, .int (nI c)), (4, .int (nI ((foldN (stepO w (ndig x)) (1000000, 0) c).1))), (0, .ref (E.1 + 38)), (1, .int (nI x)), (2, .int (nI bl)), (3, .int (nI i))]) rfl ?_
                refine J.eqs (h' := (hset (hset (hset (hset h 43 (cI E 16 (nF (addMN (KQ Q) MM2 (digO (ndig x) c k) (T1_1 k) bl)))) 38 (.inr (7, [.ref (E.1 + 39), .ref (E.1 + 40), .ref (E.1 + 41), .ref (E.1 + 42), .long (lN xa), .long (lN xb), .ref (E.1 + 43), .int (nI (Q 20)), .ref (E.1 + 44), .ref (E.1 + 45), .int (nI (ndig x)), .ref (E.1 + 46), .ref (E.1 + 47), .int (nI bn), .int (nI ta), .int (nI tl), .int (nI tk), .int (nI va), .ref (E.1 + 48), .ref (E.1 + 49)]))) 44 (cI E 4 (nF T1_1))) 45 (cI E 4 (nF BE1)))) (L' := [(7, .int (nI (k + 1))), (6, .int (nI (PS w (k + 1) (c / 4 ^ ((ndig x) - (k + 1)))))), (5, .int (nI c)), (4, .int (nI ((foldN (stepO w (ndig x)) (1000000, 0) c).1))), (0, .ref (E.1 + 38)), (1, .int (nI x)), (2, .int (nI bl)), (3, .int (nI i))]) (st' := []) (hset_cg (hset_cg (hset_cg (hset_cg rfl rfl) (congrArg (fun z => (Sum.inr (7, z) : va_E)) (jS_c rfl (jS_c rfl (jS_c rfl (jS_c rfl (jS_c rfl (jS_c rfl (jS_c rfl (jS_c rfl (jS_c rfl (jS_c rfl (jS_c (jv_N (by first | exact PS_r1 hw (by omega) (by assumption) hMM | exact PS_r2 (by omega) (by omega) | rfl)) (jS_c rfl (jS_c rfl (jS_c rfl (jS_c rfl (jS_c rfl (jS_c rfl (jS_c rfl (jS_c rfl (jS_c rfl rfl)))))))))))))))))))))) rfl) rfl) (jL_c rfl (jL_c (jv_N (by first | exact PS_r1 hw (by omega) (by assumption) hMM | exact PS_r2 (by omega) (by omega) | rfl)) (jL_c rfl (jL_c rfl (jL_c rfl (jL_c rfl (jL_c rfl (jL_c rfl rfl)))))))) rfl ?_
                exact ih71 (k + 1) (addMN (KQ Q) MM2 (digO (ndig x) c k) (T1_1 k) bl) (by omega) (by first | assumption | omega) (by first | exact handM_le hM4 hM1 | exact addMN_le hM2 | exact hM2) (by first | exact (fun zz hz => (handM_at (by omega)).trans (hwM zz hz)) | exact PM_r1 hw (by omega) (by assumption) hMM | (rw [← PM_r2 (by omega) (by omega)]; exact hMM))
        refine J.eqs (h' := (hset (hset (hset (hset h 43 (cI E 16 (nF (handM Q MM1 16)))) 38 (.inr (7, [.ref (E.1 + 39), .ref (E.1 + 40), .ref (E.1 + 41), .ref (E.1 + 42), .long (lN xa), .long (lN xb), .ref (E.1 + 43), .int (nI (Q 20)), .ref (E.1 + 44), .ref (E.1 + 45), .int (nI (ndig x)), .ref (E.1 + 46), .ref (E.1 + 47), .int (nI bn), .int (nI ta), .int (nI tl), .int (nI tk), .int (nI va), .ref (E.1 + 48), .ref (E.1 + 49)]))) 44 (cI E 4 (nF T1_1))) 45 (cI E 4 (nF BE1)))) (L' := [(7, .int (nI 0)), (6, .int (nI (PS w 0 (c / 4 ^ ((ndig x) - 0))))), (5, .int (nI c)), (4, .int (nI ((foldN (stepO w (ndig x)) (1000000, 0) c).1))), (0, .ref (E.1 + 38)), (1, .int (nI x)), (2, .int (nI bl)), (3, .int (nI i))]) (st' := []) rfl (jL_c rfl (jL_c (jv_N (by first | exact PS_r1 hw (by omega) (by assumption) hMM | exact PS_r2 (by omega) (by omega) | rfl)) (jL_c rfl (jL_c rfl (jL_c rfl (jL_c rfl (jL_c rfl (jL_c rfl rfl)))))))) rfl ?_
        exact CUT71 ((ndig x) - 0 + 1) 0 (handM Q MM1 16) (Nat.lt_succ_self _) (by first | assumption | omega) (by first | exact handM_le hM4 hM1 | exact addMN_le hM2 | exact hM2) (by first | exact (fun zz hz => (handM_at (by omega)).trans (hwM zz hz)) | exact PM_r1 hw (by omega) (by assumption) hMM | (rw [← PM_r2 (by omega) (by omega)]; exact hMM))
  refine J.eqs (h' := (hset (hset (hset (hset h 43 (cI E 16 (nF MM))) 38 (.inr (7, [.ref (E.1 + 39), .ref (E.1 + 40), .ref (E.1 + 41), .ref (E.1 + 42), .long (lN xa), .long (lN xb), .ref (E.1 + 43), .int (nI dt), .ref (E.1 + 44), .ref (E.1 + 45), .int (nI (ndig x)), .ref (E.1 + 46), .ref (E.1 + 47), .int (nI bn), .int (nI ta), .int (nI tl), .int (nI tk), .int (nI va), .ref (E.1 + 48), .ref (E.1 + 49)]))) 44 (cI E 4 (nF T1_1))) 45 (cI E 4 (nF BE)))) (L' := [(5, .int (nI 0)), (4, .int (nI ((foldN (stepO w (ndig x)) (1000000, 0) 0).1))), (0, .ref (E.1 + 38)), (1, .int (nI x)), (2, .int (nI bl)), (3, .int (nI i))]) (st' := []) ((show (hset (hset h 38 (.inr (7, [.ref (E.1 + 39), .ref (E.1 + 40), .ref (E.1 + 41), .ref (E.1 + 42), .long (lN xa), .long (lN xb), .ref (E.1 + 43), .int (nI dt), .ref (E.1 + 44), .ref (E.1 + 45), .int (nI (ndig x)), .ref (E.1 + 46), .ref (E.1 + 47), .int (nI bn), .int (nI ta), .int (nI tl), .int (nI tk), .int (nI va), .ref (E.1 + 48), .ref (E.1 + 49)]))) 44 (cI E 4 (nF T1_1))) = (hset (hset (hset (hset h 43 (cI E 16 (nF MM))) 38 (.inr (7, [.ref (E.1 + 39), .ref (E.1 + 40), .ref (E.1 + 41), .ref (E.1 + 42), .long (lN xa), .long (lN xb), .ref (E.1 + 43), .int (nI dt), .ref (E.1 + 44), .ref (E.1 + 45), .int (nI (ndig x)), .ref (E.1 + 46), .ref (E.1 + 47), .int (nI bn), .int (nI ta), .int (nI tl), .int (nI tk), .int (nI va), .ref (E.1 + 48), .ref (E.1 + 49)]))) 44 (cI E 4 (nF T1_1))) 45 (cI E 4 (nF BE))) by funext z; simp only [hset]; (repeat' split) <;> first | rfl | (exfalso; omega) | (subst_vars; first | exact H2 | exact H4)).trans (hset_cg (hset_cg (hset_cg (hset_cg rfl rfl) rfl) rfl) rfl)) (jL_c rfl (jL_c (jv_N (by first | (rw [st_t (by assumption)]; done) | (rw [st_f (by omega)]; done) | (exfalso; omega) | rfl)) (jL_c rfl (jL_c rfl (jL_c rfl (jL_c rfl rfl)))))) rfl ?_
  exact CUT48 (4 ^ (ndig x) - 0 + 1) 0 MM BE dt (Nat.lt_succ_self _) (by first | assumption | omega) (by first | exact hM | exact hM2) (by first | exact (fun q => absurd q (Nat.lt_irrefl _)) | (rw [st_t (by assumption)]; intro _ zz hz; exact hB2 zz (by omega)) | (rw [st_f (by omega)]; intro q zz hz; rw [hB3 (by omega) zz]; exact hB q zz hz) | (exfalso; omega))
