set_option maxHeartbeats 1000000 in
set_option maxRecDepth 100000 in
theorem ctX7_isWithin_neg {E : jE} {h : Nat → va_E} {n : Nat} (v : Nat) (e : Int32) (hv : v < 2 ^ 32) (he : e = -1) : jC E mX7_isWithin (1, 0, 0) [.int (nI v), .int (nI 0), .int e] h n (jR (some (.int (nI 0))) h n) := by
  refine J.of (L := [(0, .int (nI v)), (1, .int (nI 0)), (2, .int e)]) rfl (by decide +kernel) (Nat.le_of_ble_eq_true rfl) ?_
  obtain ⟨PP, hPP⟩ : ∃ PP : jPost, PP = (jR (some (.int (nI 0))) h n) := ⟨_, rfl⟩
  rw [← hPP]
  refine J_iload_n dX7_isWithin_0 rfl ?_
  refine J_iload_n dX7_isWithin_1 rfl ?_
  refine J_icmp_ltW (tgt := 14) dX7_isWithin_2 (by decide) (by omega) (by omega) (fun c1 => ?_) (fun c1 => ?_)
  · skip
    refine J_iconst (v := nI 0) dX7_isWithin_14 (by decide +kernel) ?_
    exact J_zret dX7_isWithin_15 rfl rfl ⟨Nat.le_refl _, Nat.le_refl _⟩ (by rw [hPP]; exact ⟨rfl, rfl, rfl⟩)
  · skip
    refine J_iload_n dX7_isWithin_5 rfl ?_
    refine J_iload_n dX7_isWithin_6 rfl ?_
    refine J_icmp_gt (tgt := 14) dX7_isWithin_7 (by decide) (fun c2 => ?_) (fun c2 => (by exfalso; subst he; exact inm1 (v := v) (by omega) (by assumption)))
    refine J_iconst (v := nI 0) dX7_isWithin_14 (by decide +kernel) ?_
    exact J_zret dX7_isWithin_15 rfl rfl ⟨Nat.le_refl _, Nat.le_refl _⟩ (by rw [hPP]; exact ⟨rfl, rfl, rfl⟩)

set_option maxHeartbeats 1000000 in
set_option maxRecDepth 100000 in
theorem ctX3_tell {E : jE} {h : Nat → va_E} {n : Nat} (x : Nat) (lz : Nat) (lb : Nat) (le : Nat) (T : Nat → Nat) (H0 : h 30 = .inr (2, [.ref (E.1 + 31), .ref (E.1 + 32), .ref (E.1 + 33), .int (nI lz), .int (nI lb), .int (nI le)])) (H1 : h 31 = cI E 4 (nF T)) (hn : 38 ≤ n) (hok : okW x) : jC E mX3_tell (1, 0, 0) [.ref (E.1 + 30), .int (nI x)] h n (fun v h' n' => v = some (.int (nI 1)) ∧ n' = n ∧ ∃ (T1 : Nat → Nat), h' = (hset (hset h 30 (.inr (2, [.ref (E.1 + 31), .ref (E.1 + 32), .ref (E.1 + 33), .int (nI (ndig x)), .int (nI lb), .int (nI le)]))) 31 (cI E 4 (nF T1))) ∧ (∀ zz, zz < ndig x → T1 zz = figT x zz)) := by
  refine J.of (L := [(0, .ref (E.1 + 30)), (1, .int (nI x))]) rfl (by decide +kernel) (Nat.le_of_ble_eq_true rfl) ?_
  obtain ⟨PP, hPP⟩ : ∃ PP : jPost, PP = (fun v h' n' => v = some (.int (nI 1)) ∧ n' = n ∧ ∃ (T1 : Nat → Nat), h' = (hset (hset h 30 (.inr (2, [.ref (E.1 + 31), .ref (E.1 + 32), .ref (E.1 + 33), .int (nI (ndig x)), .int (nI lb), .int (nI le)]))) 31 (cI E 4 (nF T1))) ∧ (∀ zz, zz < ndig x → T1 zz = figT x zz)) := ⟨_, rfl⟩
  rw [← hPP]
  obtain ⟨ok0, ok1, ok2, ok3, ok4⟩ := id hok
  refine J_aload_n dX3_tell_0 rfl ?_
  refine J_iconst (v := nI 0) dX3_tell_1 (by decide +kernel) ?_
  refine J_put 3 dX3_tell_2 jk3 (Nat.le_of_ble_eq_true rfl) jfRX3_21 H0 (by omega) rfl rfl rfl (Nat.le_of_ble_eq_true rfl) ?_
  refine J.cast (h' := (hset h 30 (.inr (2, [.ref (E.1 + 31), .ref (E.1 + 32), .ref (E.1 + 33), .int (nI 0), .int (nI lb), .int (nI le)])))) rfl ?_
  refine J_iload_n dX3_tell_5 rfl ?_
  refine J_if_ltN (tgt := 16)  dX3_tell_6 (by decide) (by omega) ?_
  refine J_iload_n dX3_tell_9 rfl ?_
  refine J_sipush (v := nI 4444) dX3_tell_10 (by decide +kernel) ?_
  refine J_icmp_leN (tgt := 18) dX3_tell_13 (by decide) (by omega) (by omega) (fun c1 => ?_) (fun c1 => (by exfalso; omega))
  refine J_sipush (v := nI 1000) dX3_tell_18 (by decide +kernel) ?_
  refine J_istore_n dX3_tell_21 (Nat.le_of_ble_eq_true rfl) (L' := [(2, .int (nI 1000)), (0, .ref (E.1 + 30)), (1, .int (nI x))]) rfl ?_
  refine J_iload_n dX3_tell_22 rfl ?_
  refine J_if_leN (tgt := 106) dX3_tell_23 (by decide) (by omega) (fun z => absurd z (by decide)) (fun _ => ?_)
  refine J_iload_n dX3_tell_26 rfl ?_
  refine J_iload_n dX3_tell_27 rfl ?_
  refine J_idivN dX3_tell_28 (by omega) (by omega) (by omega) ?_
  refine J_bipush (v := nI 10) dX3_tell_29 (by decide +kernel) ?_
  refine J_iremN dX3_tell_31 (by omega) (by omega) (by omega) ?_
  refine J_istore_n dX3_tell_32 (Nat.le_of_ble_eq_true rfl) (L' := [(3, .int (nI ((x / 1000) % 10))), (2, .int (nI 1000)), (0, .ref (E.1 + 30)), (1, .int (nI x))]) rfl ?_
  refine J_iload_n dX3_tell_33 rfl ?_
  refine J_if_neN (tgt := 48) dX3_tell_34 (by decide) (by omega) (fun c3 => ?_) (fun c3 => ?_)
  · skip
    refine J_iconst (v := nI 0) dX3_tell_48 (by decide +kernel) ?_
    refine J_istore dX3_tell_49 (Nat.le_of_ble_eq_true rfl) (L' := [(4, .int (nI 0)), (3, .int (nI ((x / 1000) % 10))), (2, .int (nI 1000)), (0, .ref (E.1 + 30)), (1, .int (nI x))]) rfl ?_
    refine J_iload dX3_tell_51 rfl ?_
    refine J_if_neN (tgt := 98) dX3_tell_53 (by decide) (by omega) (fun z => absurd z (by decide)) (fun _ => ?_)
    refine J_iload_n dX3_tell_56 rfl ?_
    refine J_iconst (v := nI 1) dX3_tell_57 (by decide +kernel) ?_
    refine J_icmp_ltN (tgt := 74) dX3_tell_58 (by decide) (by omega) (by omega) (fun c5 => (by exfalso; omega)) (fun c5 => ?_)
    refine J_iload_n dX3_tell_61 rfl ?_
    refine J_iconst (v := nI 4) dX3_tell_62 (by decide +kernel) ?_
    refine J_icmp_gtN (tgt := 74) dX3_tell_63 (by decide) (by omega) (by omega) (fun c6 => (by exfalso; omega)) (fun c6 => ?_)
    refine J_aload_n dX3_tell_66 rfl ?_
    refine J_get 3 dX3_tell_67 jk3 (Nat.le_of_ble_eq_true rfl) jfRX3_21 hset_eq (by omega) rfl ?_
    refine J_iconst (v := nI 4) dX3_tell_70 (by decide +kernel) ?_
    refine J_icmp_ltN (tgt := 76) dX3_tell_71 (by decide) (by omega) (by omega) (fun _ => ?_) (fun z => absurd z (by decide))
    refine J_aload_n dX3_tell_76 rfl ?_
    refine J_get 0 dX3_tell_77 jk3 (Nat.le_of_ble_eq_true rfl) jfRX3_11 hset_eq (by omega) rfl ?_
    refine J_aload_n dX3_tell_80 rfl ?_
    refine J_get 3 dX3_tell_81 jk3 (Nat.le_of_ble_eq_true rfl) jfRX3_21 hset_eq (by omega) rfl ?_
    refine J_iload_n dX3_tell_84 rfl ?_
    refine J_iconst (v := nI 1) dX3_tell_85 (by decide +kernel) ?_
    refine J_isubN dX3_tell_86 (by omega) ?_
    refine J_iastN (i := 0) (v := ((x / 1000) % 10) - 1) dX3_tell_87 ((hset_ne (by omega)).trans H1) (by omega) (by omega) (by omega) ?_
    refine J_aload_n dX3_tell_88 rfl ?_
    refine J_dup dX3_tell_89 rfl ?_
    refine J_get 3 dX3_tell_90 jk3 (Nat.le_of_ble_eq_true rfl) jfRX3_21 ((hset_ne (by omega)).trans hset_eq) (by omega) rfl ?_
    refine J_iconst (v := nI 1) dX3_tell_93 (by decide +kernel) ?_
    refine J_iaddN dX3_tell_94 ?_
    refine J.stk (st' := [.int (nI 1), .ref (E.1 + 30)]) rfl ?_
    refine J_put 3 dX3_tell_95 jk3 (Nat.le_of_ble_eq_true rfl) jfRX3_21 ((hset_ne (by omega)).trans hset_eq) (by omega) rfl rfl rfl (Nat.le_of_ble_eq_true rfl) ?_
    refine J.cast (h' := (hset (hset (hset h 30 (.inr (2, [.ref (E.1 + 31), .ref (E.1 + 32), .ref (E.1 + 33), .int (nI 0), .int (nI lb), .int (nI le)]))) 31 (cI E 4 (nF (updN T 0 (((x / 1000) % 10) - 1))))) 30 (.inr (2, [.ref (E.1 + 31), .ref (E.1 + 32), .ref (E.1 + 33), .int (nI 1), .int (nI lb), .int (nI le)])))) rfl ?_
    refine J.cast ((hset_comm (by omega)).trans (hset_cg hset_hset rfl)) ?_
    refine J_iload_n dX3_tell_98 rfl ?_
    refine J_bipush (v := nI 10) dX3_tell_99 (by decide +kernel) ?_
    refine J_idivN dX3_tell_101 (by omega) (by omega) (by omega) ?_
    refine J.stk (st' := [.int (nI 100)]) rfl ?_
    refine J_istore_n dX3_tell_102 (Nat.le_of_ble_eq_true rfl) (L' := [(2, .int (nI 100)), (4, .int (nI 0)), (3, .int (nI ((x / 1000) % 10))), (0, .ref (E.1 + 30)), (1, .int (nI x))]) rfl ?_
    refine J_goto (tgt := 22) dX3_tell_103 (by decide) ?_
    refine J_iload_n dX3_tell_22 rfl ?_
    refine J_if_leN (tgt := 106) dX3_tell_23 (by decide) (by omega) (fun z => absurd z (by decide)) (fun _ => ?_)
    refine J_iload_n dX3_tell_26 rfl ?_
    refine J_iload_n dX3_tell_27 rfl ?_
    refine J_idivN dX3_tell_28 (by omega) (by omega) (by omega) ?_
    refine J_bipush (v := nI 10) dX3_tell_29 (by decide +kernel) ?_
    refine J_iremN dX3_tell_31 (by omega) (by omega) (by omega) ?_
    refine J_istore_n dX3_tell_32 (Nat.le_of_ble_eq_true rfl) (L' := [(3, .int (nI ((x / 100) % 10))), (2, .int (nI 100)), (4, .int (nI 0)), (0, .ref (E.1 + 30)), (1, .int (nI x))]) rfl ?_
    refine J_iload_n dX3_tell_33 rfl ?_
    refine J_if_neN (tgt := 48) dX3_tell_34 (by decide) (by omega) (fun c9 => ?_) (fun c9 => ?_)
    · skip
      refine J_iconst (v := nI 0) dX3_tell_48 (by decide +kernel) ?_
      refine J_istore dX3_tell_49 (Nat.le_of_ble_eq_true rfl) (L' := [(4, .int (nI 0)), (3, .int (nI ((x / 100) % 10))), (2, .int (nI 100)), (0, .ref (E.1 + 30)), (1, .int (nI x))]) rfl ?_
      refine J_iload dX3_tell_51 rfl ?_
      refine J_if_neN (tgt := 98) dX3_tell_53 (by decide) (by omega) (fun z => absurd z (by decide)) (fun _ => ?_)
      refine J_iload_n dX3_tell_56 rfl ?_
      refine J_iconst (v := nI 1) dX3_tell_57 (by decide +kernel) ?_
      refine J_icmp_ltN (tgt := 74) dX3_tell_58 (by decide) (by omega) (by omega) (fun c11 => (by exfalso; omega)) (fun c11 => ?_)
      refine J_iload_n dX3_tell_61 rfl ?_
      refine J_iconst (v := nI 4) dX3_tell_62 (by decide +kernel) ?_
      refine J_icmp_gtN (tgt := 74) dX3_tell_63 (by decide) (by omega) (by omega) (fun c12 => (by exfalso; omega)) (fun c12 => ?_)
      refine J_aload_n dX3_tell_66 rfl ?_
      refine J_get 3 dX3_tell_67 jk3 (Nat.le_of_ble_eq_true rfl) jfRX3_21 ((hset_ne (by omega)).trans hset_eq) (by omega) rfl ?_
      refine J_iconst (v := nI 4) dX3_tell_70 (by decide +kernel) ?_
      refine J_icmp_ltN (tgt := 76) dX3_tell_71 (by decide) (by omega) (by omega) (fun _ => ?_) (fun z => absurd z (by decide))
      refine J_aload_n dX3_tell_76 rfl ?_
      refine J_get 0 dX3_tell_77 jk3 (Nat.le_of_ble_eq_true rfl) jfRX3_11 ((hset_ne (by omega)).trans hset_eq) (by omega) rfl ?_
      refine J_aload_n dX3_tell_80 rfl ?_
      refine J_get 3 dX3_tell_81 jk3 (Nat.le_of_ble_eq_true rfl) jfRX3_21 ((hset_ne (by omega)).trans hset_eq) (by omega) rfl ?_
      refine J_iload_n dX3_tell_84 rfl ?_
      refine J_iconst (v := nI 1) dX3_tell_85 (by decide +kernel) ?_
      refine J_isubN dX3_tell_86 (by omega) ?_
      refine J_iastN (i := 1) (v := ((x / 100) % 10) - 1) dX3_tell_87 hset_eq (by omega) (by omega) (by omega) ?_
      refine J.cast hset_hset ?_
      refine J_aload_n dX3_tell_88 rfl ?_
      refine J_dup dX3_tell_89 rfl ?_
      refine J_get 3 dX3_tell_90 jk3 (Nat.le_of_ble_eq_true rfl) jfRX3_21 ((hset_ne (by omega)).trans hset_eq) (by omega) rfl ?_
      refine J_iconst (v := nI 1) dX3_tell_93 (by decide +kernel) ?_
      refine J_iaddN dX3_tell_94 ?_
      refine J.stk (st' := [.int (nI 2), .ref (E.1 + 30)]) rfl ?_
      refine J_put 3 dX3_tell_95 jk3 (Nat.le_of_ble_eq_true rfl) jfRX3_21 ((hset_ne (by omega)).trans hset_eq) (by omega) rfl rfl rfl (Nat.le_of_ble_eq_true rfl) ?_
      refine J.cast (h' := (hset (hset (hset h 30 (.inr (2, [.ref (E.1 + 31), .ref (E.1 + 32), .ref (E.1 + 33), .int (nI 1), .int (nI lb), .int (nI le)]))) 31 (cI E 4 (nF (updN (updN T 0 (((x / 1000) % 10) - 1)) 1 (((x / 100) % 10) - 1))))) 30 (.inr (2, [.ref (E.1 + 31), .ref (E.1 + 32), .ref (E.1 + 33), .int (nI 2), .int (nI lb), .int (nI le)])))) rfl ?_
      refine J.cast ((hset_comm (by omega)).trans (hset_cg hset_hset rfl)) ?_
      refine J_iload_n dX3_tell_98 rfl ?_
      refine J_bipush (v := nI 10) dX3_tell_99 (by decide +kernel) ?_
      refine J_idivN dX3_tell_101 (by omega) (by omega) (by omega) ?_
      refine J.stk (st' := [.int (nI 10)]) rfl ?_
      refine J_istore_n dX3_tell_102 (Nat.le_of_ble_eq_true rfl) (L' := [(2, .int (nI 10)), (4, .int (nI 0)), (3, .int (nI ((x / 100) % 10))), (0, .ref (E.1 + 30)), (1, .int (nI x))]) rfl ?_
      refine J_goto (tgt := 22) dX3_tell_103 (by decide) ?_
      refine J_iload_n dX3_tell_22 rfl ?_
      refine J_if_leN (tgt := 106) dX3_tell_23 (by decide) (by omega) (fun z => absurd z (by decide)) (fun _ => ?_)
      refine J_iload_n dX3_tell_26 rfl ?_
      refine J_iload_n dX3_tell_27 rfl ?_
      refine J_idivN dX3_tell_28 (by omega) (by omega) (by omega) ?_
      refine J_bipush (v := nI 10) dX3_tell_29 (by decide +kernel) ?_
      refine J_iremN dX3_tell_31 (by omega) (by omega) (by omega) ?_
      refine J_istore_n dX3_tell_32 (Nat.le_of_ble_eq_true rfl) (L' := [(3, .int (nI ((x / 10) % 10))), (2, .int (nI 10)), (4, .int (nI 0)), (0, .ref (E.1 + 30)), (1, .int (nI x))]) rfl ?_
      refine J_iload_n dX3_tell_33 rfl ?_
      refine J_if_neN (tgt := 48) dX3_tell_34 (by decide) (by omega) (fun c15 => ?_) (fun c15 => ?_)
      · skip
        refine J_iconst (v := nI 0) dX3_tell_48 (by decide +kernel) ?_
        refine J_istore dX3_tell_49 (Nat.le_of_ble_eq_true rfl) (L' := [(4, .int (nI 0)), (3, .int (nI ((x / 10) % 10))), (2, .int (nI 10)), (0, .ref (E.1 + 30)), (1, .int (nI x))]) rfl ?_
        refine J_iload dX3_tell_51 rfl ?_
        refine J_if_neN (tgt := 98) dX3_tell_53 (by decide) (by omega) (fun z => absurd z (by decide)) (fun _ => ?_)
        refine J_iload_n dX3_tell_56 rfl ?_
        refine J_iconst (v := nI 1) dX3_tell_57 (by decide +kernel) ?_
        refine J_icmp_ltN (tgt := 74) dX3_tell_58 (by decide) (by omega) (by omega) (fun c17 => (by exfalso; omega)) (fun c17 => ?_)
        refine J_iload_n dX3_tell_61 rfl ?_
        refine J_iconst (v := nI 4) dX3_tell_62 (by decide +kernel) ?_
        refine J_icmp_gtN (tgt := 74) dX3_tell_63 (by decide) (by omega) (by omega) (fun c18 => (by exfalso; omega)) (fun c18 => ?_)
        refine J_aload_n dX3_tell_66 rfl ?_
        refine J_get 3 dX3_tell_67 jk3 (Nat.le_of_ble_eq_true rfl) jfRX3_21 ((hset_ne (by omega)).trans hset_eq) (by omega) rfl ?_
        refine J_iconst (v := nI 4) dX3_tell_70 (by decide +kernel) ?_
        refine J_icmp_ltN (tgt := 76) dX3_tell_71 (by decide) (by omega) (by omega) (fun _ => ?_) (fun z => absurd z (by decide))
        refine J_aload_n dX3_tell_76 rfl ?_
        refine J_get 0 dX3_tell_77 jk3 (Nat.le_of_ble_eq_true rfl) jfRX3_11 ((hset_ne (by omega)).trans hset_eq) (by omega) rfl ?_
        refine J_aload_n dX3_tell_80 rfl ?_
        refine J_get 3 dX3_tell_81 jk3 (Nat.le_of_ble_eq_true rfl) jfRX3_21 ((hset_ne (by omega)).trans hset_eq) (by omega) rfl ?_
        refine J_iload_n dX3_tell_84 rfl ?_
        refine J_iconst (v := nI 1) dX3_tell_85 (by decide +kernel) ?_
        refine J_isubN dX3_tell_86 (by omega) ?_
        refine J_iastN (i := 2) (v := ((x / 10) % 10) - 1) dX3_tell_87 hset_eq (by omega) (by omega) (by omega) ?_
        refine J.cast hset_hset ?_
        refine J_aload_n dX3_tell_88 rfl ?_
        refine J_dup dX3_tell_89 rfl ?_
        refine J_get 3 dX3_tell_90 jk3 (Nat.le_of_ble_eq_true rfl) jfRX3_21 ((hset_ne (by omega)).trans hset_eq) (by omega) rfl ?_
        refine J_iconst (v := nI 1) dX3_tell_93 (by decide +kernel) ?_
        refine J_iaddN dX3_tell_94 ?_
        refine J.stk (st' := [.int (nI 3), .ref (E.1 + 30)]) rfl ?_
        refine J_put 3 dX3_tell_95 jk3 (Nat.le_of_ble_eq_true rfl) jfRX3_21 ((hset_ne (by omega)).trans hset_eq) (by omega) rfl rfl rfl (Nat.le_of_ble_eq_true rfl) ?_
        refine J.cast (h' := (hset (hset (hset h 30 (.inr (2, [.ref (E.1 + 31), .ref (E.1 + 32), .ref (E.1 + 33), .int (nI 2), .int (nI lb), .int (nI le)]))) 31 (cI E 4 (nF (updN (updN (updN T 0 (((x / 1000) % 10) - 1)) 1 (((x / 100) % 10) - 1)) 2 (((x / 10) % 10) - 1))))) 30 (.inr (2, [.ref (E.1 + 31), .ref (E.1 + 32), .ref (E.1 + 33), .int (nI 3), .int (nI lb), .int (nI le)])))) rfl ?_
        refine J.cast ((hset_comm (by omega)).trans (hset_cg hset_hset rfl)) ?_
        refine J_iload_n dX3_tell_98 rfl ?_
        refine J_bipush (v := nI 10) dX3_tell_99 (by decide +kernel) ?_
        refine J_idivN dX3_tell_101 (by omega) (by omega) (by omega) ?_
        refine J.stk (st' := [.int (nI 1)]) rfl ?_
        refine J_istore_n dX3_tell_102 (Nat.le_of_ble_eq_true rfl) (L' := [(2, .int (nI 1)), (4, .int (nI 0)), (3, .int (nI ((x / 10) % 10))), (0, .ref (E.1 + 30)), (1, .int (nI x))]) rfl ?_
        refine J_goto (tgt := 22) dX3_tell_103 (by decide) ?_
        refine J_iload_n dX3_tell_22 rfl ?_
        refine J_if_leN (tgt := 106) dX3_tell_23 (by decide) (by omega) (fun z => absurd z (by decide)) (fun _ => ?_)
        refine J_iload_n dX3_tell_26 rfl ?_
        refine J_iload_n dX3_tell_27 rfl ?_
        refine J_idivN dX3_tell_28 (by omega) (by omega) (by omega) ?_
        refine J_bipush (v := nI 10) dX3_tell_29 (by decide +kernel) ?_
        refine J_iremN dX3_tell_31 (by omega) (by omega) (by omega) ?_
        refine J_istore_n dX3_tell_32 (Nat.le_of_ble_eq_true rfl) (L' := [(3, .int (nI ((x / 1) % 10))), (2, .int (nI 1)), (4, .int (nI 0)), (0, .ref (E.1 + 30)), (1, .int (nI x))]) rfl ?_
        refine J_iload_n dX3_tell_33 rfl ?_
        refine J_if_neN (tgt := 48) dX3_tell_34 (by decide) (by omega) (fun c21 => ?_) (fun c21 => ?_)
        · skip
          refine J_iconst (v := nI 0) dX3_tell_48 (by decide +kernel) ?_
          refine J_istore dX3_tell_49 (Nat.le_of_ble_eq_true rfl) (L' := [(4, .int (nI 0)), (3, .int (nI ((x / 1) % 10))), (2, .int (nI 1)), (0, .ref (E.1 + 30)), (1, .int (nI x))]) rfl ?_
          refine J_iload dX3_tell_51 rfl ?_
          refine J_if_neN (tgt := 98) dX3_tell_53 (by decide) (by omega) (fun z => absurd z (by decide)) (fun _ => ?_)
          refine J_iload_n dX3_tell_56 rfl ?_
          refine J_iconst (v := nI 1) dX3_tell_57 (by decide +kernel) ?_
          refine J_icmp_ltN (tgt := 74) dX3_tell_58 (by decide) (by omega) (by omega) (fun c23 => (by exfalso; omega)) (fun c23 => ?_)
          refine J_iload_n dX3_tell_61 rfl ?_
          refine J_iconst (v := nI 4) dX3_tell_62 (by decide +kernel) ?_
          refine J_icmp_gtN (tgt := 74) dX3_tell_63 (by decide) (by omega) (by omega) (fun c24 => (by exfalso; omega)) (fun c24 => ?_)
          refine J_aload_n dX3_tell_66 rfl ?_
          refine J_get 3 dX3_tell_67 jk3 (Nat.le_of_ble_eq_true rfl) jfRX3_21 ((hset_ne (by omega)).trans hset_eq) (by omega) rfl ?_
          refine J_iconst (v := nI 4) dX3_tell_70 (by decide +kernel) ?_
          refine J_icmp_ltN (tgt := 76) dX3_tell_71 (by decide) (by omega) (by omega) (fun _ => ?_) (fun z => absurd z (by decide))
          refine J_aload_n dX3_tell_76 rfl ?_
          refine J_get 0 dX3_tell_77 jk3 (Nat.le_of_ble_eq_true rfl) jfRX3_11 ((hset_ne (by omega)).trans hset_eq) (by omega) rfl ?_
          refine J_aload_n dX3_tell_80 rfl ?_
          refine J_get 3 dX3_tell_81 jk3 (Nat.le_of_ble_eq_true rfl) jfRX3_21 ((hset_ne (by omega)).trans hset_eq) (by omega) rfl ?_
          refine J_iload_n dX3_tell_84 rfl ?_
          refine J_iconst (v := nI 1) dX3_tell_85 (by decide +kernel) ?_
          refine J_isubN dX3_tell_86 (by omega) ?_
          refine J_iastN (i := 3) (v := ((x / 1) % 10) - 1) dX3_tell_87 hset_eq (by omega) (by omega) (by omega) ?_
          refine J.cast hset_hset ?_
          refine J_aload_n dX3_tell_88 rfl ?_
          refine J_dup dX3_tell_89 rfl ?_
          refine J_get 3 dX3_tell_90 jk3 (Nat.le_of_ble_eq_true rfl) jfRX3_21 ((hset_ne (by omega)).trans hset_eq) (by omega) rfl ?_
          refine J_iconst (v := nI 1) dX3_tell_93 (by decide +kernel) ?_
          refine J_iaddN dX3_tell_94 ?_
          refine J.stk (st' := [.int (nI 4), .ref (E.1 + 30)]) rfl ?_
          refine J_put 3 dX3_tell_95 jk3 (Nat.le_of_ble_eq_true rfl) jfRX3_21 ((hset_ne (by omega)).trans hset_eq) (by omega) rfl rfl rfl (Nat.le_of_ble_eq_true rfl) ?_
          refine J.cast (h' := (hset (hset (hset h 30 (.inr (2, [.ref (E.1 + 31), .ref (E.1 + 32), .ref (E.1 + 33), .int (nI 3), .int (nI lb), .int (nI le)]))) 31 (cI E 4 (nF (updN (updN (updN (updN T 0 (((x / 1000) % 10) - 1)) 1 (((x / 100) % 10) - 1)) 2 (((x / 10) % 10) - 1)) 3 (((x / 1) % 10) - 1))))) 30 (.inr (2, [.ref (E.1 + 31), .ref (E.1 + 32), .ref (E.1 + 33), .int (nI 4), .int (nI lb), .int (nI le)])))) rfl ?_
          refine J.cast ((hset_comm (by omega)).trans (hset_cg hset_hset rfl)) ?_
          refine J_iload_n dX3_tell_98 rfl ?_
          refine J_bipush (v := nI 10) dX3_tell_99 (by decide +kernel) ?_
          refine J_idivN dX3_tell_101 (by omega) (by omega) (by omega) ?_
          refine J.stk (st' := [.int (nI 0)]) rfl ?_
          refine J_istore_n dX3_tell_102 (Nat.le_of_ble_eq_true rfl) (L' := [(2, .int (nI 0)), (4, .int (nI 0)), (3, .int (nI ((x / 1) % 10))), (0, .ref (E.1 + 30)), (1, .int (nI x))]) rfl ?_
          refine J_goto (tgt := 22) dX3_tell_103 (by decide) ?_
          refine J_iload_n dX3_tell_22 rfl ?_
          refine J_if_leN (tgt := 106) dX3_tell_23 (by decide) (by omega) (fun _ => ?_) (fun z => absurd z (by decide))
          refine J_iconst (v := nI 1) dX3_tell_106 (by decide +kernel) ?_
          exact J_zret dX3_tell_107 rfl rfl ⟨Nat.le_refl _, Nat.le_refl _⟩ (by rw [hPP]; exact ⟨rfl, rfl, (updN (updN (updN (updN T 0 (((x / 1000) % 10) - 1)) 1 (((x / 100) % 10) - 1)) 2 (((x / 10) % 10) - 1)) 3 (((x / 1) % 10) - 1)), (hset_cg (hset_cg rfl (congrArg (fun z => (Sum.inr (2, z) : va_E)) (jS_c rfl (jS_c rfl (jS_c rfl (jS_c (jv_N (by first | rfl | (unfold ndig; (repeat' split) <;> omega))) (jS_c rfl (jS_c rfl rfl)))))))) rfl), (by first | exact tell_4 (by unfold ndig; (repeat' split) <;> omega) rfl rfl rfl rfl | exact tell_3 (by unfold ndig; (repeat' split) <;> omega) rfl rfl rfl | exact tell_2 (by unfold ndig; (repeat' split) <;> omega) rfl rfl | exact tell_1 (by unfold ndig; (repeat' split) <;> omega) rfl | exact tell_0 (by unfold ndig; (repeat' split) <;> omega))⟩)
        · skip
          refine J_aload_n dX3_tell_37 rfl ?_
          refine J_get 3 dX3_tell_38 jk3 (Nat.le_of_ble_eq_true rfl) jfRX3_21 ((hset_ne (by omega)).trans hset_eq) (by omega) rfl ?_
          refine J_if_neN (tgt := 48) dX3_tell_41 (by decide) (by omega) (fun _ => ?_) (fun z => absurd z (by decide))
          refine J_iconst (v := nI 0) dX3_tell_48 (by decide +kernel) ?_
          refine J_istore dX3_tell_49 (Nat.le_of_ble_eq_true rfl) (L' := [(4, .int (nI 0)), (3, .int (nI ((x / 1) % 10))), (2, .int (nI 1)), (0, .ref (E.1 + 30)), (1, .int (nI x))]) rfl ?_
          refine J_iload dX3_tell_51 rfl ?_
          refine J_if_neN (tgt := 98) dX3_tell_53 (by decide) (by omega) (fun z => absurd z (by decide)) (fun _ => ?_)
          refine J_iload_n dX3_tell_56 rfl ?_
          refine J_iconst (v := nI 1) dX3_tell_57 (by decide +kernel) ?_
          refine J_icmp_ltN (tgt := 74) dX3_tell_58 (by decide) (by omega) (by omega) (fun c29 => (by exfalso; omega)) (fun c29 => ?_)
          refine J_iload_n dX3_tell_61 rfl ?_
          refine J_iconst (v := nI 4) dX3_tell_62 (by decide +kernel) ?_
          refine J_icmp_gtN (tgt := 74) dX3_tell_63 (by decide) (by omega) (by omega) (fun c30 => (by exfalso; omega)) (fun c30 => ?_)
          refine J_aload_n dX3_tell_66 rfl ?_
          refine J_get 3 dX3_tell_67 jk3 (Nat.le_of_ble_eq_true rfl) jfRX3_21 ((hset_ne (by omega)).trans hset_eq) (by omega) rfl ?_
          refine J_iconst (v := nI 4) dX3_tell_70 (by decide +kernel) ?_
          refine J_icmp_ltN (tgt := 76) dX3_tell_71 (by decide) (by omega) (by omega) (fun _ => ?_) (fun z => absurd z (by decide))
          refine J_aload_n dX3_tell_76 rfl ?_
          refine J_get 0 dX3_tell_77 jk3 (Nat.le_of_ble_eq_true rfl) jfRX3_11 ((hset_ne (by omega)).trans hset_eq) (by omega) rfl ?_
          refine J_aload_n dX3_tell_80 rfl ?_
          refine J_get 3 dX3_tell_81 jk3 (Nat.le_of_ble_eq_true rfl) jfRX3_21 ((hset_ne (by omega)).trans hset_eq) (by omega) rfl ?_
          refine J_iload_n dX3_tell_84 rfl ?_
          refine J_iconst (v := nI 1) dX3_tell_85 (by decide +kernel) ?_
          refine J_isubN dX3_tell_86 (by omega) ?_
          refine J_iastN (i := 3) (v := ((x / 1) % 10) - 1) dX3_tell_87 hset_eq (by omega) (by omega) (by omega) ?_
          refine J.cast hset_hset ?_
          refine J_aload_n dX3_tell_88 rfl ?_
          refine J_dup dX3_tell_89 rfl ?_
          refine J_get 3 dX3_tell_90 jk3 (Nat.le_of_ble_eq_true rfl) jfRX3_21 ((hset_ne (by omega)).trans hset_eq) (by omega) rfl ?_
          refine J_iconst (v := nI 1) dX3_tell_93 (by decide +kernel) ?_
          refine J_iaddN dX3_tell_94 ?_
          refine J.stk (st' := [.int (nI 4), .ref (E.1 + 30)]) rfl ?_
          refine J_put 3 dX3_tell_95 jk3 (Nat.le_of_ble_eq_true rfl) jfRX3_21 ((hset_ne (by omega)).trans hset_eq) (by omega) rfl rfl rfl (Nat.le_of_ble_eq_true rfl) ?_
          refine J.cast (h' := (hset (hset (hset h 30 (.inr (2, [.ref (E.1 + 31), .ref (E.1 + 32), .ref (E.1 + 33), .int (nI 3), .int (nI lb), .int (nI le)]))) 31 (cI E 4 (nF (updN (updN (updN (updN T 0 (((x / 1000) % 10) - 1)) 1 (((x / 100) % 10) - 1)) 2 (((x / 10) % 10) - 1)) 3 (((x / 1) % 10) - 1))))) 30 (.inr (2, [.ref (E.1 + 31), .ref (E.1 + 32), .ref (E.1 + 33), .int (nI 4), .int (nI lb), .int (nI le)])))) rfl ?_
          refine J.cast ((hset_comm (by omega)).trans (hset_cg hset_hset rfl)) ?_
          refine J_iload_n dX3_tell_98 rfl ?_
          refine J_bipush (v := nI 10) dX3_tell_99 (by decide +kernel) ?_
          refine J_idivN dX3_tell_101 (by omega) (by omega) (by omega) ?_
          refine J.stk (st' := [.int (nI 0)]) rfl ?_
          refine J_istore_n dX3_tell_102 (Nat.le_of_ble_eq_true rfl) (L' := [(2, .int (nI 0)), (4, .int (nI 0)), (3, .int (nI ((x / 1) % 10))), (0, .ref (E.1 + 30)), (1, .int (nI x))]) rfl ?_
          refine J_goto (tgt := 22) dX3_tell_103 (by decide) ?_
          refine J_iload_n dX3_tell_22 rfl ?_
          refine J_if_leN (tgt := 106) dX3_tell_23 (by decide) (by omega) (fun _ => ?_) (fun z => absurd z (by decide))
          refine J_iconst (v := nI 1) dX3_tell_106 (by decide +kernel) ?_
          exact J_zret dX3_tell_107 rfl rfl ⟨Nat.le_refl _, Nat.le_refl _⟩ (by rw [hPP]; exact ⟨rfl, rfl, (updN (updN (updN (updN T 0 (((x / 1000) % 10) - 1)) 1 (((x / 100) % 10) - 1)) 2 (((x / 10) % 10) - 1)) 3 (((x / 1) % 10) - 1)), (hset_cg (hset_cg rfl (congrArg (fun z => (Sum.inr (2, z) : va_E)) (jS_c rfl (jS_c rfl (jS_c rfl (jS_c (jv_N (by first | rfl | (unfold ndig; (repeat' split) <;> omega))) (jS_c rfl (jS_c rfl rfl)))))))) rfl), (by first | exact tell_4 (by unfold ndig; (repeat' split) <;> omega) rfl rfl rfl rfl | exact tell_3 (by unfold ndig; (repeat' split) <;> omega) rfl rfl rfl | exact tell_2 (by unfold ndig; (repeat' split) <;> omega) rfl rfl | exact tell_1 (by unfold ndig; (repeat' split) <;> omega) rfl | exact tell_0 (by unfold ndig; (repeat' split) <;> omega))⟩)
      · skip
        refine J_aload_n dX3_tell_37 rfl ?_
        refine J_get 3 dX3_tell_38 jk3 (Nat.le_of_ble_eq_true rfl) jfRX3_21 ((hset_ne (by omega)).trans hset_eq) (by omega) rfl ?_
        refine J_if_neN (tgt := 48) dX3_tell_41 (by decide) (by omega) (fun _ => ?_) (fun z => absurd z (by decide))
        refine J_iconst (v := nI 0) dX3_tell_48 (by decide +kernel) ?_
        refine J_istore dX3_tell_49 (Nat.le_of_ble_eq_true rfl) (L' := [(4, .int (nI 0)), (3, .int (nI ((x / 10) % 10))), (2, .int (nI 10)), (0, .ref (E.1 + 30)), (1, .int (nI x))]) rfl ?_
        refine J_iload dX3_tell_51 rfl ?_
        refine J_if_neN (tgt := 98) dX3_tell_53 (by decide) (by omega) (fun z => absurd z (by decide)) (fun _ => ?_)
        refine J_iload_n dX3_tell_56 rfl ?_
        refine J_iconst (v := nI 1) dX3_tell_57 (by decide +kernel) ?_
        refine J_icmp_ltN (tgt := 74) dX3_tell_58 (by decide) (by omega) (by omega) (fun c35 => (by exfalso; omega)) (fun c35 => ?_)
        refine J_iload_n dX3_tell_61 rfl ?_
        refine J_iconst (v := nI 4) dX3_tell_62 (by decide +kernel) ?_
        refine J_icmp_gtN (tgt := 74) dX3_tell_63 (by decide) (by omega) (by omega) (fun c36 => (by exfalso; omega)) (fun c36 => ?_)
        refine J_aload_n dX3_tell_66 rfl ?_
        refine J_get 3 dX3_tell_67 jk3 (Nat.le_of_ble_eq_true rfl) jfRX3_21 ((hset_ne (by omega)).trans hset_eq) (by omega) rfl ?_
        refine J_iconst (v := nI 4) dX3_tell_70 (by decide +kernel) ?_
        refine J_icmp_ltN (tgt := 76) dX3_tell_71 (by decide) (by omega) (by omega) (fun _ => ?_) (fun z => absurd z (by decide))
        refine J_aload_n dX3_tell_76 rfl ?_
        refine J_get 0 dX3_tell_77 jk3 (Nat.le_of_ble_eq_true rfl) jfRX3_11 ((hset_ne (by omega)).trans hset_eq) (by omega) rfl ?_
        refine J_aload_n dX3_tell_80 rfl ?_
        refine J_get 3 dX3_tell_81 jk3 (Nat.le_of_ble_eq_true rfl) jfRX3_21 ((hset_ne (by omega)).trans hset_eq) (by omega) rfl ?_
        refine J_iload_n dX3_tell_84 rfl ?_
        refine J_iconst (v := nI 1) dX3_tell_85 (by decide +kernel) ?_
        refine J_isubN dX3_tell_86 (by omega) ?_
        refine J_iastN (i := 2) (v := ((x / 10) % 10) - 1) dX3_tell_87 hset_eq (by omega) (by omega) (by omega) ?_
        refine J.cast hset_hset ?_
        refine J_aload_n dX3_tell_88 rfl ?_
        refine J_dup dX3_tell_89 rfl ?_
        refine J_get 3 dX3_tell_90 jk3 (Nat.le_of_ble_eq_true rfl) jfRX3_21 ((hset_ne (by omega)).trans hset_eq) (by omega) rfl ?_
        refine J_iconst (v := nI 1) dX3_tell_93 (by decide +kernel) ?_
        refine J_iaddN dX3_tell_94 ?_
        refine J.stk (st' := [.int (nI 3), .ref (E.1 + 30)]) rfl ?_
        refine J_put 3 dX3_tell_95 jk3 (Nat.le_of_ble_eq_true rfl) jfRX3_21 ((hset_ne (by omega)).trans hset_eq) (by omega) rfl rfl rfl (Nat.le_of_ble_eq_true rfl) ?_
        refine J.cast (h' := (hset (hset (hset h 30 (.inr (2, [.ref (E.1 + 31), .ref (E.1 + 32), .ref (E.1 + 33), .int (nI 2), .int (nI lb), .int (nI le)]))) 31 (cI E 4 (nF (updN (updN (updN T 0 (((x / 1000) % 10) - 1)) 1 (((x / 100) % 10) - 1)) 2 (((x / 10) % 10) - 1))))) 30 (.inr (2, [.ref (E.1 + 31), .ref (E.1 + 32), .ref (E.1 + 33), .int (nI 3), .int (nI lb), .int (nI le)])))) rfl ?_
        refine J.cast ((hset_comm (by omega)).trans (hset_cg hset_hset rfl)) ?_
        refine J_iload_n dX3_tell_98 rfl ?_
        refine J_bipush (v := nI 10) dX3_tell_99 (by decide +kernel) ?_
        refine J_idivN dX3_tell_101 (by omega) (by omega) (by omega) ?_
        refine J.stk (st' := [.int (nI 1)]) rfl ?_
        refine J_istore_n dX3_tell_102 (Nat.le_of_ble_eq_true rfl) (L' := [(2, .int (nI 1)), (4, .int (nI 0)), (3, .int (nI ((x / 10) % 10))), (0, .ref (E.1 + 30)), (1, .int (nI x))]) rfl ?_
        refine J_goto (tgt := 22) dX3_tell_103 (by decide) ?_
        refine J_iload_n dX3_tell_22 rfl ?_
        refine J_if_leN (tgt := 106) dX3_tell_23 (by decide) (by omega) (fun z => absurd z (by decide)) (fun _ => ?_)
        refine J_iload_n dX3_tell_26 rfl ?_
        refine J_iload_n dX3_tell_27 rfl ?_
        refine J_idivN dX3_tell_28 (by omega) (by omega) (by omega) ?_
        refine J_bipush (v := nI 10) dX3_tell_29 (by decide +kernel) ?_
        refine J_iremN dX3_tell_31 (by omega) (by omega) (by omega) ?_
        refine J_istore_n dX3_tell_32 (Nat.le_of_ble_eq_true rfl) (L' := [(3, .int (nI ((x / 1) % 10))), (2, .int (nI 1)), (4, .int (nI 0)), (0, .ref (E.1 + 30)), (1, .int (nI x))]) rfl ?_
        refine J_iload_n dX3_tell_33 rfl ?_
        refine J_if_neN (tgt := 48) dX3_tell_34 (by decide) (by omega) (fun c39 => ?_) (fun c39 => ?_)
        · skip
          refine J_iconst (v := nI 0) dX3_tell_48 (by decide +kernel) ?_
          refine J_istore dX3_tell_49 (Nat.le_of_ble_eq_true rfl) (L' := [(4, .int (nI 0)), (3, .int (nI ((x / 1) % 10))), (2, .int (nI 1)), (0, .ref (E.1 + 30)), (1, .int (nI x))]) rfl ?_
          refine J_iload dX3_tell_51 rfl ?_
          refine J_if_neN (tgt := 98) dX3_tell_53 (by decide) (by omega) (fun z => absurd z (by decide)) (fun _ => ?_)
          refine J_iload_n dX3_tell_56 rfl ?_
          refine J_iconst (v := nI 1) dX3_tell_57 (by decide +kernel) ?_
          refine J_icmp_ltN (tgt := 74) dX3_tell_58 (by decide) (by omega) (by omega) (fun c41 => (by exfalso; omega)) (fun c41 => ?_)
          refine J_iload_n dX3_tell_61 rfl ?_
          refine J_iconst (v := nI 4) dX3_tell_62 (by decide +kernel) ?_
          refine J_icmp_gtN (tgt := 74) dX3_tell_63 (by decide) (by omega) (by omega) (fun c42 => (by exfalso; omega)) (fun c42 => ?_)
          refine J_aload_n dX3_tell_66 rfl ?_
          refine J_get 3 dX3_tell_67 jk3 (Nat.le_of_ble_eq_true rfl) jfRX3_21 ((hset_ne (by omega)).trans hset_eq) (by omega) rfl ?_
          refine J_iconst (v := nI 4) dX3_tell_70 (by decide +kernel) ?_
          refine J_icmp_ltN (tgt := 76) dX3_tell_71 (by decide) (by omega) (by omega) (fun _ => ?_) (fun z => absurd z (by decide))
          refine J_aload_n dX3_tell_76 rfl ?_
          refine J_get 0 dX3_tell_77 jk3 (Nat.le_of_ble_eq_true rfl) jfRX3_11 ((hset_ne (by omega)).trans hset_eq) (by omega) rfl ?_
          refine J_aload_n dX3_tell_80 rfl ?_
          refine J_get 3 dX3_tell_81 jk3 (Nat.le_of_ble_eq_true rfl) jfRX3_21 ((hset_ne (by omega)).trans hset_eq) (by omega) rfl ?_
          refine J_iload_n dX3_tell_84 rfl ?_
          refine J_iconst (v := nI 1) dX3_tell_85 (by decide +kernel) ?_
          refine J_isubN dX3_tell_86 (by omega) ?_
          refine J_iastN (i := 3) (v := ((x / 1) % 10) - 1) dX3_tell_87 hset_eq (by omega) (by omega) (by omega) ?_
          refine J.cast hset_hset ?_
          refine J_aload_n dX3_tell_88 rfl ?_
          refine J_dup dX3_tell_89 rfl ?_
          refine J_get 3 dX3_tell_90 jk3 (Nat.le_of_ble_eq_true rfl) jfRX3_21 ((hset_ne (by omega)).trans hset_eq) (by omega) rfl ?_
          refine J_iconst (v := nI 1) dX3_tell_93 (by decide +kernel) ?_
          refine J_iaddN dX3_tell_94 ?_
          refine J.stk (st' := [.int (nI 4), .ref (E.1 + 30)]) rfl ?_
          refine J_put 3 dX3_tell_95 jk3 (Nat.le_of_ble_eq_true rfl) jfRX3_21 ((hset_ne (by omega)).trans hset_eq) (by omega) rfl rfl rfl (Nat.le_of_ble_eq_true rfl) ?_
          refine J.cast (h' := (hset (hset (hset h 30 (.inr (2, [.ref (E.1 + 31), .ref (E.1 + 32), .ref (E.1 + 33), .int (nI 3), .int (nI lb), .int (nI le)]))) 31 (cI E 4 (nF (updN (updN (updN (updN T 0 (((x / 1000) % 10) - 1)) 1 (((x / 100) % 10) - 1)) 2 (((x / 10) % 10) - 1)) 3 (((x / 1) % 10) - 1))))) 30 (.inr (2, [.ref (E.1 + 31), .ref (E.1 + 32), .ref (E.1 + 33), .int (nI 4), .int (nI lb), .int (nI le)])))) rfl ?_
          refine J.cast ((hset_comm (by omega)).trans (hset_cg hset_hset rfl)) ?_
          refine J_iload_n dX3_tell_98 rfl ?_
          refine J_bipush (v := nI 10) dX3_tell_99 (by decide +kernel) ?_
          refine J_idivN dX3_tell_101 (by omega) (by omega) (by omega) ?_
          refine J.stk (st' := [.int (nI 0)]) rfl ?_
          refine J_istore_n dX3_tell_102 (Nat.le_of_ble_eq_true rfl) (L' := [(2, .int (nI 0)), (4, .int (nI 0)), (3, .int (nI ((x / 1) % 10))), (0, .ref (E.1 + 30)), (1, .int (nI x))]) rfl ?_
          refine J_goto (tgt := 22) dX3_tell_103 (by decide) ?_
          refine J_iload_n dX3_tell_22 rfl ?_
          refine J_if_leN (tgt := 106) dX3_tell_23 (by decide) (by omega) (fun _ => ?_) (fun z => absurd z (by decide))
          refine J_iconst (v := nI 1) dX3_tell_106 (by decide +kernel) ?_
          exact J_zret dX3_tell_107 rfl rfl ⟨Nat.le_refl _, Nat.le_refl _⟩ (by rw [hPP]; exact ⟨rfl, rfl, (updN (updN (updN (updN T 0 (((x / 1000) % 10) - 1)) 1 (((x / 100) % 10) - 1)) 2 (((x / 10) % 10) - 1)) 3 (((x / 1) % 10) - 1)), (hset_cg (hset_cg rfl (congrArg (fun z => (Sum.inr (2, z) : va_E)) (jS_c rfl (jS_c rfl (jS_c rfl (jS_c (jv_N (by first | rfl | (unfold ndig; (repeat' split) <;> omega))) (jS_c rfl (jS_c rfl rfl)))))))) rfl), (by first | exact tell_4 (by unfold ndig; (repeat' split) <;> omega) rfl rfl rfl rfl | exact tell_3 (by unfold ndig; (repeat' split) <;> omega) rfl rfl rfl | exact tell_2 (by unfold ndig; (repeat' split) <;> omega) rfl rfl | exact tell_1 (by unfold ndig; (repeat' split) <;> omega) rfl | exact tell_0 (by unfold ndig; (repeat' split) <;> omega))⟩)
        · skip
          refine J_aload_n dX3_tell_37 rfl ?_
          refine J_get 3 dX3_tell_38 jk3 (Nat.le_of_ble_eq_true rfl) jfRX3_21 ((hset_ne (by omega)).trans hset_eq) (by omega) rfl ?_
          refine J_if_neN (tgt := 48) dX3_tell_41 (by decide) (by omega) (fun _ => ?_) (fun z => absurd z (by decide))
          refine J_iconst (v := nI 0) dX3_tell_48 (by decide +kernel) ?_
          refine J_istore dX3_tell_49 (Nat.le_of_ble_eq_true rfl) (L' := [(4, .int (nI 0)), (3, .int (nI ((x / 1) % 10))), (2, .int (nI 1)), (0, .ref (E.1 + 30)), (1, .int (nI x))]) rfl ?_
          refine J_iload dX3_tell_51 rfl ?_
          refine J_if_neN (tgt := 98) dX3_tell_53 (by decide) (by omega) (fun z => absurd z (by decide)) (fun _ => ?_)
          refine J_iload_n dX3_tell_56 rfl ?_
          refine J_iconst (v := nI 1) dX3_tell_57 (by decide +kernel) ?_
          refine J_icmp_ltN (tgt := 74) dX3_tell_58 (by decide) (by omega) (by omega) (fun c47 => (by exfalso; omega)) (fun c47 => ?_)
          refine J_iload_n dX3_tell_61 rfl ?_
          refine J_iconst (v := nI 4) dX3_tell_62 (by decide +kernel) ?_
          refine J_icmp_gtN (tgt := 74) dX3_tell_63 (by decide) (by omega) (by omega) (fun c48 => (by exfalso; omega)) (fun c48 => ?_)
          refine J_aload_n dX3_tell_66 rfl ?_
          refine J_get 3 dX3_tell_67 jk3 (Nat.le_of_ble_eq_true rfl) jfRX3_21 ((hset_ne (by omega)).trans hset_eq) (by omega) rfl ?_
          refine J_iconst (v := nI 4) dX3_tell_70 (by decide +kernel) ?_
          refine J_icmp_ltN (tgt := 76) dX3_tell_71 (by decide) (by omega) (by omega) (fun _ => ?_) (fun z => absurd z (by decide))
          refine J_aload_n dX3_tell_76 rfl ?_
          refine J_get 0 dX3_tell_77 jk3 (Nat.le_of_ble_eq_true rfl) jfRX3_11 ((hset_ne (by omega)).trans hset_eq) (by omega) rfl ?_
          refine J_aload_n dX3_tell_80 rfl ?_
          refine J_get 3 dX3_tell_81 jk3 (Nat.le_of_ble_eq_true rfl) jfRX3_21 ((hset_ne (by omega)).trans hset_eq) (by omega) rfl ?_
          refine J_iload_n dX3_tell_84 rfl ?_
          refine J_iconst (v := nI 1) dX3_tell_85 (by decide +kernel) ?_
          refine J_isubN dX3_tell_86 (by omega) ?_
          refine J_iastN (i := 3) (v := ((x / 1) % 10) - 1) dX3_tell_87 hset_eq (by omega) (by omega) (by omega) ?_
          refine J.cast hset_hset ?_
          refine J_aload_n dX3_tell_88 rfl ?_
          refine J_dup dX3_tell_89 rfl ?_
          refine J_get 3 dX3_tell_90 jk3 (Nat.le_of_ble_eq_true rfl) jfRX3_21 ((hset_ne (by omega)).trans hset_eq) (by omega) rfl ?_
          refine J_iconst (v := nI 1) dX3_tell_93 (by decide +kernel) ?_
          refine J_iaddN dX3_tell_94 ?_
          refine J.stk (st' := [.int (nI 4), .ref (E.1 + 30)]) rfl ?_
          refine J_put 3 dX3_tell_95 jk3 (Nat.le_of_ble_eq_true rfl) jfRX3_21 ((hset_ne (by omega)).trans hset_eq) (by omega) rfl rfl rfl (Nat.le_of_ble_eq_true rfl) ?_
          refine J.cast (h' := (hset (hset (hset h 30 (.inr (2, [.ref (E.1 + 31), .ref (E.1 + 32), .ref (E.1 + 33), .int (nI 3), .int (nI lb), .int (nI le)]))) 31 (cI E 4 (nF (updN (updN (updN (updN T 0 (((x / 1000) % 10) - 1)) 1 (((x / 100) % 10) - 1)) 2 (((x / 10) % 10) - 1)) 3 (((x / 1) % 10) - 1))))) 30 (.inr (2, [.ref (E.1 + 31), .ref (E.1 + 32), .ref (E.1 + 33), .int (nI 4), .int (nI lb), .int (nI le)])))) rfl ?_
          refine J.cast ((hset_comm (by omega)).trans (hset_cg hset_hset rfl)) ?_
          refine J_iload_n dX3_tell_98 rfl ?_
          refine J_bipush (v := nI 10) dX3_tell_99 (by decide +kernel) ?_
          refine J_idivN dX3_tell_101 (by omega) (by omega) (by omega) ?_
          refine J.stk (st' := [.int (nI 0)]) rfl ?_
          refine J_istore_n dX3_tell_102 (Nat.le_of_ble_eq_true rfl) (L' := [(2, .int (nI 0)), (4, .int (nI 0)), (3, .int (nI ((x / 1) % 10))), (0, .ref (E.1 + 30)), (1, .int (nI x))]) rfl ?_
          refine J_goto (tgt := 22) dX3_tell_103 (by decide) ?_
          refine J_iload_n dX3_tell_22 rfl ?_
          refine J_if_leN (tgt := 106) dX3_tell_23 (by decide) (by omega) (fun _ => ?_) (fun z => absurd z (by decide))
          refine J_iconst (v := nI 1) dX3_tell_106 (by decide +kernel) ?_
          exact J_zret dX3_tell_107 rfl rfl ⟨Nat.le_refl _, Nat.le_refl _⟩ (by rw [hPP]; exact ⟨rfl, rfl, (updN (updN (updN (updN T 0 (((x / 1000) % 10) - 1)) 1 (((x / 100) % 10) - 1)) 2 (((x / 10) % 10) - 1)) 3 (((x / 1) % 10) - 1)), (hset_cg (hset_cg rfl (congrArg (fun z => (Sum.inr (2, z) : va_E)) (jS_c rfl (jS_c rfl (jS_c rfl (jS_c (jv_N (by first | rfl | (unfold ndig; (repeat' split) <;> omega))) (jS_c rfl (jS_c rfl rfl)))))))) rfl), (by first | exact tell_4 (by unfold ndig; (repeat' split) <;> omega) rfl rfl rfl rfl | exact tell_3 (by unfold ndig; (repeat' split) <;> omega) rfl rfl rfl | exact tell_2 (by unfold ndig; (repeat' split) <;> omega) rfl rfl | exact tell_1 (by unfold ndig; (repeat' split) <;> omega) rfl | exact tell_0 (by unfold ndig; (repeat' split) <;> omega))⟩)
    · skip
      refine J_aload_n dX3_tell_37 rfl ?_
      refine J_get 3 dX3_tell_38 jk3 (Nat.le_of_ble_eq_true rfl) jfRX3_21 ((hset_ne (by omega)).trans hset_eq) (by omega) rfl ?_
      refine J_if_neN (tgt := 48) dX3_tell_41 (by decide) (by omega) (fun _ => ?_) (fun z => absurd z (by decide))
      refine J_iconst (v := nI 0) dX3_tell_48 (by decide +kernel) ?_
      refine J_istore dX3_tell_49 (Nat.le_of_ble_eq_true rfl) (L' := [(4, .int (nI 0)), (3, .int (nI ((x / 100) % 10))), (2, .int (nI 100)), (0, .ref (E.1 + 30)), (1, .int (nI x))]) rfl ?_
      refine J_iload dX3_tell_51 rfl ?_
      refine J_if_neN (tgt := 98) dX3_tell_53 (by decide) (by omega) (fun z => absurd z (by decide)) (fun _ => ?_)
      refine J_iload_n dX3_tell_56 rfl ?_
      refine J_iconst (v := nI 1) dX3_tell_57 (by decide +kernel) ?_
      refine J_icmp_ltN (tgt := 74) dX3_tell_58 (by decide) (by omega) (by omega) (fun c53 => (by exfalso; omega)) (fun c53 => ?_)
      refine J_iload_n dX3_tell_61 rfl ?_
      refine J_iconst (v := nI 4) dX3_tell_62 (by decide +kernel) ?_
      refine J_icmp_gtN (tgt := 74) dX3_tell_63 (by decide) (by omega) (by omega) (fun c54 => (by exfalso; omega)) (fun c54 => ?_)
      refine J_aload_n dX3_tell_66 rfl ?_
      refine J_get 3 dX3_tell_67 jk3 (Nat.le_of_ble_eq_true rfl) jfRX3_21 ((hset_ne (by omega)).trans hset_eq) (by omega) rfl ?_
      refine J_iconst (v := nI 4) dX3_tell_70 (by decide +kernel) ?_
      refine J_icmp_ltN (tgt := 76) dX3_tell_71 (by decide) (by omega) (by omega) (fun _ => ?_) (fun z => absurd z (by decide))
      refine J_aload_n dX3_tell_76 rfl ?_
      refine J_get 0 dX3_tell_77 jk3 (Nat.le_of_ble_eq_true rfl) jfRX3_11 ((hset_ne (by omega)).trans hset_eq) (by omega) rfl ?_
      refine J_aload_n dX3_tell_80 rfl ?_
      refine J_get 3 dX3_tell_81 jk3 (Nat.le_of_ble_eq_true rfl) jfRX3_21 ((hset_ne (by omega)).trans hset_eq) (by omega) rfl ?_
      refine J_iload_n dX3_tell_84 rfl ?_
      refine J_iconst (v := nI 1) dX3_tell_85 (by decide +kernel) ?_
      refine J_isubN dX3_tell_86 (by omega) ?_
      refine J_iastN (i := 1) (v := ((x / 100) % 10) - 1) dX3_tell_87 hset_eq (by omega) (by omega) (by omega) ?_
      refine J.cast hset_hset ?_
      refine J_aload_n dX3_tell_88 rfl ?_
      refine J_dup dX3_tell_89 rfl ?_
      refine J_get 3 dX3_tell_90 jk3 (Nat.le_of_ble_eq_true rfl) jfRX3_21 ((hset_ne (by omega)).trans hset_eq) (by omega) rfl ?_
      refine J_iconst (v := nI 1) dX3_tell_93 (by decide +kernel) ?_
      refine J_iaddN dX3_tell_94 ?_
      refine J.stk (st' := [.int (nI 2), .ref (E.1 + 30)]) rfl ?_
      refine J_put 3 dX3_tell_95 jk3 (Nat.le_of_ble_eq_true rfl) jfRX3_21 ((hset_ne (by omega)).trans hset_eq) (by omega) rfl rfl rfl (Nat.le_of_ble_eq_true rfl) ?_
      refine J.cast (h' := (hset (hset (hset h 30 (.inr (2, [.ref (E.1 + 31), .ref (E.1 + 32), .ref (E.1 + 33), .int (nI 1), .int (nI lb), .int (nI le)]))) 31 (cI E 4 (nF (updN (updN T 0 (((x / 1000) % 10) - 1)) 1 (((x / 100) % 10) - 1))))) 30 (.inr (2, [.ref (E.1 + 31), .ref (E.1 + 32), .ref (E.1 + 33), .int (nI 2), .int (nI lb), .int (nI le)])))) rfl ?_
      refine J.cast ((hset_comm (by omega)).trans (hset_cg hset_hset rfl)) ?_
      refine J_iload_n dX3_tell_98 rfl ?_
      refine J_bipush (v := nI 10) dX3_tell_99 (by decide +kernel) ?_
      refine J_idivN dX3_tell_101 (by omega) (by omega) (by omega) ?_
      refine J.stk (st' := [.int (nI 10)]) rfl ?_
      refine J_istore_n dX3_tell_102 (Nat.le_of_ble_eq_true rfl) (L' := [(2, .int (nI 10)), (4, .int (nI 0)), (3, .int (nI ((x / 100) % 10))), (0, .ref (E.1 + 30)), (1, .int (nI x))]) rfl ?_
      refine J_goto (tgt := 22) dX3_tell_103 (by decide) ?_
      refine J_iload_n dX3_tell_22 rfl ?_
      refine J_if_leN (tgt := 106) dX3_tell_23 (by decide) (by omega) (fun z => absurd z (by decide)) (fun _ => ?_)
      refine J_iload_n dX3_tell_26 rfl ?_
      refine J_iload_n dX3_tell_27 rfl ?_
      refine J_idivN dX3_tell_28 (by omega) (by omega) (by omega) ?_
      refine J_bipush (v := nI 10) dX3_tell_29 (by decide +kernel) ?_
      refine J_iremN dX3_tell_31 (by omega) (by omega) (by omega) ?_
      refine J_istore_n dX3_tell_32 (Nat.le_of_ble_eq_true rfl) (L' := [(3, .int (nI ((x / 10) % 10))), (2, .int (nI 10)), (4, .int (nI 0)), (0, .ref (E.1 + 30)), (1, .int (nI x))]) rfl ?_
      refine J_iload_n dX3_tell_33 rfl ?_
      refine J_if_neN (tgt := 48) dX3_tell_34 (by decide) (by omega) (fun c57 => ?_) (fun c57 => ?_)
      · skip
        refine J_iconst (v := nI 0) dX3_tell_48 (by decide +kernel) ?_
        refine J_istore dX3_tell_49 (Nat.le_of_ble_eq_true rfl) (L' := [(4, .int (nI 0)), (3, .int (nI ((x / 10) % 10))), (2, .int (nI 10)), (0, .ref (E.1 + 30)), (1, .int (nI x))]) rfl ?_
        refine J_iload dX3_tell_51 rfl ?_
        refine J_if_neN (tgt := 98) dX3_tell_53 (by decide) (by omega) (fun z => absurd z (by decide)) (fun _ => ?_)
        refine J_iload_n dX3_tell_56 rfl ?_
        refine J_iconst (v := nI 1) dX3_tell_57 (by decide +kernel) ?_
        refine J_icmp_ltN (tgt := 74) dX3_tell_58 (by decide) (by omega) (by omega) (fun c59 => (by exfalso; omega)) (fun c59 => ?_)
        refine J_iload_n dX3_tell_61 rfl ?_
        refine J_iconst (v := nI 4) dX3_tell_62 (by decide +kernel) ?_
        refine J_icmp_gtN (tgt := 74) dX3_tell_63 (by decide) (by omega) (by omega) (fun c60 => (by exfalso; omega)) (fun c60 => ?_)
        refine J_aload_n dX3_tell_66 rfl ?_
        refine J_get 3 dX3_tell_67 jk3 (Nat.le_of_ble_eq_true rfl) jfRX3_21 ((hset_ne (by omega)).trans hset_eq) (by omega) rfl ?_
        refine J_iconst (v := nI 4) dX3_tell_70 (by decide +kernel) ?_
        refine J_icmp_ltN (tgt := 76) dX3_tell_71 (by decide) (by omega) (by omega) (fun _ => ?_) (fun z => absurd z (by decide))
        refine J_aload_n dX3_tell_76 rfl ?_
        refine J_get 0 dX3_tell_77 jk3 (Nat.le_of_ble_eq_true rfl) jfRX3_11 ((hset_ne (by omega)).trans hset_eq) (by omega) rfl ?_
        refine J_aload_n dX3_tell_80 rfl ?_
        refine J_get 3 dX3_tell_81 jk3 (Nat.le_of_ble_eq_true rfl) jfRX3_21 ((hset_ne (by omega)).trans hset_eq) (by omega) rfl ?_
        refine J_iload_n dX3_tell_84 rfl ?_
        refine J_iconst (v := nI 1) dX3_tell_85 (by decide +kernel) ?_
        refine J_isubN dX3_tell_86 (by omega) ?_
        refine J_iastN (i := 2) (v := ((x / 10) % 10) - 1) dX3_tell_87 hset_eq (by omega) (by omega) (by omega) ?_
        refine J.cast hset_hset ?_
        refine J_aload_n dX3_tell_88 rfl ?_
        refine J_dup dX3_tell_89 rfl ?_
        refine J_get 3 dX3_tell_90 jk3 (Nat.le_of_ble_eq_true rfl) jfRX3_21 ((hset_ne (by omega)).trans hset_eq) (by omega) rfl ?_
        refine J_iconst (v := nI 1) dX3_tell_93 (by decide +kernel) ?_
        refine J_iaddN dX3_tell_94 ?_
        refine J.stk (st' := [.int (nI 3), .ref (E.1 + 30)]) rfl ?_
        refine J_put 3 dX3_tell_95 jk3 (Nat.le_of_ble_eq_true rfl) jfRX3_21 ((hset_ne (by omega)).trans hset_eq) (by omega) rfl rfl rfl (Nat.le_of_ble_eq_true rfl) ?_
        refine J.cast (h' := (hset (hset (hset h 30 (.inr (2, [.ref (E.1 + 31), .ref (E.1 + 32), .ref (E.1 + 33), .int (nI 2), .int (nI lb), .int (nI le)]))) 31 (cI E 4 (nF (updN (updN (updN T 0 (((x / 1000) % 10) - 1)) 1 (((x / 100) % 10) - 1)) 2 (((x / 10) % 10) - 1))))) 30 (.inr (2, [.ref (E.1 + 31), .ref (E.1 + 32), .ref (E.1 + 33), .int (nI 3), .int (nI lb), .int (nI le)])))) rfl ?_
        refine J.cast ((hset_comm (by omega)).trans (hset_cg hset_hset rfl)) ?_
        refine J_iload_n dX3_tell_98 rfl ?_
        refine J_bipush (v := nI 10) dX3_tell_99 (by decide +kernel) ?_
        refine J_idivN dX3_tell_101 (by omega) (by omega) (by omega) ?_
        refine J.stk (st' := [.int (nI 1)]) rfl ?_
        refine J_istore_n dX3_tell_102 (Nat.le_of_ble_eq_true rfl) (L' := [(2, .int (nI 1)), (4, .int (nI 0)), (3, .int (nI ((x / 10) % 10))), (0, .ref (E.1 + 30)), (1, .int (nI x))]) rfl ?_
        refine J_goto (tgt := 22) dX3_tell_103 (by decide) ?_
        refine J_iload_n dX3_tell_22 rfl ?_
        refine J_if_leN (tgt := 106) dX3_tell_23 (by decide) (by omega) (fun z => absurd z (by decide)) (fun _ => ?_)
        refine J_iload_n dX3_tell_26 rfl ?_
        refine J_iload_n dX3_tell_27 rfl ?_
        refine J_idivN dX3_tell_28 (by omega) (by omega) (by omega) ?_
        refine J_bipush (v := nI 10) dX3_tell_29 (by decide +kernel) ?_
        refine J_iremN dX3_tell_31 (by omega) (by omega) (by omega) ?_
        refine J_istore_n dX3_tell_32 (Nat.le_of_ble_eq_true rfl) (L' := [(3, .int (nI ((x / 1) % 10))), (2, .int (nI 1)), (4, .int (nI 0)), (0, .ref (E.1 + 30)), (1, .int (nI x))]) rfl ?_
        refine J_iload_n dX3_tell_33 rfl ?_
        refine J_if_neN (tgt := 48) dX3_tell_34 (by decide) (by omega) (fun c63 => ?_) (fun c63 => ?_)
        · skip
          refine J_iconst (v := nI 0) dX3_tell_48 (by decide +kernel) ?_
          refine J_istore dX3_tell_49 (Nat.le_of_ble_eq_true rfl) (L' := [(4, .int (nI 0)), (3, .int (nI ((x / 1) % 10))), (2, .int (nI 1)), (0, .ref (E.1 + 30)), (1, .int (nI x))]) rfl ?_
          refine J_iload dX3_tell_51 rfl ?_
          refine J_if_neN (tgt := 98) dX3_tell_53 (by decide) (by omega) (fun z => absurd z (by decide)) (fun _ => ?_)
          refine J_iload_n dX3_tell_56 rfl ?_
          refine J_iconst (v := nI 1) dX3_tell_57 (by decide +kernel) ?_
          refine J_icmp_ltN (tgt := 74) dX3_tell_58 (by decide) (by omega) (by omega) (fun c65 => (by exfalso; omega)) (fun c65 => ?_)
          refine J_iload_n dX3_tell_61 rfl ?_
          refine J_iconst (v := nI 4) dX3_tell_62 (by decide +kernel) ?_
          refine J_icmp_gtN (tgt := 74) dX3_tell_63 (by decide) (by omega) (by omega) (fun c66 => (by exfalso; omega)) (fun c66 => ?_)
          refine J_aload_n dX3_tell_66 rfl ?_
          refine J_get 3 dX3_tell_67 jk3 (Nat.le_of_ble_eq_true rfl) jfRX3_21 ((hset_ne (by omega)).trans hset_eq) (by omega) rfl ?_
          refine J_iconst (v := nI 4) dX3_tell_70 (by decide +kernel) ?_
          refine J_icmp_ltN (tgt := 76) dX3_tell_71 (by decide) (by omega) (by omega) (fun _ => ?_) (fun z => absurd z (by decide))
          refine J_aload_n dX3_tell_76 rfl ?_
          refine J_get 0 dX3_tell_77 jk3 (Nat.le_of_ble_eq_true rfl) jfRX3_11 ((hset_ne (by omega)).trans hset_eq) (by omega) rfl ?_
          refine J_aload_n dX3_tell_80 rfl ?_
          refine J_get 3 dX3_tell_81 jk3 (Nat.le_of_ble_eq_true rfl) jfRX3_21 ((hset_ne (by omega)).trans hset_eq) (by omega) rfl ?_
          refine J_iload_n dX3_tell_84 rfl ?_
          refine J_iconst (v := nI 1) dX3_tell_85 (by decide +kernel) ?_
          refine J_isubN dX3_tell_86 (by omega) ?_
          refine J_iastN (i := 3) (v := ((x / 1) % 10) - 1) dX3_tell_87 hset_eq (by omega) (by omega) (by omega) ?_
          refine J.cast hset_hset ?_
          refine J_aload_n dX3_tell_88 rfl ?_
          refine J_dup dX3_tell_89 rfl ?_
          refine J_get 3 dX3_tell_90 jk3 (Nat.le_of_ble_eq_true rfl) jfRX3_21 ((hset_ne (by omega)).trans hset_eq) (by omega) rfl ?_
          refine J_iconst (v := nI 1) dX3_tell_93 (by decide +kernel) ?_
          refine J_iaddN dX3_tell_94 ?_
          refine J.stk (st' := [.int (nI 4), .ref (E.1 + 30)]) rfl ?_
          refine J_put 3 dX3_tell_95 jk3 (Nat.le_of_ble_eq_true rfl) jfRX3_21 ((hset_ne (by omega)).trans hset_eq) (by omega) rfl rfl rfl (Nat.le_of_ble_eq_true rfl) ?_
          refine J.cast (h' := (hset (hset (hset h 30 (.inr (2, [.ref (E.1 + 31), .ref (E.1 + 32), .ref (E.1 + 33), .int (nI 3), .int (nI lb), .int (nI le)]))) 31 (cI E 4 (nF (updN (updN (updN (updN T 0 (((x / 1000) % 10) - 1)) 1 (((x / 100) % 10) - 1)) 2 (((x / 10) % 10) - 1)) 3 (((x / 1) % 10) - 1))))) 30 (.inr (2, [.ref (E.1 + 31), .ref (E.1 + 32), .ref (E.1 + 33), .int (nI 4), .int (nI lb), .int (nI le)])))) rfl ?_
          refine J.cast ((hset_comm (by omega)).trans (hset_cg hset_hset rfl)) ?_
          refine J_iload_n dX3_tell_98 rfl ?_
          refine J_bipush (v := nI 10) dX3_tell_99 (by decide +kernel) ?_
          refine J_idivN dX3_tell_101 (by omega) (by omega) (by omega) ?_
          refine J.stk (st' := [.int (nI 0)]) rfl ?_
          refine J_istore_n dX3_tell_102 (Nat.le_of_ble_eq_true rfl) (L' := [(2, .int (nI 0)), (4, .int (nI 0)), (3, .int (nI ((x / 1) % 10))), (0, .ref (E.1 + 30)), (1, .int (nI x))]) rfl ?_
          refine J_goto (tgt := 22) dX3_tell_103 (by decide) ?_
          refine J_iload_n dX3_tell_22 rfl ?_
          refine J_if_leN (tgt := 106) dX3_tell_23 (by decide) (by omega) (fun _ => ?_) (fun z => absurd z (by decide))
          refine J_iconst (v := nI 1) dX3_tell_106 (by decide +kernel) ?_
          exact J_zret dX3_tell_107 rfl rfl ⟨Nat.le_refl _, Nat.le_refl _⟩ (by rw [hPP]; exact ⟨rfl, rfl, (updN (updN (updN (updN T 0 (((x / 1000) % 10) - 1)) 1 (((x / 100) % 10) - 1)) 2 (((x / 10) % 10) - 1)) 3 (((x / 1) % 10) - 1)), (hset_cg (hset_cg rfl (congrArg (fun z => (Sum.inr (2, z) : va_E)) (jS_c rfl (jS_c rfl (jS_c rfl (jS_c (jv_N (by first | rfl | (unfold ndig; (repeat' split) <;> omega))) (jS_c rfl (jS_c rfl rfl)))))))) rfl), (by first | exact tell_4 (by unfold ndig; (repeat' split) <;> omega) rfl rfl rfl rfl | exact tell_3 (by unfold ndig; (repeat' split) <;> omega) rfl rfl rfl | exact tell_2 (by unfold ndig; (repeat' split) <;> omega) rfl rfl | exact tell_1 (by unfold ndig; (repeat' split) <;> omega) rfl | exact tell_0 (by unfold ndig; (repeat' split) <;> omega))⟩)
        · skip
          refine J_aload_n dX3_tell_37 rfl ?_
          refine J_get 3 dX3_tell_38 jk3 (Nat.le_of_ble_eq_true rfl) jfRX3_21 ((hset_ne (by omega)).trans hset_eq) (by omega) rfl ?_
          refine J_if_neN (tgt := 48) dX3_tell_41 (by decide) (by omega) (fun _ => ?_) (fun z => absurd z (by decide))
          refine J_iconst (v := nI 0) dX3_tell_48 (by decide +kernel) ?_
          refine J_istore dX3_tell_49 (Nat.le_of_ble_eq_true rfl) (L' := [(4, .int (nI 0)), (3, .int (nI ((x / 1) % 10))), (2, .int (nI 1)), (0, .ref (E.1 + 30)), (1, .int (nI x))]) rfl ?_
          refine J_iload dX3_tell_51 rfl ?_
          refine J_if_neN (tgt := 98) dX3_tell_53 (by decide) (by omega) (fun z => absurd z (by decide)) (fun _ => ?_)
          refine J_iload_n dX3_tell_56 rfl ?_
          refine J_iconst (v := nI 1) dX3_tell_57 (by decide +kernel) ?_
          refine J_icmp_ltN (tgt := 74) dX3_tell_58 (by decide) (by omega) (by omega) (fun c71 => (by exfalso; omega)) (fun c71 => ?_)
          refine J_iload_n dX3_tell_61 rfl ?_
          refine J_iconst (v := nI 4) dX3_tell_62 (by decide +kernel) ?_
          refine J_icmp_gtN (tgt := 74) dX3_tell_63 (by decide) (by omega) (by omega) (fun c72 => (by exfalso; omega)) (fun c72 => ?_)
          refine J_aload_n dX3_tell_66 rfl ?_
          refine J_get 3 dX3_tell_67 jk3 (Nat.le_of_ble_eq_true rfl) jfRX3_21 ((hset_ne (by omega)).trans hset_eq) (by omega) rfl ?_
          refine J_iconst (v := nI 4) dX3_tell_70 (by decide +kernel) ?_
          refine J_icmp_ltN (tgt := 76) dX3_tell_71 (by decide) (by omega) (by omega) (fun _ => ?_) (fun z => absurd z (by decide))
          refine J_aload_n dX3_tell_76 rfl ?_
          refine J_get 0 dX3_tell_77 jk3 (Nat.le_of_ble_eq_true rfl) jfRX3_11 ((hset_ne (by omega)).trans hset_eq) (by omega) rfl ?_
          refine J_aload_n dX3_tell_80 rfl ?_
          refine J_get 3 dX3_tell_81 jk3 (Nat.le_of_ble_eq_true rfl) jfRX3_21 ((hset_ne (by omega)).trans hset_eq) (by omega) rfl ?_
          refine J_iload_n dX3_tell_84 rfl ?_
          refine J_iconst (v := nI 1) dX3_tell_85 (by decide +kernel) ?_
          refine J_isubN dX3_tell_86 (by omega) ?_
          refine J_iastN (i := 3) (v := ((x / 1) % 10) - 1) dX3_tell_87 hset_eq (by omega) (by omega) (by omega) ?_
          refine J.cast hset_hset ?_
          refine J_aload_n dX3_tell_88 rfl ?_
          refine J_dup dX3_tell_89 rfl ?_
          refine J_get 3 dX3_tell_90 jk3 (Nat.le_of_ble_eq_true rfl) jfRX3_21 ((hset_ne (by omega)).trans hset_eq) (by omega) rfl ?_
          refine J_iconst (v := nI 1) dX3_tell_93 (by decide +kernel) ?_
          refine J_iaddN dX3_tell_94 ?_
          refine J.stk (st' := [.int (nI 4), .ref (E.1 + 30)]) rfl ?_
          refine J_put 3 dX3_tell_95 jk3 (Nat.le_of_ble_eq_true rfl) jfRX3_21 ((hset_ne (by omega)).trans hset_eq) (by omega) rfl rfl rfl (Nat.le_of_ble_eq_true rfl) ?_
          refine J.cast (h' := (hset (hset (hset h 30 (.inr (2, [.ref (E.1 + 31), .ref (E.1 + 32), .ref (E.1 + 33), .int (nI 3), .int (nI lb), .int (nI le)]))) 31 (cI E 4 (nF (updN (updN (updN (updN T 0 (((x / 1000) % 10) - 1)) 1 (((x / 100) % 10) - 1)) 2 (((x / 10) % 10) - 1)) 3 (((x / 1) % 10) - 1))))) 30 (.inr (2, [.ref (E.1 + 31), .ref (E.1 + 32), .ref (E.1 + 33), .int (nI 4), .int (nI lb), .int (nI le)])))) rfl ?_
          refine J.cast ((hset_comm (by omega)).trans (hset_cg hset_hset rfl)) ?_
          refine J_iload_n dX3_tell_98 rfl ?_
          refine J_bipush (v := nI 10) dX3_tell_99 (by decide +kernel) ?_
          refine J_idivN dX3_tell_101 (by omega) (by omega) (by omega) ?_
          refine J.stk (st' := [.int (nI 0)]) rfl ?_
          refine J_istore_n dX3_tell_102 (Nat.le_of_ble_eq_true rfl) (L' := [(2, .int (nI 0)), (4, .int (nI 0)), (3, .int (nI ((x / 1) % 10))), (0, .ref (E.1 + 30)), (1, .int (nI x))]) rfl ?_
          refine J_goto (tgt := 22) dX3_tell_103 (by decide) ?_
          refine J_iload_n dX3_tell_22 rfl ?_
          refine J_if_leN (tgt := 106) dX3_tell_23 (by decide) (by omega) (fun _ => ?_) (fun z => absurd z (by decide))
          refine J_iconst (v := nI 1) dX3_tell_106 (by decide +kernel) ?_
          exact J_zret dX3_tell_107 rfl rfl ⟨Nat.le_refl _, Nat.le_refl _⟩ (by rw [hPP]; exact ⟨rfl, rfl, (updN (updN (updN (updN T 0 (((x / 1000) % 10) - 1)) 1 (((x / 100) % 10) - 1)) 2 (((x / 10) % 10) - 1)) 3 (((x / 1) % 10) - 1)), (hset_cg (hset_cg rfl (congrArg (fun z => (Sum.inr (2, z) : va_E)) (jS_c rfl (jS_c rfl (jS_c rfl (jS_c (jv_N (by first | rfl | (unfold ndig; (repeat' split) <;> omega))) (jS_c rfl (jS_c rfl rfl)))))))) rfl), (by first | exact tell_4 (by unfold ndig; (repeat' split) <;> omega) rfl rfl rfl rfl | exact tell_3 (by unfold ndig; (repeat' split) <;> omega) rfl rfl rfl | exact tell_2 (by unfold ndig; (repeat' split) <;> omega) rfl rfl | exact tell_1 (by unfold ndig; (repeat' split) <;> omega) rfl | exact tell_0 (by unfold ndig; (repeat' split) <;> omega))⟩)
      · skip
        refine J_aload_n dX3_tell_37 rfl ?_
        refine J_get 3 dX3_tell_38 jk3 (Nat.le_of_ble_eq_true rfl) jfRX3_21 ((hset_ne (by omega)).trans hset_eq) (by omega) rfl ?_
        refine J_if_neN (tgt := 48) dX3_tell_41 (by decide) (by omega) (fun _ => ?_) (fun z => absurd z (by decide))
        refine J_iconst (v := nI 0) dX3_tell_48 (by decide +kernel) ?_
        refine J_istore dX3_tell_49 (Nat.le_of_ble_eq_true rfl) (L' := [(4, .int (nI 0)), (3, .int (nI ((x / 10) % 10))), (2, .int (nI 10)), (0, .ref (E.1 + 30)), (1, .int (nI x))]) rfl ?_
        refine J_iload dX3_tell_51 rfl ?_
        refine J_if_neN (tgt := 98) dX3_tell_53 (by decide) (by omega) (fun z => absurd z (by decide)) (fun _ => ?_)
        refine J_iload_n dX3_tell_56 rfl ?_
        refine J_iconst (v := nI 1) dX3_tell_57 (by decide +kernel) ?_
        refine J_icmp_ltN (tgt := 74) dX3_tell_58 (by decide) (by omega) (by omega) (fun c77 => (by exfalso; omega)) (fun c77 => ?_)
        refine J_iload_n dX3_tell_61 rfl ?_
        refine J_iconst (v := nI 4) dX3_tell_62 (by decide +kernel) ?_
        refine J_icmp_gtN (tgt := 74) dX3_tell_63 (by decide) (by omega) (by omega) (fun c78 => (by exfalso; omega)) (fun c78 => ?_)
        refine J_aload_n dX3_tell_66 rfl ?_
        refine J_get 3 dX3_tell_67 jk3 (Nat.le_of_ble_eq_true rfl) jfRX3_21 ((hset_ne (by omega)).trans hset_eq) (by omega) rfl ?_
        refine J_iconst (v := nI 4) dX3_tell_70 (by decide +kernel) ?_
        refine J_icmp_ltN (tgt := 76) dX3_tell_71 (by decide) (by omega) (by omega) (fun _ => ?_) (fun z => absurd z (by decide))
        refine J_aload_n dX3_tell_76 rfl ?_
        refine J_get 0 dX3_tell_77 jk3 (Nat.le_of_ble_eq_true rfl) jfRX3_11 ((hset_ne (by omega)).trans hset_eq) (by omega) rfl ?_
        refine J_aload_n dX3_tell_80 rfl ?_
        refine J_get 3 dX3_tell_81 jk3 (Nat.le_of_ble_eq_true rfl) jfRX3_21 ((hset_ne (by omega)).trans hset_eq) (by omega) rfl ?_
        refine J_iload_n dX3_tell_84 rfl ?_
        refine J_iconst (v := nI 1) dX3_tell_85 (by decide +kernel) ?_
        refine J_isubN dX3_tell_86 (by omega) ?_
        refine J_iastN (i := 2) (v := ((x / 10) % 10) - 1) dX3_tell_87 hset_eq (by omega) (by omega) (by omega) ?_
        refine J.cast hset_hset ?_
        refine J_aload_n dX3_tell_88 rfl ?_
        refine J_dup dX3_tell_89 rfl ?_
        refine J_get 3 dX3_tell_90 jk3 (Nat.le_of_ble_eq_true rfl) jfRX3_21 ((hset_ne (by omega)).trans hset_eq) (by omega) rfl ?_
        refine J_iconst (v := nI 1) dX3_tell_93 (by decide +kernel) ?_
        refine J_iaddN dX3_tell_94 ?_
        refine J.stk (st' := [.int (nI 3), .ref (E.1 + 30)]) rfl ?_
        refine J_put 3 dX3_tell_95 jk3 (Nat.le_of_ble_eq_true rfl) jfRX3_21 ((hset_ne (by omega)).trans hset_eq) (by omega) rfl rfl rfl (Nat.le_of_ble_eq_true rfl) ?_
        refine J.cast (h' := (hset (hset (hset h 30 (.inr (2, [.ref (E.1 + 31), .ref (E.1 + 32), .ref (E.1 + 33), .int (nI 2), .int (nI lb), .int (nI le)]))) 31 (cI E 4 (nF (updN (updN (updN T 0 (((x / 1000) % 10) - 1)) 1 (((x / 100) % 10) - 1)) 2 (((x / 10) % 10) - 1))))) 30 (.inr (2, [.ref (E.1 + 31), .ref (E.1 + 32), .ref (E.1 + 33), .int (nI 3), .int (nI lb), .int (nI le)])))) rfl ?_
        refine J.cast ((hset_comm (by omega)).trans (hset_cg hset_hset rfl)) ?_
        refine J_iload_n dX3_tell_98 rfl ?_
        refine J_bipush (v := nI 10) dX3_tell_99 (by decide +kernel) ?_
        refine J_idivN dX3_tell_101 (by omega) (by omega) (by omega) ?_
        refine J.stk (st' := [.int (nI 1)]) rfl ?_
        refine J_istore_n dX3_tell_102 (Nat.le_of_ble_eq_true rfl) (L' := [(2, .int (nI 1)), (4, .int (nI 0)), (3, .int (nI ((x / 10) % 10))), (0, .ref (E.1 + 30)), (1, .int (nI x))]) rfl ?_
        refine J_goto (tgt := 22) dX3_tell_103 (by decide) ?_
        refine J_iload_n dX3_tell_22 rfl ?_
        refine J_if_leN (tgt := 106) dX3_tell_23 (by decide) (by omega) (fun z => absurd z (by decide)) (fun _ => ?_)
        refine J_iload_n dX3_tell_26 rfl ?_
        refine J_iload_n dX3_tell_27 rfl ?_
        refine J_idivN dX3_tell_28 (by omega) (by omega) (by omega) ?_
        refine J_bipush (v := nI 10) dX3_tell_29 (by decide +kernel) ?_
        refine J_iremN dX3_tell_31 (by omega) (by omega) (by omega) ?_
        refine J_istore_n dX3_tell_32 (Nat.le_of_ble_eq_true rfl) (L' := [(3, .int (nI ((x / 1) % 10))), (2, .int (nI 1)), (4, .int (nI 0)), (0, .ref (E.1 + 30)), (1, .int (nI x))]) rfl ?_
        refine J_iload_n dX3_tell_33 rfl ?_
        refine J_if_neN (tgt := 48) dX3_tell_34 (by decide) (by omega) (fun c81 => ?_) (fun c81 => ?_)
        · skip
          refine J_iconst (v := nI 0) dX3_tell_48 (by decide +kernel) ?_
          refine J_istore dX3_tell_49 (Nat.le_of_ble_eq_true rfl) (L' := [(4, .int (nI 0)), (3, .int (nI ((x / 1) % 10))), (2, .int (nI 1)), (0, .ref (E.1 + 30)), (1, .int (nI x))]) rfl ?_
          refine J_iload dX3_tell_51 rfl ?_
          refine J_if_neN (tgt := 98) dX3_tell_53 (by decide) (by omega) (fun z => absurd z (by decide)) (fun _ => ?_)
          refine J_iload_n dX3_tell_56 rfl ?_
          refine J_iconst (v := nI 1) dX3_tell_57 (by decide +kernel) ?_
          refine J_icmp_ltN (tgt := 74) dX3_tell_58 (by decide) (by omega) (by omega) (fun c83 => (by exfalso; omega)) (fun c83 => ?_)
          refine J_iload_n dX3_tell_61 rfl ?_
          refine J_iconst (v := nI 4) dX3_tell_62 (by decide +kernel) ?_
          refine J_icmp_gtN (tgt := 74) dX3_tell_63 (by decide) (by omega) (by omega) (fun c84 => (by exfalso; omega)) (fun c84 => ?_)
          refine J_aload_n dX3_tell_66 rfl ?_
          refine J_get 3 dX3_tell_67 jk3 (Nat.le_of_ble_eq_true rfl) jfRX3_21 ((hset_ne (by omega)).trans hset_eq) (by omega) rfl ?_
          refine J_iconst (v := nI 4) dX3_tell_70 (by decide +kernel) ?_
          refine J_icmp_ltN (tgt := 76) dX3_tell_71 (by decide) (by omega) (by omega) (fun _ => ?_) (fun z => absurd z (by decide))
          refine J_aload_n dX3_tell_76 rfl ?_
          refine J_get 0 dX3_tell_77 jk3 (Nat.le_of_ble_eq_true rfl) jfRX3_11 ((hset_ne (by omega)).trans hset_eq) (by omega) rfl ?_
          refine J_aload_n dX3_tell_80 rfl ?_
          refine J_get 3 dX3_tell_81 jk3 (Nat.le_of_ble_eq_true rfl) jfRX3_21 ((hset_ne (by omega)).trans hset_eq) (by omega) rfl ?_
          refine J_iload_n dX3_tell_84 rfl ?_
          refine J_iconst (v := nI 1) dX3_tell_85 (by decide +kernel) ?_
          refine J_isubN dX3_tell_86 (by omega) ?_
          refine J_iastN (i := 3) (v := ((x / 1) % 10) - 1) dX3_tell_87 hset_eq (by omega) (by omega) (by omega) ?_
          refine J.cast hset_hset ?_
          refine J_aload_n dX3_tell_88 rfl ?_
          refine J_dup dX3_tell_89 rfl ?_
          refine J_get 3 dX3_tell_90 jk3 (Nat.le_of_ble_eq_true rfl) jfRX3_21 ((hset_ne (by omega)).trans hset_eq) (by omega) rfl ?_
          refine J_iconst (v := nI 1) dX3_tell_93 (by decide +kernel) ?_
          refine J_iaddN dX3_tell_94 ?_
          refine J.stk (st' := [.int (nI 4), .ref (E.1 + 30)]) rfl ?_
          refine J_put 3 dX3_tell_95 jk3 (Nat.le_of_ble_eq_true rfl) jfRX3_21 ((hset_ne (by omega)).trans hset_eq) (by omega) rfl rfl rfl (Nat.le_of_ble_eq_true rfl) ?_
          refine J.cast (h' := (hset (hset (hset h 30 (.inr (2, [.ref (E.1 + 31), .ref (E.1 + 32), .ref (E.1 + 33), .int (nI 3), .int (nI lb), .int (nI le)]))) 31 (cI E 4 (nF (updN (updN (updN (updN T 0 (((x / 1000) % 10) - 1)) 1 (((x / 100) % 10) - 1)) 2 (((x / 10) % 10) - 1)) 3 (((x / 1) % 10) - 1))))) 30 (.inr (2, [.ref (E.1 + 31), .ref (E.1 + 32), .ref (E.1 + 33), .int (nI 4), .int (nI lb), .int (nI le)])))) rfl ?_
          refine J.cast ((hset_comm (by omega)).trans (hset_cg hset_hset rfl)) ?_
          refine J_iload_n dX3_tell_98 rfl ?_
          refine J_bipush (v := nI 10) dX3_tell_99 (by decide +kernel) ?_
          refine J_idivN dX3_tell_101 (by omega) (by omega) (by omega) ?_
          refine J.stk (st' := [.int (nI 0)]) rfl ?_
          refine J_istore_n dX3_tell_102 (Nat.le_of_ble_eq_true rfl) (L' := [(2, .int (nI 0)), (4, .int (nI 0)), (3, .int (nI ((x / 1) % 10))), (0, .ref (E.1 + 30)), (1, .int (nI x))]) rfl ?_
          refine J_goto (tgt := 22) dX3_tell_103 (by decide) ?_
          refine J_iload_n dX3_tell_22 rfl ?_
          refine J_if_leN (tgt := 106) dX3_tell_23 (by decide) (by omega) (fun _ => ?_) (fun z => absurd z (by decide))
          refine J_iconst (v := nI 1) dX3_tell_106 (by decide +kernel) ?_
          exact J_zret dX3_tell_107 rfl rfl ⟨Nat.le_refl _, Nat.le_refl _⟩ (by rw [hPP]; exact ⟨rfl, rfl, (updN (updN (updN (updN T 0 (((x / 1000) % 10) - 1)) 1 (((x / 100) % 10) - 1)) 2 (((x / 10) % 10) - 1)) 3 (((x / 1) % 10) - 1)), (hset_cg (hset_cg rfl (congrArg (fun z => (Sum.inr (2, z) : va_E)) (jS_c rfl (jS_c rfl (jS_c rfl (jS_c (jv_N (by first | rfl | (unfold ndig; (repeat' split) <;> omega))) (jS_c rfl (jS_c rfl rfl)))))))) rfl), (by first | exact tell_4 (by unfold ndig; (repeat' split) <;> omega) rfl rfl rfl rfl | exact tell_3 (by unfold ndig; (repeat' split) <;> omega) rfl rfl rfl | exact tell_2 (by unfold ndig; (repeat' split) <;> omega) rfl rfl | exact tell_1 (by unfold ndig; (repeat' split) <;> omega) rfl | exact tell_0 (by unfold ndig; (repeat' split) <;> omega))⟩)
        · skip
          refine J_aload_n dX3_tell_37 rfl ?_
          refine J_get 3 dX3_tell_38 jk3 (Nat.le_of_ble_eq_true rfl) jfRX3_21 ((hset_ne (by omega)).trans hset_eq) (by omega) rfl ?_
          refine J_if_neN (tgt := 48) dX3_tell_41 (by decide) (by omega) (fun _ => ?_) (fun z => absurd z (by decide))
          refine J_iconst (v := nI 0) dX3_tell_48 (by decide +kernel) ?_
          refine J_istore dX3_tell_49 (Nat.le_of_ble_eq_true rfl) (L' := [(4, .int (nI 0)), (3, .int (nI ((x / 1) % 10))), (2, .int (nI 1)), (0, .ref (E.1 + 30)), (1, .int (nI x))]) rfl ?_
          refine J_iload dX3_tell_51 rfl ?_
          refine J_if_neN (tgt := 98) dX3_tell_53 (by decide) (by omega) (fun z => absurd z (by decide)) (fun _ => ?_)
          refine J_iload_n dX3_tell_56 rfl ?_
          refine J_iconst (v := nI 1) dX3_tell_57 (by decide +kernel) ?_
          refine J_icmp_ltN (tgt := 74) dX3_tell_58 (by decide) (by omega) (by omega) (fun c89 => (by exfalso; omega)) (fun c89 => ?_)
          refine J_iload_n dX3_tell_61 rfl ?_
          refine J_iconst (v := nI 4) dX3_tell_62 (by decide +kernel) ?_
          refine J_icmp_gtN (tgt := 74) dX3_tell_63 (by decide) (by omega) (by omega) (fun c90 => (by exfalso; omega)) (fun c90 => ?_)
          refine J_aload_n dX3_tell_66 rfl ?_
          refine J_get 3 dX3_tell_67 jk3 (Nat.le_of_ble_eq_true rfl) jfRX3_21 ((hset_ne (by omega)).trans hset_eq) (by omega) rfl ?_
          refine J_iconst (v := nI 4) dX3_tell_70 (by decide +kernel) ?_
          refine J_icmp_ltN (tgt := 76) dX3_tell_71 (by decide) (by omega) (by omega) (fun _ => ?_) (fun z => absurd z (by decide))
          refine J_aload_n dX3_tell_76 rfl ?_
          refine J_get 0 dX3_tell_77 jk3 (Nat.le_of_ble_eq_true rfl) jfRX3_11 ((hset_ne (by omega)).trans hset_eq) (by omega) rfl ?_
          refine J_aload_n dX3_tell_80 rfl ?_
          refine J_get 3 dX3_tell_81 jk3 (Nat.le_of_ble_eq_true rfl) jfRX3_21 ((hset_ne (by omega)).trans hset_eq) (by omega) rfl ?_
          refine J_iload_n dX3_tell_84 rfl ?_
          refine J_iconst (v := nI 1) dX3_tell_85 (by decide +kernel) ?_
          refine J_isubN dX3_tell_86 (by omega) ?_
          refine J_iastN (i := 3) (v := ((x / 1) % 10) - 1) dX3_tell_87 hset_eq (by omega) (by omega) (by omega) ?_
          refine J.cast hset_hset ?_
          refine J_aload_n dX3_tell_88 rfl ?_
          refine J_dup dX3_tell_89 rfl ?_
          refine J_get 3 dX3_tell_90 jk3 (Nat.le_of_ble_eq_true rfl) jfRX3_21 ((hset_ne (by omega)).trans hset_eq) (by omega) rfl ?_
          refine J_iconst (v := nI 1) dX3_tell_93 (by decide +kernel) ?_
          refine J_iaddN dX3_tell_94 ?_
          refine J.stk (st' := [.int (nI 4), .ref (E.1 + 30)]) rfl ?_
          refine J_put 3 dX3_tell_95 jk3 (Nat.le_of_ble_eq_true rfl) jfRX3_21 ((hset_ne (by omega)).trans hset_eq) (by omega) rfl rfl rfl (Nat.le_of_ble_eq_true rfl) ?_
          refine J.cast (h' := (hset (hset (hset h 30 (.inr (2, [.ref (E.1 + 31), .ref (E.1 + 32), .ref (E.1 + 33), .int (nI 3), .int (nI lb), .int (nI le)]))) 31 (cI E 4 (nF (updN (updN (updN (updN T 0 (((x / 1000) % 10) - 1)) 1 (((x / 100) % 10) - 1)) 2 (((x / 10) % 10) - 1)) 3 (((x / 1) % 10) - 1))))) 30 (.inr (2, [.ref (E.1 + 31), .ref (E.1 + 32), .ref (E.1 + 33), .int (nI 4), .int (nI lb), .int (nI le)])))) rfl ?_
          refine J.cast ((hset_comm (by omega)).trans (hset_cg hset_hset rfl)) ?_
          refine J_iload_n dX3_tell_98 rfl ?_
          refine J_bipush (v := nI 10) dX3_tell_99 (by decide +kernel) ?_
          refine J_idivN dX3_tell_101 (by omega) (by omega) (by omega) ?_
          refine J.stk (st' := [.int (nI 0)]) rfl ?_
          refine J_istore_n dX3_tell_102 (Nat.le_of_ble_eq_true rfl) (L' := [(2, .int (nI 0)), (4, .int (nI 0)), (3, .int (nI ((x / 1) % 10))), (0, .ref (E.1 + 30)), (1, .int (nI x))]) rfl ?_
          refine J_goto (tgt := 22) dX3_tell_103 (by decide) ?_
          refine J_iload_n dX3_tell_22 rfl ?_
          refine J_if_leN (tgt := 106) dX3_tell_23 (by decide) (by omega) (fun _ => ?_) (fun z => absurd z (by decide))
          refine J_iconst (v := nI 1) dX3_tell_106 (by decide +kernel) ?_
          exact J_zret dX3_tell_107 rfl rfl ⟨Nat.le_refl _, Nat.le_refl _⟩ (by rw [hPP]; exact ⟨rfl, rfl, (updN (updN (updN (updN T 0 (((x / 1000) % 10) - 1)) 1 (((x / 100) % 10) - 1)) 2 (((x / 10) % 10) - 1)) 3 (((x / 1) % 10) - 1)), (hset_cg (hset_cg rfl (congrArg (fun z => (Sum.inr (2, z) : va_E)) (jS_c rfl (jS_c rfl (jS_c rfl (jS_c (jv_N (by first | rfl | (unfold ndig; (repeat' split) <;> omega))) (jS_c rfl (jS_c rfl rfl)))))))) rfl), (by first | exact tell_4 (by unfold ndig; (repeat' split) <;> omega) rfl rfl rfl rfl | exact tell_3 (by unfold ndig; (repeat' split) <;> omega) rfl rfl rfl | exact tell_2 (by unfold ndig; (repeat' split) <;> omega) rfl rfl | exact tell_1 (by unfold ndig; (repeat' split) <;> omega) rfl | exact tell_0 (by unfold ndig; (repeat' split) <;> omega))⟩)
  · skip
    refine J_aload_n dX3_tell_37 rfl ?_
    refine J_get 3 dX3_tell_38 jk3 (Nat.le_of_ble_eq_true rfl) jfRX3_21 hset_eq (by omega) rfl ?_
    refine J_if_neN (tgt := 48) dX3_tell_41 (by decide) (by omega) (fun z => absurd z (by decide)) (fun _ => ?_)
    refine J_iconst (v := nI 1) dX3_tell_44 (by decide +kernel) ?_
    refine J_goto (tgt := 49) dX3_tell_45 (by decide) ?_
    refine J_istore dX3_tell_49 (Nat.le_of_ble_eq_true rfl) (L' := [(4, .int (nI 1)), (3, .int (nI ((x / 1000) % 10))), (2, .int (nI 1000)), (0, .ref (E.1 + 30)), (1, .int (nI x))]) rfl ?_
    refine J_iload dX3_tell_51 rfl ?_
    refine J_if_neN (tgt := 98) dX3_tell_53 (by decide) (by omega) (fun _ => ?_) (fun z => absurd z (by decide))
    refine J_iload_n dX3_tell_98 rfl ?_
    refine J_bipush (v := nI 10) dX3_tell_99 (by decide +kernel) ?_
    refine J_idivN dX3_tell_101 (by omega) (by omega) (by omega) ?_
    refine J.stk (st' := [.int (nI 100)]) rfl ?_
    refine J_istore_n dX3_tell_102 (Nat.le_of_ble_eq_true rfl) (L' := [(2, .int (nI 100)), (4, .int (nI 1)), (3, .int (nI ((x / 1000) % 10))), (0, .ref (E.1 + 30)), (1, .int (nI x))]) rfl ?_
    refine J_goto (tgt := 22) dX3_tell_103 (by decide) ?_
    refine J_iload_n dX3_tell_22 rfl ?_
    refine J_if_leN (tgt := 106) dX3_tell_23 (by decide) (by omega) (fun z => absurd z (by decide)) (fun _ => ?_)
    refine J_iload_n dX3_tell_26 rfl ?_
    refine J_iload_n dX3_tell_27 rfl ?_
    refine J_idivN dX3_tell_28 (by omega) (by omega) (by omega) ?_
    refine J_bipush (v := nI 10) dX3_tell_29 (by decide +kernel) ?_
    refine J_iremN dX3_tell_31 (by omega) (by omega) (by omega) ?_
    refine J_istore_n dX3_tell_32 (Nat.le_of_ble_eq_true rfl) (L' := [(3, .int (nI ((x / 100) % 10))), (2, .int (nI 100)), (4, .int (nI 1)), (0, .ref (E.1 + 30)), (1, .int (nI x))]) rfl ?_
    refine J_iload_n dX3_tell_33 rfl ?_
    refine J_if_neN (tgt := 48) dX3_tell_34 (by decide) (by omega) (fun c96 => ?_) (fun c96 => ?_)
    · skip
      refine J_iconst (v := nI 0) dX3_tell_48 (by decide +kernel) ?_
      refine J_istore dX3_tell_49 (Nat.le_of_ble_eq_true rfl) (L' := [(4, .int (nI 0)), (3, .int (nI ((x / 100) % 10))), (2, .int (nI 100)), (0, .ref (E.1 + 30)), (1, .int (nI x))]) rfl ?_
      refine J_iload dX3_tell_51 rfl ?_
      refine J_if_neN (tgt := 98) dX3_tell_53 (by decide) (by omega) (fun z => absurd z (by decide)) (fun _ => ?_)
      refine J_iload_n dX3_tell_56 rfl ?_
      refine J_iconst (v := nI 1) dX3_tell_57 (by decide +kernel) ?_
      refine J_icmp_ltN (tgt := 74) dX3_tell_58 (by decide) (by omega) (by omega) (fun c98 => (by exfalso; omega)) (fun c98 => ?_)
      refine J_iload_n dX3_tell_61 rfl ?_
      refine J_iconst (v := nI 4) dX3_tell_62 (by decide +kernel) ?_
      refine J_icmp_gtN (tgt := 74) dX3_tell_63 (by decide) (by omega) (by omega) (fun c99 => (by exfalso; omega)) (fun c99 => ?_)
      refine J_aload_n dX3_tell_66 rfl ?_
      refine J_get 3 dX3_tell_67 jk3 (Nat.le_of_ble_eq_true rfl) jfRX3_21 hset_eq (by omega) rfl ?_
      refine J_iconst (v := nI 4) dX3_tell_70 (by decide +kernel) ?_
      refine J_icmp_ltN (tgt := 76) dX3_tell_71 (by decide) (by omega) (by omega) (fun _ => ?_) (fun z => absurd z (by decide))
      refine J_aload_n dX3_tell_76 rfl ?_
      refine J_get 0 dX3_tell_77 jk3 (Nat.le_of_ble_eq_true rfl) jfRX3_11 hset_eq (by omega) rfl ?_
      refine J_aload_n dX3_tell_80 rfl ?_
      refine J_get 3 dX3_tell_81 jk3 (Nat.le_of_ble_eq_true rfl) jfRX3_21 hset_eq (by omega) rfl ?_
      refine J_iload_n dX3_tell_84 rfl ?_
      refine J_iconst (v := nI 1) dX3_tell_85 (by decide +kernel) ?_
      refine J_isubN dX3_tell_86 (by omega) ?_
      refine J_iastN (i := 0) (v := ((x / 100) % 10) - 1) dX3_tell_87 ((hset_ne (by omega)).trans H1) (by omega) (by omega) (by omega) ?_
      refine J_aload_n dX3_tell_88 rfl ?_
      refine J_dup dX3_tell_89 rfl ?_
      refine J_get 3 dX3_tell_90 jk3 (Nat.le_of_ble_eq_true rfl) jfRX3_21 ((hset_ne (by omega)).trans hset_eq) (by omega) rfl ?_
      refine J_iconst (v := nI 1) dX3_tell_93 (by decide +kernel) ?_
      refine J_iaddN dX3_tell_94 ?_
      refine J.stk (st' := [.int (nI 1), .ref (E.1 + 30)]) rfl ?_
      refine J_put 3 dX3_tell_95 jk3 (Nat.le_of_ble_eq_true rfl) jfRX3_21 ((hset_ne (by omega)).trans hset_eq) (by omega) rfl rfl rfl (Nat.le_of_ble_eq_true rfl) ?_
      refine J.cast (h' := (hset (hset (hset h 30 (.inr (2, [.ref (E.1 + 31), .ref (E.1 + 32), .ref (E.1 + 33), .int (nI 0), .int (nI lb), .int (nI le)]))) 31 (cI E 4 (nF (updN T 0 (((x / 100) % 10) - 1))))) 30 (.inr (2, [.ref (E.1 + 31), .ref (E.1 + 32), .ref (E.1 + 33), .int (nI 1), .int (nI lb), .int (nI le)])))) rfl ?_
      refine J.cast ((hset_comm (by omega)).trans (hset_cg hset_hset rfl)) ?_
      refine J_iload_n dX3_tell_98 rfl ?_
      refine J_bipush (v := nI 10) dX3_tell_99 (by decide +kernel) ?_
      refine J_idivN dX3_tell_101 (by omega) (by omega) (by omega) ?_
      refine J.stk (st' := [.int (nI 10)]) rfl ?_
      refine J_istore_n dX3_tell_102 (Nat.le_of_ble_eq_true rfl) (L' := [(2, .int (nI 10)), (4, .int (nI 0)), (3, .int (nI ((x / 100) % 10))), (0, .ref (E.1 + 30)), (1, .int (nI x))]) rfl ?_
      refine J_goto (tgt := 22) dX3_tell_103 (by decide) ?_
      refine J_iload_n dX3_tell_22 rfl ?_
      refine J_if_leN (tgt := 106) dX3_tell_23 (by decide) (by omega) (fun z => absurd z (by decide)) (fun _ => ?_)
      refine J_iload_n dX3_tell_26 rfl ?_
      refine J_iload_n dX3_tell_27 rfl ?_
      refine J_idivN dX3_tell_28 (by omega) (by omega) (by omega) ?_
      refine J_bipush (v := nI 10) dX3_tell_29 (by decide +kernel) ?_
      refine J_iremN dX3_tell_31 (by omega) (by omega) (by omega) ?_
      refine J_istore_n dX3_tell_32 (Nat.le_of_ble_eq_true rfl) (L' := [(3, .int (nI ((x / 10) % 10))), (2, .int (nI 10)), (4, .int (nI 0)), (0, .ref (E.1 + 30)), (1, .int (nI x))]) rfl ?_
      refine J_iload_n dX3_tell_33 rfl ?_
      refine J_if_neN (tgt := 48) dX3_tell_34 (by decide) (by omega) (fun c102 => ?_) (fun c102 => ?_)
      · skip
        refine J_iconst (v := nI 0) dX3_tell_48 (by decide +kernel) ?_
        refine J_istore dX3_tell_49 (Nat.le_of_ble_eq_true rfl) (L' := [(4, .int (nI 0)), (3, .int (nI ((x / 10) % 10))), (2, .int (nI 10)), (0, .ref (E.1 + 30)), (1, .int (nI x))]) rfl ?_
        refine J_iload dX3_tell_51 rfl ?_
        refine J_if_neN (tgt := 98) dX3_tell_53 (by decide) (by omega) (fun z => absurd z (by decide)) (fun _ => ?_)
        refine J_iload_n dX3_tell_56 rfl ?_
        refine J_iconst (v := nI 1) dX3_tell_57 (by decide +kernel) ?_
        refine J_icmp_ltN (tgt := 74) dX3_tell_58 (by decide) (by omega) (by omega) (fun c104 => (by exfalso; omega)) (fun c104 => ?_)
        refine J_iload_n dX3_tell_61 rfl ?_
        refine J_iconst (v := nI 4) dX3_tell_62 (by decide +kernel) ?_
        refine J_icmp_gtN (tgt := 74) dX3_tell_63 (by decide) (by omega) (by omega) (fun c105 => (by exfalso; omega)) (fun c105 => ?_)
        refine J_aload_n dX3_tell_66 rfl ?_
        refine J_get 3 dX3_tell_67 jk3 (Nat.le_of_ble_eq_true rfl) jfRX3_21 ((hset_ne (by omega)).trans hset_eq) (by omega) rfl ?_
        refine J_iconst (v := nI 4) dX3_tell_70 (by decide +kernel) ?_
        refine J_icmp_ltN (tgt := 76) dX3_tell_71 (by decide) (by omega) (by omega) (fun _ => ?_) (fun z => absurd z (by decide))
        refine J_aload_n dX3_tell_76 rfl ?_
        refine J_get 0 dX3_tell_77 jk3 (Nat.le_of_ble_eq_true rfl) jfRX3_11 ((hset_ne (by omega)).trans hset_eq) (by omega) rfl ?_
        refine J_aload_n dX3_tell_80 rfl ?_
        refine J_get 3 dX3_tell_81 jk3 (Nat.le_of_ble_eq_true rfl) jfRX3_21 ((hset_ne (by omega)).trans hset_eq) (by omega) rfl ?_
        refine J_iload_n dX3_tell_84 rfl ?_
        refine J_iconst (v := nI 1) dX3_tell_85 (by decide +kernel) ?_
        refine J_isubN dX3_tell_86 (by omega) ?_
        refine J_iastN (i := 1) (v := ((x / 10) % 10) - 1) dX3_tell_87 hset_eq (by omega) (by omega) (by omega) ?_
        refine J.cast hset_hset ?_
        refine J_aload_n dX3_tell_88 rfl ?_
        refine J_dup dX3_tell_89 rfl ?_
        refine J_get 3 dX3_tell_90 jk3 (Nat.le_of_ble_eq_true rfl) jfRX3_21 ((hset_ne (by omega)).trans hset_eq) (by omega) rfl ?_
        refine J_iconst (v := nI 1) dX3_tell_93 (by decide +kernel) ?_
        refine J_iaddN dX3_tell_94 ?_
        refine J.stk (st' := [.int (nI 2), .ref (E.1 + 30)]) rfl ?_
        refine J_put 3 dX3_tell_95 jk3 (Nat.le_of_ble_eq_true rfl) jfRX3_21 ((hset_ne (by omega)).trans hset_eq) (by omega) rfl rfl rfl (Nat.le_of_ble_eq_true rfl) ?_
        refine J.cast (h' := (hset (hset (hset h 30 (.inr (2, [.ref (E.1 + 31), .ref (E.1 + 32), .ref (E.1 + 33), .int (nI 1), .int (nI lb), .int (nI le)]))) 31 (cI E 4 (nF (updN (updN T 0 (((x / 100) % 10) - 1)) 1 (((x / 10) % 10) - 1))))) 30 (.inr (2, [.ref (E.1 + 31), .ref (E.1 + 32), .ref (E.1 + 33), .int (nI 2), .int (nI lb), .int (nI le)])))) rfl ?_
        refine J.cast ((hset_comm (by omega)).trans (hset_cg hset_hset rfl)) ?_
        refine J_iload_n dX3_tell_98 rfl ?_
        refine J_bipush (v := nI 10) dX3_tell_99 (by decide +kernel) ?_
        refine J_idivN dX3_tell_101 (by omega) (by omega) (by omega) ?_
        refine J.stk (st' := [.int (nI 1)]) rfl ?_
        refine J_istore_n dX3_tell_102 (Nat.le_of_ble_eq_true rfl) (L' := [(2, .int (nI 1)), (4, .int (nI 0)), (3, .int (nI ((x / 10) % 10))), (0, .ref (E.1 + 30)), (1, .int (nI x))]) rfl ?_
        refine J_goto (tgt := 22) dX3_tell_103 (by decide) ?_
        refine J_iload_n dX3_tell_22 rfl ?_
        refine J_if_leN (tgt := 106) dX3_tell_23 (by decide) (by omega) (fun z => absurd z (by decide)) (fun _ => ?_)
        refine J_iload_n dX3_tell_26 rfl ?_
        refine J_iload_n dX3_tell_27 rfl ?_
        refine J_idivN dX3_tell_28 (by omega) (by omega) (by omega) ?_
        refine J_bipush (v := nI 10) dX3_tell_29 (by decide +kernel) ?_
        refine J_iremN dX3_tell_31 (by omega) (by omega) (by omega) ?_
        refine J_istore_n dX3_tell_32 (Nat.le_of_ble_eq_true rfl) (L' := [(3, .int (nI ((x / 1) % 10))), (2, .int (nI 1)), (4, .int (nI 0)), (0, .ref (E.1 + 30)), (1, .int (nI x))]) rfl ?_
        refine J_iload_n dX3_tell_33 rfl ?_
        refine J_if_neN (tgt := 48) dX3_tell_34 (by decide) (by omega) (fun c108 => ?_) (fun c108 => ?_)
        · skip
          refine J_iconst (v := nI 0) dX3_tell_48 (by decide +kernel) ?_
          refine J_istore dX3_tell_49 (Nat.le_of_ble_eq_true rfl) (L' := [(4, .int (nI 0)), (3, .int (nI ((x / 1) % 10))), (2, .int (nI 1)), (0, .ref (E.1 + 30)), (1, .int (nI x))]) rfl ?_
          refine J_iload dX3_tell_51 rfl ?_
          refine J_if_neN (tgt := 98) dX3_tell_53 (by decide) (by omega) (fun z => absurd z (by decide)) (fun _ => ?_)
          refine J_iload_n dX3_tell_56 rfl ?_
          refine J_iconst (v := nI 1) dX3_tell_57 (by decide +kernel) ?_
          refine J_icmp_ltN (tgt := 74) dX3_tell_58 (by decide) (by omega) (by omega) (fun c110 => (by exfalso; omega)) (fun c110 => ?_)
          refine J_iload_n dX3_tell_61 rfl ?_
          refine J_iconst (v := nI 4) dX3_tell_62 (by decide +kernel) ?_
          refine J_icmp_gtN (tgt := 74) dX3_tell_63 (by decide) (by omega) (by omega) (fun c111 => (by exfalso; omega)) (fun c111 => ?_)
          refine J_aload_n dX3_tell_66 rfl ?_
          refine J_get 3 dX3_tell_67 jk3 (Nat.le_of_ble_eq_true rfl) jfRX3_21 ((hset_ne (by omega)).trans hset_eq) (by omega) rfl ?_
          refine J_iconst (v := nI 4) dX3_tell_70 (by decide +kernel) ?_
          refine J_icmp_ltN (tgt := 76) dX3_tell_71 (by decide) (by omega) (by omega) (fun _ => ?_) (fun z => absurd z (by decide))
          refine J_aload_n dX3_tell_76 rfl ?_
          refine J_get 0 dX3_tell_77 jk3 (Nat.le_of_ble_eq_true rfl) jfRX3_11 ((hset_ne (by omega)).trans hset_eq) (by omega) rfl ?_
          refine J_aload_n dX3_tell_80 rfl ?_
          refine J_get 3 dX3_tell_81 jk3 (Nat.le_of_ble_eq_true rfl) jfRX3_21 ((hset_ne (by omega)).trans hset_eq) (by omega) rfl ?_
          refine J_iload_n dX3_tell_84 rfl ?_
          refine J_iconst (v := nI 1) dX3_tell_85 (by decide +kernel) ?_
          refine J_isubN dX3_tell_86 (by omega) ?_
          refine J_iastN (i := 2) (v := ((x / 1) % 10) - 1) dX3_tell_87 hset_eq (by omega) (by omega) (by omega) ?_
          refine J.cast hset_hset ?_
          refine J_aload_n dX3_tell_88 rfl ?_
          refine J_dup dX3_tell_89 rfl ?_
          refine J_get 3 dX3_tell_90 jk3 (Nat.le_of_ble_eq_true rfl) jfRX3_21 ((hset_ne (by omega)).trans hset_eq) (by omega) rfl ?_
          refine J_iconst (v := nI 1) dX3_tell_93 (by decide +kernel) ?_
          refine J_iaddN dX3_tell_94 ?_
          refine J.stk (st' := [.int (nI 3), .ref (E.1 + 30)]) rfl ?_
          refine J_put 3 dX3_tell_95 jk3 (Nat.le_of_ble_eq_true rfl) jfRX3_21 ((hset_ne (by omega)).trans hset_eq) (by omega) rfl rfl rfl (Nat.le_of_ble_eq_true rfl) ?_
          refine J.cast (h' := (hset (hset (hset h 30 (.inr (2, [.ref (E.1 + 31), .ref (E.1 + 32), .ref (E.1 + 33), .int (nI 2), .int (nI lb), .int (nI le)]))) 31 (cI E 4 (nF (updN (updN (updN T 0 (((x / 100) % 10) - 1)) 1 (((x / 10) % 10) - 1)) 2 (((x / 1) % 10) - 1))))) 30 (.inr (2, [.ref (E.1 + 31), .ref (E.1 + 32), .ref (E.1 + 33), .int (nI 3), .int (nI lb), .int (nI le)])))) rfl ?_
          refine J.cast ((hset_comm (by omega)).trans (hset_cg hset_hset rfl)) ?_
          refine J_iload_n dX3_tell_98 rfl ?_
          refine J_bipush (v := nI 10) dX3_tell_99 (by decide +kernel) ?_
          refine J_idivN dX3_tell_101 (by omega) (by omega) (by omega) ?_
          refine J.stk (st' := [.int (nI 0)]) rfl ?_
          refine J_istore_n dX3_tell_102 (Nat.le_of_ble_eq_true rfl) (L' := [(2, .int (nI 0)), (4, .int (nI 0)), (3, .int (nI ((x / 1) % 10))), (0, .ref (E.1 + 30)), (1, .int (nI x))]) rfl ?_
          refine J_goto (tgt := 22) dX3_tell_103 (by decide) ?_
          refine J_iload_n dX3_tell_22 rfl ?_
          refine J_if_leN (tgt := 106) dX3_tell_23 (by decide) (by omega) (fun _ => ?_) (fun z => absurd z (by decide))
          refine J_iconst (v := nI 1) dX3_tell_106 (by decide +kernel) ?_
          exact J_zret dX3_tell_107 rfl rfl ⟨Nat.le_refl _, Nat.le_refl _⟩ (by rw [hPP]; exact ⟨rfl, rfl, (updN (updN (updN T 0 (((x / 100) % 10) - 1)) 1 (((x / 10) % 10) - 1)) 2 (((x / 1) % 10) - 1)), (hset_cg (hset_cg rfl (congrArg (fun z => (Sum.inr (2, z) : va_E)) (jS_c rfl (jS_c rfl (jS_c rfl (jS_c (jv_N (by first | rfl | (unfold ndig; (repeat' split) <;> omega))) (jS_c rfl (jS_c rfl rfl)))))))) rfl), (by first | exact tell_4 (by unfold ndig; (repeat' split) <;> omega) rfl rfl rfl rfl | exact tell_3 (by unfold ndig; (repeat' split) <;> omega) rfl rfl rfl | exact tell_2 (by unfold ndig; (repeat' split) <;> omega) rfl rfl | exact tell_1 (by unfold ndig; (repeat' split) <;> omega) rfl | exact tell_0 (by unfold ndig; (repeat' split) <;> omega))⟩)
        · skip
          refine J_aload_n dX3_tell_37 rfl ?_
          refine J_get 3 dX3_tell_38 jk3 (Nat.le_of_ble_eq_true rfl) jfRX3_21 ((hset_ne (by omega)).trans hset_eq) (by omega) rfl ?_
          refine J_if_neN (tgt := 48) dX3_tell_41 (by decide) (by omega) (fun _ => ?_) (fun z => absurd z (by decide))
          refine J_iconst (v := nI 0) dX3_tell_48 (by decide +kernel) ?_
          refine J_istore dX3_tell_49 (Nat.le_of_ble_eq_true rfl) (L' := [(4, .int (nI 0)), (3, .int (nI ((x / 1) % 10))), (2, .int (nI 1)), (0, .ref (E.1 + 30)), (1, .int (nI x))]) rfl ?_
          refine J_iload dX3_tell_51 rfl ?_
          refine J_if_neN (tgt := 98) dX3_tell_53 (by decide) (by omega) (fun z => absurd z (by decide)) (fun _ => ?_)
          refine J_iload_n dX3_tell_56 rfl ?_
          refine J_iconst (v := nI 1) dX3_tell_57 (by decide +kernel) ?_
          refine J_icmp_ltN (tgt := 74) dX3_tell_58 (by decide) (by omega) (by omega) (fun c116 => (by exfalso; omega)) (fun c116 => ?_)
          refine J_iload_n dX3_tell_61 rfl ?_
          refine J_iconst (v := nI 4) dX3_tell_62 (by decide +kernel) ?_
          refine J_icmp_gtN (tgt := 74) dX3_tell_63 (by decide) (by omega) (by omega) (fun c117 => (by exfalso; omega)) (fun c117 => ?_)
          refine J_aload_n dX3_tell_66 rfl ?_
          refine J_get 3 dX3_tell_67 jk3 (Nat.le_of_ble_eq_true rfl) jfRX3_21 ((hset_ne (by omega)).trans hset_eq) (by omega) rfl ?_
          refine J_iconst (v := nI 4) dX3_tell_70 (by decide +kernel) ?_
          refine J_icmp_ltN (tgt := 76) dX3_tell_71 (by decide) (by omega) (by omega) (fun _ => ?_) (fun z => absurd z (by decide))
          refine J_aload_n dX3_tell_76 rfl ?_
          refine J_get 0 dX3_tell_77 jk3 (Nat.le_of_ble_eq_true rfl) jfRX3_11 ((hset_ne (by omega)).trans hset_eq) (by omega) rfl ?_
          refine J_aload_n dX3_tell_80 rfl ?_
          refine J_get 3 dX3_tell_81 jk3 (Nat.le_of_ble_eq_true rfl) jfRX3_21 ((hset_ne (by omega)).trans hset_eq) (by omega) rfl ?_
          refine J_iload_n dX3_tell_84 rfl ?_
          refine J_iconst (v := nI 1) dX3_tell_85 (by decide +kernel) ?_
          refine J_isubN dX3_tell_86 (by omega) ?_
          refine J_iastN (i := 2) (v := ((x / 1) % 10) - 1) dX3_tell_87 hset_eq (by omega) (by omega) (by omega) ?_
          refine J.cast hset_hset ?_
          refine J_aload_n dX3_tell_88 rfl ?_
          refine J_dup dX3_tell_89 rfl ?_
          refine J_get 3 dX3_tell_90 jk3 (Nat.le_of_ble_eq_true rfl) jfRX3_21 ((hset_ne (by omega)).trans hset_eq) (by omega) rfl ?_
          refine J_iconst (v := nI 1) dX3_tell_93 (by decide +kernel) ?_
          refine J_iaddN dX3_tell_94 ?_
          refine J.stk (st' := [.int (nI 3), .ref (E.1 + 30)]) rfl ?_
          refine J_put 3 dX3_tell_95 jk3 (Nat.le_of_ble_eq_true rfl) jfRX3_21 ((hset_ne (by omega)).trans hset_eq) (by omega) rfl rfl rfl (Nat.le_of_ble_eq_true rfl) ?_
          refine J.cast (h' := (hset (hset (hset h 30 (.inr (2, [.ref (E.1 + 31), .ref (E.1 + 32), .ref (E.1 + 33), .int (nI 2), .int (nI lb), .int (nI le)]))) 31 (cI E 4 (nF (updN (updN (updN T 0 (((x / 100) % 10) - 1)) 1 (((x / 10) % 10) - 1)) 2 (((x / 1) % 10) - 1))))) 30 (.inr (2, [.ref (E.1 + 31), .ref (E.1 + 32), .ref (E.1 + 33), .int (nI 3), .int (nI lb), .int (nI le)])))) rfl ?_
          refine J.cast ((hset_comm (by omega)).trans (hset_cg hset_hset rfl)) ?_
          refine J_iload_n dX3_tell_98 rfl ?_
          refine J_bipush (v := nI 10) dX3_tell_99 (by decide +kernel) ?_
          refine J_idivN dX3_tell_101 (by omega) (by omega) (by omega) ?_
          refine J.stk (st' := [.int (nI 0)]) rfl ?_
          refine J_istore_n dX3_tell_102 (Nat.le_of_ble_eq_true rfl) (L' := [(2, .int (nI 0)), (4, .int (nI 0)), (3, .int (nI ((x / 1) % 10))), (0, .ref (E.1 + 30)), (1, .int (nI x))]) rfl ?_
          refine J_goto (tgt := 22) dX3_tell_103 (by decide) ?_
          refine J_iload_n dX3_tell_22 rfl ?_
          refine J_if_leN (tgt := 106) dX3_tell_23 (by decide) (by omega) (fun _ => ?_) (fun z => absurd z (by decide))
          refine J_iconst (v := nI 1) dX3_tell_106 (by decide +kernel) ?_
          exact J_zret dX3_tell_107 rfl rfl ⟨Nat.le_refl _, Nat.le_refl _⟩ (by rw [hPP]; exact ⟨rfl, rfl, (updN (updN (updN T 0 (((x / 100) % 10) - 1)) 1 (((x / 10) % 10) - 1)) 2 (((x / 1) % 10) - 1)), (hset_cg (hset_cg rfl (congrArg (fun z => (Sum.inr (2, z) : va_E)) (jS_c rfl (jS_c rfl (jS_c rfl (jS_c (jv_N (by first | rfl | (unfold ndig; (repeat' split) <;> omega))) (jS_c rfl (jS_c rfl rfl)))))))) rfl), (by first | exact tell_4 (by unfold ndig; (repeat' split) <;> omega) rfl rfl rfl rfl | exact tell_3 (by unfold ndig; (repeat' split) <;> omega) rfl rfl rfl | exact tell_2 (by unfold ndig; (repeat' split) <;> omega) rfl rfl | exact tell_1 (by unfold ndig; (repeat' split) <;> omega) rfl | exact tell_0 (by unfold ndig; (repeat' split) <;> omega))⟩)
      · skip
        refine J_aload_n dX3_tell_37 rfl ?_
        refine J_get 3 dX3_tell_38 jk3 (Nat.le_of_ble_eq_true rfl) jfRX3_21 ((hset_ne (by omega)).trans hset_eq) (by omega) rfl ?_
        refine J_if_neN (tgt := 48) dX3_tell_41 (by decide) (by omega) (fun _ => ?_) (fun z => absurd z (by decide))
        refine J_iconst (v := nI 0) dX3_tell_48 (by decide +kernel) ?_
        refine J_istore dX3_tell_49 (Nat.le_of_ble_eq_true rfl) (L' := [(4, .int (nI 0)), (3, .int (nI ((x / 10) % 10))), (2, .int (nI 10)), (0, .ref (E.1 + 30)), (1, .int (nI x))]) rfl ?_
        refine J_iload dX3_tell_51 rfl ?_
        refine J_if_neN (tgt := 98) dX3_tell_53 (by decide) (by omega) (fun z => absurd z (by decide)) (fun _ => ?_)
        refine J_iload_n dX3_tell_56 rfl ?_
        refine J_iconst (v := nI 1) dX3_tell_57 (by decide +kernel) ?_
        refine J_icmp_ltN (tgt := 74) dX3_tell_58 (by decide) (by omega) (by omega) (fun c122 => (by exfalso; omega)) (fun c122 => ?_)
        refine J_iload_n dX3_tell_61 rfl ?_
        refine J_iconst (v := nI 4) dX3_tell_62 (by decide +kernel) ?_
        refine J_icmp_gtN (tgt := 74) dX3_tell_63 (by decide) (by omega) (by omega) (fun c123 => (by exfalso; omega)) (fun c123 => ?_)
        refine J_aload_n dX3_tell_66 rfl ?_
        refine J_get 3 dX3_tell_67 jk3 (Nat.le_of_ble_eq_true rfl) jfRX3_21 ((hset_ne (by omega)).trans hset_eq) (by omega) rfl ?_
        refine J_iconst (v := nI 4) dX3_tell_70 (by decide +kernel) ?_
        refine J_icmp_ltN (tgt := 76) dX3_tell_71 (by decide) (by omega) (by omega) (fun _ => ?_) (fun z => absurd z (by decide))
        refine J_aload_n dX3_tell_76 rfl ?_
        refine J_get 0 dX3_tell_77 jk3 (Nat.le_of_ble_eq_true rfl) jfRX3_11 ((hset_ne (by omega)).trans hset_eq) (by omega) rfl ?_
        refine J_aload_n dX3_tell_80 rfl ?_
        refine J_get 3 dX3_tell_81 jk3 (Nat.le_of_ble_eq_true rfl) jfRX3_21 ((hset_ne (by omega)).trans hset_eq) (by omega) rfl ?_
        refine J_iload_n dX3_tell_84 rfl ?_
        refine J_iconst (v := nI 1) dX3_tell_85 (by decide +kernel) ?_
        refine J_isubN dX3_tell_86 (by omega) ?_
        refine J_iastN (i := 1) (v := ((x / 10) % 10) - 1) dX3_tell_87 hset_eq (by omega) (by omega) (by omega) ?_
        refine J.cast hset_hset ?_
        refine J_aload_n dX3_tell_88 rfl ?_
        refine J_dup dX3_tell_89 rfl ?_
        refine J_get 3 dX3_tell_90 jk3 (Nat.le_of_ble_eq_true rfl) jfRX3_21 ((hset_ne (by omega)).trans hset_eq) (by omega) rfl ?_
        refine J_iconst (v := nI 1) dX3_tell_93 (by decide +kernel) ?_
        refine J_iaddN dX3_tell_94 ?_
        refine J.stk (st' := [.int (nI 2), .ref (E.1 + 30)]) rfl ?_
        refine J_put 3 dX3_tell_95 jk3 (Nat.le_of_ble_eq_true rfl) jfRX3_21 ((hset_ne (by omega)).trans hset_eq) (by omega) rfl rfl rfl (Nat.le_of_ble_eq_true rfl) ?_
        refine J.cast (h' := (hset (hset (hset h 30 (.inr (2, [.ref (E.1 + 31), .ref (E.1 + 32), .ref (E.1 + 33), .int (nI 1), .int (nI lb), .int (nI le)]))) 31 (cI E 4 (nF (updN (updN T 0 (((x / 100) % 10) - 1)) 1 (((x / 10) % 10) - 1))))) 30 (.inr (2, [.ref (E.1 + 31), .ref (E.1 + 32), .ref (E.1 + 33), .int (nI 2), .int (nI lb), .int (nI le)])))) rfl ?_
        refine J.cast ((hset_comm (by omega)).trans (hset_cg hset_hset rfl)) ?_
        refine J_iload_n dX3_tell_98 rfl ?_
        refine J_bipush (v := nI 10) dX3_tell_99 (by decide +kernel) ?_
        refine J_idivN dX3_tell_101 (by omega) (by omega) (by omega) ?_
        refine J.stk (st' := [.int (nI 1)]) rfl ?_
        refine J_istore_n dX3_tell_102 (Nat.le_of_ble_eq_true rfl) (L' := [(2, .int (nI 1)), (4, .int (nI 0)), (3, .int (nI ((x / 10) % 10))), (0, .ref (E.1 + 30)), (1, .int (nI x))]) rfl ?_
        refine J_goto (tgt := 22) dX3_tell_103 (by decide) ?_
        refine J_iload_n dX3_tell_22 rfl ?_
        refine J_if_leN (tgt := 106) dX3_tell_23 (by decide) (by omega) (fun z => absurd z (by decide)) (fun _ => ?_)
        refine J_iload_n dX3_tell_26 rfl ?_
        refine J_iload_n dX3_tell_27 rfl ?_
        refine J_idivN dX3_tell_28 (by omega) (by omega) (by omega) ?_
        refine J_bipush (v := nI 10) dX3_tell_29 (by decide +kernel) ?_
        refine J_iremN dX3_tell_31 (by omega) (by omega) (by omega) ?_
        refine J_istore_n dX3_tell_32 (Nat.le_of_ble_eq_true rfl) (L' := [(3, .int (nI ((x / 1) % 10))), (2, .int (nI 1)), (4, .int (nI 0)), (0, .ref (E.1 + 30)), (1, .int (nI x))]) rfl ?_
        refine J_iload_n dX3_tell_33 rfl ?_
        refine J_if_neN (tgt := 48) dX3_tell_34 (by decide) (by omega) (fun c126 => ?_) (fun c126 => ?_)
        · skip
          refine J_iconst (v := nI 0) dX3_tell_48 (by decide +kernel) ?_
          refine J_istore dX3_tell_49 (Nat.le_of_ble_eq_true rfl) (L' := [(4, .int (nI 0)), (3, .int (nI ((x / 1) % 10))), (2, .int (nI 1)), (0, .ref (E.1 + 30)), (1, .int (nI x))]) rfl ?_
          refine J_iload dX3_tell_51 rfl ?_
          refine J_if_neN (tgt := 98) dX3_tell_53 (by decide) (by omega) (fun z => absurd z (by decide)) (fun _ => ?_)
          refine J_iload_n dX3_tell_56 rfl ?_
          refine J_iconst (v := nI 1) dX3_tell_57 (by decide +kernel) ?_
          refine J_icmp_ltN (tgt := 74) dX3_tell_58 (by decide) (by omega) (by omega) (fun c128 => (by exfalso; omega)) (fun c128 => ?_)
          refine J_iload_n dX3_tell_61 rfl ?_
          refine J_iconst (v := nI 4) dX3_tell_62 (by decide +kernel) ?_
          refine J_icmp_gtN (tgt := 74) dX3_tell_63 (by decide) (by omega) (by omega) (fun c129 => (by exfalso; omega)) (fun c129 => ?_)
          refine J_aload_n dX3_tell_66 rfl ?_
          refine J_get 3 dX3_tell_67 jk3 (Nat.le_of_ble_eq_true rfl) jfRX3_21 ((hset_ne (by omega)).trans hset_eq) (by omega) rfl ?_
          refine J_iconst (v := nI 4) dX3_tell_70 (by decide +kernel) ?_
          refine J_icmp_ltN (tgt := 76) dX3_tell_71 (by decide) (by omega) (by omega) (fun _ => ?_) (fun z => absurd z (by decide))
          refine J_aload_n dX3_tell_76 rfl ?_
          refine J_get 0 dX3_tell_77 jk3 (Nat.le_of_ble_eq_true rfl) jfRX3_11 ((hset_ne (by omega)).trans hset_eq) (by omega) rfl ?_
          refine J_aload_n dX3_tell_80 rfl ?_
          refine J_get 3 dX3_tell_81 jk3 (Nat.le_of_ble_eq_true rfl) jfRX3_21 ((hset_ne (by omega)).trans hset_eq) (by omega) rfl ?_
          refine J_iload_n dX3_tell_84 rfl ?_
          refine J_iconst (v := nI 1) dX3_tell_85 (by decide +kernel) ?_
          refine J_isubN dX3_tell_86 (by omega) ?_
          refine J_iastN (i := 2) (v := ((x / 1) % 10) - 1) dX3_tell_87 hset_eq (by omega) (by omega) (by omega) ?_
          refine J.cast hset_hset ?_
          refine J_aload_n dX3_tell_88 rfl ?_
          refine J_dup dX3_tell_89 rfl ?_
          refine J_get 3 dX3_tell_90 jk3 (Nat.le_of_ble_eq_true rfl) jfRX3_21 ((hset_ne (by omega)).trans hset_eq) (by omega) rfl ?_
          refine J_iconst (v := nI 1) dX3_tell_93 (by decide +kernel) ?_
          refine J_iaddN dX3_tell_94 ?_
          refine J.stk (st' := [.int (nI 3), .ref (E.1 + 30)]) rfl ?_
          refine J_put 3 dX3_tell_95 jk3 (Nat.le_of_ble_eq_true rfl) jfRX3_21 ((hset_ne (by omega)).trans hset_eq) (by omega) rfl rfl rfl (Nat.le_of_ble_eq_true rfl) ?_
          refine J.cast (h' := (hset (hset (hset h 30 (.inr (2, [.ref (E.1 + 31), .ref (E.1 + 32), .ref (E.1 + 33), .int (nI 2), .int (nI lb), .int (nI le)]))) 31 (cI E 4 (nF (updN (updN (updN T 0 (((x / 100) % 10) - 1)) 1 (((x / 10) % 10) - 1)) 2 (((x / 1) % 10) - 1))))) 30 (.inr (2, [.ref (E.1 + 31), .ref (E.1 + 32), .ref (E.1 + 33), .int (nI 3), .int (nI lb), .int (nI le)])))) rfl ?_
          refine J.cast ((hset_comm (by omega)).trans (hset_cg hset_hset rfl)) ?_
          refine J_iload_n dX3_tell_98 rfl ?_
          refine J_bipush (v := nI 10) dX3_tell_99 (by decide +kernel) ?_
          refine J_idivN dX3_tell_101 (by omega) (by omega) (by omega) ?_
          refine J.stk (st' := [.int (nI 0)]) rfl ?_
          refine J_istore_n dX3_tell_102 (Nat.le_of_ble_eq_true rfl) (L' := [(2, .int (nI 0)), (4, .int (nI 0)), (3, .int (nI ((x / 1) % 10))), (0, .ref (E.1 + 30)), (1, .int (nI x))]) rfl ?_
          refine J_goto (tgt := 22) dX3_tell_103 (by decide) ?_
          refine J_iload_n dX3_tell_22 rfl ?_
          refine J_if_leN (tgt := 106) dX3_tell_23 (by decide) (by omega) (fun _ => ?_) (fun z => absurd z (by decide))
          refine J_iconst (v := nI 1) dX3_tell_106 (by decide +kernel) ?_
          exact J_zret dX3_tell_107 rfl rfl ⟨Nat.le_refl _, Nat.le_refl _⟩ (by rw [hPP]; exact ⟨rfl, rfl, (updN (updN (updN T 0 (((x / 100) % 10) - 1)) 1 (((x / 10) % 10) - 1)) 2 (((x / 1) % 10) - 1)), (hset_cg (hset_cg rfl (congrArg (fun z => (Sum.inr (2, z) : va_E)) (jS_c rfl (jS_c rfl (jS_c rfl (jS_c (jv_N (by first | rfl | (unfold ndig; (repeat' split) <;> omega))) (jS_c rfl (jS_c rfl rfl)))))))) rfl), (by first | exact tell_4 (by unfold ndig; (repeat' split) <;> omega) rfl rfl rfl rfl | exact tell_3 (by unfold ndig; (repeat' split) <;> omega) rfl rfl rfl | exact tell_2 (by unfold ndig; (repeat' split) <;> omega) rfl rfl | exact tell_1 (by unfold ndig; (repeat' split) <;> omega) rfl | exact tell_0 (by unfold ndig; (repeat' split) <;> omega))⟩)
        · skip
          refine J_aload_n dX3_tell_37 rfl ?_
          refine J_get 3 dX3_tell_38 jk3 (Nat.le_of_ble_eq_true rfl) jfRX3_21 ((hset_ne (by omega)).trans hset_eq) (by omega) rfl ?_
          refine J_if_neN (tgt := 48) dX3_tell_41 (by decide) (by omega) (fun _ => ?_) (fun z => absurd z (by decide))
          refine J_iconst (v := nI 0) dX3_tell_48 (by decide +kernel) ?_
          refine J_istore dX3_tell_49 (Nat.le_of_ble_eq_true rfl) (L' := [(4, .int (nI 0)), (3, .int (nI ((x / 1) % 10))), (2, .int (nI 1)), (0, .ref (E.1 + 30)), (1, .int (nI x))]) rfl ?_
          refine J_iload dX3_tell_51 rfl ?_
          refine J_if_neN (tgt := 98) dX3_tell_53 (by decide) (by omega) (fun z => absurd z (by decide)) (fun _ => ?_)
          refine J_iload_n dX3_tell_56 rfl ?_
          refine J_iconst (v := nI 1) dX3_tell_57 (by decide +kernel) ?_
          refine J_icmp_ltN (tgt := 74) dX3_tell_58 (by decide) (by omega) (by omega) (fun c134 => (by exfalso; omega)) (fun c134 => ?_)
          refine J_iload_n dX3_tell_61 rfl ?_
          refine J_iconst (v := nI 4) dX3_tell_62 (by decide +kernel) ?_
          refine J_icmp_gtN (tgt := 74) dX3_tell_63 (by decide) (by omega) (by omega) (fun c135 => (by exfalso; omega)) (fun c135 => ?_)
          refine J_aload_n dX3_tell_66 rfl ?_
          refine J_get 3 dX3_tell_67 jk3 (Nat.le_of_ble_eq_true rfl) jfRX3_21 ((hset_ne (by omega)).trans hset_eq) (by omega) rfl ?_
          refine J_iconst (v := nI 4) dX3_tell_70 (by decide +kernel) ?_
          refine J_icmp_ltN (tgt := 76) dX3_tell_71 (by decide) (by omega) (by omega) (fun _ => ?_) (fun z => absurd z (by decide))
          refine J_aload_n dX3_tell_76 rfl ?_
          refine J_get 0 dX3_tell_77 jk3 (Nat.le_of_ble_eq_true rfl) jfRX3_11 ((hset_ne (by omega)).trans hset_eq) (by omega) rfl ?_
          refine J_aload_n dX3_tell_80 rfl ?_
          refine J_get 3 dX3_tell_81 jk3 (Nat.le_of_ble_eq_true rfl) jfRX3_21 ((hset_ne (by omega)).trans hset_eq) (by omega) rfl ?_
          refine J_iload_n dX3_tell_84 rfl ?_
          refine J_iconst (v := nI 1) dX3_tell_85 (by decide +kernel) ?_
          refine J_isubN dX3_tell_86 (by omega) ?_
          refine J_iastN (i := 2) (v := ((x / 1) % 10) - 1) dX3_tell_87 hset_eq (by omega) (by omega) (by omega) ?_
          refine J.cast hset_hset ?_
          refine J_aload_n dX3_tell_88 rfl ?_
          refine J_dup dX3_tell_89 rfl ?_
          refine J_get 3 dX3_tell_90 jk3 (Nat.le_of_ble_eq_true rfl) jfRX3_21 ((hset_ne (by omega)).trans hset_eq) (by omega) rfl ?_
          refine J_iconst (v := nI 1) dX3_tell_93 (by decide +kernel) ?_
          refine J_iaddN dX3_tell_94 ?_
          refine J.stk (st' := [.int (nI 3), .ref (E.1 + 30)]) rfl ?_
          refine J_put 3 dX3_tell_95 jk3 (Nat.le_of_ble_eq_true rfl) jfRX3_21 ((hset_ne (by omega)).trans hset_eq) (by omega) rfl rfl rfl (Nat.le_of_ble_eq_true rfl) ?_
          refine J.cast (h' := (hset (hset (hset h 30 (.inr (2, [.ref (E.1 + 31), .ref (E.1 + 32), .ref (E.1 + 33), .int (nI 2), .int (nI lb), .int (nI le)]))) 31 (cI E 4 (nF (updN (updN (updN T 0 (((x / 100) % 10) - 1)) 1 (((x / 10) % 10) - 1)) 2 (((x / 1) % 10) - 1))))) 30 (.inr (2, [.ref (E.1 + 31), .ref (E.1 + 32), .ref (E.1 + 33), .int (nI 3), .int (nI lb), .int (nI le)])))) rfl ?_
          refine J.cast ((hset_comm (by omega)).trans (hset_cg hset_hset rfl)) ?_
          refine J_iload_n dX3_tell_98 rfl ?_
          refine J_bipush (v := nI 10) dX3_tell_99 (by decide +kernel) ?_
          refine J_idivN dX3_tell_101 (by omega) (by omega) (by omega) ?_
          refine J.stk (st' := [.int (nI 0)]) rfl ?_
          refine J_istore_n dX3_tell_102 (Nat.le_of_ble_eq_true rfl) (L' := [(2, .int (nI 0)), (4, .int (nI 0)), (3, .int (nI ((x / 1) % 10))), (0, .ref (E.1 + 30)), (1, .int (nI x))]) rfl ?_
          refine J_goto (tgt := 22) dX3_tell_103 (by decide) ?_
          refine J_iload_n dX3_tell_22 rfl ?_
          refine J_if_leN (tgt := 106) dX3_tell_23 (by decide) (by omega) (fun _ => ?_) (fun z => absurd z (by decide))
          refine J_iconst (v := nI 1) dX3_tell_106 (by decide +kernel) ?_
          exact J_zret dX3_tell_107 rfl rfl ⟨Nat.le_refl _, Nat.le_refl _⟩ (by rw [hPP]; exact ⟨rfl, rfl, (updN (updN (updN T 0 (((x / 100) % 10) - 1)) 1 (((x / 10) % 10) - 1)) 2 (((x / 1) % 10) - 1)), (hset_cg (hset_cg rfl (congrArg (fun z => (Sum.inr (2, z) : va_E)) (jS_c rfl (jS_c rfl (jS_c rfl (jS_c (jv_N (by first | rfl | (unfold ndig; (repeat' split) <;> omega))) (jS_c rfl (jS_c rfl rfl)))))))) rfl), (by first | exact tell_4 (by unfold ndig; (repeat' split) <;> omega) rfl rfl rfl rfl | exact tell_3 (by unfold ndig; (repeat' split) <;> omega) rfl rfl rfl | exact tell_2 (by unfold ndig; (repeat' split) <;> omega) rfl rfl | exact tell_1 (by unfold ndig; (repeat' split) <;> omega) rfl | exact tell_0 (by unfold ndig; (repeat' split) <;> omega))⟩)
    · skip
      refine J_aload_n dX3_tell_37 rfl ?_
      refine J_get 3 dX3_tell_38 jk3 (Nat.le_of_ble_eq_true rfl) jfRX3_21 hset_eq (by omega) rfl ?_
      refine J_if_neN (tgt := 48) dX3_tell_41 (by decide) (by omega) (fun z => absurd z (by decide)) (fun _ => ?_)
      refine J_iconst (v := nI 1) dX3_tell_44 (by decide +kernel) ?_
      refine J_goto (tgt := 49) dX3_tell_45 (by decide) ?_
      refine J_istore dX3_tell_49 (Nat.le_of_ble_eq_true rfl) (L' := [(4, .int (nI 1)), (3, .int (nI ((x / 100) % 10))), (2, .int (nI 100)), (0, .ref (E.1 + 30)), (1, .int (nI x))]) rfl ?_
      refine J_iload dX3_tell_51 rfl ?_
      refine J_if_neN (tgt := 98) dX3_tell_53 (by decide) (by omega) (fun _ => ?_) (fun z => absurd z (by decide))
      refine J_iload_n dX3_tell_98 rfl ?_
      refine J_bipush (v := nI 10) dX3_tell_99 (by decide +kernel) ?_
      refine J_idivN dX3_tell_101 (by omega) (by omega) (by omega) ?_
      refine J.stk (st' := [.int (nI 10)]) rfl ?_
      refine J_istore_n dX3_tell_102 (Nat.le_of_ble_eq_true rfl) (L' := [(2, .int (nI 10)), (4, .int (nI 1)), (3, .int (nI ((x / 100) % 10))), (0, .ref (E.1 + 30)), (1, .int (nI x))]) rfl ?_
      refine J_goto (tgt := 22) dX3_tell_103 (by decide) ?_
      refine J_iload_n dX3_tell_22 rfl ?_
      refine J_if_leN (tgt := 106) dX3_tell_23 (by decide) (by omega) (fun z => absurd z (by decide)) (fun _ => ?_)
      refine J_iload_n dX3_tell_26 rfl ?_
      refine J_iload_n dX3_tell_27 rfl ?_
      refine J_idivN dX3_tell_28 (by omega) (by omega) (by omega) ?_
      refine J_bipush (v := nI 10) dX3_tell_29 (by decide +kernel) ?_
      refine J_iremN dX3_tell_31 (by omega) (by omega) (by omega) ?_
      refine J_istore_n dX3_tell_32 (Nat.le_of_ble_eq_true rfl) (L' := [(3, .int (nI ((x / 10) % 10))), (2, .int (nI 10)), (4, .int (nI 1)), (0, .ref (E.1 + 30)), (1, .int (nI x))]) rfl ?_
      refine J_iload_n dX3_tell_33 rfl ?_
      refine J_if_neN (tgt := 48) dX3_tell_34 (by decide) (by omega) (fun c141 => ?_) (fun c141 => ?_)
      · skip
        refine J_iconst (v := nI 0) dX3_tell_48 (by decide +kernel) ?_
        refine J_istore dX3_tell_49 (Nat.le_of_ble_eq_true rfl) (L' := [(4, .int (nI 0)), (3, .int (nI ((x / 10) % 10))), (2, .int (nI 10)), (0, .ref (E.1 + 30)), (1, .int (nI x))]) rfl ?_
        refine J_iload dX3_tell_51 rfl ?_
        refine J_if_neN (tgt := 98) dX3_tell_53 (by decide) (by omega) (fun z => absurd z (by decide)) (fun _ => ?_)
        refine J_iload_n dX3_tell_56 rfl ?_
        refine J_iconst (v := nI 1) dX3_tell_57 (by decide +kernel) ?_
        refine J_icmp_ltN (tgt := 74) dX3_tell_58 (by decide) (by omega) (by omega) (fun c143 => (by exfalso; omega)) (fun c143 => ?_)
        refine J_iload_n dX3_tell_61 rfl ?_
        refine J_iconst (v := nI 4) dX3_tell_62 (by decide +kernel) ?_
        refine J_icmp_gtN (tgt := 74) dX3_tell_63 (by decide) (by omega) (by omega) (fun c144 => (by exfalso; omega)) (fun c144 => ?_)
        refine J_aload_n dX3_tell_66 rfl ?_
        refine J_get 3 dX3_tell_67 jk3 (Nat.le_of_ble_eq_true rfl) jfRX3_21 hset_eq (by omega) rfl ?_
        refine J_iconst (v := nI 4) dX3_tell_70 (by decide +kernel) ?_
        refine J_icmp_ltN (tgt := 76) dX3_tell_71 (by decide) (by omega) (by omega) (fun _ => ?_) (fun z => absurd z (by decide))
        refine J_aload_n dX3_tell_76 rfl ?_
        refine J_get 0 dX3_tell_77 jk3 (Nat.le_of_ble_eq_true rfl) jfRX3_11 hset_eq (by omega) rfl ?_
        refine J_aload_n dX3_tell_80 rfl ?_
        refine J_get 3 dX3_tell_81 jk3 (Nat.le_of_ble_eq_true rfl) jfRX3_21 hset_eq (by omega) rfl ?_
        refine J_iload_n dX3_tell_84 rfl ?_
        refine J_iconst (v := nI 1) dX3_tell_85 (by decide +kernel) ?_
        refine J_isubN dX3_tell_86 (by omega) ?_
        refine J_iastN (i := 0) (v := ((x / 10) % 10) - 1) dX3_tell_87 ((hset_ne (by omega)).trans H1) (by omega) (by omega) (by omega) ?_
        refine J_aload_n dX3_tell_88 rfl ?_
        refine J_dup dX3_tell_89 rfl ?_
        refine J_get 3 dX3_tell_90 jk3 (Nat.le_of_ble_eq_true rfl) jfRX3_21 ((hset_ne (by omega)).trans hset_eq) (by omega) rfl ?_
        refine J_iconst (v := nI 1) dX3_tell_93 (by decide +kernel) ?_
        refine J_iaddN dX3_tell_94 ?_
        refine J.stk (st' := [.int (nI 1), .ref (E.1 + 30)]) rfl ?_
        refine J_put 3 dX3_tell_95 jk3 (Nat.le_of_ble_eq_true rfl) jfRX3_21 ((hset_ne (by omega)).trans hset_eq) (by omega) rfl rfl rfl (Nat.le_of_ble_eq_true rfl) ?_
        refine J.cast (h' := (hset (hset (hset h 30 (.inr (2, [.ref (E.1 + 31), .ref (E.1 + 32), .ref (E.1 + 33), .int (nI 0), .int (nI lb), .int (nI le)]))) 31 (cI E 4 (nF (updN T 0 (((x / 10) % 10) - 1))))) 30 (.inr (2, [.ref (E.1 + 31), .ref (E.1 + 32), .ref (E.1 + 33), .int (nI 1), .int (nI lb), .int (nI le)])))) rfl ?_
        refine J.cast ((hset_comm (by omega)).trans (hset_cg hset_hset rfl)) ?_
        refine J_iload_n dX3_tell_98 rfl ?_
        refine J_bipush (v := nI 10) dX3_tell_99 (by decide +kernel) ?_
        refine J_idivN dX3_tell_101 (by omega) (by omega) (by omega) ?_
        refine J.stk (st' := [.int (nI 1)]) rfl ?_
        refine J_istore_n dX3_tell_102 (Nat.le_of_ble_eq_true rfl) (L' := [(2, .int (nI 1)), (4, .int (nI 0)), (3, .int (nI ((x / 10) % 10))), (0, .ref (E.1 + 30)), (1, .int (nI x))]) rfl ?_
        refine J_goto (tgt := 22) dX3_tell_103 (by decide) ?_
        refine J_iload_n dX3_tell_22 rfl ?_
        refine J_if_leN (tgt := 106) dX3_tell_23 (by decide) (by omega) (fun z => absurd z (by decide)) (fun _ => ?_)
        refine J_iload_n dX3_tell_26 rfl ?_
        refine J_iload_n dX3_tell_27 rfl ?_
        refine J_idivN dX3_tell_28 (by omega) (by omega) (by omega) ?_
        refine J_bipush (v := nI 10) dX3_tell_29 (by decide +kernel) ?_
        refine J_iremN dX3_tell_31 (by omega) (by omega) (by omega) ?_
        refine J_istore_n dX3_tell_32 (Nat.le_of_ble_eq_true rfl) (L' := [(3, .int (nI ((x / 1) % 10))), (2, .int (nI 1)), (4, .int (nI 0)), (0, .ref (E.1 + 30)), (1, .int (nI x))]) rfl ?_
        refine J_iload_n dX3_tell_33 rfl ?_
        refine J_if_neN (tgt := 48) dX3_tell_34 (by decide) (by omega) (fun c147 => ?_) (fun c147 => ?_)
        · skip
          refine J_iconst (v := nI 0) dX3_tell_48 (by decide +kernel) ?_
          refine J_istore dX3_tell_49 (Nat.le_of_ble_eq_true rfl) (L' := [(4, .int (nI 0)), (3, .int (nI ((x / 1) % 10))), (2, .int (nI 1)), (0, .ref (E.1 + 30)), (1, .int (nI x))]) rfl ?_
          refine J_iload dX3_tell_51 rfl ?_
          refine J_if_neN (tgt := 98) dX3_tell_53 (by decide) (by omega) (fun z => absurd z (by decide)) (fun _ => ?_)
          refine J_iload_n dX3_tell_56 rfl ?_
          refine J_iconst (v := nI 1) dX3_tell_57 (by decide +kernel) ?_
          refine J_icmp_ltN (tgt := 74) dX3_tell_58 (by decide) (by omega) (by omega) (fun c149 => (by exfalso; omega)) (fun c149 => ?_)
          refine J_iload_n dX3_tell_61 rfl ?_
          refine J_iconst (v := nI 4) dX3_tell_62 (by decide +kernel) ?_
          refine J_icmp_gtN (tgt := 74) dX3_tell_63 (by decide) (by omega) (by omega) (fun c150 => (by exfalso; omega)) (fun c150 => ?_)
          refine J_aload_n dX3_tell_66 rfl ?_
          refine J_get 3 dX3_tell_67 jk3 (Nat.le_of_ble_eq_true rfl) jfRX3_21 ((hset_ne (by omega)).trans hset_eq) (by omega) rfl ?_
          refine J_iconst (v := nI 4) dX3_tell_70 (by decide +kernel) ?_
          refine J_icmp_ltN (tgt := 76) dX3_tell_71 (by decide) (by omega) (by omega) (fun _ => ?_) (fun z => absurd z (by decide))
          refine J_aload_n dX3_tell_76 rfl ?_
          refine J_get 0 dX3_tell_77 jk3 (Nat.le_of_ble_eq_true rfl) jfRX3_11 ((hset_ne (by omega)).trans hset_eq) (by omega) rfl ?_
          refine J_aload_n dX3_tell_80 rfl ?_
          refine J_get 3 dX3_tell_81 jk3 (Nat.le_of_ble_eq_true rfl) jfRX3_21 ((hset_ne (by omega)).trans hset_eq) (by omega) rfl ?_
          refine J_iload_n dX3_tell_84 rfl ?_
          refine J_iconst (v := nI 1) dX3_tell_85 (by decide +kernel) ?_
          refine J_isubN dX3_tell_86 (by omega) ?_
          refine J_iastN (i := 1) (v := ((x / 1) % 10) - 1) dX3_tell_87 hset_eq (by omega) (by omega) (by omega) ?_
          refine J.cast hset_hset ?_
          refine J_aload_n dX3_tell_88 rfl ?_
          refine J_dup dX3_tell_89 rfl ?_
          refine J_get 3 dX3_tell_90 jk3 (Nat.le_of_ble_eq_true rfl) jfRX3_21 ((hset_ne (by omega)).trans hset_eq) (by omega) rfl ?_
          refine J_iconst (v := nI 1) dX3_tell_93 (by decide +kernel) ?_
          refine J_iaddN dX3_tell_94 ?_
          refine J.stk (st' := [.int (nI 2), .ref (E.1 + 30)]) rfl ?_
          refine J_put 3 dX3_tell_95 jk3 (Nat.le_of_ble_eq_true rfl) jfRX3_21 ((hset_ne (by omega)).trans hset_eq) (by omega) rfl rfl rfl (Nat.le_of_ble_eq_true rfl) ?_
          refine J.cast (h' := (hset (hset (hset h 30 (.inr (2, [.ref (E.1 + 31), .ref (E.1 + 32), .ref (E.1 + 33), .int (nI 1), .int (nI lb), .int (nI le)]))) 31 (cI E 4 (nF (updN (updN T 0 (((x / 10) % 10) - 1)) 1 (((x / 1) % 10) - 1))))) 30 (.inr (2, [.ref (E.1 + 31), .ref (E.1 + 32), .ref (E.1 + 33), .int (nI 2), .int (nI lb), .int (nI le)])))) rfl ?_
          refine J.cast ((hset_comm (by omega)).trans (hset_cg hset_hset rfl)) ?_
          refine J_iload_n dX3_tell_98 rfl ?_
          refine J_bipush (v := nI 10) dX3_tell_99 (by decide +kernel) ?_
          refine J_idivN dX3_tell_101 (by omega) (by omega) (by omega) ?_
          refine J.stk (st' := [.int (nI 0)]) rfl ?_
          refine J_istore_n dX3_tell_102 (Nat.le_of_ble_eq_true rfl) (L' := [(2, .int (nI 0)), (4, .int (nI 0)), (3, .int (nI ((x / 1) % 10))), (0, .ref (E.1 + 30)), (1, .int (nI x))]) rfl ?_
          refine J_goto (tgt := 22) dX3_tell_103 (by decide) ?_
          refine J_iload_n dX3_tell_22 rfl ?_
          refine J_if_leN (tgt := 106) dX3_tell_23 (by decide) (by omega) (fun _ => ?_) (fun z => absurd z (by decide))
          refine J_iconst (v := nI 1) dX3_tell_106 (by decide +kernel) ?_
          exact J_zret dX3_tell_107 rfl rfl ⟨Nat.le_refl _, Nat.le_refl _⟩ (by rw [hPP]; exact ⟨rfl, rfl, (updN (updN T 0 (((x / 10) % 10) - 1)) 1 (((x / 1) % 10) - 1)), (hset_cg (hset_cg rfl (congrArg (fun z => (Sum.inr (2, z) : va_E)) (jS_c rfl (jS_c rfl (jS_c rfl (jS_c (jv_N (by first | rfl | (unfold ndig; (repeat' split) <;> omega))) (jS_c rfl (jS_c rfl rfl)))))))) rfl), (by first | exact tell_4 (by unfold ndig; (repeat' split) <;> omega) rfl rfl rfl rfl | exact tell_3 (by unfold ndig; (repeat' split) <;> omega) rfl rfl rfl | exact tell_2 (by unfold ndig; (repeat' split) <;> omega) rfl rfl | exact tell_1 (by unfold ndig; (repeat' split) <;> omega) rfl | exact tell_0 (by unfold ndig; (repeat' split) <;> omega))⟩)
        · skip
          refine J_aload_n dX3_tell_37 rfl ?_
          refine J_get 3 dX3_tell_38 jk3 (Nat.le_of_ble_eq_true rfl) jfRX3_21 ((hset_ne (by omega)).trans hset_eq) (by omega) rfl ?_
          refine J_if_neN (tgt := 48) dX3_tell_41 (by decide) (by omega) (fun _ => ?_) (fun z => absurd z (by decide))
          refine J_iconst (v := nI 0) dX3_tell_48 (by decide +kernel) ?_
          refine J_istore dX3_tell_49 (Nat.le_of_ble_eq_true rfl) (L' := [(4, .int (nI 0)), (3, .int (nI ((x / 1) % 10))), (2, .int (nI 1)), (0, .ref (E.1 + 30)), (1, .int (nI x))]) rfl ?_
          refine J_iload dX3_tell_51 rfl ?_
          refine J_if_neN (tgt := 98) dX3_tell_53 (by decide) (by omega) (fun z => absurd z (by decide)) (fun _ => ?_)
          refine J_iload_n dX3_tell_56 rfl ?_
          refine J_iconst (v := nI 1) dX3_tell_57 (by decide +kernel) ?_
          refine J_icmp_ltN (tgt := 74) dX3_tell_58 (by decide) (by omega) (by omega) (fun c155 => (by exfalso; omega)) (fun c155 => ?_)
          refine J_iload_n dX3_tell_61 rfl ?_
          refine J_iconst (v := nI 4) dX3_tell_62 (by decide +kernel) ?_
          refine J_icmp_gtN (tgt := 74) dX3_tell_63 (by decide) (by omega) (by omega) (fun c156 => (by exfalso; omega)) (fun c156 => ?_)
          refine J_aload_n dX3_tell_66 rfl ?_
          refine J_get 3 dX3_tell_67 jk3 (Nat.le_of_ble_eq_true rfl) jfRX3_21 ((hset_ne (by omega)).trans hset_eq) (by omega) rfl ?_
          refine J_iconst (v := nI 4) dX3_tell_70 (by decide +kernel) ?_
          refine J_icmp_ltN (tgt := 76) dX3_tell_71 (by decide) (by omega) (by omega) (fun _ => ?_) (fun z => absurd z (by decide))
          refine J_aload_n dX3_tell_76 rfl ?_
          refine J_get 0 dX3_tell_77 jk3 (Nat.le_of_ble_eq_true rfl) jfRX3_11 ((hset_ne (by omega)).trans hset_eq) (by omega) rfl ?_
          refine J_aload_n dX3_tell_80 rfl ?_
          refine J_get 3 dX3_tell_81 jk3 (Nat.le_of_ble_eq_true rfl) jfRX3_21 ((hset_ne (by omega)).trans hset_eq) (by omega) rfl ?_
          refine J_iload_n dX3_tell_84 rfl ?_
          refine J_iconst (v := nI 1) dX3_tell_85 (by decide +kernel) ?_
          refine J_isubN dX3_tell_86 (by omega) ?_
          refine J_iastN (i := 1) (v := ((x / 1) % 10) - 1) dX3_tell_87 hset_eq (by omega) (by omega) (by omega) ?_
          refine J.cast hset_hset ?_
          refine J_aload_n dX3_tell_88 rfl ?_
          refine J_dup dX3_tell_89 rfl ?_
          refine J_get 3 dX3_tell_90 jk3 (Nat.le_of_ble_eq_true rfl) jfRX3_21 ((hset_ne (by omega)).trans hset_eq) (by omega) rfl ?_
          refine J_iconst (v := nI 1) dX3_tell_93 (by decide +kernel) ?_
          refine J_iaddN dX3_tell_94 ?_
          refine J.stk (st' := [.int (nI 2), .ref (E.1 + 30)]) rfl ?_
          refine J_put 3 dX3_tell_95 jk3 (Nat.le_of_ble_eq_true rfl) jfRX3_21 ((hset_ne (by omega)).trans hset_eq) (by omega) rfl rfl rfl (Nat.le_of_ble_eq_true rfl) ?_
          refine J.cast (h' := (hset (hset (hset h 30 (.inr (2, [.ref (E.1 + 31), .ref (E.1 + 32), .ref (E.1 + 33), .int (nI 1), .int (nI lb), .int (nI le)]))) 31 (cI E 4 (nF (updN (updN T 0 (((x / 10) % 10) - 1)) 1 (((x / 1) % 10) - 1))))) 30 (.inr (2, [.ref (E.1 + 31), .ref (E.1 + 32), .ref (E.1 + 33), .int (nI 2), .int (nI lb), .int (nI le)])))) rfl ?_
          refine J.cast ((hset_comm (by omega)).trans (hset_cg hset_hset rfl)) ?_
          refine J_iload_n dX3_tell_98 rfl ?_
          refine J_bipush (v := nI 10) dX3_tell_99 (by decide +kernel) ?_
          refine J_idivN dX3_tell_101 (by omega) (by omega) (by omega) ?_
          refine J.stk (st' := [.int (nI 0)]) rfl ?_
          refine J_istore_n dX3_tell_102 (Nat.le_of_ble_eq_true rfl) (L' := [(2, .int (nI 0)), (4, .int (nI 0)), (3, .int (nI ((x / 1) % 10))), (0, .ref (E.1 + 30)), (1, .int (nI x))]) rfl ?_
          refine J_goto (tgt := 22) dX3_tell_103 (by decide) ?_
          refine J_iload_n dX3_tell_22 rfl ?_
          refine J_if_leN (tgt := 106) dX3_tell_23 (by decide) (by omega) (fun _ => ?_) (fun z => absurd z (by decide))
          refine J_iconst (v := nI 1) dX3_tell_106 (by decide +kernel) ?_
          exact J_zret dX3_tell_107 rfl rfl ⟨Nat.le_refl _, Nat.le_refl _⟩ (by rw [hPP]; exact ⟨rfl, rfl, (updN (updN T 0 (((x / 10) % 10) - 1)) 1 (((x / 1) % 10) - 1)), (hset_cg (hset_cg rfl (congrArg (fun z => (Sum.inr (2, z) : va_E)) (jS_c rfl (jS_c rfl (jS_c rfl (jS_c (jv_N (by first | rfl | (unfold ndig; (repeat' split) <;> omega))) (jS_c rfl (jS_c rfl rfl)))))))) rfl), (by first | exact tell_4 (by unfold ndig; (repeat' split) <;> omega) rfl rfl rfl rfl | exact tell_3 (by unfold ndig; (repeat' split) <;> omega) rfl rfl rfl | exact tell_2 (by unfold ndig; (repeat' split) <;> omega) rfl rfl | exact tell_1 (by unfold ndig; (repeat' split) <;> omega) rfl | exact tell_0 (by unfold ndig; (repeat' split) <;> omega))⟩)
      · skip
        refine J_aload_n dX3_tell_37 rfl ?_
        refine J_get 3 dX3_tell_38 jk3 (Nat.le_of_ble_eq_true rfl) jfRX3_21 hset_eq (by omega) rfl ?_
        refine J_if_neN (tgt := 48) dX3_tell_41 (by decide) (by omega) (fun z => absurd z (by decide)) (fun _ => ?_)
        refine J_iconst (v := nI 1) dX3_tell_44 (by decide +kernel) ?_
        refine J_goto (tgt := 49) dX3_tell_45 (by decide) ?_
        refine J_istore dX3_tell_49 (Nat.le_of_ble_eq_true rfl) (L' := [(4, .int (nI 1)), (3, .int (nI ((x / 10) % 10))), (2, .int (nI 10)), (0, .ref (E.1 + 30)), (1, .int (nI x))]) rfl ?_
        refine J_iload dX3_tell_51 rfl ?_
        refine J_if_neN (tgt := 98) dX3_tell_53 (by decide) (by omega) (fun _ => ?_) (fun z => absurd z (by decide))
        refine J_iload_n dX3_tell_98 rfl ?_
        refine J_bipush (v := nI 10) dX3_tell_99 (by decide +kernel) ?_
        refine J_idivN dX3_tell_101 (by omega) (by omega) (by omega) ?_
        refine J.stk (st' := [.int (nI 1)]) rfl ?_
        refine J_istore_n dX3_tell_102 (Nat.le_of_ble_eq_true rfl) (L' := [(2, .int (nI 1)), (4, .int (nI 1)), (3, .int (nI ((x / 10) % 10))), (0, .ref (E.1 + 30)), (1, .int (nI x))]) rfl ?_
        refine J_goto (tgt := 22) dX3_tell_103 (by decide) ?_
        refine J_iload_n dX3_tell_22 rfl ?_
        refine J_if_leN (tgt := 106) dX3_tell_23 (by decide) (by omega) (fun z => absurd z (by decide)) (fun _ => ?_)
        refine J_iload_n dX3_tell_26 rfl ?_
        refine J_iload_n dX3_tell_27 rfl ?_
        refine J_idivN dX3_tell_28 (by omega) (by omega) (by omega) ?_
        refine J_bipush (v := nI 10) dX3_tell_29 (by decide +kernel) ?_
        refine J_iremN dX3_tell_31 (by omega) (by omega) (by omega) ?_
        refine J_istore_n dX3_tell_32 (Nat.le_of_ble_eq_true rfl) (L' := [(3, .int (nI ((x / 1) % 10))), (2, .int (nI 1)), (4, .int (nI 1)), (0, .ref (E.1 + 30)), (1, .int (nI x))]) rfl ?_
        refine J_iload_n dX3_tell_33 rfl ?_
        refine J_if_neN (tgt := 48) dX3_tell_34 (by decide) (by omega) (fun c162 => ?_) (fun c162 => ?_)
        · skip
          refine J_iconst (v := nI 0) dX3_tell_48 (by decide +kernel) ?_
          refine J_istore dX3_tell_49 (Nat.le_of_ble_eq_true rfl) (L' := [(4, .int (nI 0)), (3, .int (nI ((x / 1) % 10))), (2, .int (nI 1)), (0, .ref (E.1 + 30)), (1, .int (nI x))]) rfl ?_
          refine J_iload dX3_tell_51 rfl ?_
          refine J_if_neN (tgt := 98) dX3_tell_53 (by decide) (by omega) (fun z => absurd z (by decide)) (fun _ => ?_)
          refine J_iload_n dX3_tell_56 rfl ?_
          refine J_iconst (v := nI 1) dX3_tell_57 (by decide +kernel) ?_
          refine J_icmp_ltN (tgt := 74) dX3_tell_58 (by decide) (by omega) (by omega) (fun c164 => (by exfalso; omega)) (fun c164 => ?_)
          refine J_iload_n dX3_tell_61 rfl ?_
          refine J_iconst (v := nI 4) dX3_tell_62 (by decide +kernel) ?_
          refine J_icmp_gtN (tgt := 74) dX3_tell_63 (by decide) (by omega) (by omega) (fun c165 => (by exfalso; omega)) (fun c165 => ?_)
          refine J_aload_n dX3_tell_66 rfl ?_
          refine J_get 3 dX3_tell_67 jk3 (Nat.le_of_ble_eq_true rfl) jfRX3_21 hset_eq (by omega) rfl ?_
          refine J_iconst (v := nI 4) dX3_tell_70 (by decide +kernel) ?_
          refine J_icmp_ltN (tgt := 76) dX3_tell_71 (by decide) (by omega) (by omega) (fun _ => ?_) (fun z => absurd z (by decide))
          refine J_aload_n dX3_tell_76 rfl ?_
          refine J_get 0 dX3_tell_77 jk3 (Nat.le_of_ble_eq_true rfl) jfRX3_11 hset_eq (by omega) rfl ?_
          refine J_aload_n dX3_tell_80 rfl ?_
          refine J_get 3 dX3_tell_81 jk3 (Nat.le_of_ble_eq_true rfl) jfRX3_21 hset_eq (by omega) rfl ?_
          refine J_iload_n dX3_tell_84 rfl ?_
          refine J_iconst (v := nI 1) dX3_tell_85 (by decide +kernel) ?_
          refine J_isubN dX3_tell_86 (by omega) ?_
          refine J_iastN (i := 0) (v := ((x / 1) % 10) - 1) dX3_tell_87 ((hset_ne (by omega)).trans H1) (by omega) (by omega) (by omega) ?_
          refine J_aload_n dX3_tell_88 rfl ?_
          refine J_dup dX3_tell_89 rfl ?_
          refine J_get 3 dX3_tell_90 jk3 (Nat.le_of_ble_eq_true rfl) jfRX3_21 ((hset_ne (by omega)).trans hset_eq) (by omega) rfl ?_
          refine J_iconst (v := nI 1) dX3_tell_93 (by decide +kernel) ?_
          refine J_iaddN dX3_tell_94 ?_
          refine J.stk (st' := [.int (nI 1), .ref (E.1 + 30)]) rfl ?_
          refine J_put 3 dX3_tell_95 jk3 (Nat.le_of_ble_eq_true rfl) jfRX3_21 ((hset_ne (by omega)).trans hset_eq) (by omega) rfl rfl rfl (Nat.le_of_ble_eq_true rfl) ?_
          refine J.cast (h' := (hset (hset (hset h 30 (.inr (2, [.ref (E.1 + 31), .ref (E.1 + 32), .ref (E.1 + 33), .int (nI 0), .int (nI lb), .int (nI le)]))) 31 (cI E 4 (nF (updN T 0 (((x / 1) % 10) - 1))))) 30 (.inr (2, [.ref (E.1 + 31), .ref (E.1 + 32), .ref (E.1 + 33), .int (nI 1), .int (nI lb), .int (nI le)])))) rfl ?_
          refine J.cast ((hset_comm (by omega)).trans (hset_cg hset_hset rfl)) ?_
          refine J_iload_n dX3_tell_98 rfl ?_
          refine J_bipush (v := nI 10) dX3_tell_99 (by decide +kernel) ?_
          refine J_idivN dX3_tell_101 (by omega) (by omega) (by omega) ?_
          refine J.stk (st' := [.int (nI 0)]) rfl ?_
          refine J_istore_n dX3_tell_102 (Nat.le_of_ble_eq_true rfl) (L' := [(2, .int (nI 0)), (4, .int (nI 0)), (3, .int (nI ((x / 1) % 10))), (0, .ref (E.1 + 30)), (1, .int (nI x))]) rfl ?_
          refine J_goto (tgt := 22) dX3_tell_103 (by decide) ?_
          refine J_iload_n dX3_tell_22 rfl ?_
          refine J_if_leN (tgt := 106) dX3_tell_23 (by decide) (by omega) (fun _ => ?_) (fun z => absurd z (by decide))
          refine J_iconst (v := nI 1) dX3_tell_106 (by decide +kernel) ?_
          exact J_zret dX3_tell_107 rfl rfl ⟨Nat.le_refl _, Nat.le_refl _⟩ (by rw [hPP]; exact ⟨rfl, rfl, (updN T 0 (((x / 1) % 10) - 1)), (hset_cg (hset_cg rfl (congrArg (fun z => (Sum.inr (2, z) : va_E)) (jS_c rfl (jS_c rfl (jS_c rfl (jS_c (jv_N (by first | rfl | (unfold ndig; (repeat' split) <;> omega))) (jS_c rfl (jS_c rfl rfl)))))))) rfl), (by first | exact tell_4 (by unfold ndig; (repeat' split) <;> omega) rfl rfl rfl rfl | exact tell_3 (by unfold ndig; (repeat' split) <;> omega) rfl rfl rfl | exact tell_2 (by unfold ndig; (repeat' split) <;> omega) rfl rfl | exact tell_1 (by unfold ndig; (repeat' split) <;> omega) rfl | exact tell_0 (by unfold ndig; (repeat' split) <;> omega))⟩)
        · skip
          refine J_aload_n dX3_tell_37 rfl ?_
          refine J_get 3 dX3_tell_38 jk3 (Nat.le_of_ble_eq_true rfl) jfRX3_21 hset_eq (by omega) rfl ?_
          refine J_if_neN (tgt := 48) dX3_tell_41 (by decide) (by omega) (fun z => absurd z (by decide)) (fun _ => ?_)
          refine J_iconst (v := nI 1) dX3_tell_44 (by decide +kernel) ?_
          refine J_goto (tgt := 49) dX3_tell_45 (by decide) ?_
          refine J_istore dX3_tell_49 (Nat.le_of_ble_eq_true rfl) (L' := [(4, .int (nI 1)), (3, .int (nI ((x / 1) % 10))), (2, .int (nI 1)), (0, .ref (E.1 + 30)), (1, .int (nI x))]) rfl ?_
          refine J_iload dX3_tell_51 rfl ?_
          refine J_if_neN (tgt := 98) dX3_tell_53 (by decide) (by omega) (fun _ => ?_) (fun z => absurd z (by decide))
          refine J_iload_n dX3_tell_98 rfl ?_
          refine J_bipush (v := nI 10) dX3_tell_99 (by decide +kernel) ?_
          refine J_idivN dX3_tell_101 (by omega) (by omega) (by omega) ?_
          refine J.stk (st' := [.int (nI 0)]) rfl ?_
          refine J_istore_n dX3_tell_102 (Nat.le_of_ble_eq_true rfl) (L' := [(2, .int (nI 0)), (4, .int (nI 1)), (3, .int (nI ((x / 1) % 10))), (0, .ref (E.1 + 30)), (1, .int (nI x))]) rfl ?_
          refine J_goto (tgt := 22) dX3_tell_103 (by decide) ?_
          refine J_iload_n dX3_tell_22 rfl ?_
          refine J_if_leN (tgt := 106) dX3_tell_23 (by decide) (by omega) (fun _ => ?_) (fun z => absurd z (by decide))
          refine J_iconst (v := nI 1) dX3_tell_106 (by decide +kernel) ?_
          exact J_zret dX3_tell_107 rfl rfl ⟨Nat.le_refl _, Nat.le_refl _⟩ (by rw [hPP]; exact ⟨rfl, rfl, T, ((show (hset h 30 (.inr (2, [.ref (E.1 + 31), .ref (E.1 + 32), .ref (E.1 + 33), .int (nI 0), .int (nI lb), .int (nI le)]))) = (hset (hset h 30 (.inr (2, [.ref (E.1 + 31), .ref (E.1 + 32), .ref (E.1 + 33), .int (nI 0), .int (nI lb), .int (nI le)]))) 31 (cI E 4 (nF T))) by funext z; simp only [hset]; (repeat' split) <;> first | rfl | (exfalso; omega) | (subst_vars; first | exact H1)).trans (hset_cg (hset_cg rfl (congrArg (fun z => (Sum.inr (2, z) : va_E)) (jS_c rfl (jS_c rfl (jS_c rfl (jS_c (jv_N (by first | rfl | (unfold ndig; (repeat' split) <;> omega))) (jS_c rfl (jS_c rfl rfl)))))))) rfl)), (by first | exact tell_4 (by unfold ndig; (repeat' split) <;> omega) rfl rfl rfl rfl | exact tell_3 (by unfold ndig; (repeat' split) <;> omega) rfl rfl rfl | exact tell_2 (by unfold ndig; (repeat' split) <;> omega) rfl rfl | exact tell_1 (by unfold ndig; (repeat' split) <;> omega) rfl | exact tell_0 (by unfold ndig; (repeat' split) <;> omega))⟩)

set_option maxHeartbeats 1000000 in
set_option maxRecDepth 100000 in
theorem ctX3_tell_bad {E : jE} {h : Nat → va_E} {n : Nat} (x : Nat) (lz : Nat) (lb : Nat) (le : Nat) (T : Nat → Nat) (H0 : h 30 = .inr (2, [.ref (E.1 + 31), .ref (E.1 + 32), .ref (E.1 + 33), .int (nI lz), .int (nI lb), .int (nI le)])) (H1 : h 31 = cI E 4 (nF T)) (hn : 38 ≤ n) (hx : x ≤ 4444) (hbad : ¬ okW x) : jC E mX3_tell (1, 0, 0) [.ref (E.1 + 30), .int (nI x)] h n (fun v h' n' => v = some (.int (nI 0)) ∧ n' = n ∧ ∃ (T1 : Nat → Nat) (ps1 : Nat), h' = (hset (hset h 30 (.inr (2, [.ref (E.1 + 31), .ref (E.1 + 32), .ref (E.1 + 33), .int (nI ps1), .int (nI lb), .int (nI le)]))) 31 (cI E 4 (nF T1)))) := by
  refine J.of (L := [(0, .ref (E.1 + 30)), (1, .int (nI x))]) rfl (by decide +kernel) (Nat.le_of_ble_eq_true rfl) ?_
  obtain ⟨PP, hPP⟩ : ∃ PP : jPost, PP = (fun v h' n' => v = some (.int (nI 0)) ∧ n' = n ∧ ∃ (T1 : Nat → Nat) (ps1 : Nat), h' = (hset (hset h 30 (.inr (2, [.ref (E.1 + 31), .ref (E.1 + 32), .ref (E.1 + 33), .int (nI ps1), .int (nI lb), .int (nI le)]))) 31 (cI E 4 (nF T1)))) := ⟨_, rfl⟩
  rw [← hPP]
  refine J_aload_n dX3_tell_0 rfl ?_
  refine J_iconst (v := nI 0) dX3_tell_1 (by decide +kernel) ?_
  refine J_put 3 dX3_tell_2 jk3 (Nat.le_of_ble_eq_true rfl) jfRX3_21 H0 (by omega) rfl rfl rfl (Nat.le_of_ble_eq_true rfl) ?_
  refine J.cast (h' := (hset h 30 (.inr (2, [.ref (E.1 + 31), .ref (E.1 + 32), .ref (E.1 + 33), .int (nI 0), .int (nI lb), .int (nI le)])))) rfl ?_
  refine J_iload_n dX3_tell_5 rfl ?_
  refine J_if_ltN (tgt := 16)  dX3_tell_6 (by decide) (by omega) ?_
  refine J_iload_n dX3_tell_9 rfl ?_
  refine J_sipush (v := nI 4444) dX3_tell_10 (by decide +kernel) ?_
  refine J_icmp_leN (tgt := 18) dX3_tell_13 (by decide) (by omega) (by omega) (fun c1 => ?_) (fun c1 => (by exfalso; omega))
  refine J_sipush (v := nI 1000) dX3_tell_18 (by decide +kernel) ?_
  refine J_istore_n dX3_tell_21 (Nat.le_of_ble_eq_true rfl) (L' := [(2, .int (nI 1000)), (0, .ref (E.1 + 30)), (1, .int (nI x))]) rfl ?_
  refine J_iload_n dX3_tell_22 rfl ?_
  refine J_if_leN (tgt := 106) dX3_tell_23 (by decide) (by omega) (fun z => absurd z (by decide)) (fun _ => ?_)
  refine J_iload_n dX3_tell_26 rfl ?_
  refine J_iload_n dX3_tell_27 rfl ?_
  refine J_idivN dX3_tell_28 (by omega) (by omega) (by omega) ?_
  refine J_bipush (v := nI 10) dX3_tell_29 (by decide +kernel) ?_
  refine J_iremN dX3_tell_31 (by omega) (by omega) (by omega) ?_
  refine J_istore_n dX3_tell_32 (Nat.le_of_ble_eq_true rfl) (L' := [(3, .int (nI ((x / 1000) % 10))), (2, .int (nI 1000)), (0, .ref (E.1 + 30)), (1, .int (nI x))]) rfl ?_
  refine J_iload_n dX3_tell_33 rfl ?_
  refine J_if_neN (tgt := 48) dX3_tell_34 (by decide) (by omega) (fun c3 => ?_) (fun c3 => ?_)
  · skip
    refine J_iconst (v := nI 0) dX3_tell_48 (by decide +kernel) ?_
    refine J_istore dX3_tell_49 (Nat.le_of_ble_eq_true rfl) (L' := [(4, .int (nI 0)), (3, .int (nI ((x / 1000) % 10))), (2, .int (nI 1000)), (0, .ref (E.1 + 30)), (1, .int (nI x))]) rfl ?_
    refine J_iload dX3_tell_51 rfl ?_
    refine J_if_neN (tgt := 98) dX3_tell_53 (by decide) (by omega) (fun z => absurd z (by decide)) (fun _ => ?_)
    refine J_iload_n dX3_tell_56 rfl ?_
    refine J_iconst (v := nI 1) dX3_tell_57 (by decide +kernel) ?_
    refine J_icmp_ltN (tgt := 74) dX3_tell_58 (by decide) (by omega) (by omega) (fun c5 => ?_) (fun c5 => ?_)
    · skip
      refine J_iconst (v := nI 0) dX3_tell_74 (by decide +kernel) ?_
      exact J_zret dX3_tell_75 rfl rfl ⟨Nat.le_refl _, Nat.le_refl _⟩ (by rw [hPP]; exact ⟨rfl, rfl, T, 0, ((show (hset h 30 (.inr (2, [.ref (E.1 + 31), .ref (E.1 + 32), .ref (E.1 + 33), .int (nI 0), .int (nI lb), .int (nI le)]))) = (hset (hset h 30 (.inr (2, [.ref (E.1 + 31), .ref (E.1 + 32), .ref (E.1 + 33), .int (nI 0), .int (nI lb), .int (nI le)]))) 31 (cI E 4 (nF T))) by funext z; simp only [hset]; (repeat' split) <;> first | rfl | (exfalso; omega) | (subst_vars; first | exact H1)).trans (hset_cg (hset_cg rfl rfl) rfl))⟩)
    · skip
      refine J_iload_n dX3_tell_61 rfl ?_
      refine J_iconst (v := nI 4) dX3_tell_62 (by decide +kernel) ?_
      refine J_icmp_gtN (tgt := 74) dX3_tell_63 (by decide) (by omega) (by omega) (fun c6 => ?_) (fun c6 => ?_)
      · skip
        refine J_iconst (v := nI 0) dX3_tell_74 (by decide +kernel) ?_
        exact J_zret dX3_tell_75 rfl rfl ⟨Nat.le_refl _, Nat.le_refl _⟩ (by rw [hPP]; exact ⟨rfl, rfl, T, 0, ((show (hset h 30 (.inr (2, [.ref (E.1 + 31), .ref (E.1 + 32), .ref (E.1 + 33), .int (nI 0), .int (nI lb), .int (nI le)]))) = (hset (hset h 30 (.inr (2, [.ref (E.1 + 31), .ref (E.1 + 32), .ref (E.1 + 33), .int (nI 0), .int (nI lb), .int (nI le)]))) 31 (cI E 4 (nF T))) by funext z; simp only [hset]; (repeat' split) <;> first | rfl | (exfalso; omega) | (subst_vars; first | exact H1)).trans (hset_cg (hset_cg rfl rfl) rfl))⟩)
      · skip
        refine J_aload_n dX3_tell_66 rfl ?_
        refine J_get 3 dX3_tell_67 jk3 (Nat.le_of_ble_eq_true rfl) jfRX3_21 hset_eq (by omega) rfl ?_
        refine J_iconst (v := nI 4) dX3_tell_70 (by decide +kernel) ?_
        refine J_icmp_ltN (tgt := 76) dX3_tell_71 (by decide) (by omega) (by omega) (fun _ => ?_) (fun z => absurd z (by decide))
        refine J_aload_n dX3_tell_76 rfl ?_
        refine J_get 0 dX3_tell_77 jk3 (Nat.le_of_ble_eq_true rfl) jfRX3_11 hset_eq (by omega) rfl ?_
        refine J_aload_n dX3_tell_80 rfl ?_
        refine J_get 3 dX3_tell_81 jk3 (Nat.le_of_ble_eq_true rfl) jfRX3_21 hset_eq (by omega) rfl ?_
        refine J_iload_n dX3_tell_84 rfl ?_
        refine J_iconst (v := nI 1) dX3_tell_85 (by decide +kernel) ?_
        refine J_isubN dX3_tell_86 (by omega) ?_
        refine J_iastN (i := 0) (v := ((x / 1000) % 10) - 1) dX3_tell_87 ((hset_ne (by omega)).trans H1) (by omega) (by omega) (by omega) ?_
        refine J_aload_n dX3_tell_88 rfl ?_
        refine J_dup dX3_tell_89 rfl ?_
        refine J_get 3 dX3_tell_90 jk3 (Nat.le_of_ble_eq_true rfl) jfRX3_21 ((hset_ne (by omega)).trans hset_eq) (by omega) rfl ?_
        refine J_iconst (v := nI 1) dX3_tell_93 (by decide +kernel) ?_
        refine J_iaddN dX3_tell_94 ?_
        refine J.stk (st' := [.int (nI 1), .ref (E.1 + 30)]) rfl ?_
        refine J_put 3 dX3_tell_95 jk3 (Nat.le_of_ble_eq_true rfl) jfRX3_21 ((hset_ne (by omega)).trans hset_eq) (by omega) rfl rfl rfl (Nat.le_of_ble_eq_true rfl) ?_
        refine J.cast (h' := (hset (hset (hset h 30 (.inr (2, [.ref (E.1 + 31), .ref (E.1 + 32), .ref (E.1 + 33), .int (nI 0), .int (nI lb), .int (nI le)]))) 31 (cI E 4 (nF (updN T 0 (((x / 1000) % 10) - 1))))) 30 (.inr (2, [.ref (E.1 + 31), .ref (E.1 + 32), .ref (E.1 + 33), .int (nI 1), .int (nI lb), .int (nI le)])))) rfl ?_
        refine J.cast ((hset_comm (by omega)).trans (hset_cg hset_hset rfl)) ?_
        refine J_iload_n dX3_tell_98 rfl ?_
        refine J_bipush (v := nI 10) dX3_tell_99 (by decide +kernel) ?_
        refine J_idivN dX3_tell_101 (by omega) (by omega) (by omega) ?_
        refine J.stk (st' := [.int (nI 100)]) rfl ?_
        refine J_istore_n dX3_tell_102 (Nat.le_of_ble_eq_true rfl) (L' := [(2, .int (nI 100)), (4, .int (nI 0)), (3, .int (nI ((x / 1000) % 10))), (0, .ref (E.1 + 30)), (1, .int (nI x))]) rfl ?_
        refine J_goto (tgt := 22) dX3_tell_103 (by decide) ?_
        refine J_iload_n dX3_tell_22 rfl ?_
        refine J_if_leN (tgt := 106) dX3_tell_23 (by decide) (by omega) (fun z => absurd z (by decide)) (fun _ => ?_)
        refine J_iload_n dX3_tell_26 rfl ?_
        refine J_iload_n dX3_tell_27 rfl ?_
        refine J_idivN dX3_tell_28 (by omega) (by omega) (by omega) ?_
        refine J_bipush (v := nI 10) dX3_tell_29 (by decide +kernel) ?_
        refine J_iremN dX3_tell_31 (by omega) (by omega) (by omega) ?_
        refine J_istore_n dX3_tell_32 (Nat.le_of_ble_eq_true rfl) (L' := [(3, .int (nI ((x / 100) % 10))), (2, .int (nI 100)), (4, .int (nI 0)), (0, .ref (E.1 + 30)), (1, .int (nI x))]) rfl ?_
        refine J_iload_n dX3_tell_33 rfl ?_
        refine J_if_neN (tgt := 48) dX3_tell_34 (by decide) (by omega) (fun c9 => ?_) (fun c9 => ?_)
        · skip
          refine J_iconst (v := nI 0) dX3_tell_48 (by decide +kernel) ?_
          refine J_istore dX3_tell_49 (Nat.le_of_ble_eq_true rfl) (L' := [(4, .int (nI 0)), (3, .int (nI ((x / 100) % 10))), (2, .int (nI 100)), (0, .ref (E.1 + 30)), (1, .int (nI x))]) rfl ?_
          refine J_iload dX3_tell_51 rfl ?_
          refine J_if_neN (tgt := 98) dX3_tell_53 (by decide) (by omega) (fun z => absurd z (by decide)) (fun _ => ?_)
          refine J_iload_n dX3_tell_56 rfl ?_
          refine J_iconst (v := nI 1) dX3_tell_57 (by decide +kernel) ?_
          refine J_icmp_ltN (tgt := 74) dX3_tell_58 (by decide) (by omega) (by omega) (fun c11 => ?_) (fun c11 => ?_)
          · skip
            refine J_iconst (v := nI 0) dX3_tell_74 (by decide +kernel) ?_
            exact J_zret dX3_tell_75 rfl rfl ⟨Nat.le_refl _, Nat.le_refl _⟩ (by rw [hPP]; exact ⟨rfl, rfl, (updN T 0 (((x / 1000) % 10) - 1)), 1, rfl⟩)
          · skip
            refine J_iload_n dX3_tell_61 rfl ?_
            refine J_iconst (v := nI 4) dX3_tell_62 (by decide +kernel) ?_
            refine J_icmp_gtN (tgt := 74) dX3_tell_63 (by decide) (by omega) (by omega) (fun c12 => ?_) (fun c12 => ?_)
            · skip
              refine J_iconst (v := nI 0) dX3_tell_74 (by decide +kernel) ?_
              exact J_zret dX3_tell_75 rfl rfl ⟨Nat.le_refl _, Nat.le_refl _⟩ (by rw [hPP]; exact ⟨rfl, rfl, (updN T 0 (((x / 1000) % 10) - 1)), 1, rfl⟩)
            · skip
              refine J_aload_n dX3_tell_66 rfl ?_
              refine J_get 3 dX3_tell_67 jk3 (Nat.le_of_ble_eq_true rfl) jfRX3_21 ((hset_ne (by omega)).trans hset_eq) (by omega) rfl ?_
              refine J_iconst (v := nI 4) dX3_tell_70 (by decide +kernel) ?_
              refine J_icmp_ltN (tgt := 76) dX3_tell_71 (by decide) (by omega) (by omega) (fun _ => ?_) (fun z => absurd z (by decide))
              refine J_aload_n dX3_tell_76 rfl ?_
              refine J_get 0 dX3_tell_77 jk3 (Nat.le_of_ble_eq_true rfl) jfRX3_11 ((hset_ne (by omega)).trans hset_eq) (by omega) rfl ?_
              refine J_aload_n dX3_tell_80 rfl ?_
              refine J_get 3 dX3_tell_81 jk3 (Nat.le_of_ble_eq_true rfl) jfRX3_21 ((hset_ne (by omega)).trans hset_eq) (by omega) rfl ?_
              refine J_iload_n dX3_tell_84 rfl ?_
              refine J_iconst (v := nI 1) dX3_tell_85 (by decide +kernel) ?_
              refine J_isubN dX3_tell_86 (by omega) ?_
              refine J_iastN (i := 1) (v := ((x / 100) % 10) - 1) dX3_tell_87 hset_eq (by omega) (by omega) (by omega) ?_
              refine J.cast hset_hset ?_
              refine J_aload_n dX3_tell_88 rfl ?_
              refine J_dup dX3_tell_89 rfl ?_
              refine J_get 3 dX3_tell_90 jk3 (Nat.le_of_ble_eq_true rfl) jfRX3_21 ((hset_ne (by omega)).trans hset_eq) (by omega) rfl ?_
              refine J_iconst (v := nI 1) dX3_tell_93 (by decide +kernel) ?_
              refine J_iaddN dX3_tell_94 ?_
              refine J.stk (st' := [.int (nI 2), .ref (E.1 + 30)]) rfl ?_
              refine J_put 3 dX3_tell_95 jk3 (Nat.le_of_ble_eq_true rfl) jfRX3_21 ((hset_ne (by omega)).trans hset_eq) (by omega) rfl rfl rfl (Nat.le_of_ble_eq_true rfl) ?_
              refine J.cast (h' := (hset (hset (hset h 30 (.inr (2, [.ref (E.1 + 31), .ref (E.1 + 32), .ref (E.1 + 33), .int (nI 1), .int (nI lb), .int (nI le)]))) 31 (cI E 4 (nF (updN (updN T 0 (((x / 1000) % 10) - 1)) 1 (((x / 100) % 10) - 1))))) 30 (.inr (2, [.ref (E.1 + 31), .ref (E.1 + 32), .ref (E.1 + 33), .int (nI 2), .int (nI lb), .int (nI le)])))) rfl ?_
              refine J.cast ((hset_comm (by omega)).trans (hset_cg hset_hset rfl)) ?_
              refine J_iload_n dX3_tell_98 rfl ?_
              refine J_bipush (v := nI 10) dX3_tell_99 (by decide +kernel) ?_
              refine J_idivN dX3_tell_101 (by omega) (by omega) (by omega) ?_
              refine J.stk (st' := [.int (nI 10)]) rfl ?_
              refine J_istore_n dX3_tell_102 (Nat.le_of_ble_eq_true rfl) (L' := [(2, .int (nI 10)), (4, .int (nI 0)), (3, .int (nI ((x / 100) % 10))), (0, .ref (E.1 + 30)), (1, .int (nI x))]) rfl ?_
              refine J_goto (tgt := 22) dX3_tell_103 (by decide) ?_
              refine J_iload_n dX3_tell_22 rfl ?_
              refine J_if_leN (tgt := 106) dX3_tell_23 (by decide) (by omega) (fun z => absurd z (by decide)) (fun _ => ?_)
              refine J_iload_n dX3_tell_26 rfl ?_
              refine J_iload_n dX3_tell_27 rfl ?_
              refine J_idivN dX3_tell_28 (by omega) (by omega) (by omega) ?_
              refine J_bipush (v := nI 10) dX3_tell_29 (by decide +kernel) ?_
              refine J_iremN dX3_tell_31 (by omega) (by omega) (by omega) ?_
              refine J_istore_n dX3_tell_32 (Nat.le_of_ble_eq_true rfl) (L' := [(3, .int (nI ((x / 10) % 10))), (2, .int (nI 10)), (4, .int (nI 0)), (0, .ref (E.1 + 30)), (1, .int (nI x))]) rfl ?_
              refine J_iload_n dX3_tell_33 rfl ?_
              refine J_if_neN (tgt := 48) dX3_tell_34 (by decide) (by omega) (fun c15 => ?_) (fun c15 => ?_)
              · skip
                refine J_iconst (v := nI 0) dX3_tell_48 (by decide +kernel) ?_
                refine J_istore dX3_tell_49 (Nat.le_of_ble_eq_true rfl) (L' := [(4, .int (nI 0)), (3, .int (nI ((x / 10) % 10))), (2, .int (nI 10)), (0, .ref (E.1 + 30)), (1, .int (nI x))]) rfl ?_
                refine J_iload dX3_tell_51 rfl ?_
                refine J_if_neN (tgt := 98) dX3_tell_53 (by decide) (by omega) (fun z => absurd z (by decide)) (fun _ => ?_)
                refine J_iload_n dX3_tell_56 rfl ?_
                refine J_iconst (v := nI 1) dX3_tell_57 (by decide +kernel) ?_
                refine J_icmp_ltN (tgt := 74) dX3_tell_58 (by decide) (by omega) (by omega) (fun c17 => ?_) (fun c17 => ?_)
                · skip
                  refine J_iconst (v := nI 0) dX3_tell_74 (by decide +kernel) ?_
                  exact J_zret dX3_tell_75 rfl rfl ⟨Nat.le_refl _, Nat.le_refl _⟩ (by rw [hPP]; exact ⟨rfl, rfl, (updN (updN T 0 (((x / 1000) % 10) - 1)) 1 (((x / 100) % 10) - 1)), 2, rfl⟩)
                · skip
                  refine J_iload_n dX3_tell_61 rfl ?_
                  refine J_iconst (v := nI 4) dX3_tell_62 (by decide +kernel) ?_
                  refine J_icmp_gtN (tgt := 74) dX3_tell_63 (by decide) (by omega) (by omega) (fun c18 => ?_) (fun c18 => ?_)
                  · skip
                    refine J_iconst (v := nI 0) dX3_tell_74 (by decide +kernel) ?_
                    exact J_zret dX3_tell_75 rfl rfl ⟨Nat.le_refl _, Nat.le_refl _⟩ (by rw [hPP]; exact ⟨rfl, rfl, (updN (updN T 0 (((x / 1000) % 10) - 1)) 1 (((x / 100) % 10) - 1)), 2, rfl⟩)
                  · skip
                    refine J_aload_n dX3_tell_66 rfl ?_
                    refine J_get 3 dX3_tell_67 jk3 (Nat.le_of_ble_eq_true rfl) jfRX3_21 ((hset_ne (by omega)).trans hset_eq) (by omega) rfl ?_
                    refine J_iconst (v := nI 4) dX3_tell_70 (by decide +kernel) ?_
                    refine J_icmp_ltN (tgt := 76) dX3_tell_71 (by decide) (by omega) (by omega) (fun _ => ?_) (fun z => absurd z (by decide))
                    refine J_aload_n dX3_tell_76 rfl ?_
                    refine J_get 0 dX3_tell_77 jk3 (Nat.le_of_ble_eq_true rfl) jfRX3_11 ((hset_ne (by omega)).trans hset_eq) (by omega) rfl ?_
                    refine J_aload_n dX3_tell_80 rfl ?_
                    refine J_get 3 dX3_tell_81 jk3 (Nat.le_of_ble_eq_true rfl) jfRX3_21 ((hset_ne (by omega)).trans hset_eq) (by omega) rfl ?_
                    refine J_iload_n dX3_tell_84 rfl ?_
                    refine J_iconst (v := nI 1) dX3_tell_85 (by decide +kernel) ?_
                    refine J_isubN dX3_tell_86 (by omega) ?_
                    refine J_iastN (i := 2) (v := ((x / 10) % 10) - 1) dX3_tell_87 hset_eq (by omega) (by omega) (by omega) ?_
                    refine J.cast hset_hset ?_
                    refine J_aload_n dX3_tell_88 rfl ?_
                    refine J_dup dX3_tell_89 rfl ?_
                    refine J_get 3 dX3_tell_90 jk3 (Nat.le_of_ble_eq_true rfl) jfRX3_21 ((hset_ne (by omega)).trans hset_eq) (by omega) rfl ?_
                    refine J_iconst (v := nI 1) dX3_tell_93 (by decide +kernel) ?_
                    refine J_iaddN dX3_tell_94 ?_
                    refine J.stk (st' := [.int (nI 3), .ref (E.1 + 30)]) rfl ?_
                    refine J_put 3 dX3_tell_95 jk3 (Nat.le_of_ble_eq_true rfl) jfRX3_21 ((hset_ne (by omega)).trans hset_eq) (by omega) rfl rfl rfl (Nat.le_of_ble_eq_true rfl) ?_
                    refine J.cast (h' := (hset (hset (hset h 30 (.inr (2, [.ref (E.1 + 31), .ref (E.1 + 32), .ref (E.1 + 33), .int (nI 2), .int (nI lb), .int (nI le)]))) 31 (cI E 4 (nF (updN (updN (updN T 0 (((x / 1000) % 10) - 1)) 1 (((x / 100) % 10) - 1)) 2 (((x / 10) % 10) - 1))))) 30 (.inr (2, [.ref (E.1 + 31), .ref (E.1 + 32), .ref (E.1 + 33), .int (nI 3), .int (nI lb), .int (nI le)])))) rfl ?_
                    refine J.cast ((hset_comm (by omega)).trans (hset_cg hset_hset rfl)) ?_
                    refine J_iload_n dX3_tell_98 rfl ?_
                    refine J_bipush (v := nI 10) dX3_tell_99 (by decide +kernel) ?_
                    refine J_idivN dX3_tell_101 (by omega) (by omega) (by omega) ?_
                    refine J.stk (st' := [.int (nI 1)]) rfl ?_
                    refine J_istore_n dX3_tell_102 (Nat.le_of_ble_eq_true rfl) (L' := [(2, .int (nI 1)), (4, .int (nI 0)), (3, .int (nI ((x / 10) % 10))), (0, .ref (E.1 + 30)), (1, .int (nI x))]) rfl ?_
                    refine J_goto (tgt := 22) dX3_tell_103 (by decide) ?_
                    refine J_iload_n dX3_tell_22 rfl ?_
                    refine J_if_leN (tgt := 106) dX3_tell_23 (by decide) (by omega) (fun z => absurd z (by decide)) (fun _ => ?_)
                    refine J_iload_n dX3_tell_26 rfl ?_
                    refine J_iload_n dX3_tell_27 rfl ?_
                    refine J_idivN dX3_tell_28 (by omega) (by omega) (by omega) ?_
                    refine J_bipush (v := nI 10) dX3_tell_29 (by decide +kernel) ?_
                    refine J_iremN dX3_tell_31 (by omega) (by omega) (by omega) ?_
                    refine J_istore_n dX3_tell_32 (Nat.le_of_ble_eq_true rfl) (L' := [(3, .int (nI ((x / 1) % 10))), (2, .int (nI 1)), (4, .int (nI 0)), (0, .ref (E.1 + 30)), (1, .int (nI x))]) rfl ?_
                    refine J_iload_n dX3_tell_33 rfl ?_
                    refine J_if_neN (tgt := 48) dX3_tell_34 (by decide) (by omega) (fun c21 => ?_) (fun c21 => ?_)
                    · skip
                      refine J_iconst (v := nI 0) dX3_tell_48 (by decide +kernel) ?_
                      refine J_istore dX3_tell_49 (Nat.le_of_ble_eq_true rfl) (L' := [(4, .int (nI 0)), (3, .int (nI ((x / 1) % 10))), (2, .int (nI 1)), (0, .ref (E.1 + 30)), (1, .int (nI x))]) rfl ?_
                      refine J_iload dX3_tell_51 rfl ?_
                      refine J_if_neN (tgt := 98) dX3_tell_53 (by decide) (by omega) (fun z => absurd z (by decide)) (fun _ => ?_)
                      refine J_iload_n dX3_tell_56 rfl ?_
                      refine J_iconst (v := nI 1) dX3_tell_57 (by decide +kernel) ?_
                      refine J_icmp_ltN (tgt := 74) dX3_tell_58 (by decide) (by omega) (by omega) (fun c23 => ?_) (fun c23 => ?_)
                      · skip
                        refine J_iconst (v := nI 0) dX3_tell_74 (by decide +kernel) ?_
                        exact J_zret dX3_tell_75 rfl rfl ⟨Nat.le_refl _, Nat.le_refl _⟩ (by rw [hPP]; exact ⟨rfl, rfl, (updN (updN (updN T 0 (((x / 1000) % 10) - 1)) 1 (((x / 100) % 10) - 1)) 2 (((x / 10) % 10) - 1)), 3, rfl⟩)
                      · skip
                        refine J_iload_n dX3_tell_61 rfl ?_
                        refine J_iconst (v := nI 4) dX3_tell_62 (by decide +kernel) ?_
                        refine J_icmp_gtN (tgt := 74) dX3_tell_63 (by decide) (by omega) (by omega) (fun c24 => ?_) (fun c24 => ?_)
                        · skip
                          refine J_iconst (v := nI 0) dX3_tell_74 (by decide +kernel) ?_
                          exact J_zret dX3_tell_75 rfl rfl ⟨Nat.le_refl _, Nat.le_refl _⟩ (by rw [hPP]; exact ⟨rfl, rfl, (updN (updN (updN T 0 (((x / 1000) % 10) - 1)) 1 (((x / 100) % 10) - 1)) 2 (((x / 10) % 10) - 1)), 3, rfl⟩)
                        · skip
                          refine J_aload_n dX3_tell_66 rfl ?_
                          refine J_get 3 dX3_tell_67 jk3 (Nat.le_of_ble_eq_true rfl) jfRX3_21 ((hset_ne (by omega)).trans hset_eq) (by omega) rfl ?_
                          refine J_iconst (v := nI 4) dX3_tell_70 (by decide +kernel) ?_
                          refine J_icmp_ltN (tgt := 76) dX3_tell_71 (by decide) (by omega) (by omega) (fun _ => ?_) (fun z => absurd z (by decide))
                          refine J_aload_n dX3_tell_76 rfl ?_
                          refine J_get 0 dX3_tell_77 jk3 (Nat.le_of_ble_eq_true rfl) jfRX3_11 ((hset_ne (by omega)).trans hset_eq) (by omega) rfl ?_
                          refine J_aload_n dX3_tell_80 rfl ?_
                          refine J_get 3 dX3_tell_81 jk3 (Nat.le_of_ble_eq_true rfl) jfRX3_21 ((hset_ne (by omega)).trans hset_eq) (by omega) rfl ?_
                          refine J_iload_n dX3_tell_84 rfl ?_
                          refine J_iconst (v := nI 1) dX3_tell_85 (by decide +kernel) ?_
                          refine J_isubN dX3_tell_86 (by omega) ?_
                          refine J_iastN (i := 3) (v := ((x / 1) % 10) - 1) dX3_tell_87 hset_eq (by omega) (by omega) (by omega) ?_
                          refine J.cast hset_hset ?_
                          refine J_aload_n dX3_tell_88 rfl ?_
                          refine J_dup dX3_tell_89 rfl ?_
                          refine J_get 3 dX3_tell_90 jk3 (Nat.le_of_ble_eq_true rfl) jfRX3_21 ((hset_ne (by omega)).trans hset_eq) (by omega) rfl ?_
                          refine J_iconst (v := nI 1) dX3_tell_93 (by decide +kernel) ?_
                          refine J_iaddN dX3_tell_94 ?_
                          refine J.stk (st' := [.int (nI 4), .ref (E.1 + 30)]) rfl ?_
                          refine J_put 3 dX3_tell_95 jk3 (Nat.le_of_ble_eq_true rfl) jfRX3_21 ((hset_ne (by omega)).trans hset_eq) (by omega) rfl rfl rfl (Nat.le_of_ble_eq_true rfl) ?_
                          refine J.cast (h' := (hset (hset (hset h 30 (.inr (2, [.ref (E.1 + 31), .ref (E.1 + 32), .ref (E.1 + 33), .int (nI 3), .int (nI lb), .int (nI le)]))) 31 (cI E 4 (nF (updN (updN (updN (updN T 0 (((x / 1000) % 10) - 1)) 1 (((x / 100) % 10) - 1)) 2 (((x / 10) % 10) - 1)) 3 (((x / 1) % 10) - 1))))) 30 (.inr (2, [.ref (E.1 + 31), .ref (E.1 + 32), .ref (E.1 + 33), .int (nI 4), .int (nI lb), .int (nI le)])))) rfl ?_
                          refine J.cast ((hset_comm (by omega)).trans (hset_cg hset_hset rfl)) ?_
                          refine J_iload_n dX3_tell_98 rfl ?_
                          refine J_bipush (v := nI 10) dX3_tell_99 (by decide +kernel) ?_
                          refine J_idivN dX3_tell_101 (by omega) (by omega) (by omega) ?_
                          refine J.stk (st' := [.int (nI 0)]) rfl ?_
                          refine J_istore_n dX3_tell_102 (Nat.le_of_ble_eq_true rfl) (L' := [(2, .int (nI 0)), (4, .int (nI 0)), (3, .int (nI ((x / 1) % 10))), (0, .ref (E.1 + 30)), (1, .int (nI x))]) rfl ?_
                          refine J_goto (tgt := 22) dX3_tell_103 (by decide) ?_
                          refine J_iload_n dX3_tell_22 rfl ?_
                          refine J_if_leN (tgt := 106) dX3_tell_23 (by decide) (by omega) (fun _ => ?_) (fun z => absurd z (by decide))
                          refine J_iconst (v := nI 1) dX3_tell_106 (by decide +kernel) ?_
                          exact J_zret dX3_tell_107 rfl rfl ⟨Nat.le_refl _, Nat.le_refl _⟩ (by rw [hPP]; exact ⟨(congrArg some (jv_N (by first | rfl | (exfalso; exact hbad ⟨by omega, by omega, by omega, by omega, by omega⟩)))), rfl, (updN (updN (updN (updN T 0 (((x / 1000) % 10) - 1)) 1 (((x / 100) % 10) - 1)) 2 (((x / 10) % 10) - 1)) 3 (((x / 1) % 10) - 1)), 4, rfl⟩)
                    · skip
                      refine J_aload_n dX3_tell_37 rfl ?_
                      refine J_get 3 dX3_tell_38 jk3 (Nat.le_of_ble_eq_true rfl) jfRX3_21 ((hset_ne (by omega)).trans hset_eq) (by omega) rfl ?_
                      refine J_if_neN (tgt := 48) dX3_tell_41 (by decide) (by omega) (fun _ => ?_) (fun z => absurd z (by decide))
                      refine J_iconst (v := nI 0) dX3_tell_48 (by decide +kernel) ?_
                      refine J_istore dX3_tell_49 (Nat.le_of_ble_eq_true rfl) (L' := [(4, .int (nI 0)), (3, .int (nI ((x / 1) % 10))), (2, .int (nI 1)), (0, .ref (E.1 + 30)), (1, .int (nI x))]) rfl ?_
                      refine J_iload dX3_tell_51 rfl ?_
                      refine J_if_neN (tgt := 98) dX3_tell_53 (by decide) (by omega) (fun z => absurd z (by decide)) (fun _ => ?_)
                      refine J_iload_n dX3_tell_56 rfl ?_
                      refine J_iconst (v := nI 1) dX3_tell_57 (by decide +kernel) ?_
                      refine J_icmp_ltN (tgt := 74) dX3_tell_58 (by decide) (by omega) (by omega) (fun c29 => ?_) (fun c29 => ?_)
                      · skip
                        refine J_iconst (v := nI 0) dX3_tell_74 (by decide +kernel) ?_
                        exact J_zret dX3_tell_75 rfl rfl ⟨Nat.le_refl _, Nat.le_refl _⟩ (by rw [hPP]; exact ⟨rfl, rfl, (updN (updN (updN T 0 (((x / 1000) % 10) - 1)) 1 (((x / 100) % 10) - 1)) 2 (((x / 10) % 10) - 1)), 3, rfl⟩)
                      · skip
                        refine J_iload_n dX3_tell_61 rfl ?_
                        refine J_iconst (v := nI 4) dX3_tell_62 (by decide +kernel) ?_
                        refine J_icmp_gtN (tgt := 74) dX3_tell_63 (by decide) (by omega) (by omega) (fun c30 => ?_) (fun c30 => ?_)
                        · skip
                          refine J_iconst (v := nI 0) dX3_tell_74 (by decide +kernel) ?_
                          exact J_zret dX3_tell_75 rfl rfl ⟨Nat.le_refl _, Nat.le_refl _⟩ (by rw [hPP]; exact ⟨rfl, rfl, (updN (updN (updN T 0 (((x / 1000) % 10) - 1)) 1 (((x / 100) % 10) - 1)) 2 (((x / 10) % 10) - 1)), 3, rfl⟩)
                        · skip
                          refine J_aload_n dX3_tell_66 rfl ?_
                          refine J_get 3 dX3_tell_67 jk3 (Nat.le_of_ble_eq_true rfl) jfRX3_21 ((hset_ne (by omega)).trans hset_eq) (by omega) rfl ?_
                          refine J_iconst (v := nI 4) dX3_tell_70 (by decide +kernel) ?_
                          refine J_icmp_ltN (tgt := 76) dX3_tell_71 (by decide) (by omega) (by omega) (fun _ => ?_) (fun z => absurd z (by decide))
                          refine J_aload_n dX3_tell_76 rfl ?_
                          refine J_get 0 dX3_tell_77 jk3 (Nat.le_of_ble_eq_true rfl) jfRX3_11 ((hset_ne (by omega)).trans hset_eq) (by omega) rfl ?_
                          refine J_aload_n dX3_tell_80 rfl ?_
                          refine J_get 3 dX3_tell_81 jk3 (Nat.le_of_ble_eq_true rfl) jfRX3_21 ((hset_ne (by omega)).trans hset_eq) (by omega) rfl ?_
                          refine J_iload_n dX3_tell_84 rfl ?_
                          refine J_iconst (v := nI 1) dX3_tell_85 (by decide +kernel) ?_
                          refine J_isubN dX3_tell_86 (by omega) ?_
                          refine J_iastN (i := 3) (v := ((x / 1) % 10) - 1) dX3_tell_87 hset_eq (by omega) (by omega) (by omega) ?_
                          refine J.cast hset_hset ?_
                          refine J_aload_n dX3_tell_88 rfl ?_
                          refine J_dup dX3_tell_89 rfl ?_
                          refine J_get 3 dX3_tell_90 jk3 (Nat.le_of_ble_eq_true rfl) jfRX3_21 ((hset_ne (by omega)).trans hset_eq) (by omega) rfl ?_
                          refine J_iconst (v := nI 1) dX3_tell_93 (by decide +kernel) ?_
                          refine J_iaddN dX3_tell_94 ?_
                          refine J.stk (st' := [.int (nI 4), .ref (E.1 + 30)]) rfl ?_
                          refine J_put 3 dX3_tell_95 jk3 (Nat.le_of_ble_eq_true rfl) jfRX3_21 ((hset_ne (by omega)).trans hset_eq) (by omega) rfl rfl rfl (Nat.le_of_ble_eq_true rfl) ?_
                          refine J.cast (h' := (hset (hset (hset h 30 (.inr (2, [.ref (E.1 + 31), .ref (E.1 + 32), .ref (E.1 + 33), .int (nI 3), .int (nI lb), .int (nI le)]))) 31 (cI E 4 (nF (updN (updN (updN (updN T 0 (((x / 1000) % 10) - 1)) 1 (((x / 100) % 10) - 1)) 2 (((x / 10) % 10) - 1)) 3 (((x / 1) % 10) - 1))))) 30 (.inr (2, [.ref (E.1 + 31), .ref (E.1 + 32), .ref (E.1 + 33), .int (nI 4), .int (nI lb), .int (nI le)])))) rfl ?_
                          refine J.cast ((hset_comm (by omega)).trans (hset_cg hset_hset rfl)) ?_
                          refine J_iload_n dX3_tell_98 rfl ?_
                          refine J_bipush (v := nI 10) dX3_tell_99 (by decide +kernel) ?_
                          refine J_idivN dX3_tell_101 (by omega) (by omega) (by omega) ?_
                          refine J.stk (st' := [.int (nI 0)]) rfl ?_
                          refine J_istore_n dX3_tell_102 (Nat.le_of_ble_eq_true rfl) (L' := [(2, .int (nI 0)), (4, .int (nI 0)), (3, .int (nI ((x / 1) % 10))), (0, .ref (E.1 + 30)), (1, .int (nI x))]) rfl ?_
                          refine J_goto (tgt := 22) dX3_tell_103 (by decide) ?_
                          refine J_iload_n dX3_tell_22 rfl ?_
                          refine J_if_leN (tgt := 106) dX3_tell_23 (by decide) (by omega) (fun _ => ?_) (fun z => absurd z (by decide))
                          refine J_iconst (v := nI 1) dX3_tell_106 (by decide +kernel) ?_
                          exact J_zret dX3_tell_107 rfl rfl ⟨Nat.le_refl _, Nat.le_refl _⟩ (by rw [hPP]; exact ⟨(congrArg some (jv_N (by first | rfl | (exfalso; exact hbad ⟨by omega, by omega, by omega, by omega, by omega⟩)))), rfl, (updN (updN (updN (updN T 0 (((x / 1000) % 10) - 1)) 1 (((x / 100) % 10) - 1)) 2 (((x / 10) % 10) - 1)) 3 (((x / 1) % 10) - 1)), 4, rfl⟩)
              · skip
                refine J_aload_n dX3_tell_37 rfl ?_
                refine J_get 3 dX3_tell_38 jk3 (Nat.le_of_ble_eq_true rfl) jfRX3_21 ((hset_ne (by omega)).trans hset_eq) (by omega) rfl ?_
                refine J_if_neN (tgt := 48) dX3_tell_41 (by decide) (by omega) (fun _ => ?_) (fun z => absurd z (by decide))
                refine J_iconst (v := nI 0) dX3_tell_48 (by decide +kernel) ?_
                refine J_istore dX3_tell_49 (Nat.le_of_ble_eq_true rfl) (L' := [(4, .int (nI 0)), (3, .int (nI ((x / 10) % 10))), (2, .int (nI 10)), (0, .ref (E.1 + 30)), (1, .int (nI x))]) rfl ?_
                refine J_iload dX3_tell_51 rfl ?_
                refine J_if_neN (tgt := 98) dX3_tell_53 (by decide) (by omega) (fun z => absurd z (by decide)) (fun _ => ?_)
                refine J_iload_n dX3_tell_56 rfl ?_
                refine J_iconst (v := nI 1) dX3_tell_57 (by decide +kernel) ?_
                refine J_icmp_ltN (tgt := 74) dX3_tell_58 (by decide) (by omega) (by omega) (fun c35 => ?_) (fun c35 => ?_)
                · skip
                  refine J_iconst (v := nI 0) dX3_tell_74 (by decide +kernel) ?_
                  exact J_zret dX3_tell_75 rfl rfl ⟨Nat.le_refl _, Nat.le_refl _⟩ (by rw [hPP]; exact ⟨rfl, rfl, (updN (updN T 0 (((x / 1000) % 10) - 1)) 1 (((x / 100) % 10) - 1)), 2, rfl⟩)
                · skip
                  refine J_iload_n dX3_tell_61 rfl ?_
                  refine J_iconst (v := nI 4) dX3_tell_62 (by decide +kernel) ?_
                  refine J_icmp_gtN (tgt := 74) dX3_tell_63 (by decide) (by omega) (by omega) (fun c36 => ?_) (fun c36 => ?_)
                  · skip
                    refine J_iconst (v := nI 0) dX3_tell_74 (by decide +kernel) ?_
                    exact J_zret dX3_tell_75 rfl rfl ⟨Nat.le_refl _, Nat.le_refl _⟩ (by rw [hPP]; exact ⟨rfl, rfl, (updN (updN T 0 (((x / 1000) % 10) - 1)) 1 (((x / 100) % 10) - 1)), 2, rfl⟩)
                  · skip
                    refine J_aload_n dX3_tell_66 rfl ?_
                    refine J_get 3 dX3_tell_67 jk3 (Nat.le_of_ble_eq_true rfl) jfRX3_21 ((hset_ne (by omega)).trans hset_eq) (by omega) rfl ?_
                    refine J_iconst (v := nI 4) dX3_tell_70 (by decide +kernel) ?_
                    refine J_icmp_ltN (tgt := 76) dX3_tell_71 (by decide) (by omega) (by omega) (fun _ => ?_) (fun z => absurd z (by decide))
                    refine J_aload_n dX3_tell_76 rfl ?_
                    refine J_get 0 dX3_tell_77 jk3 (Nat.le_of_ble_eq_true rfl) jfRX3_11 ((hset_ne (by omega)).trans hset_eq) (by omega) rfl ?_
                    refine J_aload_n dX3_tell_80 rfl ?_
                    refine J_get 3 dX3_tell_81 jk3 (Nat.le_of_ble_eq_true rfl) jfRX3_21 ((hset_ne (by omega)).trans hset_eq) (by omega) rfl ?_
                    refine J_iload_n dX3_tell_84 rfl ?_
                    refine J_iconst (v := nI 1) dX3_tell_85 (by decide +kernel) ?_
                    refine J_isubN dX3_tell_86 (by omega) ?_
                    refine J_iastN (i := 2) (v := ((x / 10) % 10) - 1) dX3_tell_87 hset_eq (by omega) (by omega) (by omega) ?_
                    refine J.cast hset_hset ?_
                    refine J_aload_n dX3_tell_88 rfl ?_
                    refine J_dup dX3_tell_89 rfl ?_
                    refine J_get 3 dX3_tell_90 jk3 (Nat.le_of_ble_eq_true rfl) jfRX3_21 ((hset_ne (by omega)).trans hset_eq) (by omega) rfl ?_
                    refine J_iconst (v := nI 1) dX3_tell_93 (by decide +kernel) ?_
                    refine J_iaddN dX3_tell_94 ?_
                    refine J.stk (st' := [.int (nI 3), .ref (E.1 + 30)]) rfl ?_
                    refine J_put 3 dX3_tell_95 jk3 (Nat.le_of_ble_eq_true rfl) jfRX3_21 ((hset_ne (by omega)).trans hset_eq) (by omega) rfl rfl rfl (Nat.le_of_ble_eq_true rfl) ?_
                    refine J.cast (h' := (hset (hset (hset h 30 (.inr (2, [.ref (E.1 + 31), .ref (E.1 + 32), .ref (E.1 + 33), .int (nI 2), .int (nI lb), .int (nI le)]))) 31 (cI E 4 (nF (updN (updN (updN T 0 (((x / 1000) % 10) - 1)) 1 (((x / 100) % 10) - 1)) 2 (((x / 10) % 10) - 1))))) 30 (.inr (2, [.ref (E.1 + 31), .ref (E.1 + 32), .ref (E.1 + 33), .int (nI 3), .int (nI lb), .int (nI le)])))) rfl ?_
                    refine J.cast ((hset_comm (by omega)).trans (hset_cg hset_hset rfl)) ?_
                    refine J_iload_n dX3_tell_98 rfl ?_
                    refine J_bipush (v := nI 10) dX3_tell_99 (by decide +kernel) ?_
                    refine J_idivN dX3_tell_101 (by omega) (by omega) (by omega) ?_
                    refine J.stk (st' := [.int (nI 1)]) rfl ?_
                    refine J_istore_n dX3_tell_102 (Nat.le_of_ble_eq_true rfl) (L' := [(2, .int (nI 1)), (4, .int (nI 0)), (3, .int (nI ((x / 10) % 10))), (0, .ref (E.1 + 30)), (1, .int (nI x))]) rfl ?_
                    refine J_goto (tgt := 22) dX3_tell_103 (by decide) ?_
                    refine J_iload_n dX3_tell_22 rfl ?_
                    refine J_if_leN (tgt := 106) dX3_tell_23 (by decide) (by omega) (fun z => absurd z (by decide)) (fun _ => ?_)
                    refine J_iload_n dX3_tell_26 rfl ?_
                    refine J_iload_n dX3_tell_27 rfl ?_
                    refine J_idivN dX3_tell_28 (by omega) (by omega) (by omega) ?_
                    refine J_bipush (v := nI 10) dX3_tell_29 (by decide +kernel) ?_
                    refine J_iremN dX3_tell_31 (by omega) (by omega) (by omega) ?_
                    refine J_istore_n dX3_tell_32 (Nat.le_of_ble_eq_true rfl) (L' := [(3, .int (nI ((x / 1) % 10))), (2, .int (nI 1)), (4, .int (nI 0)), (0, .ref (E.1 + 30)), (1, .int (nI x))]) rfl ?_
                    refine J_iload_n dX3_tell_33 rfl ?_
                    refine J_if_neN (tgt := 48) dX3_tell_34 (by decide) (by omega) (fun c39 => ?_) (fun c39 => ?_)
                    · skip
                      refine J_iconst (v := nI 0) dX3_tell_48 (by decide +kernel) ?_
                      refine J_istore dX3_tell_49 (Nat.le_of_ble_eq_true rfl) (L' := [(4, .int (nI 0)), (3, .int (nI ((x / 1) % 10))), (2, .int (nI 1)), (0, .ref (E.1 + 30)), (1, .int (nI x))]) rfl ?_
                      refine J_iload dX3_tell_51 rfl ?_
                      refine J_if_neN (tgt := 98) dX3_tell_53 (by decide) (by omega) (fun z => absurd z (by decide)) (fun _ => ?_)
                      refine J_iload_n dX3_tell_56 rfl ?_
                      refine J_iconst (v := nI 1) dX3_tell_57 (by decide +kernel) ?_
                      refine J_icmp_ltN (tgt := 74) dX3_tell_58 (by decide) (by omega) (by omega) (fun c41 => ?_) (fun c41 => ?_)
                      · skip
                        refine J_iconst (v := nI 0) dX3_tell_74 (by decide +kernel) ?_
                        exact J_zret dX3_tell_75 rfl rfl ⟨Nat.le_refl _, Nat.le_refl _⟩ (by rw [hPP]; exact ⟨rfl, rfl, (updN (updN (updN T 0 (((x / 1000) % 10) - 1)) 1 (((x / 100) % 10) - 1)) 2 (((x / 10) % 10) - 1)), 3, rfl⟩)
                      · skip
                        refine J_iload_n dX3_tell_61 rfl ?_
                        refine J_iconst (v := nI 4) dX3_tell_62 (by decide +kernel) ?_
                        refine J_icmp_gtN (tgt := 74) dX3_tell_63 (by decide) (by omega) (by omega) (fun c42 => ?_) (fun c42 => ?_)
                        · skip
                          refine J_iconst (v := nI 0) dX3_tell_74 (by decide +kernel) ?_
                          exact J_zret dX3_tell_75 rfl rfl ⟨Nat.le_refl _, Nat.le_refl _⟩ (by rw [hPP]; exact ⟨rfl, rfl, (updN (updN (updN T 0 (((x / 1000) % 10) - 1)) 1 (((x / 100) % 10) - 1)) 2 (((x / 10) % 10) - 1)), 3, rfl⟩)
                        · skip
                          refine J_aload_n dX3_tell_66 rfl ?_
                          refine J_get 3 dX3_tell_67 jk3 (Nat.le_of_ble_eq_true rfl) jfRX3_21 ((hset_ne (by omega)).trans hset_eq) (by omega) rfl ?_
                          refine J_iconst (v := nI 4) dX3_tell_70 (by decide +kernel) ?_
                          refine J_icmp_ltN (tgt := 76) dX3_tell_71 (by decide) (by omega) (by omega) (fun _ => ?_) (fun z => absurd z (by decide))
                          refine J_aload_n dX3_tell_76 rfl ?_
                          refine J_get 0 dX3_tell_77 jk3 (Nat.le_of_ble_eq_true rfl) jfRX3_11 ((hset_ne (by omega)).trans hset_eq) (by omega) rfl ?_
                          refine J_aload_n dX3_tell_80 rfl ?_
                          refine J_get 3 dX3_tell_81 jk3 (Nat.le_of_ble_eq_true rfl) jfRX3_21 ((hset_ne (by omega)).trans hset_eq) (by omega) rfl ?_
                          refine J_iload_n dX3_tell_84 rfl ?_
                          refine J_iconst (v := nI 1) dX3_tell_85 (by decide +kernel) ?_
                          refine J_isubN dX3_tell_86 (by omega) ?_
                          refine J_iastN (i := 3) (v := ((x / 1) % 10) - 1) dX3_tell_87 hset_eq (by omega) (by omega) (by omega) ?_
                          refine J.cast hset_hset ?_
                          refine J_aload_n dX3_tell_88 rfl ?_
                          refine J_dup dX3_tell_89 rfl ?_
                          refine J_get 3 dX3_tell_90 jk3 (Nat.le_of_ble_eq_true rfl) jfRX3_21 ((hset_ne (by omega)).trans hset_eq) (by omega) rfl ?_
                          refine J_iconst (v := nI 1) dX3_tell_93 (by decide +kernel) ?_
                          refine J_iaddN dX3_tell_94 ?_
                          refine J.stk (st' := [.int (nI 4), .ref (E.1 + 30)]) rfl ?_
                          refine J_put 3 dX3_tell_95 jk3 (Nat.le_of_ble_eq_true rfl) jfRX3_21 ((hset_ne (by omega)).trans hset_eq) (by omega) rfl rfl rfl (Nat.le_of_ble_eq_true rfl) ?_
                          refine J.cast (h' := (hset (hset (hset h 30 (.inr (2, [.ref (E.1 + 31), .ref (E.1 + 32), .ref (E.1 + 33), .int (nI 3), .int (nI lb), .int (nI le)]))) 31 (cI E 4 (nF (updN (updN (updN (updN T 0 (((x / 1000) % 10) - 1)) 1 (((x / 100) % 10) - 1)) 2 (((x / 10) % 10) - 1)) 3 (((x / 1) % 10) - 1))))) 30 (.inr (2, [.ref (E.1 + 31), .ref (E.1 + 32), .ref (E.1 + 33), .int (nI 4), .int (nI lb), .int (nI le)])))) rfl ?_
                          refine J.cast ((hset_comm (by omega)).trans (hset_cg hset_hset rfl)) ?_
                          refine J_iload_n dX3_tell_98 rfl ?_
                          refine J_bipush (v := nI 10) dX3_tell_99 (by decide +kernel) ?_
                          refine J_idivN dX3_tell_101 (by omega) (by omega) (by omega) ?_
                          refine J.stk (st' := [.int (nI 0)]) rfl ?_
                          refine J_istore_n dX3_tell_102 (Nat.le_of_ble_eq_true rfl) (L' := [(2, .int (nI 0)), (4, .int (nI 0)), (3, .int (nI ((x / 1) % 10))), (0, .ref (E.1 + 30)), (1, .int (nI x))]) rfl ?_
                          refine J_goto (tgt := 22) dX3_tell_103 (by decide) ?_
                          refine J_iload_n dX3_tell_22 rfl ?_
                          refine J_if_leN (tgt := 106) dX3_tell_23 (by decide) (by omega) (fun _ => ?_) (fun z => absurd z (by decide))
                          refine J_iconst (v := nI 1) dX3_tell_106 (by decide +kernel) ?_
                          exact J_zret dX3_tell_107 rfl rfl ⟨Nat.le_refl _, Nat.le_refl _⟩ (by rw [hPP]; exact ⟨(congrArg some (jv_N (by first | rfl | (exfalso; exact hbad ⟨by omega, by omega, by omega, by omega, by omega⟩)))), rfl, (updN (updN (updN (updN T 0 (((x / 1000) % 10) - 1)) 1 (((x / 100) % 10) - 1)) 2 (((x / 10) % 10) - 1)) 3 (((x / 1) % 10) - 1)), 4, rfl⟩)
                    · skip
                      refine J_aload_n dX3_tell_37 rfl ?_
                      refine J_get 3 dX3_tell_38 jk3 (Nat.le_of_ble_eq_true rfl) jfRX3_21 ((hset_ne (by omega)).trans hset_eq) (by omega) rfl ?_
                      refine J_if_neN (tgt := 48) dX3_tell_41 (by decide) (by omega) (fun _ => ?_) (fun z => absurd z (by decide))
                      refine J_iconst (v := nI 0) dX3_tell_48 (by decide +kernel) ?_
                      refine J_istore dX3_tell_49 (Nat.le_of_ble_eq_true rfl) (L' := [(4, .int (nI 0)), (3, .int (nI ((x / 1) % 10))), (2, .int (nI 1)), (0, .ref (E.1 + 30)), (1, .int (nI x))]) rfl ?_
                      refine J_iload dX3_tell_51 rfl ?_
                      refine J_if_neN (tgt := 98) dX3_tell_53 (by decide) (by omega) (fun z => absurd z (by decide)) (fun _ => ?_)
                      refine J_iload_n dX3_tell_56 rfl ?_
                      refine J_iconst (v := nI 1) dX3_tell_57 (by decide +kernel) ?_
                      refine J_icmp_ltN (tgt := 74) dX3_tell_58 (by decide) (by omega) (by omega) (fun c47 => ?_) (fun c47 => ?_)
                      · skip
                        refine J_iconst (v := nI 0) dX3_tell_74 (by decide +kernel) ?_
                        exact J_zret dX3_tell_75 rfl rfl ⟨Nat.le_refl _, Nat.le_refl _⟩ (by rw [hPP]; exact ⟨rfl, rfl, (updN (updN (updN T 0 (((x / 1000) % 10) - 1)) 1 (((x / 100) % 10) - 1)) 2 (((x / 10) % 10) - 1)), 3, rfl⟩)
                      · skip
                        refine J_iload_n dX3_tell_61 rfl ?_
                        refine J_iconst (v := nI 4) dX3_tell_62 (by decide +kernel) ?_
                        refine J_icmp_gtN (tgt := 74) dX3_tell_63 (by decide) (by omega) (by omega) (fun c48 => ?_) (fun c48 => ?_)
                        · skip
                          refine J_iconst (v := nI 0) dX3_tell_74 (by decide +kernel) ?_
                          exact J_zret dX3_tell_75 rfl rfl ⟨Nat.le_refl _, Nat.le_refl _⟩ (by rw [hPP]; exact ⟨rfl, rfl, (updN (updN (updN T 0 (((x / 1000) % 10) - 1)) 1 (((x / 100) % 10) - 1)) 2 (((x / 10) % 10) - 1)), 3, rfl⟩)
                        · skip
                          refine J_aload_n dX3_tell_66 rfl ?_
                          refine J_get 3 dX3_tell_67 jk3 (Nat.le_of_ble_eq_true rfl) jfRX3_21 ((hset_ne (by omega)).trans hset_eq) (by omega) rfl ?_
                          refine J_iconst (v := nI 4) dX3_tell_70 (by decide +kernel) ?_
                          refine J_icmp_ltN (tgt := 76) dX3_tell_71 (by decide) (by omega) (by omega) (fun _ => ?_) (fun z => absurd z (by decide))
                          refine J_aload_n dX3_tell_76 rfl ?_
                          refine J_get 0 dX3_tell_77 jk3 (Nat.le_of_ble_eq_true rfl) jfRX3_11 ((hset_ne (by omega)).trans hset_eq) (by omega) rfl ?_
                          refine J_aload_n dX3_tell_80 rfl ?_
                          refine J_get 3 dX3_tell_81 jk3 (Nat.le_of_ble_eq_true rfl) jfRX3_21 ((hset_ne (by omega)).trans hset_eq) (by omega) rfl ?_
                          refine J_iload_n dX3_tell_84 rfl ?_
                          refine J_iconst (v := nI 1) dX3_tell_85 (by decide +kernel) ?_
                          refine J_isubN dX3_tell_86 (by omega) ?_
                          refine J_iastN (i := 3) (v := ((x / 1) % 10) - 1) dX3_tell_87 hset_eq (by omega) (by omega) (by omega) ?_
                          refine J.cast hset_hset ?_
                          refine J_aload_n dX3_tell_88 rfl ?_
                          refine J_dup dX3_tell_89 rfl ?_
                          refine J_get 3 dX3_tell_90 jk3 (Nat.le_of_ble_eq_true rfl) jfRX3_21 ((hset_ne (by omega)).trans hset_eq) (by omega) rfl ?_
                          refine J_iconst (v := nI 1) dX3_tell_93 (by decide +kernel) ?_
                          refine J_iaddN dX3_tell_94 ?_
                          refine J.stk (st' := [.int (nI 4), .ref (E.1 + 30)]) rfl ?_
                          refine J_put 3 dX3_tell_95 jk3 (Nat.le_of_ble_eq_true rfl) jfRX3_21 ((hset_ne (by omega)).trans hset_eq) (by omega) rfl rfl rfl (Nat.le_of_ble_eq_true rfl) ?_
                          refine J.cast (h' := (hset (hset (hset h 30 (.inr (2, [.ref (E.1 + 31), .ref (E.1 + 32), .ref (E.1 + 33), .int (nI 3), .int (nI lb), .int (nI le)]))) 31 (cI E 4 (nF (updN (updN (updN (updN T 0 (((x / 1000) % 10) - 1)) 1 (((x / 100) % 10) - 1)) 2 (((x / 10) % 10) - 1)) 3 (((x / 1) % 10) - 1))))) 30 (.inr (2, [.ref (E.1 + 31), .ref (E.1 + 32), .ref (E.1 + 33), .int (nI 4), .int (nI lb), .int (nI le)])))) rfl ?_
                          refine J.cast ((hset_comm (by omega)).trans (hset_cg hset_hset rfl)) ?_
                          refine J_iload_n dX3_tell_98 rfl ?_
                          refine J_bipush (v := nI 10) dX3_tell_99 (by decide +kernel) ?_
                          refine J_idivN dX3_tell_101 (by omega) (by omega) (by omega) ?_
                          refine J.stk (st' := [.int (nI 0)]) rfl ?_
                          refine J_istore_n dX3_tell_102 (Nat.le_of_ble_eq_true rfl) (L' := [(2, .int (nI 0)), (4, .int (nI 0)), (3, .int (nI ((x / 1) % 10))), (0, .ref (E.1 + 30)), (1, .int (nI x))]) rfl ?_
                          refine J_goto (tgt := 22) dX3_tell_103 (by decide) ?_
                          refine J_iload_n dX3_tell_22 rfl ?_
                          refine J_if_leN (tgt := 106) dX3_tell_23 (by decide) (by omega) (fun _ => ?_) (fun z => absurd z (by decide))
                          refine J_iconst (v := nI 1) dX3_tell_106 (by decide +kernel) ?_
                          exact J_zret dX3_tell_107 rfl rfl ⟨Nat.le_refl _, Nat.le_refl _⟩ (by rw [hPP]; exact ⟨(congrArg some (jv_N (by first | rfl | (exfalso; exact hbad ⟨by omega, by omega, by omega, by omega, by omega⟩)))), rfl, (updN (updN (updN (updN T 0 (((x / 1000) % 10) - 1)) 1 (((x / 100) % 10) - 1)) 2 (((x / 10) % 10) - 1)) 3 (((x / 1) % 10) - 1)), 4, rfl⟩)
        · skip
          refine J_aload_n dX3_tell_37 rfl ?_
          refine J_get 3 dX3_tell_38 jk3 (Nat.le_of_ble_eq_true rfl) jfRX3_21 ((hset_ne (by omega)).trans hset_eq) (by omega) rfl ?_
          refine J_if_neN (tgt := 48) dX3_tell_41 (by decide) (by omega) (fun _ => ?_) (fun z => absurd z (by decide))
          refine J_iconst (v := nI 0) dX3_tell_48 (by decide +kernel) ?_
          refine J_istore dX3_tell_49 (Nat.le_of_ble_eq_true rfl) (L' := [(4, .int (nI 0)), (3, .int (nI ((x / 100) % 10))), (2, .int (nI 100)), (0, .ref (E.1 + 30)), (1, .int (nI x))]) rfl ?_
          refine J_iload dX3_tell_51 rfl ?_
          refine J_if_neN (tgt := 98) dX3_tell_53 (by decide) (by omega) (fun z => absurd z (by decide)) (fun _ => ?_)
          refine J_iload_n dX3_tell_56 rfl ?_
          refine J_iconst (v := nI 1) dX3_tell_57 (by decide +kernel) ?_
          refine J_icmp_ltN (tgt := 74) dX3_tell_58 (by decide) (by omega) (by omega) (fun c53 => ?_) (fun c53 => ?_)
          · skip
            refine J_iconst (v := nI 0) dX3_tell_74 (by decide +kernel) ?_
            exact J_zret dX3_tell_75 rfl rfl ⟨Nat.le_refl _, Nat.le_refl _⟩ (by rw [hPP]; exact ⟨rfl, rfl, (updN T 0 (((x / 1000) % 10) - 1)), 1, rfl⟩)
          · skip
            refine J_iload_n dX3_tell_61 rfl ?_
            refine J_iconst (v := nI 4) dX3_tell_62 (by decide +kernel) ?_
            refine J_icmp_gtN (tgt := 74) dX3_tell_63 (by decide) (by omega) (by omega) (fun c54 => ?_) (fun c54 => ?_)
            · skip
              refine J_iconst (v := nI 0) dX3_tell_74 (by decide +kernel) ?_
              exact J_zret dX3_tell_75 rfl rfl ⟨Nat.le_refl _, Nat.le_refl _⟩ (by rw [hPP]; exact ⟨rfl, rfl, (updN T 0 (((x / 1000) % 10) - 1)), 1, rfl⟩)
            · skip
              refine J_aload_n dX3_tell_66 rfl ?_
              refine J_get 3 dX3_tell_67 jk3 (Nat.le_of_ble_eq_true rfl) jfRX3_21 ((hset_ne (by omega)).trans hset_eq) (by omega) rfl ?_
              refine J_iconst (v := nI 4) dX3_tell_70 (by decide +kernel) ?_
              refine J_icmp_ltN (tgt := 76) dX3_tell_71 (by decide) (by omega) (by omega) (fun _ => ?_) (fun z => absurd z (by decide))
              refine J_aload_n dX3_tell_76 rfl ?_
              refine J_get 0 dX3_tell_77 jk3 (Nat.le_of_ble_eq_true rfl) jfRX3_11 ((hset_ne (by omega)).trans hset_eq) (by omega) rfl ?_
              refine J_aload_n dX3_tell_80 rfl ?_
              refine J_get 3 dX3_tell_81 jk3 (Nat.le_of_ble_eq_true rfl) jfRX3_21 ((hset_ne (by omega)).trans hset_eq) (by omega) rfl ?_
              refine J_iload_n dX3_tell_84 rfl ?_
              refine J_iconst (v := nI 1) dX3_tell_85 (by decide +kernel) ?_
              refine J_isubN dX3_tell_86 (by omega) ?_
              refine J_iastN (i := 1) (v := ((x / 100) % 10) - 1) dX3_tell_87 hset_eq (by omega) (by omega) (by omega) ?_
              refine J.cast hset_hset ?_
              refine J_aload_n dX3_tell_88 rfl ?_
              refine J_dup dX3_tell_89 rfl ?_
              refine J_get 3 dX3_tell_90 jk3 (Nat.le_of_ble_eq_true rfl) jfRX3_21 ((hset_ne (by omega)).trans hset_eq) (by omega) rfl ?_
              refine J_iconst (v := nI 1) dX3_tell_93 (by decide +kernel) ?_
              refine J_iaddN dX3_tell_94 ?_
              refine J.stk (st' := [.int (nI 2), .ref (E.1 + 30)]) rfl ?_
              refine J_put 3 dX3_tell_95 jk3 (Nat.le_of_ble_eq_true rfl) jfRX3_21 ((hset_ne (by omega)).trans hset_eq) (by omega) rfl rfl rfl (Nat.le_of_ble_eq_true rfl) ?_
              refine J.cast (h' := (hset (hset (hset h 30 (.inr (2, [.ref (E.1 + 31), .ref (E.1 + 32), .ref (E.1 + 33), .int (nI 1), .int (nI lb), .int (nI le)]))) 31 (cI E 4 (nF (updN (updN T 0 (((x / 1000) % 10) - 1)) 1 (((x / 100) % 10) - 1))))) 30 (.inr (2, [.ref (E.1 + 31), .ref (E.1 + 32), .ref (E.1 + 33), .int (nI 2), .int (nI lb), .int (nI le)])))) rfl ?_
              refine J.cast ((hset_comm (by omega)).trans (hset_cg hset_hset rfl)) ?_
              refine J_iload_n dX3_tell_98 rfl ?_
              refine J_bipush (v := nI 10) dX3_tell_99 (by decide +kernel) ?_
              refine J_idivN dX3_tell_101 (by omega) (by omega) (by omega) ?_
              refine J.stk (st' := [.int (nI 10)]) rfl ?_
              refine J_istore_n dX3_tell_102 (Nat.le_of_ble_eq_true rfl) (L' := [(2, .int (nI 10)), (4, .int (nI 0)), (3, .int (nI ((x / 100) % 10))), (0, .ref (E.1 + 30)), (1, .int (nI x))]) rfl ?_
              refine J_goto (tgt := 22) dX3_tell_103 (by decide) ?_
              refine J_iload_n dX3_tell_22 rfl ?_
              refine J_if_leN (tgt := 106) dX3_tell_23 (by decide) (by omega) (fun z => absurd z (by decide)) (fun _ => ?_)
              refine J_iload_n dX3_tell_26 rfl ?_
              refine J_iload_n dX3_tell_27 rfl ?_
              refine J_idivN dX3_tell_28 (by omega) (by omega) (by omega) ?_
              refine J_bipush (v := nI 10) dX3_tell_29 (by decide +kernel) ?_
              refine J_iremN dX3_tell_31 (by omega) (by omega) (by omega) ?_
              refine J_istore_n dX3_tell_32 (Nat.le_of_ble_eq_true rfl) (L' := [(3, .int (nI ((x / 10) % 10))), (2, .int (nI 10)), (4, .int (nI 0)), (0, .ref (E.1 + 30)), (1, .int (nI x))]) rfl ?_
              refine J_iload_n dX3_tell_33 rfl ?_
              refine J_if_neN (tgt := 48) dX3_tell_34 (by decide) (by omega) (fun c57 => ?_) (fun c57 => ?_)
              · skip
                refine J_iconst (v := nI 0) dX3_tell_48 (by decide +kernel) ?_
                refine J_istore dX3_tell_49 (Nat.le_of_ble_eq_true rfl) (L' := [(4, .int (nI 0)), (3, .int (nI ((x / 10) % 10))), (2, .int (nI 10)), (0, .ref (E.1 + 30)), (1, .int (nI x))]) rfl ?_
                refine J_iload dX3_tell_51 rfl ?_
                refine J_if_neN (tgt := 98) dX3_tell_53 (by decide) (by omega) (fun z => absurd z (by decide)) (fun _ => ?_)
                refine J_iload_n dX3_tell_56 rfl ?_
                refine J_iconst (v := nI 1) dX3_tell_57 (by decide +kernel) ?_
                refine J_icmp_ltN (tgt := 74) dX3_tell_58 (by decide) (by omega) (by omega) (fun c59 => ?_) (fun c59 => ?_)
                · skip
                  refine J_iconst (v := nI 0) dX3_tell_74 (by decide +kernel) ?_
                  exact J_zret dX3_tell_75 rfl rfl ⟨Nat.le_refl _, Nat.le_refl _⟩ (by rw [hPP]; exact ⟨rfl, rfl, (updN (updN T 0 (((x / 1000) % 10) - 1)) 1 (((x / 100) % 10) - 1)), 2, rfl⟩)
                · skip
                  refine J_iload_n dX3_tell_61 rfl ?_
                  refine J_iconst (v := nI 4) dX3_tell_62 (by decide +kernel) ?_
                  refine J_icmp_gtN (tgt := 74) dX3_tell_63 (by decide) (by omega) (by omega) (fun c60 => ?_) (fun c60 => ?_)
                  · skip
                    refine J_iconst (v := nI 0) dX3_tell_74 (by decide +kernel) ?_
                    exact J_zret dX3_tell_75 rfl rfl ⟨Nat.le_refl _, Nat.le_refl _⟩ (by rw [hPP]; exact ⟨rfl, rfl, (updN (updN T 0 (((x / 1000) % 10) - 1)) 1 (((x / 100) % 10) - 1)), 2, rfl⟩)
                  · skip
                    refine J_aload_n dX3_tell_66 rfl ?_
                    refine J_get 3 dX3_tell_67 jk3 (Nat.le_of_ble_eq_true rfl) jfRX3_21 ((hset_ne (by omega)).trans hset_eq) (by omega) rfl ?_
                    refine J_iconst (v := nI 4) dX3_tell_70 (by decide +kernel) ?_
                    refine J_icmp_ltN (tgt := 76) dX3_tell_71 (by decide) (by omega) (by omega) (fun _ => ?_) (fun z => absurd z (by decide))
                    refine J_aload_n dX3_tell_76 rfl ?_
                    refine J_get 0 dX3_tell_77 jk3 (Nat.le_of_ble_eq_true rfl) jfRX3_11 ((hset_ne (by omega)).trans hset_eq) (by omega) rfl ?_
                    refine J_aload_n dX3_tell_80 rfl ?_
                    refine J_get 3 dX3_tell_81 jk3 (Nat.le_of_ble_eq_true rfl) jfRX3_21 ((hset_ne (by omega)).trans hset_eq) (by omega) rfl ?_
                    refine J_iload_n dX3_tell_84 rfl ?_
                    refine J_iconst (v := nI 1) dX3_tell_85 (by decide +kernel) ?_
                    refine J_isubN dX3_tell_86 (by omega) ?_
                    refine J_iastN (i := 2) (v := ((x / 10) % 10) - 1) dX3_tell_87 hset_eq (by omega) (by omega) (by omega) ?_
                    refine J.cast hset_hset ?_
                    refine J_aload_n dX3_tell_88 rfl ?_
                    refine J_dup dX3_tell_89 rfl ?_
                    refine J_get 3 dX3_tell_90 jk3 (Nat.le_of_ble_eq_true rfl) jfRX3_21 ((hset_ne (by omega)).trans hset_eq) (by omega) rfl ?_
                    refine J_iconst (v := nI 1) dX3_tell_93 (by decide +kernel) ?_
                    refine J_iaddN dX3_tell_94 ?_
                    refine J.stk (st' := [.int (nI 3), .ref (E.1 + 30)]) rfl ?_
                    refine J_put 3 dX3_tell_95 jk3 (Nat.le_of_ble_eq_true rfl) jfRX3_21 ((hset_ne (by omega)).trans hset_eq) (by omega) rfl rfl rfl (Nat.le_of_ble_eq_true rfl) ?_
                    refine J.cast (h' := (hset (hset (hset h 30 (.inr (2, [.ref (E.1 + 31), .ref (E.1 + 32), .ref (E.1 + 33), .int (nI 2), .int (nI lb), .int (nI le)]))) 31 (cI E 4 (nF (updN (updN (updN T 0 (((x / 1000) % 10) - 1)) 1 (((x / 100) % 10) - 1)) 2 (((x / 10) % 10) - 1))))) 30 (.inr (2, [.ref (E.1 + 31), .ref (E.1 + 32), .ref (E.1 + 33), .int (nI 3), .int (nI lb), .int (nI le)])))) rfl ?_
                    refine J.cast ((hset_comm (by omega)).trans (hset_cg hset_hset rfl)) ?_
                    refine J_iload_n dX3_tell_98 rfl ?_
                    refine J_bipush (v := nI 10) dX3_tell_99 (by decide +kernel) ?_
                    refine J_idivN dX3_tell_101 (by omega) (by omega) (by omega) ?_
                    refine J.stk (st' := [.int (nI 1)]) rfl ?_
                    refine J_istore_n dX3_tell_102 (Nat.le_of_ble_eq_true rfl) (L' := [(2, .int (nI 1)), (4, .int (nI 0)), (3, .int (nI ((x / 10) % 10))), (0, .ref (E.1 + 30)), (1, .int (nI x))]) rfl ?_
                    refine J_goto (tgt := 22) dX3_tell_103 (by decide) ?_
                    refine J_iload_n dX3_tell_22 rfl ?_
                    refine J_if_leN (tgt := 106) dX3_tell_23 (by decide) (by omega) (fun z => absurd z (by decide)) (fun _ => ?_)
                    refine J_iload_n dX3_tell_26 rfl ?_
                    refine J_iload_n dX3_tell_27 rfl ?_
                    refine J_idivN dX3_tell_28 (by omega) (by omega) (by omega) ?_
                    refine J_bipush (v := nI 10) dX3_tell_29 (by decide +kernel) ?_
                    refine J_iremN dX3_tell_31 (by omega) (by omega) (by omega) ?_
                    refine J_istore_n dX3_tell_32 (Nat.le_of_ble_eq_true rfl) (L' := [(3, .int (nI ((x / 1) % 10))), (2, .int (nI 1)), (4, .int (nI 0)), (0, .ref (E.1 + 30)), (1, .int (nI x))]) rfl ?_
                    refine J_iload_n dX3_tell_33 rfl ?_
                    refine J_if_neN (tgt := 48) dX3_tell_34 (by decide) (by omega) (fun c63 => ?_) (fun c63 => ?_)
                    · skip
                      refine J_iconst (v := nI 0) dX3_tell_48 (by decide +kernel) ?_
                      refine J_istore dX3_tell_49 (Nat.le_of_ble_eq_true rfl) (L' := [(4, .int (nI 0)), (3, .int (nI ((x / 1) % 10))), (2, .int (nI 1)), (0, .ref (E.1 + 30)), (1, .int (nI x))]) rfl ?_
                      refine J_iload dX3_tell_51 rfl ?_
                      refine J_if_neN (tgt := 98) dX3_tell_53 (by decide) (by omega) (fun z => absurd z (by decide)) (fun _ => ?_)
                      refine J_iload_n dX3_tell_56 rfl ?_
                      refine J_iconst (v := nI 1) dX3_tell_57 (by decide +kernel) ?_
                      refine J_icmp_ltN (tgt := 74) dX3_tell_58 (by decide) (by omega) (by omega) (fun c65 => ?_) (fun c65 => ?_)
                      · skip
                        refine J_iconst (v := nI 0) dX3_tell_74 (by decide +kernel) ?_
                        exact J_zret dX3_tell_75 rfl rfl ⟨Nat.le_refl _, Nat.le_refl _⟩ (by rw [hPP]; exact ⟨rfl, rfl, (updN (updN (updN T 0 (((x / 1000) % 10) - 1)) 1 (((x / 100) % 10) - 1)) 2 (((x / 10) % 10) - 1)), 3, rfl⟩)
                      · skip
                        refine J_iload_n dX3_tell_61 rfl ?_
                        refine J_iconst (v := nI 4) dX3_tell_62 (by decide +kernel) ?_
                        refine J_icmp_gtN (tgt := 74) dX3_tell_63 (by decide) (by omega) (by omega) (fun c66 => ?_) (fun c66 => ?_)
                        · skip
                          refine J_iconst (v := nI 0) dX3_tell_74 (by decide +kernel) ?_
                          exact J_zret dX3_tell_75 rfl rfl ⟨Nat.le_refl _, Nat.le_refl _⟩ (by rw [hPP]; exact ⟨rfl, rfl, (updN (updN (updN T 0 (((x / 1000) % 10) - 1)) 1 (((x / 100) % 10) - 1)) 2 (((x / 10) % 10) - 1)), 3, rfl⟩)
                        · skip
                          refine J_aload_n dX3_tell_66 rfl ?_
                          refine J_get 3 dX3_tell_67 jk3 (Nat.le_of_ble_eq_true rfl) jfRX3_21 ((hset_ne (by omega)).trans hset_eq) (by omega) rfl ?_
                          refine J_iconst (v := nI 4) dX3_tell_70 (by decide +kernel) ?_
                          refine J_icmp_ltN (tgt := 76) dX3_tell_71 (by decide) (by omega) (by omega) (fun _ => ?_) (fun z => absurd z (by decide))
                          refine J_aload_n dX3_tell_76 rfl ?_
                          refine J_get 0 dX3_tell_77 jk3 (Nat.le_of_ble_eq_true rfl) jfRX3_11 ((hset_ne (by omega)).trans hset_eq) (by omega) rfl ?_
                          refine J_aload_n dX3_tell_80 rfl ?_
                          refine J_get 3 dX3_tell_81 jk3 (Nat.le_of_ble_eq_true rfl) jfRX3_21 ((hset_ne (by omega)).trans hset_eq) (by omega) rfl ?_
                          refine J_iload_n dX3_tell_84 rfl ?_
                          refine J_iconst (v := nI 1) dX3_tell_85 (by decide +kernel) ?_
                          refine J_isubN dX3_tell_86 (by omega) ?_
                          refine J_iastN (i := 3) (v := ((x / 1) % 10) - 1) dX3_tell_87 hset_eq (by omega) (by omega) (by omega) ?_
                          refine J.cast hset_hset ?_
                          refine J_aload_n dX3_tell_88 rfl ?_
                          refine J_dup dX3_tell_89 rfl ?_
                          refine J_get 3 dX3_tell_90 jk3 (Nat.le_of_ble_eq_true rfl) jfRX3_21 ((hset_ne (by omega)).trans hset_eq) (by omega) rfl ?_
                          refine J_iconst (v := nI 1) dX3_tell_93 (by decide +kernel) ?_
                          refine J_iaddN dX3_tell_94 ?_
                          refine J.stk (st' := [.int (nI 4), .ref (E.1 + 30)]) rfl ?_
                          refine J_put 3 dX3_tell_95 jk3 (Nat.le_of_ble_eq_true rfl) jfRX3_21 ((hset_ne (by omega)).trans hset_eq) (by omega) rfl rfl rfl (Nat.le_of_ble_eq_true rfl) ?_
                          refine J.cast (h' := (hset (hset (hset h 30 (.inr (2, [.ref (E.1 + 31), .ref (E.1 + 32), .ref (E.1 + 33), .int (nI 3), .int (nI lb), .int (nI le)]))) 31 (cI E 4 (nF (updN (updN (updN (updN T 0 (((x / 1000) % 10) - 1)) 1 (((x / 100) % 10) - 1)) 2 (((x / 10) % 10) - 1)) 3 (((x / 1) % 10) - 1))))) 30 (.inr (2, [.ref (E.1 + 31), .ref (E.1 + 32), .ref (E.1 + 33), .int (nI 4), .int (nI lb), .int (nI le)])))) rfl ?_
                          refine J.cast ((hset_comm (by omega)).trans (hset_cg hset_hset rfl)) ?_
                          refine J_iload_n dX3_tell_98 rfl ?_
                          refine J_bipush (v := nI 10) dX3_tell_99 (by decide +kernel) ?_
                          refine J_idivN dX3_tell_101 (by omega) (by omega) (by omega) ?_
                          refine J.stk (st' := [.int (nI 0)]) rfl ?_
                          refine J_istore_n dX3_tell_102 (Nat.le_of_ble_eq_true rfl) (L' := [(2, .int (nI 0)), (4, .int (nI 0)), (3, .int (nI ((x / 1) % 10))), (0, .ref (E.1 + 30)), (1, .int (nI x))]) rfl ?_
                          refine J_goto (tgt := 22) dX3_tell_103 (by decide) ?_
                          refine J_iload_n dX3_tell_22 rfl ?_
                          refine J_if_leN (tgt := 106) dX3_tell_23 (by decide) (by omega) (fun _ => ?_) (fun z => absurd z (by decide))
                          refine J_iconst (v := nI 1) dX3_tell_106 (by decide +kernel) ?_
                          exact J_zret dX3_tell_107 rfl rfl ⟨Nat.le_refl _, Nat.le_refl _⟩ (by rw [hPP]; exact ⟨(congrArg some (jv_N (by first | rfl | (exfalso; exact hbad ⟨by omega, by omega, by omega, by omega, by omega⟩)))), rfl, (updN (updN (updN (updN T 0 (((x / 1000) % 10) - 1)) 1 (((x / 100) % 10) - 1)) 2 (((x / 10) % 10) - 1)) 3 (((x / 1) % 10) - 1)), 4, rfl⟩)
                    · skip
                      refine J_aload_n dX3_tell_37 rfl ?_
                      refine J_get 3 dX3_tell_38 jk3 (Nat.le_of_ble_eq_true rfl) jfRX3_21 ((hset_ne (by omega)).trans hset_eq) (by omega) rfl ?_
                      refine J_if_neN (tgt := 48) dX3_tell_41 (by decide) (by omega) (fun _ => ?_) (fun z => absurd z (by decide))
                      refine J_iconst (v := nI 0) dX3_tell_48 (by decide +kernel) ?_
                      refine J_istore dX3_tell_49 (Nat.le_of_ble_eq_true rfl) (L' := [(4, .int (nI 0)), (3, .int (nI ((x / 1) % 10))), (2, .int (nI 1)), (0, .ref (E.1 + 30)), (1, .int (nI x))]) rfl ?_
                      refine J_iload dX3_tell_51 rfl ?_
                      refine J_if_neN (tgt := 98) dX3_tell_53 (by decide) (by omega) (fun z => absurd z (by decide)) (fun _ => ?_)
                      refine J_iload_n dX3_tell_56 rfl ?_
                      refine J_iconst (v := nI 1) dX3_tell_57 (by decide +kernel) ?_
                      refine J_icmp_ltN (tgt := 74) dX3_tell_58 (by decide) (by omega) (by omega) (fun c71 => ?_) (fun c71 => ?_)
                      · skip
                        refine J_iconst (v := nI 0) dX3_tell_74 (by decide +kernel) ?_
                        exact J_zret dX3_tell_75 rfl rfl ⟨Nat.le_refl _, Nat.le_refl _⟩ (by rw [hPP]; exact ⟨rfl, rfl, (updN (updN (updN T 0 (((x / 1000) % 10) - 1)) 1 (((x / 100) % 10) - 1)) 2 (((x / 10) % 10) - 1)), 3, rfl⟩)
                      · skip
                        refine J_iload_n dX3_tell_61 rfl ?_
                        refine J_iconst (v := nI 4) dX3_tell_62 (by decide +kernel) ?_
                        refine J_icmp_gtN (tgt := 74) dX3_tell_63 (by decide) (by omega) (by omega) (fun c72 => ?_) (fun c72 => ?_)
                        · skip
                          refine J_iconst (v := nI 0) dX3_tell_74 (by decide +kernel) ?_
                          exact J_zret dX3_tell_75 rfl rfl ⟨Nat.le_refl _, Nat.le_refl _⟩ (by rw [hPP]; exact ⟨rfl, rfl, (updN (updN (updN T 0 (((x / 1000) % 10) - 1)) 1 (((x / 100) % 10) - 1)) 2 (((x / 10) % 10) - 1)), 3, rfl⟩)
                        · skip
                          refine J_aload_n dX3_tell_66 rfl ?_
                          refine J_get 3 dX3_tell_67 jk3 (Nat.le_of_ble_eq_true rfl) jfRX3_21 ((hset_ne (by omega)).trans hset_eq) (by omega) rfl ?_
                          refine J_iconst (v := nI 4) dX3_tell_70 (by decide +kernel) ?_
                          refine J_icmp_ltN (tgt := 76) dX3_tell_71 (by decide) (by omega) (by omega) (fun _ => ?_) (fun z => absurd z (by decide))
                          refine J_aload_n dX3_tell_76 rfl ?_
                          refine J_get 0 dX3_tell_77 jk3 (Nat.le_of_ble_eq_true rfl) jfRX3_11 ((hset_ne (by omega)).trans hset_eq) (by omega) rfl ?_
                          refine J_aload_n dX3_tell_80 rfl ?_
                          refine J_get 3 dX3_tell_81 jk3 (Nat.le_of_ble_eq_true rfl) jfRX3_21 ((hset_ne (by omega)).trans hset_eq) (by omega) rfl ?_
                          refine J_iload_n dX3_tell_84 rfl ?_
                          refine J_iconst (v := nI 1) dX3_tell_85 (by decide +kernel) ?_
                          refine J_isubN dX3_tell_86 (by omega) ?_
                          refine J_iastN (i := 3) (v := ((x / 1) % 10) - 1) dX3_tell_87 hset_eq (by omega) (by omega) (by omega) ?_
                          refine J.cast hset_hset ?_
                          refine J_aload_n dX3_tell_88 rfl ?_
                          refine J_dup dX3_tell_89 rfl ?_
                          refine J_get 3 dX3_tell_90 jk3 (Nat.le_of_ble_eq_true rfl) jfRX3_21 ((hset_ne (by omega)).trans hset_eq) (by omega) rfl ?_
                          refine J_iconst (v := nI 1) dX3_tell_93 (by decide +kernel) ?_
                          refine J_iaddN dX3_tell_94 ?_
                          refine J.stk (st' := [.int (nI 4), .ref (E.1 + 30)]) rfl ?_
                          refine J_put 3 dX3_tell_95 jk3 (Nat.le_of_ble_eq_true rfl) jfRX3_21 ((hset_ne (by omega)).trans hset_eq) (by omega) rfl rfl rfl (Nat.le_of_ble_eq_true rfl) ?_
                          refine J.cast (h' := (hset (hset (hset h 30 (.inr (2, [.ref (E.1 + 31), .ref (E.1 + 32), .ref (E.1 + 33), .int (nI 3), .int (nI lb), .int (nI le)]))) 31 (cI E 4 (nF (updN (updN (updN (updN T 0 (((x / 1000) % 10) - 1)) 1 (((x / 100) % 10) - 1)) 2 (((x / 10) % 10) - 1)) 3 (((x / 1) % 10) - 1))))) 30 (.inr (2, [.ref (E.1 + 31), .ref (E.1 + 32), .ref (E.1 + 33), .int (nI 4), .int (nI lb), .int (nI le)])))) rfl ?_
                          refine J.cast ((hset_comm (by omega)).trans (hset_cg hset_hset rfl)) ?_
                          refine J_iload_n dX3_tell_98 rfl ?_
                          refine J_bipush (v := nI 10) dX3_tell_99 (by decide +kernel) ?_
                          refine J_idivN dX3_tell_101 (by omega) (by omega) (by omega) ?_
                          refine J.stk (st' := [.int (nI 0)]) rfl ?_
                          refine J_istore_n dX3_tell_102 (Nat.le_of_ble_eq_true rfl) (L' := [(2, .int (nI 0)), (4, .int (nI 0)), (3, .int (nI ((x / 1) % 10))), (0, .ref (E.1 + 30)), (1, .int (nI x))]) rfl ?_
                          refine J_goto (tgt := 22) dX3_tell_103 (by decide) ?_
                          refine J_iload_n dX3_tell_22 rfl ?_
                          refine J_if_leN (tgt := 106) dX3_tell_23 (by decide) (by omega) (fun _ => ?_) (fun z => absurd z (by decide))
                          refine J_iconst (v := nI 1) dX3_tell_106 (by decide +kernel) ?_
                          exact J_zret dX3_tell_107 rfl rfl ⟨Nat.le_refl _, Nat.le_refl _⟩ (by rw [hPP]; exact ⟨(congrArg some (jv_N (by first | rfl | (exfalso; exact hbad ⟨by omega, by omega, by omega, by omega, by omega⟩)))), rfl, (updN (updN (updN (updN T 0 (((x / 1000) % 10) - 1)) 1 (((x / 100) % 10) - 1)) 2 (((x / 10) % 10) - 1)) 3 (((x / 1) % 10) - 1)), 4, rfl⟩)
              · skip
                refine J_aload_n dX3_tell_37 rfl ?_
                refine J_get 3 dX3_tell_38 jk3 (Nat.le_of_ble_eq_true rfl) jfRX3_21 ((hset_ne (by omega)).trans hset_eq) (by omega) rfl ?_
                refine J_if_neN (tgt := 48) dX3_tell_41 (by decide) (by omega) (fun _ => ?_) (fun z => absurd z (by decide))
                refine J_iconst (v := nI 0) dX3_tell_48 (by decide +kernel) ?_
                refine J_istore dX3_tell_49 (Nat.le_of_ble_eq_true rfl) (L' := [(4, .int (nI 0)), (3, .int (nI ((x / 10) % 10))), (2, .int (nI 10)), (0, .ref (E.1 + 30)), (1, .int (nI x))]) rfl ?_
                refine J_iload dX3_tell_51 rfl ?_
                refine J_if_neN (tgt := 98) dX3_tell_53 (by decide) (by omega) (fun z => absurd z (by decide)) (fun _ => ?_)
                refine J_iload_n dX3_tell_56 rfl ?_
                refine J_iconst (v := nI 1) dX3_tell_57 (by decide +kernel) ?_
                refine J_icmp_ltN (tgt := 74) dX3_tell_58 (by decide) (by omega) (by omega) (fun c77 => ?_) (fun c77 => ?_)
                · skip
                  refine J_iconst (v := nI 0) dX3_tell_74 (by decide +kernel) ?_
                  exact J_zret dX3_tell_75 rfl rfl ⟨Nat.le_refl _, Nat.le_refl _⟩ (by rw [hPP]; exact ⟨rfl, rfl, (updN (updN T 0 (((x / 1000) % 10) - 1)) 1 (((x / 100) % 10) - 1)), 2, rfl⟩)
                · skip
                  refine J_iload_n dX3_tell_61 rfl ?_
                  refine J_iconst (v := nI 4) dX3_tell_62 (by decide +kernel) ?_
                  refine J_icmp_gtN (tgt := 74) dX3_tell_63 (by decide) (by omega) (by omega) (fun c78 => ?_) (fun c78 => ?_)
                  · skip
                    refine J_iconst (v := nI 0) dX3_tell_74 (by decide +kernel) ?_
                    exact J_zret dX3_tell_75 rfl rfl ⟨Nat.le_refl _, Nat.le_refl _⟩ (by rw [hPP]; exact ⟨rfl, rfl, (updN (updN T 0 (((x / 1000) % 10) - 1)) 1 (((x / 100) % 10) - 1)), 2, rfl⟩)
                  · skip
                    refine J_aload_n dX3_tell_66 rfl ?_
                    refine J_get 3 dX3_tell_67 jk3 (Nat.le_of_ble_eq_true rfl) jfRX3_21 ((hset_ne (by omega)).trans hset_eq) (by omega) rfl ?_
                    refine J_iconst (v := nI 4) dX3_tell_70 (by decide +kernel) ?_
                    refine J_icmp_ltN (tgt := 76) dX3_tell_71 (by decide) (by omega) (by omega) (fun _ => ?_) (fun z => absurd z (by decide))
                    refine J_aload_n dX3_tell_76 rfl ?_
                    refine J_get 0 dX3_tell_77 jk3 (Nat.le_of_ble_eq_true rfl) jfRX3_11 ((hset_ne (by omega)).trans hset_eq) (by omega) rfl ?_
                    refine J_aload_n dX3_tell_80 rfl ?_
                    refine J_get 3 dX3_tell_81 jk3 (Nat.le_of_ble_eq_true rfl) jfRX3_21 ((hset_ne (by omega)).trans hset_eq) (by omega) rfl ?_
                    refine J_iload_n dX3_tell_84 rfl ?_
                    refine J_iconst (v := nI 1) dX3_tell_85 (by decide +kernel) ?_
                    refine J_isubN dX3_tell_86 (by omega) ?_
                    refine J_iastN (i := 2) (v := ((x / 10) % 10) - 1) dX3_tell_87 hset_eq (by omega) (by omega) (by omega) ?_
                    refine J.cast hset_hset ?_
                    refine J_aload_n dX3_tell_88 rfl ?_
                    refine J_dup dX3_tell_89 rfl ?_
                    refine J_get 3 dX3_tell_90 jk3 (Nat.le_of_ble_eq_true rfl) jfRX3_21 ((hset_ne (by omega)).trans hset_eq) (by omega) rfl ?_
                    refine J_iconst (v := nI 1) dX3_tell_93 (by decide +kernel) ?_
                    refine J_iaddN dX3_tell_94 ?_
                    refine J.stk (st' := [.int (nI 3), .ref (E.1 + 30)]) rfl ?_
                    refine J_put 3 dX3_tell_95 jk3 (Nat.le_of_ble_eq_true rfl) jfRX3_21 ((hset_ne (by omega)).trans hset_eq) (by omega) rfl rfl rfl (Nat.le_of_ble_eq_true rfl) ?_
                    refine J.cast (h' := (hset (hset (hset h 30 (.inr (2, [.ref (E.1 + 31), .ref (E.1 + 32), .ref (E.1 + 33), .int (nI 2), .int (nI lb), .int (nI le)]))) 31 (cI E 4 (nF (updN (updN (updN T 0 (((x / 1000) % 10) - 1)) 1 (((x / 100) % 10) - 1)) 2 (((x / 10) % 10) - 1))))) 30 (.inr (2, [.ref (E.1 + 31), .ref (E.1 + 32), .ref (E.1 + 33), .int (nI 3), .int (nI lb), .int (nI le)])))) rfl ?_
                    refine J.cast ((hset_comm (by omega)).trans (hset_cg hset_hset rfl)) ?_
                    refine J_iload_n dX3_tell_98 rfl ?_
                    refine J_bipush (v := nI 10) dX3_tell_99 (by decide +kernel) ?_
                    refine J_idivN dX3_tell_101 (by omega) (by omega) (by omega) ?_
                    refine J.stk (st' := [.int (nI 1)]) rfl ?_
                    refine J_istore_n dX3_tell_102 (Nat.le_of_ble_eq_true rfl) (L' := [(2, .int (nI 1)), (4, .int (nI 0)), (3, .int (nI ((x / 10) % 10))), (0, .ref (E.1 + 30)), (1, .int (nI x))]) rfl ?_
                    refine J_goto (tgt := 22) dX3_tell_103 (by decide) ?_
                    refine J_iload_n dX3_tell_22 rfl ?_
                    refine J_if_leN (tgt := 106) dX3_tell_23 (by decide) (by omega) (fun z => absurd z (by decide)) (fun _ => ?_)
                    refine J_iload_n dX3_tell_26 rfl ?_
                    refine J_iload_n dX3_tell_27 rfl ?_
                    refine J_idivN dX3_tell_28 (by omega) (by omega) (by omega) ?_
                    refine J_bipush (v := nI 10) dX3_tell_29 (by decide +kernel) ?_
                    refine J_iremN dX3_tell_31 (by omega) (by omega) (by omega) ?_
                    refine J_istore_n dX3_tell_32 (Nat.le_of_ble_eq_true rfl) (L' := [(3, .int (nI ((x / 1) % 10))), (2, .int (nI 1)), (4, .int (nI 0)), (0, .ref (E.1 + 30)), (1, .int (nI x))]) rfl ?_
                    refine J_iload_n dX3_tell_33 rfl ?_
                    refine J_if_neN (tgt := 48) dX3_tell_34 (by decide) (by omega) (fun c81 => ?_) (fun c81 => ?_)
                    · skip
                      refine J_iconst (v := nI 0) dX3_tell_48 (by decide +kernel) ?_
                      refine J_istore dX3_tell_49 (Nat.le_of_ble_eq_true rfl) (L' := [(4, .int (nI 0)), (3, .int (nI ((x / 1) % 10))), (2, .int (nI 1)), (0, .ref (E.1 + 30)), (1, .int (nI x))]) rfl ?_
                      refine J_iload dX3_tell_51 rfl ?_
                      refine J_if_neN (tgt := 98) dX3_tell_53 (by decide) (by omega) (fun z => absurd z (by decide)) (fun _ => ?_)
                      refine J_iload_n dX3_tell_56 rfl ?_
                      refine J_iconst (v := nI 1) dX3_tell_57 (by decide +kernel) ?_
                      refine J_icmp_ltN (tgt := 74) dX3_tell_58 (by decide) (by omega) (by omega) (fun c83 => ?_) (fun c83 => ?_)
                      · skip
                        refine J_iconst (v := nI 0) dX3_tell_74 (by decide +kernel) ?_
                        exact J_zret dX3_tell_75 rfl rfl ⟨Nat.le_refl _, Nat.le_refl _⟩ (by rw [hPP]; exact ⟨rfl, rfl, (updN (updN (updN T 0 (((x / 1000) % 10) - 1)) 1 (((x / 100) % 10) - 1)) 2 (((x / 10) % 10) - 1)), 3, rfl⟩)
                      · skip
                        refine J_iload_n dX3_tell_61 rfl ?_
                        refine J_iconst (v := nI 4) dX3_tell_62 (by decide +kernel) ?_
                        refine J_icmp_gtN (tgt := 74) dX3_tell_63 (by decide) (by omega) (by omega) (fun c84 => ?_) (fun c84 => ?_)
                        · skip
                          refine J_iconst (v := nI 0) dX3_tell_74 (by decide +kernel) ?_
                          exact J_zret dX3_tell_75 rfl rfl ⟨Nat.le_refl _, Nat.le_refl _⟩ (by rw [hPP]; exact ⟨rfl, rfl, (updN (updN (updN T 0 (((x / 1000) % 10) - 1)) 1 (((x / 100) % 10) - 1)) 2 (((x / 10) % 10) - 1)), 3, rfl⟩)
                        · skip
                          refine J_aload_n dX3_tell_66 rfl ?_
                          refine J_get 3 dX3_tell_67 jk3 (Nat.le_of_ble_eq_true rfl) jfRX3_21 ((hset_ne (by omega)).trans hset_eq) (by omega) rfl ?_
                          refine J_iconst (v := nI 4) dX3_tell_70 (by decide +kernel) ?_
                          refine J_icmp_ltN (tgt := 76) dX3_tell_71 (by decide) (by omega) (by omega) (fun _ => ?_) (fun z => absurd z (by decide))
                          refine J_aload_n dX3_tell_76 rfl ?_
                          refine J_get 0 dX3_tell_77 jk3 (Nat.le_of_ble_eq_true rfl) jfRX3_11 ((hset_ne (by omega)).trans hset_eq) (by omega) rfl ?_
                          refine J_aload_n dX3_tell_80 rfl ?_
                          refine J_get 3 dX3_tell_81 jk3 (Nat.le_of_ble_eq_true rfl) jfRX3_21 ((hset_ne (by omega)).trans hset_eq) (by omega) rfl ?_
                          refine J_iload_n dX3_tell_84 rfl ?_
                          refine J_iconst (v := nI 1) dX3_tell_85 (by decide +kernel) ?_
                          refine J_isubN dX3_tell_86 (by omega) ?_
                          refine J_iastN (i := 3) (v := ((x / 1) % 10) - 1) dX3_tell_87 hset_eq (by omega) (by omega) (by omega) ?_
                          refine J.cast hset_hset ?_
                          refine J_aload_n dX3_tell_88 rfl ?_
                          refine J_dup dX3_tell_89 rfl ?_
                          refine J_get 3 dX3_tell_90 jk3 (Nat.le_of_ble_eq_true rfl) jfRX3_21 ((hset_ne (by omega)).trans hset_eq) (by omega) rfl ?_
                          refine J_iconst (v := nI 1) dX3_tell_93 (by decide +kernel) ?_
                          refine J_iaddN dX3_tell_94 ?_
                          refine J.stk (st' := [.int (nI 4), .ref (E.1 + 30)]) rfl ?_
                          refine J_put 3 dX3_tell_95 jk3 (Nat.le_of_ble_eq_true rfl) jfRX3_21 ((hset_ne (by omega)).trans hset_eq) (by omega) rfl rfl rfl (Nat.le_of_ble_eq_true rfl) ?_
                          refine J.cast (h' := (hset (hset (hset h 30 (.inr (2, [.ref (E.1 + 31), .ref (E.1 + 32), .ref (E.1 + 33), .int (nI 3), .int (nI lb), .int (nI le)]))) 31 (cI E 4 (nF (updN (updN (updN (updN T 0 (((x / 1000) % 10) - 1)) 1 (((x / 100) % 10) - 1)) 2 (((x / 10) % 10) - 1)) 3 (((x / 1) % 10) - 1))))) 30 (.inr (2, [.ref (E.1 + 31), .ref (E.1 + 32), .ref (E.1 + 33), .int (nI 4), .int (nI lb), .int (nI le)])))) rfl ?_
                          refine J.cast ((hset_comm (by omega)).trans (hset_cg hset_hset rfl)) ?_
                          refine J_iload_n dX3_tell_98 rfl ?_
                          refine J_bipush (v := nI 10) dX3_tell_99 (by decide +kernel) ?_
                          refine J_idivN dX3_tell_101 (by omega) (by omega) (by omega) ?_
                          refine J.stk (st' := [.int (nI 0)]) rfl ?_
                          refine J_istore_n dX3_tell_102 (Nat.le_of_ble_eq_true rfl) (L' := [(2, .int (nI 0)), (4, .int (nI 0)), (3, .int (nI ((x / 1) % 10))), (0, .ref (E.1 + 30)), (1, .int (nI x))]) rfl ?_
                          refine J_goto (tgt := 22) dX3_tell_103 (by decide) ?_
                          refine J_iload_n dX3_tell_22 rfl ?_
                          refine J_if_leN (tgt := 106) dX3_tell_23 (by decide) (by omega) (fun _ => ?_) (fun z => absurd z (by decide))
                          refine J_iconst (v := nI 1) dX3_tell_106 (by decide +kernel) ?_
                          exact J_zret dX3_tell_107 rfl rfl ⟨Nat.le_refl _, Nat.le_refl _⟩ (by rw [hPP]; exact ⟨(congrArg some (jv_N (by first | rfl | (exfalso; exact hbad ⟨by omega, by omega, by omega, by omega, by omega⟩)))), rfl, (updN (updN (updN (updN T 0 (((x / 1000) % 10) - 1)) 1 (((x / 100) % 10) - 1)) 2 (((x / 10) % 10) - 1)) 3 (((x / 1) % 10) - 1)), 4, rfl⟩)
                    · skip
                      refine J_aload_n dX3_tell_37 rfl ?_
                      refine J_get 3 dX3_tell_38 jk3 (Nat.le_of_ble_eq_true rfl) jfRX3_21 ((hset_ne (by omega)).trans hset_eq) (by omega) rfl ?_
                      refine J_if_neN (tgt := 48) dX3_tell_41 (by decide) (by omega) (fun _ => ?_) (fun z => absurd z (by decide))
                      refine J_iconst (v := nI 0) dX3_tell_48 (by decide +kernel) ?_
                      refine J_istore dX3_tell_49 (Nat.le_of_ble_eq_true rfl) (L' := [(4, .int (nI 0)), (3, .int (nI ((x / 1) % 10))), (2, .int (nI 1)), (0, .ref (E.1 + 30)), (1, .int (nI x))]) rfl ?_
                      refine J_iload dX3_tell_51 rfl ?_
                      refine J_if_neN (tgt := 98) dX3_tell_53 (by decide) (by omega) (fun z => absurd z (by decide)) (fun _ => ?_)
                      refine J_iload_n dX3_tell_56 rfl ?_
                      refine J_iconst (v := nI 1) dX3_tell_57 (by decide +kernel) ?_
                      refine J_icmp_ltN (tgt := 74) dX3_tell_58 (by decide) (by omega) (by omega) (fun c89 => ?_) (fun c89 => ?_)
                      · skip
                        refine J_iconst (v := nI 0) dX3_tell_74 (by decide +kernel) ?_
                        exact J_zret dX3_tell_75 rfl rfl ⟨Nat.le_refl _, Nat.le_refl _⟩ (by rw [hPP]; exact ⟨rfl, rfl, (updN (updN (updN T 0 (((x / 1000) % 10) - 1)) 1 (((x / 100) % 10) - 1)) 2 (((x / 10) % 10) - 1)), 3, rfl⟩)
                      · skip
                        refine J_iload_n dX3_tell_61 rfl ?_
                        refine J_iconst (v := nI 4) dX3_tell_62 (by decide +kernel) ?_
                        refine J_icmp_gtN (tgt := 74) dX3_tell_63 (by decide) (by omega) (by omega) (fun c90 => ?_) (fun c90 => ?_)
                        · skip
                          refine J_iconst (v := nI 0) dX3_tell_74 (by decide +kernel) ?_
                          exact J_zret dX3_tell_75 rfl rfl ⟨Nat.le_refl _, Nat.le_refl _⟩ (by rw [hPP]; exact ⟨rfl, rfl, (updN (updN (updN T 0 (((x / 1000) % 10) - 1)) 1 (((x / 100) % 10) - 1)) 2 (((x / 10) % 10) - 1)), 3, rfl⟩)
                        · skip
                          refine J_aload_n dX3_tell_66 rfl ?_
                          refine J_get 3 dX3_tell_67 jk3 (Nat.le_of_ble_eq_true rfl) jfRX3_21 ((hset_ne (by omega)).trans hset_eq) (by omega) rfl ?_
                          refine J_iconst (v := nI 4) dX3_tell_70 (by decide +kernel) ?_
                          refine J_icmp_ltN (tgt := 76) dX3_tell_71 (by decide) (by omega) (by omega) (fun _ => ?_) (fun z => absurd z (by decide))
                          refine J_aload_n dX3_tell_76 rfl ?_
                          refine J_get 0 dX3_tell_77 jk3 (Nat.le_of_ble_eq_true rfl) jfRX3_11 ((hset_ne (by omega)).trans hset_eq) (by omega) rfl ?_
                          refine J_aload_n dX3_tell_80 rfl ?_
                          refine J_get 3 dX3_tell_81 jk3 (Nat.le_of_ble_eq_true rfl) jfRX3_21 ((hset_ne (by omega)).trans hset_eq) (by omega) rfl ?_
                          refine J_iload_n dX3_tell_84 rfl ?_
                          refine J_iconst (v := nI 1) dX3_tell_85 (by decide +kernel) ?_
                          refine J_isubN dX3_tell_86 (by omega) ?_
                          refine J_iastN (i := 3) (v := ((x / 1) % 10) - 1) dX3_tell_87 hset_eq (by omega) (by omega) (by omega) ?_
                          refine J.cast hset_hset ?_
                          refine J_aload_n dX3_tell_88 rfl ?_
                          refine J_dup dX3_tell_89 rfl ?_
                          refine J_get 3 dX3_tell_90 jk3 (Nat.le_of_ble_eq_true rfl) jfRX3_21 ((hset_ne (by omega)).trans hset_eq) (by omega) rfl ?_
                          refine J_iconst (v := nI 1) dX3_tell_93 (by decide +kernel) ?_
                          refine J_iaddN dX3_tell_94 ?_
                          refine J.stk (st' := [.int (nI 4), .ref (E.1 + 30)]) rfl ?_
                          refine J_put 3 dX3_tell_95 jk3 (Nat.le_of_ble_eq_true rfl) jfRX3_21 ((hset_ne (by omega)).trans hset_eq) (by omega) rfl rfl rfl (Nat.le_of_ble_eq_true rfl) ?_
                          refine J.cast (h' := (hset (hset (hset h 30 (.inr (2, [.ref (E.1 + 31), .ref (E.1 + 32), .ref (E.1 + 33), .int (nI 3), .int (nI lb), .int (nI le)]))) 31 (cI E 4 (nF (updN (updN (updN (updN T 0 (((x / 1000) % 10) - 1)) 1 (((x / 100) % 10) - 1)) 2 (((x / 10) % 10) - 1)) 3 (((x / 1) % 10) - 1))))) 30 (.inr (2, [.ref (E.1 + 31), .ref (E.1 + 32), .ref (E.1 + 33), .int (nI 4), .int (nI lb), .int (nI le)])))) rfl ?_
                          refine J.cast ((hset_comm (by omega)).trans (hset_cg hset_hset rfl)) ?_
                          refine J_iload_n dX3_tell_98 rfl ?_
                          refine J_bipush (v := nI 10) dX3_tell_99 (by decide +kernel) ?_
                          refine J_idivN dX3_tell_101 (by omega) (by omega) (by omega) ?_
                          refine J.stk (st' := [.int (nI 0)]) rfl ?_
                          refine J_istore_n dX3_tell_102 (Nat.le_of_ble_eq_true rfl) (L' := [(2, .int (nI 0)), (4, .int (nI 0)), (3, .int (nI ((x / 1) % 10))), (0, .ref (E.1 + 30)), (1, .int (nI x))]) rfl ?_
                          refine J_goto (tgt := 22) dX3_tell_103 (by decide) ?_
                          refine J_iload_n dX3_tell_22 rfl ?_
                          refine J_if_leN (tgt := 106) dX3_tell_23 (by decide) (by omega) (fun _ => ?_) (fun z => absurd z (by decide))
                          refine J_iconst (v := nI 1) dX3_tell_106 (by decide +kernel) ?_
                          exact J_zret dX3_tell_107 rfl rfl ⟨Nat.le_refl _, Nat.le_refl _⟩ (by rw [hPP]; exact ⟨(congrArg some (jv_N (by first | rfl | (exfalso; exact hbad ⟨by omega, by omega, by omega, by omega, by omega⟩)))), rfl, (updN (updN (updN (updN T 0 (((x / 1000) % 10) - 1)) 1 (((x / 100) % 10) - 1)) 2 (((x / 10) % 10) - 1)) 3 (((x / 1) % 10) - 1)), 4, rfl⟩)
  · skip
    refine J_aload_n dX3_tell_37 rfl ?_
    refine J_get 3 dX3_tell_38 jk3 (Nat.le_of_ble_eq_true rfl) jfRX3_21 hset_eq (by omega) rfl ?_
    refine J_if_neN (tgt := 48) dX3_tell_41 (by decide) (by omega) (fun z => absurd z (by decide)) (fun _ => ?_)
    refine J_iconst (v := nI 1) dX3_tell_44 (by decide +kernel) ?_
    refine J_goto (tgt := 49) dX3_tell_45 (by decide) ?_
    refine J_istore dX3_tell_49 (Nat.le_of_ble_eq_true rfl) (L' := [(4, .int (nI 1)), (3, .int (nI ((x / 1000) % 10))), (2, .int (nI 1000)), (0, .ref (E.1 + 30)), (1, .int (nI x))]) rfl ?_
    refine J_iload dX3_tell_51 rfl ?_
    refine J_if_neN (tgt := 98) dX3_tell_53 (by decide) (by omega) (fun _ => ?_) (fun z => absurd z (by decide))
    refine J_iload_n dX3_tell_98 rfl ?_
    refine J_bipush (v := nI 10) dX3_tell_99 (by decide +kernel) ?_
    refine J_idivN dX3_tell_101 (by omega) (by omega) (by omega) ?_
    refine J.stk (st' := [.int (nI 100)]) rfl ?_
    refine J_istore_n dX3_tell_102 (Nat.le_of_ble_eq_true rfl) (L' := [(2, .int (nI 100)), (4, .int (nI 1)), (3, .int (nI ((x / 1000) % 10))), (0, .ref (E.1 + 30)), (1, .int (nI x))]) rfl ?_
    refine J_goto (tgt := 22) dX3_tell_103 (by decide) ?_
    refine J_iload_n dX3_tell_22 rfl ?_
    refine J_if_leN (tgt := 106) dX3_tell_23 (by decide) (by omega) (fun z => absurd z (by decide)) (fun _ => ?_)
    refine J_iload_n dX3_tell_26 rfl ?_
    refine J_iload_n dX3_tell_27 rfl ?_
    refine J_idivN dX3_tell_28 (by omega) (by omega) (by omega) ?_
    refine J_bipush (v := nI 10) dX3_tell_29 (by decide +kernel) ?_
    refine J_iremN dX3_tell_31 (by omega) (by omega) (by omega) ?_
    refine J_istore_n dX3_tell_32 (Nat.le_of_ble_eq_true rfl) (L' := [(3, .int (nI ((x / 100) % 10))), (2, .int (nI 100)), (4, .int (nI 1)), (0, .ref (E.1 + 30)), (1, .int (nI x))]) rfl ?_
    refine J_iload_n dX3_tell_33 rfl ?_
    refine J_if_neN (tgt := 48) dX3_tell_34 (by decide) (by omega) (fun c96 => ?_) (fun c96 => ?_)
    · skip
      refine J_iconst (v := nI 0) dX3_tell_48 (by decide +kernel) ?_
      refine J_istore dX3_tell_49 (Nat.le_of_ble_eq_true rfl) (L' := [(4, .int (nI 0)), (3, .int (nI ((x / 100) % 10))), (2, .int (nI 100)), (0, .ref (E.1 + 30)), (1, .int (nI x))]) rfl ?_
      refine J_iload dX3_tell_51 rfl ?_
      refine J_if_neN (tgt := 98) dX3_tell_53 (by decide) (by omega) (fun z => absurd z (by decide)) (fun _ => ?_)
      refine J_iload_n dX3_tell_56 rfl ?_
      refine J_iconst (v := nI 1) dX3_tell_57 (by decide +kernel) ?_
      refine J_icmp_ltN (tgt := 74) dX3_tell_58 (by decide) (by omega) (by omega) (fun c98 => ?_) (fun c98 => ?_)
      · skip
        refine J_iconst (v := nI 0) dX3_tell_74 (by decide +kernel) ?_
        exact J_zret dX3_tell_75 rfl rfl ⟨Nat.le_refl _, Nat.le_refl _⟩ (by rw [hPP]; exact ⟨rfl, rfl, T, 0, ((show (hset h 30 (.inr (2, [.ref (E.1 + 31), .ref (E.1 + 32), .ref (E.1 + 33), .int (nI 0), .int (nI lb), .int (nI le)]))) = (hset (hset h 30 (.inr (2, [.ref (E.1 + 31), .ref (E.1 + 32), .ref (E.1 + 33), .int (nI 0), .int (nI lb), .int (nI le)]))) 31 (cI E 4 (nF T))) by funext z; simp only [hset]; (repeat' split) <;> first | rfl | (exfalso; omega) | (subst_vars; first | exact H1)).trans (hset_cg (hset_cg rfl rfl) rfl))⟩)
      · skip
        refine J_iload_n dX3_tell_61 rfl ?_
        refine J_iconst (v := nI 4) dX3_tell_62 (by decide +kernel) ?_
        refine J_icmp_gtN (tgt := 74) dX3_tell_63 (by decide) (by omega) (by omega) (fun c99 => ?_) (fun c99 => ?_)
        · skip
          refine J_iconst (v := nI 0) dX3_tell_74 (by decide +kernel) ?_
          exact J_zret dX3_tell_75 rfl rfl ⟨Nat.le_refl _, Nat.le_refl _⟩ (by rw [hPP]; exact ⟨rfl, rfl, T, 0, ((show (hset h 30 (.inr (2, [.ref (E.1 + 31), .ref (E.1 + 32), .ref (E.1 + 33), .int (nI 0), .int (nI lb), .int (nI le)]))) = (hset (hset h 30 (.inr (2, [.ref (E.1 + 31), .ref (E.1 + 32), .ref (E.1 + 33), .int (nI 0), .int (nI lb), .int (nI le)]))) 31 (cI E 4 (nF T))) by funext z; simp only [hset]; (repeat' split) <;> first | rfl | (exfalso; omega) | (subst_vars; first | exact H1)).trans (hset_cg (hset_cg rfl rfl) rfl))⟩)
        · skip
          refine J_aload_n dX3_tell_66 rfl ?_
          refine J_get 3 dX3_tell_67 jk3 (Nat.le_of_ble_eq_true rfl) jfRX3_21 hset_eq (by omega) rfl ?_
          refine J_iconst (v := nI 4) dX3_tell_70 (by decide +kernel) ?_
          refine J_icmp_ltN (tgt := 76) dX3_tell_71 (by decide) (by omega) (by omega) (fun _ => ?_) (fun z => absurd z (by decide))
          refine J_aload_n dX3_tell_76 rfl ?_
          refine J_get 0 dX3_tell_77 jk3 (Nat.le_of_ble_eq_true rfl) jfRX3_11 hset_eq (by omega) rfl ?_
          refine J_aload_n dX3_tell_80 rfl ?_
          refine J_get 3 dX3_tell_81 jk3 (Nat.le_of_ble_eq_true rfl) jfRX3_21 hset_eq (by omega) rfl ?_
          refine J_iload_n dX3_tell_84 rfl ?_
          refine J_iconst (v := nI 1) dX3_tell_85 (by decide +kernel) ?_
          refine J_isubN dX3_tell_86 (by omega) ?_
          refine J_iastN (i := 0) (v := ((x / 100) % 10) - 1) dX3_tell_87 ((hset_ne (by omega)).trans H1) (by omega) (by omega) (by omega) ?_
          refine J_aload_n dX3_tell_88 rfl ?_
          refine J_dup dX3_tell_89 rfl ?_
          refine J_get 3 dX3_tell_90 jk3 (Nat.le_of_ble_eq_true rfl) jfRX3_21 ((hset_ne (by omega)).trans hset_eq) (by omega) rfl ?_
          refine J_iconst (v := nI 1) dX3_tell_93 (by decide +kernel) ?_
          refine J_iaddN dX3_tell_94 ?_
          refine J.stk (st' := [.int (nI 1), .ref (E.1 + 30)]) rfl ?_
          refine J_put 3 dX3_tell_95 jk3 (Nat.le_of_ble_eq_true rfl) jfRX3_21 ((hset_ne (by omega)).trans hset_eq) (by omega) rfl rfl rfl (Nat.le_of_ble_eq_true rfl) ?_
          refine J.cast (h' := (hset (hset (hset h 30 (.inr (2, [.ref (E.1 + 31), .ref (E.1 + 32), .ref (E.1 + 33), .int (nI 0), .int (nI lb), .int (nI le)]))) 31 (cI E 4 (nF (updN T 0 (((x / 100) % 10) - 1))))) 30 (.inr (2, [.ref (E.1 + 31), .ref (E.1 + 32), .ref (E.1 + 33), .int (nI 1), .int (nI lb), .int (nI le)])))) rfl ?_
          refine J.cast ((hset_comm (by omega)).trans (hset_cg hset_hset rfl)) ?_
          refine J_iload_n dX3_tell_98 rfl ?_
          refine J_bipush (v := nI 10) dX3_tell_99 (by decide +kernel) ?_
          refine J_idivN dX3_tell_101 (by omega) (by omega) (by omega) ?_
          refine J.stk (st' := [.int (nI 10)]) rfl ?_
          refine J_istore_n dX3_tell_102 (Nat.le_of_ble_eq_true rfl) (L' := [(2, .int (nI 10)), (4, .int (nI 0)), (3, .int (nI ((x / 100) % 10))), (0, .ref (E.1 + 30)), (1, .int (nI x))]) rfl ?_
          refine J_goto (tgt := 22) dX3_tell_103 (by decide) ?_
          refine J_iload_n dX3_tell_22 rfl ?_
          refine J_if_leN (tgt := 106) dX3_tell_23 (by decide) (by omega) (fun z => absurd z (by decide)) (fun _ => ?_)
          refine J_iload_n dX3_tell_26 rfl ?_
          refine J_iload_n dX3_tell_27 rfl ?_
          refine J_idivN dX3_tell_28 (by omega) (by omega) (by omega) ?_
          refine J_bipush (v := nI 10) dX3_tell_29 (by decide +kernel) ?_
          refine J_iremN dX3_tell_31 (by omega) (by omega) (by omega) ?_
          refine J_istore_n dX3_tell_32 (Nat.le_of_ble_eq_true rfl) (L' := [(3, .int (nI ((x / 10) % 10))), (2, .int (nI 10)), (4, .int (nI 0)), (0, .ref (E.1 + 30)), (1, .int (nI x))]) rfl ?_
          refine J_iload_n dX3_tell_33 rfl ?_
          refine J_if_neN (tgt := 48) dX3_tell_34 (by decide) (by omega) (fun c102 => ?_) (fun c102 => ?_)
          · skip
            refine J_iconst (v := nI 0) dX3_tell_48 (by decide +kernel) ?_
            refine J_istore dX3_tell_49 (Nat.le_of_ble_eq_true rfl) (L' := [(4, .int (nI 0)), (3, .int (nI ((x / 10) % 10))), (2, .int (nI 10)), (0, .ref (E.1 + 30)), (1, .int (nI x))]) rfl ?_
            refine J_iload dX3_tell_51 rfl ?_
            refine J_if_neN (tgt := 98) dX3_tell_53 (by decide) (by omega) (fun z => absurd z (by decide)) (fun _ => ?_)
            refine J_iload_n dX3_tell_56 rfl ?_
            refine J_iconst (v := nI 1) dX3_tell_57 (by decide +kernel) ?_
            refine J_icmp_ltN (tgt := 74) dX3_tell_58 (by decide) (by omega) (by omega) (fun c104 => ?_) (fun c104 => ?_)
            · skip
              refine J_iconst (v := nI 0) dX3_tell_74 (by decide +kernel) ?_
              exact J_zret dX3_tell_75 rfl rfl ⟨Nat.le_refl _, Nat.le_refl _⟩ (by rw [hPP]; exact ⟨rfl, rfl, (updN T 0 (((x / 100) % 10) - 1)), 1, rfl⟩)
            · skip
              refine J_iload_n dX3_tell_61 rfl ?_
              refine J_iconst (v := nI 4) dX3_tell_62 (by decide +kernel) ?_
              refine J_icmp_gtN (tgt := 74) dX3_tell_63 (by decide) (by omega) (by omega) (fun c105 => ?_) (fun c105 => ?_)
              · skip
                refine J_iconst (v := nI 0) dX3_tell_74 (by decide +kernel) ?_
                exact J_zret dX3_tell_75 rfl rfl ⟨Nat.le_refl _, Nat.le_refl _⟩ (by rw [hPP]; exact ⟨rfl, rfl, (updN T 0 (((x / 100) % 10) - 1)), 1, rfl⟩)
              · skip
                refine J_aload_n dX3_tell_66 rfl ?_
                refine J_get 3 dX3_tell_67 jk3 (Nat.le_of_ble_eq_true rfl) jfRX3_21 ((hset_ne (by omega)).trans hset_eq) (by omega) rfl ?_
                refine J_iconst (v := nI 4) dX3_tell_70 (by decide +kernel) ?_
                refine J_icmp_ltN (tgt := 76) dX3_tell_71 (by decide) (by omega) (by omega) (fun _ => ?_) (fun z => absurd z (by decide))
                refine J_aload_n dX3_tell_76 rfl ?_
                refine J_get 0 dX3_tell_77 jk3 (Nat.le_of_ble_eq_true rfl) jfRX3_11 ((hset_ne (by omega)).trans hset_eq) (by omega) rfl ?_
                refine J_aload_n dX3_tell_80 rfl ?_
                refine J_get 3 dX3_tell_81 jk3 (Nat.le_of_ble_eq_true rfl) jfRX3_21 ((hset_ne (by omega)).trans hset_eq) (by omega) rfl ?_
                refine J_iload_n dX3_tell_84 rfl ?_
                refine J_iconst (v := nI 1) dX3_tell_85 (by decide +kernel) ?_
                refine J_isubN dX3_tell_86 (by omega) ?_
                refine J_iastN (i := 1) (v := ((x / 10) % 10) - 1) dX3_tell_87 hset_eq (by omega) (by omega) (by omega) ?_
                refine J.cast hset_hset ?_
                refine J_aload_n dX3_tell_88 rfl ?_
                refine J_dup dX3_tell_89 rfl ?_
                refine J_get 3 dX3_tell_90 jk3 (Nat.le_of_ble_eq_true rfl) jfRX3_21 ((hset_ne (by omega)).trans hset_eq) (by omega) rfl ?_
                refine J_iconst (v := nI 1) dX3_tell_93 (by decide +kernel) ?_
                refine J_iaddN dX3_tell_94 ?_
                refine J.stk (st' := [.int (nI 2), .ref (E.1 + 30)]) rfl ?_
                refine J_put 3 dX3_tell_95 jk3 (Nat.le_of_ble_eq_true rfl) jfRX3_21 ((hset_ne (by omega)).trans hset_eq) (by omega) rfl rfl rfl (Nat.le_of_ble_eq_true rfl) ?_
                refine J.cast (h' := (hset (hset (hset h 30 (.inr (2, [.ref (E.1 + 31), .ref (E.1 + 32), .ref (E.1 + 33), .int (nI 1), .int (nI lb), .int (nI le)]))) 31 (cI E 4 (nF (updN (updN T 0 (((x / 100) % 10) - 1)) 1 (((x / 10) % 10) - 1))))) 30 (.inr (2, [.ref (E.1 + 31), .ref (E.1 + 32), .ref (E.1 + 33), .int (nI 2), .int (nI lb), .int (nI le)])))) rfl ?_
                refine J.cast ((hset_comm (by omega)).trans (hset_cg hset_hset rfl)) ?_
                refine J_iload_n dX3_tell_98 rfl ?_
                refine J_bipush (v := nI 10) dX3_tell_99 (by decide +kernel) ?_
                refine J_idivN dX3_tell_101 (by omega) (by omega) (by omega) ?_
                refine J.stk (st' := [.int (nI 1)]) rfl ?_
                refine J_istore_n dX3_tell_102 (Nat.le_of_ble_eq_true rfl) (L' := [(2, .int (nI 1)), (4, .int (nI 0)), (3, .int (nI ((x / 10) % 10))), (0, .ref (E.1 + 30)), (1, .int (nI x))]) rfl ?_
                refine J_goto (tgt := 22) dX3_tell_103 (by decide) ?_
                refine J_iload_n dX3_tell_22 rfl ?_
                refine J_if_leN (tgt := 106) dX3_tell_23 (by decide) (by omega) (fun z => absurd z (by decide)) (fun _ => ?_)
                refine J_iload_n dX3_tell_26 rfl ?_
                refine J_iload_n dX3_tell_27 rfl ?_
                refine J_idivN dX3_tell_28 (by omega) (by omega) (by omega) ?_
                refine J_bipush (v := nI 10) dX3_tell_29 (by decide +kernel) ?_
                refine J_iremN dX3_tell_31 (by omega) (by omega) (by omega) ?_
                refine J_istore_n dX3_tell_32 (Nat.le_of_ble_eq_true rfl) (L' := [(3, .int (nI ((x / 1) % 10))), (2, .int (nI 1)), (4, .int (nI 0)), (0, .ref (E.1 + 30)), (1, .int (nI x))]) rfl ?_
                refine J_iload_n dX3_tell_33 rfl ?_
                refine J_if_neN (tgt := 48) dX3_tell_34 (by decide) (by omega) (fun c108 => ?_) (fun c108 => ?_)
                · skip
                  refine J_iconst (v := nI 0) dX3_tell_48 (by decide +kernel) ?_
                  refine J_istore dX3_tell_49 (Nat.le_of_ble_eq_true rfl) (L' := [(4, .int (nI 0)), (3, .int (nI ((x / 1) % 10))), (2, .int (nI 1)), (0, .ref (E.1 + 30)), (1, .int (nI x))]) rfl ?_
                  refine J_iload dX3_tell_51 rfl ?_
                  refine J_if_neN (tgt := 98) dX3_tell_53 (by decide) (by omega) (fun z => absurd z (by decide)) (fun _ => ?_)
                  refine J_iload_n dX3_tell_56 rfl ?_
                  refine J_iconst (v := nI 1) dX3_tell_57 (by decide +kernel) ?_
                  refine J_icmp_ltN (tgt := 74) dX3_tell_58 (by decide) (by omega) (by omega) (fun c110 => ?_) (fun c110 => ?_)
                  · skip
                    refine J_iconst (v := nI 0) dX3_tell_74 (by decide +kernel) ?_
                    exact J_zret dX3_tell_75 rfl rfl ⟨Nat.le_refl _, Nat.le_refl _⟩ (by rw [hPP]; exact ⟨rfl, rfl, (updN (updN T 0 (((x / 100) % 10) - 1)) 1 (((x / 10) % 10) - 1)), 2, rfl⟩)
                  · skip
                    refine J_iload_n dX3_tell_61 rfl ?_
                    refine J_iconst (v := nI 4) dX3_tell_62 (by decide +kernel) ?_
                    refine J_icmp_gtN (tgt := 74) dX3_tell_63 (by decide) (by omega) (by omega) (fun c111 => ?_) (fun c111 => ?_)
                    · skip
                      refine J_iconst (v := nI 0) dX3_tell_74 (by decide +kernel) ?_
                      exact J_zret dX3_tell_75 rfl rfl ⟨Nat.le_refl _, Nat.le_refl _⟩ (by rw [hPP]; exact ⟨rfl, rfl, (updN (updN T 0 (((x / 100) % 10) - 1)) 1 (((x / 10) % 10) - 1)), 2, rfl⟩)
                    · skip
                      refine J_aload_n dX3_tell_66 rfl ?_
                      refine J_get 3 dX3_tell_67 jk3 (Nat.le_of_ble_eq_true rfl) jfRX3_21 ((hset_ne (by omega)).trans hset_eq) (by omega) rfl ?_
                      refine J_iconst (v := nI 4) dX3_tell_70 (by decide +kernel) ?_
                      refine J_icmp_ltN (tgt := 76) dX3_tell_71 (by decide) (by omega) (by omega) (fun _ => ?_) (fun z => absurd z (by decide))
                      refine J_aload_n dX3_tell_76 rfl ?_
                      refine J_get 0 dX3_tell_77 jk3 (Nat.le_of_ble_eq_true rfl) jfRX3_11 ((hset_ne (by omega)).trans hset_eq) (by omega) rfl ?_
                      refine J_aload_n dX3_tell_80 rfl ?_
                      refine J_get 3 dX3_tell_81 jk3 (Nat.le_of_ble_eq_true rfl) jfRX3_21 ((hset_ne (by omega)).trans hset_eq) (by omega) rfl ?_
                      refine J_iload_n dX3_tell_84 rfl ?_
                      refine J_iconst (v := nI 1) dX3_tell_85 (by decide +kernel) ?_
                      refine J_isubN dX3_tell_86 (by omega) ?_
                      refine J_iastN (i := 2) (v := ((x / 1) % 10) - 1) dX3_tell_87 hset_eq (by omega) (by omega) (by omega) ?_
                      refine J.cast hset_hset ?_
                      refine J_aload_n dX3_tell_88 rfl ?_
                      refine J_dup dX3_tell_89 rfl ?_
                      refine J_get 3 dX3_tell_90 jk3 (Nat.le_of_ble_eq_true rfl) jfRX3_21 ((hset_ne (by omega)).trans hset_eq) (by omega) rfl ?_
                      refine J_iconst (v := nI 1) dX3_tell_93 (by decide +kernel) ?_
                      refine J_iaddN dX3_tell_94 ?_
                      refine J.stk (st' := [.int (nI 3), .ref (E.1 + 30)]) rfl ?_
                      refine J_put 3 dX3_tell_95 jk3 (Nat.le_of_ble_eq_true rfl) jfRX3_21 ((hset_ne (by omega)).trans hset_eq) (by omega) rfl rfl rfl (Nat.le_of_ble_eq_true rfl) ?_
                      refine J.cast (h' := (hset (hset (hset h 30 (.inr (2, [.ref (E.1 + 31), .ref (E.1 + 32), .ref (E.1 + 33), .int (nI 2), .int (nI lb), .int (nI le)]))) 31 (cI E 4 (nF (updN (updN (updN T 0 (((x / 100) % 10) - 1)) 1 (((x / 10) % 10) - 1)) 2 (((x / 1) % 10) - 1))))) 30 (.inr (2, [.ref (E.1 + 31), .ref (E.1 + 32), .ref (E.1 + 33), .int (nI 3), .int (nI lb), .int (nI le)])))) rfl ?_
                      refine J.cast ((hset_comm (by omega)).trans (hset_cg hset_hset rfl)) ?_
                      refine J_iload_n dX3_tell_98 rfl ?_
                      refine J_bipush (v := nI 10) dX3_tell_99 (by decide +kernel) ?_
                      refine J_idivN dX3_tell_101 (by omega) (by omega) (by omega) ?_
                      refine J.stk (st' := [.int (nI 0)]) rfl ?_
                      refine J_istore_n dX3_tell_102 (Nat.le_of_ble_eq_true rfl) (L' := [(2, .int (nI 0)), (4, .int (nI 0)), (3, .int (nI ((x / 1) % 10))), (0, .ref (E.1 + 30)), (1, .int (nI x))]) rfl ?_
                      refine J_goto (tgt := 22) dX3_tell_103 (by decide) ?_
                      refine J_iload_n dX3_tell_22 rfl ?_
                      refine J_if_leN (tgt := 106) dX3_tell_23 (by decide) (by omega) (fun _ => ?_) (fun z => absurd z (by decide))
                      refine J_iconst (v := nI 1) dX3_tell_106 (by decide +kernel) ?_
                      exact J_zret dX3_tell_107 rfl rfl ⟨Nat.le_refl _, Nat.le_refl _⟩ (by rw [hPP]; exact ⟨(congrArg some (jv_N (by first | rfl | (exfalso; exact hbad ⟨by omega, by omega, by omega, by omega, by omega⟩)))), rfl, (updN (updN (updN T 0 (((x / 100) % 10) - 1)) 1 (((x / 10) % 10) - 1)) 2 (((x / 1) % 10) - 1)), 3, rfl⟩)
                · skip
                  refine J_aload_n dX3_tell_37 rfl ?_
                  refine J_get 3 dX3_tell_38 jk3 (Nat.le_of_ble_eq_true rfl) jfRX3_21 ((hset_ne (by omega)).trans hset_eq) (by omega) rfl ?_
                  refine J_if_neN (tgt := 48) dX3_tell_41 (by decide) (by omega) (fun _ => ?_) (fun z => absurd z (by decide))
                  refine J_iconst (v := nI 0) dX3_tell_48 (by decide +kernel) ?_
                  refine J_istore dX3_tell_49 (Nat.le_of_ble_eq_true rfl) (L' := [(4, .int (nI 0)), (3, .int (nI ((x / 1) % 10))), (2, .int (nI 1)), (0, .ref (E.1 + 30)), (1, .int (nI x))]) rfl ?_
                  refine J_iload dX3_tell_51 rfl ?_
                  refine J_if_neN (tgt := 98) dX3_tell_53 (by decide) (by omega) (fun z => absurd z (by decide)) (fun _ => ?_)
                  refine J_iload_n dX3_tell_56 rfl ?_
                  refine J_iconst (v := nI 1) dX3_tell_57 (by decide +kernel) ?_
                  refine J_icmp_ltN (tgt := 74) dX3_tell_58 (by decide) (by omega) (by omega) (fun c116 => ?_) (fun c116 => ?_)
                  · skip
                    refine J_iconst (v := nI 0) dX3_tell_74 (by decide +kernel) ?_
                    exact J_zret dX3_tell_75 rfl rfl ⟨Nat.le_refl _, Nat.le_refl _⟩ (by rw [hPP]; exact ⟨rfl, rfl, (updN (updN T 0 (((x / 100) % 10) - 1)) 1 (((x / 10) % 10) - 1)), 2, rfl⟩)
                  · skip
                    refine J_iload_n dX3_tell_61 rfl ?_
                    refine J_iconst (v := nI 4) dX3_tell_62 (by decide +kernel) ?_
                    refine J_icmp_gtN (tgt := 74) dX3_tell_63 (by decide) (by omega) (by omega) (fun c117 => ?_) (fun c117 => ?_)
                    · skip
                      refine J_iconst (v := nI 0) dX3_tell_74 (by decide +kernel) ?_
                      exact J_zret dX3_tell_75 rfl rfl ⟨Nat.le_refl _, Nat.le_refl _⟩ (by rw [hPP]; exact ⟨rfl, rfl, (updN (updN T 0 (((x / 100) % 10) - 1)) 1 (((x / 10) % 10) - 1)), 2, rfl⟩)
                    · skip
                      refine J_aload_n dX3_tell_66 rfl ?_
                      refine J_get 3 dX3_tell_67 jk3 (Nat.le_of_ble_eq_true rfl) jfRX3_21 ((hset_ne (by omega)).trans hset_eq) (by omega) rfl ?_
                      refine J_iconst (v := nI 4) dX3_tell_70 (by decide +kernel) ?_
                      refine J_icmp_ltN (tgt := 76) dX3_tell_71 (by decide) (by omega) (by omega) (fun _ => ?_) (fun z => absurd z (by decide))
                      refine J_aload_n dX3_tell_76 rfl ?_
                      refine J_get 0 dX3_tell_77 jk3 (Nat.le_of_ble_eq_true rfl) jfRX3_11 ((hset_ne (by omega)).trans hset_eq) (by omega) rfl ?_
                      refine J_aload_n dX3_tell_80 rfl ?_
                      refine J_get 3 dX3_tell_81 jk3 (Nat.le_of_ble_eq_true rfl) jfRX3_21 ((hset_ne (by omega)).trans hset_eq) (by omega) rfl ?_
                      refine J_iload_n dX3_tell_84 rfl ?_
                      refine J_iconst (v := nI 1) dX3_tell_85 (by decide +kernel) ?_
                      refine J_isubN dX3_tell_86 (by omega) ?_
                      refine J_iastN (i := 2) (v := ((x / 1) % 10) - 1) dX3_tell_87 hset_eq (by omega) (by omega) (by omega) ?_
                      refine J.cast hset_hset ?_
                      refine J_aload_n dX3_tell_88 rfl ?_
                      refine J_dup dX3_tell_89 rfl ?_
                      refine J_get 3 dX3_tell_90 jk3 (Nat.le_of_ble_eq_true rfl) jfRX3_21 ((hset_ne (by omega)).trans hset_eq) (by omega) rfl ?_
                      refine J_iconst (v := nI 1) dX3_tell_93 (by decide +kernel) ?_
                      refine J_iaddN dX3_tell_94 ?_
                      refine J.stk (st' := [.int (nI 3), .ref (E.1 + 30)]) rfl ?_
                      refine J_put 3 dX3_tell_95 jk3 (Nat.le_of_ble_eq_true rfl) jfRX3_21 ((hset_ne (by omega)).trans hset_eq) (by omega) rfl rfl rfl (Nat.le_of_ble_eq_true rfl) ?_
                      refine J.cast (h' := (hset (hset (hset h 30 (.inr (2, [.ref (E.1 + 31), .ref (E.1 + 32), .ref (E.1 + 33), .int (nI 2), .int (nI lb), .int (nI le)]))) 31 (cI E 4 (nF (updN (updN (updN T 0 (((x / 100) % 10) - 1)) 1 (((x / 10) % 10) - 1)) 2 (((x / 1) % 10) - 1))))) 30 (.inr (2, [.ref (E.1 + 31), .ref (E.1 + 32), .ref (E.1 + 33), .int (nI 3), .int (nI lb), .int (nI le)])))) rfl ?_
                      refine J.cast ((hset_comm (by omega)).trans (hset_cg hset_hset rfl)) ?_
                      refine J_iload_n dX3_tell_98 rfl ?_
                      refine J_bipush (v := nI 10) dX3_tell_99 (by decide +kernel) ?_
                      refine J_idivN dX3_tell_101 (by omega) (by omega) (by omega) ?_
                      refine J.stk (st' := [.int (nI 0)]) rfl ?_
                      refine J_istore_n dX3_tell_102 (Nat.le_of_ble_eq_true rfl) (L' := [(2, .int (nI 0)), (4, .int (nI 0)), (3, .int (nI ((x / 1) % 10))), (0, .ref (E.1 + 30)), (1, .int (nI x))]) rfl ?_
                      refine J_goto (tgt := 22) dX3_tell_103 (by decide) ?_
                      refine J_iload_n dX3_tell_22 rfl ?_
                      refine J_if_leN (tgt := 106) dX3_tell_23 (by decide) (by omega) (fun _ => ?_) (fun z => absurd z (by decide))
                      refine J_iconst (v := nI 1) dX3_tell_106 (by decide +kernel) ?_
                      exact J_zret dX3_tell_107 rfl rfl ⟨Nat.le_refl _, Nat.le_refl _⟩ (by rw [hPP]; exact ⟨(congrArg some (jv_N (by first | rfl | (exfalso; exact hbad ⟨by omega, by omega, by omega, by omega, by omega⟩)))), rfl, (updN (updN (updN T 0 (((x / 100) % 10) - 1)) 1 (((x / 10) % 10) - 1)) 2 (((x / 1) % 10) - 1)), 3, rfl⟩)
          · skip
            refine J_aload_n dX3_tell_37 rfl ?_
            refine J_get 3 dX3_tell_38 jk3 (Nat.le_of_ble_eq_true rfl) jfRX3_21 ((hset_ne (by omega)).trans hset_eq) (by omega) rfl ?_
            refine J_if_neN (tgt := 48) dX3_tell_41 (by decide) (by omega) (fun _ => ?_) (fun z => absurd z (by decide))
            refine J_iconst (v := nI 0) dX3_tell_48 (by decide +kernel) ?_
            refine J_istore dX3_tell_49 (Nat.le_of_ble_eq_true rfl) (L' := [(4, .int (nI 0)), (3, .int (nI ((x / 10) % 10))), (2, .int (nI 10)), (0, .ref (E.1 + 30)), (1, .int (nI x))]) rfl ?_
            refine J_iload dX3_tell_51 rfl ?_
            refine J_if_neN (tgt := 98) dX3_tell_53 (by decide) (by omega) (fun z => absurd z (by decide)) (fun _ => ?_)
            refine J_iload_n dX3_tell_56 rfl ?_
            refine J_iconst (v := nI 1) dX3_tell_57 (by decide +kernel) ?_
            refine J_icmp_ltN (tgt := 74) dX3_tell_58 (by decide) (by omega) (by omega) (fun c122 => ?_) (fun c122 => ?_)
            · skip
              refine J_iconst (v := nI 0) dX3_tell_74 (by decide +kernel) ?_
              exact J_zret dX3_tell_75 rfl rfl ⟨Nat.le_refl _, Nat.le_refl _⟩ (by rw [hPP]; exact ⟨rfl, rfl, (updN T 0 (((x / 100) % 10) - 1)), 1, rfl⟩)
            · skip
              refine J_iload_n dX3_tell_61 rfl ?_
              refine J_iconst (v := nI 4) dX3_tell_62 (by decide +kernel) ?_
              refine J_icmp_gtN (tgt := 74) dX3_tell_63 (by decide) (by omega) (by omega) (fun c123 => ?_) (fun c123 => ?_)
              · skip
                refine J_iconst (v := nI 0) dX3_tell_74 (by decide +kernel) ?_
                exact J_zret dX3_tell_75 rfl rfl ⟨Nat.le_refl _, Nat.le_refl _⟩ (by rw [hPP]; exact ⟨rfl, rfl, (updN T 0 (((x / 100) % 10) - 1)), 1, rfl⟩)
              · skip
                refine J_aload_n dX3_tell_66 rfl ?_
                refine J_get 3 dX3_tell_67 jk3 (Nat.le_of_ble_eq_true rfl) jfRX3_21 ((hset_ne (by omega)).trans hset_eq) (by omega) rfl ?_
                refine J_iconst (v := nI 4) dX3_tell_70 (by decide +kernel) ?_
                refine J_icmp_ltN (tgt := 76) dX3_tell_71 (by decide) (by omega) (by omega) (fun _ => ?_) (fun z => absurd z (by decide))
                refine J_aload_n dX3_tell_76 rfl ?_
                refine J_get 0 dX3_tell_77 jk3 (Nat.le_of_ble_eq_true rfl) jfRX3_11 ((hset_ne (by omega)).trans hset_eq) (by omega) rfl ?_
                refine J_aload_n dX3_tell_80 rfl ?_
                refine J_get 3 dX3_tell_81 jk3 (Nat.le_of_ble_eq_true rfl) jfRX3_21 ((hset_ne (by omega)).trans hset_eq) (by omega) rfl ?_
                refine J_iload_n dX3_tell_84 rfl ?_
                refine J_iconst (v := nI 1) dX3_tell_85 (by decide +kernel) ?_
                refine J_isubN dX3_tell_86 (by omega) ?_
                refine J_iastN (i := 1) (v := ((x / 10) % 10) - 1) dX3_tell_87 hset_eq (by omega) (by omega) (by omega) ?_
                refine J.cast hset_hset ?_
                refine J_aload_n dX3_tell_88 rfl ?_
                refine J_dup dX3_tell_89 rfl ?_
                refine J_get 3 dX3_tell_90 jk3 (Nat.le_of_ble_eq_true rfl) jfRX3_21 ((hset_ne (by omega)).trans hset_eq) (by omega) rfl ?_
                refine J_iconst (v := nI 1) dX3_tell_93 (by decide +kernel) ?_
                refine J_iaddN dX3_tell_94 ?_
                refine J.stk (st' := [.int (nI 2), .ref (E.1 + 30)]) rfl ?_
                refine J_put 3 dX3_tell_95 jk3 (Nat.le_of_ble_eq_true rfl) jfRX3_21 ((hset_ne (by omega)).trans hset_eq) (by omega) rfl rfl rfl (Nat.le_of_ble_eq_true rfl) ?_
                refine J.cast (h' := (hset (hset (hset h 30 (.inr (2, [.ref (E.1 + 31), .ref (E.1 + 32), .ref (E.1 + 33), .int (nI 1), .int (nI lb), .int (nI le)]))) 31 (cI E 4 (nF (updN (updN T 0 (((x / 100) % 10) - 1)) 1 (((x / 10) % 10) - 1))))) 30 (.inr (2, [.ref (E.1 + 31), .ref (E.1 + 32), .ref (E.1 + 33), .int (nI 2), .int (nI lb), .int (nI le)])))) rfl ?_
                refine J.cast ((hset_comm (by omega)).trans (hset_cg hset_hset rfl)) ?_
                refine J_iload_n dX3_tell_98 rfl ?_
                refine J_bipush (v := nI 10) dX3_tell_99 (by decide +kernel) ?_
                refine J_idivN dX3_tell_101 (by omega) (by omega) (by omega) ?_
                refine J.stk (st' := [.int (nI 1)]) rfl ?_
                refine J_istore_n dX3_tell_102 (Nat.le_of_ble_eq_true rfl) (L' := [(2, .int (nI 1)), (4, .int (nI 0)), (3, .int (nI ((x / 10) % 10))), (0, .ref (E.1 + 30)), (1, .int (nI x))]) rfl ?_
                refine J_goto (tgt := 22) dX3_tell_103 (by decide) ?_
                refine J_iload_n dX3_tell_22 rfl ?_
                refine J_if_leN (tgt := 106) dX3_tell_23 (by decide) (by omega) (fun z => absurd z (by decide)) (fun _ => ?_)
                refine J_iload_n dX3_tell_26 rfl ?_
                refine J_iload_n dX3_tell_27 rfl ?_
                refine J_idivN dX3_tell_28 (by omega) (by omega) (by omega) ?_
                refine J_bipush (v := nI 10) dX3_tell_29 (by decide +kernel) ?_
                refine J_iremN dX3_tell_31 (by omega) (by omega) (by omega) ?_
                refine J_istore_n dX3_tell_32 (Nat.le_of_ble_eq_true rfl) (L' := [(3, .int (nI ((x / 1) % 10))), (2, .int (nI 1)), (4, .int (nI 0)), (0, .ref (E.1 + 30)), (1, .int (nI x))]) rfl ?_
                refine J_iload_n dX3_tell_33 rfl ?_
                refine J_if_neN (tgt := 48) dX3_tell_34 (by decide) (by omega) (fun c126 => ?_) (fun c126 => ?_)
                · skip
                  refine J_iconst (v := nI 0) dX3_tell_48 (by decide +kernel) ?_
                  refine J_istore dX3_tell_49 (Nat.le_of_ble_eq_true rfl) (L' := [(4, .int (nI 0)), (3, .int (nI ((x / 1) % 10))), (2, .int (nI 1)), (0, .ref (E.1 + 30)), (1, .int (nI x))]) rfl ?_
                  refine J_iload dX3_tell_51 rfl ?_
                  refine J_if_neN (tgt := 98) dX3_tell_53 (by decide) (by omega) (fun z => absurd z (by decide)) (fun _ => ?_)
                  refine J_iload_n dX3_tell_56 rfl ?_
                  refine J_iconst (v := nI 1) dX3_tell_57 (by decide +kernel) ?_
                  refine J_icmp_ltN (tgt := 74) dX3_tell_58 (by decide) (by omega) (by omega) (fun c128 => ?_) (fun c128 => ?_)
                  · skip
                    refine J_iconst (v := nI 0) dX3_tell_74 (by decide +kernel) ?_
                    exact J_zret dX3_tell_75 rfl rfl ⟨Nat.le_refl _, Nat.le_refl _⟩ (by rw [hPP]; exact ⟨rfl, rfl, (updN (updN T 0 (((x / 100) % 10) - 1)) 1 (((x / 10) % 10) - 1)), 2, rfl⟩)
                  · skip
                    refine J_iload_n dX3_tell_61 rfl ?_
                    refine J_iconst (v := nI 4) dX3_tell_62 (by decide +kernel) ?_
                    refine J_icmp_gtN (tgt := 74) dX3_tell_63 (by decide) (by omega) (by omega) (fun c129 => ?_) (fun c129 => ?_)
                    · skip
                      refine J_iconst (v := nI 0) dX3_tell_74 (by decide +kernel) ?_
                      exact J_zret dX3_tell_75 rfl rfl ⟨Nat.le_refl _, Nat.le_refl _⟩ (by rw [hPP]; exact ⟨rfl, rfl, (updN (updN T 0 (((x / 100) % 10) - 1)) 1 (((x / 10) % 10) - 1)), 2, rfl⟩)
                    · skip
                      refine J_aload_n dX3_tell_66 rfl ?_
                      refine J_get 3 dX3_tell_67 jk3 (Nat.le_of_ble_eq_true rfl) jfRX3_21 ((hset_ne (by omega)).trans hset_eq) (by omega) rfl ?_
                      refine J_iconst (v := nI 4) dX3_tell_70 (by decide +kernel) ?_
                      refine J_icmp_ltN (tgt := 76) dX3_tell_71 (by decide) (by omega) (by omega) (fun _ => ?_) (fun z => absurd z (by decide))
                      refine J_aload_n dX3_tell_76 rfl ?_
                      refine J_get 0 dX3_tell_77 jk3 (Nat.le_of_ble_eq_true rfl) jfRX3_11 ((hset_ne (by omega)).trans hset_eq) (by omega) rfl ?_
                      refine J_aload_n dX3_tell_80 rfl ?_
                      refine J_get 3 dX3_tell_81 jk3 (Nat.le_of_ble_eq_true rfl) jfRX3_21 ((hset_ne (by omega)).trans hset_eq) (by omega) rfl ?_
                      refine J_iload_n dX3_tell_84 rfl ?_
                      refine J_iconst (v := nI 1) dX3_tell_85 (by decide +kernel) ?_
                      refine J_isubN dX3_tell_86 (by omega) ?_
                      refine J_iastN (i := 2) (v := ((x / 1) % 10) - 1) dX3_tell_87 hset_eq (by omega) (by omega) (by omega) ?_
                      refine J.cast hset_hset ?_
                      refine J_aload_n dX3_tell_88 rfl ?_
                      refine J_dup dX3_tell_89 rfl ?_
                      refine J_get 3 dX3_tell_90 jk3 (Nat.le_of_ble_eq_true rfl) jfRX3_21 ((hset_ne (by omega)).trans hset_eq) (by omega) rfl ?_
                      refine J_iconst (v := nI 1) dX3_tell_93 (by decide +kernel) ?_
                      refine J_iaddN dX3_tell_94 ?_
                      refine J.stk (st' := [.int (nI 3), .ref (E.1 + 30)]) rfl ?_
                      refine J_put 3 dX3_tell_95 jk3 (Nat.le_of_ble_eq_true rfl) jfRX3_21 ((hset_ne (by omega)).trans hset_eq) (by omega) rfl rfl rfl (Nat.le_of_ble_eq_true rfl) ?_
                      refine J.cast (h' := (hset (hset (hset h 30 (.inr (2, [.ref (E.1 + 31), .ref (E.1 + 32), .ref (E.1 + 33), .int (nI 2), .int (nI lb), .int (nI le)]))) 31 (cI E 4 (nF (updN (updN (updN T 0 (((x / 100) % 10) - 1)) 1 (((x / 10) % 10) - 1)) 2 (((x / 1) % 10) - 1))))) 30 (.inr (2, [.ref (E.1 + 31), .ref (E.1 + 32), .ref (E.1 + 33), .int (nI 3), .int (nI lb), .int (nI le)])))) rfl ?_
                      refine J.cast ((hset_comm (by omega)).trans (hset_cg hset_hset rfl)) ?_
                      refine J_iload_n dX3_tell_98 rfl ?_
                      refine J_bipush (v := nI 10) dX3_tell_99 (by decide +kernel) ?_
                      refine J_idivN dX3_tell_101 (by omega) (by omega) (by omega) ?_
                      refine J.stk (st' := [.int (nI 0)]) rfl ?_
                      refine J_istore_n dX3_tell_102 (Nat.le_of_ble_eq_true rfl) (L' := [(2, .int (nI 0)), (4, .int (nI 0)), (3, .int (nI ((x / 1) % 10))), (0, .ref (E.1 + 30)), (1, .int (nI x))]) rfl ?_
                      refine J_goto (tgt := 22) dX3_tell_103 (by decide) ?_
                      refine J_iload_n dX3_tell_22 rfl ?_
                      refine J_if_leN (tgt := 106) dX3_tell_23 (by decide) (by omega) (fun _ => ?_) (fun z => absurd z (by decide))
                      refine J_iconst (v := nI 1) dX3_tell_106 (by decide +kernel) ?_
                      exact J_zret dX3_tell_107 rfl rfl ⟨Nat.le_refl _, Nat.le_refl _⟩ (by rw [hPP]; exact ⟨(congrArg some (jv_N (by first | rfl | (exfalso; exact hbad ⟨by omega, by omega, by omega, by omega, by omega⟩)))), rfl, (updN (updN (updN T 0 (((x / 100) % 10) - 1)) 1 (((x / 10) % 10) - 1)) 2 (((x / 1) % 10) - 1)), 3, rfl⟩)
                · skip
                  refine J_aload_n dX3_tell_37 rfl ?_
                  refine J_get 3 dX3_tell_38 jk3 (Nat.le_of_ble_eq_true rfl) jfRX3_21 ((hset_ne (by omega)).trans hset_eq) (by omega) rfl ?_
                  refine J_if_neN (tgt := 48) dX3_tell_41 (by decide) (by omega) (fun _ => ?_) (fun z => absurd z (by decide))
                  refine J_iconst (v := nI 0) dX3_tell_48 (by decide +kernel) ?_
                  refine J_istore dX3_tell_49 (Nat.le_of_ble_eq_true rfl) (L' := [(4, .int (nI 0)), (3, .int (nI ((x / 1) % 10))), (2, .int (nI 1)), (0, .ref (E.1 + 30)), (1, .int (nI x))]) rfl ?_
                  refine J_iload dX3_tell_51 rfl ?_
                  refine J_if_neN (tgt := 98) dX3_tell_53 (by decide) (by omega) (fun z => absurd z (by decide)) (fun _ => ?_)
                  refine J_iload_n dX3_tell_56 rfl ?_
                  refine J_iconst (v := nI 1) dX3_tell_57 (by decide +kernel) ?_
                  refine J_icmp_ltN (tgt := 74) dX3_tell_58 (by decide) (by omega) (by omega) (fun c134 => ?_) (fun c134 => ?_)
                  · skip
                    refine J_iconst (v := nI 0) dX3_tell_74 (by decide +kernel) ?_
                    exact J_zret dX3_tell_75 rfl rfl ⟨Nat.le_refl _, Nat.le_refl _⟩ (by rw [hPP]; exact ⟨rfl, rfl, (updN (updN T 0 (((x / 100) % 10) - 1)) 1 (((x / 10) % 10) - 1)), 2, rfl⟩)
                  · skip
                    refine J_iload_n dX3_tell_61 rfl ?_
                    refine J_iconst (v := nI 4) dX3_tell_62 (by decide +kernel) ?_
                    refine J_icmp_gtN (tgt := 74) dX3_tell_63 (by decide) (by omega) (by omega) (fun c135 => ?_) (fun c135 => ?_)
                    · skip
                      refine J_iconst (v := nI 0) dX3_tell_74 (by decide +kernel) ?_
                      exact J_zret dX3_tell_75 rfl rfl ⟨Nat.le_refl _, Nat.le_refl _⟩ (by rw [hPP]; exact ⟨rfl, rfl, (updN (updN T 0 (((x / 100) % 10) - 1)) 1 (((x / 10) % 10) - 1)), 2, rfl⟩)
                    · skip
                      refine J_aload_n dX3_tell_66 rfl ?_
                      refine J_get 3 dX3_tell_67 jk3 (Nat.le_of_ble_eq_true rfl) jfRX3_21 ((hset_ne (by omega)).trans hset_eq) (by omega) rfl ?_
                      refine J_iconst (v := nI 4) dX3_tell_70 (by decide +kernel) ?_
                      refine J_icmp_ltN (tgt := 76) dX3_tell_71 (by decide) (by omega) (by omega) (fun _ => ?_) (fun z => absurd z (by decide))
                      refine J_aload_n dX3_tell_76 rfl ?_
                      refine J_get 0 dX3_tell_77 jk3 (Nat.le_of_ble_eq_true rfl) jfRX3_11 ((hset_ne (by omega)).trans hset_eq) (by omega) rfl ?_
                      refine J_aload_n dX3_tell_80 rfl ?_
                      refine J_get 3 dX3_tell_81 jk3 (Nat.le_of_ble_eq_true rfl) jfRX3_21 ((hset_ne (by omega)).trans hset_eq) (by omega) rfl ?_
                      refine J_iload_n dX3_tell_84 rfl ?_
                      refine J_iconst (v := nI 1) dX3_tell_85 (by decide +kernel) ?_
                      refine J_isubN dX3_tell_86 (by omega) ?_
                      refine J_iastN (i := 2) (v := ((x / 1) % 10) - 1) dX3_tell_87 hset_eq (by omega) (by omega) (by omega) ?_
                      refine J.cast hset_hset ?_
                      refine J_aload_n dX3_tell_88 rfl ?_
                      refine J_dup dX3_tell_89 rfl ?_
                      refine J_get 3 dX3_tell_90 jk3 (Nat.le_of_ble_eq_true rfl) jfRX3_21 ((hset_ne (by omega)).trans hset_eq) (by omega) rfl ?_
                      refine J_iconst (v := nI 1) dX3_tell_93 (by decide +kernel) ?_
                      refine J_iaddN dX3_tell_94 ?_
                      refine J.stk (st' := [.int (nI 3), .ref (E.1 + 30)]) rfl ?_
                      refine J_put 3 dX3_tell_95 jk3 (Nat.le_of_ble_eq_true rfl) jfRX3_21 ((hset_ne (by omega)).trans hset_eq) (by omega) rfl rfl rfl (Nat.le_of_ble_eq_true rfl) ?_
                      refine J.cast (h' := (hset (hset (hset h 30 (.inr (2, [.ref (E.1 + 31), .ref (E.1 + 32), .ref (E.1 + 33), .int (nI 2), .int (nI lb), .int (nI le)]))) 31 (cI E 4 (nF (updN (updN (updN T 0 (((x / 100) % 10) - 1)) 1 (((x / 10) % 10) - 1)) 2 (((x / 1) % 10) - 1))))) 30 (.inr (2, [.ref (E.1 + 31), .ref (E.1 + 32), .ref (E.1 + 33), .int (nI 3), .int (nI lb), .int (nI le)])))) rfl ?_
                      refine J.cast ((hset_comm (by omega)).trans (hset_cg hset_hset rfl)) ?_
                      refine J_iload_n dX3_tell_98 rfl ?_
                      refine J_bipush (v := nI 10) dX3_tell_99 (by decide +kernel) ?_
                      refine J_idivN dX3_tell_101 (by omega) (by omega) (by omega) ?_
                      refine J.stk (st' := [.int (nI 0)]) rfl ?_
                      refine J_istore_n dX3_tell_102 (Nat.le_of_ble_eq_true rfl) (L' := [(2, .int (nI 0)), (4, .int (nI 0)), (3, .int (nI ((x / 1) % 10))), (0, .ref (E.1 + 30)), (1, .int (nI x))]) rfl ?_
                      refine J_goto (tgt := 22) dX3_tell_103 (by decide) ?_
                      refine J_iload_n dX3_tell_22 rfl ?_
                      refine J_if_leN (tgt := 106) dX3_tell_23 (by decide) (by omega) (fun _ => ?_) (fun z => absurd z (by decide))
                      refine J_iconst (v := nI 1) dX3_tell_106 (by decide +kernel) ?_
                      exact J_zret dX3_tell_107 rfl rfl ⟨Nat.le_refl _, Nat.le_refl _⟩ (by rw [hPP]; exact ⟨(congrArg some (jv_N (by first | rfl | (exfalso; exact hbad ⟨by omega, by omega, by omega, by omega, by omega⟩)))), rfl, (updN (updN (updN T 0 (((x / 100) % 10) - 1)) 1 (((x / 10) % 10) - 1)) 2 (((x / 1) % 10) - 1)), 3, rfl⟩)
    · skip
      refine J_aload_n dX3_tell_37 rfl ?_
      refine J_get 3 dX3_tell_38 jk3 (Nat.le_of_ble_eq_true rfl) jfRX3_21 hset_eq (by omega) rfl ?_
      refine J_if_neN (tgt := 48) dX3_tell_41 (by decide) (by omega) (fun z => absurd z (by decide)) (fun _ => ?_)
      refine J_iconst (v := nI 1) dX3_tell_44 (by decide +kernel) ?_
      refine J_goto (tgt := 49) dX3_tell_45 (by decide) ?_
      refine J_istore dX3_tell_49 (Nat.le_of_ble_eq_true rfl) (L' := [(4, .int (nI 1)), (3, .int (nI ((x / 100) % 10))), (2, .int (nI 100)), (0, .ref (E.1 + 30)), (1, .int (nI x))]) rfl ?_
      refine J_iload dX3_tell_51 rfl ?_
      refine J_if_neN (tgt := 98) dX3_tell_53 (by decide) (by omega) (fun _ => ?_) (fun z => absurd z (by decide))
      refine J_iload_n dX3_tell_98 rfl ?_
      refine J_bipush (v := nI 10) dX3_tell_99 (by decide +kernel) ?_
      refine J_idivN dX3_tell_101 (by omega) (by omega) (by omega) ?_
      refine J.stk (st' := [.int (nI 10)]) rfl ?_
      refine J_istore_n dX3_tell_102 (Nat.le_of_ble_eq_true rfl) (L' := [(2, .int (nI 10)), (4, .int (nI 1)), (3, .int (nI ((x / 100) % 10))), (0, .ref (E.1 + 30)), (1, .int (nI x))]) rfl ?_
      refine J_goto (tgt := 22) dX3_tell_103 (by decide) ?_
      refine J_iload_n dX3_tell_22 rfl ?_
      refine J_if_leN (tgt := 106) dX3_tell_23 (by decide) (by omega) (fun z => absurd z (by decide)) (fun _ => ?_)
      refine J_iload_n dX3_tell_26 rfl ?_
      refine J_iload_n dX3_tell_27 rfl ?_
      refine J_idivN dX3_tell_28 (by omega) (by omega) (by omega) ?_
      refine J_bipush (v := nI 10) dX3_tell_29 (by decide +kernel) ?_
      refine J_iremN dX3_tell_31 (by omega) (by omega) (by omega) ?_
      refine J_istore_n dX3_tell_32 (Nat.le_of_ble_eq_true rfl) (L' := [(3, .int (nI ((x / 10) % 10))), (2, .int (nI 10)), (4, .int (nI 1)), (0, .ref (E.1 + 30)), (1, .int (nI x))]) rfl ?_
      refine J_iload_n dX3_tell_33 rfl ?_
      refine J_if_neN (tgt := 48) dX3_tell_34 (by decide) (by omega) (fun c141 => ?_) (fun c141 => ?_)
      · skip
        refine J_iconst (v := nI 0) dX3_tell_48 (by decide +kernel) ?_
        refine J_istore dX3_tell_49 (Nat.le_of_ble_eq_true rfl) (L' := [(4, .int (nI 0)), (3, .int (nI ((x / 10) % 10))), (2, .int (nI 10)), (0, .ref (E.1 + 30)), (1, .int (nI x))]) rfl ?_
        refine J_iload dX3_tell_51 rfl ?_
        refine J_if_neN (tgt := 98) dX3_tell_53 (by decide) (by omega) (fun z => absurd z (by decide)) (fun _ => ?_)
        refine J_iload_n dX3_tell_56 rfl ?_
        refine J_iconst (v := nI 1) dX3_tell_57 (by decide +kernel) ?_
        refine J_icmp_ltN (tgt := 74) dX3_tell_58 (by decide) (by omega) (by omega) (fun c143 => ?_) (fun c143 => ?_)
        · skip
          refine J_iconst (v := nI 0) dX3_tell_74 (by decide +kernel) ?_
          exact J_zret dX3_tell_75 rfl rfl ⟨Nat.le_refl _, Nat.le_refl _⟩ (by rw [hPP]; exact ⟨rfl, rfl, T, 0, ((show (hset h 30 (.inr (2, [.ref (E.1 + 31), .ref (E.1 + 32), .ref (E.1 + 33), .int (nI 0), .int (nI lb), .int (nI le)]))) = (hset (hset h 30 (.inr (2, [.ref (E.1 + 31), .ref (E.1 + 32), .ref (E.1 + 33), .int (nI 0), .int (nI lb), .int (nI le)]))) 31 (cI E 4 (nF T))) by funext z; simp only [hset]; (repeat' split) <;> first | rfl | (exfalso; omega) | (subst_vars; first | exact H1)).trans (hset_cg (hset_cg rfl rfl) rfl))⟩)
        · skip
          refine J_iload_n dX3_tell_61 rfl ?_
          refine J_iconst (v := nI 4) dX3_tell_62 (by decide +kernel) ?_
          refine J_icmp_gtN (tgt := 74) dX3_tell_63 (by decide) (by omega) (by omega) (fun c144 => ?_) (fun c144 => ?_)
          · skip
            refine J_iconst (v := nI 0) dX3_tell_74 (by decide +kernel) ?_
            exact J_zret dX3_tell_75 rfl rfl ⟨Nat.le_refl _, Nat.le_refl _⟩ (by rw [hPP]; exact ⟨rfl, rfl, T, 0, ((show (hset h 30 (.inr (2, [.ref (E.1 + 31), .ref (E.1 + 32), .ref (E.1 + 33), .int (nI 0), .int (nI lb), .int (nI le)]))) = (hset (hset h 30 (.inr (2, [.ref (E.1 + 31), .ref (E.1 + 32), .ref (E.1 + 33), .int (nI 0), .int (nI lb), .int (nI le)]))) 31 (cI E 4 (nF T))) by funext z; simp only [hset]; (repeat' split) <;> first | rfl | (exfalso; omega) | (subst_vars; first | exact H1)).trans (hset_cg (hset_cg rfl rfl) rfl))⟩)
          · skip
            refine J_aload_n dX3_tell_66 rfl ?_
            refine J_get 3 dX3_tell_67 jk3 (Nat.le_of_ble_eq_true rfl) jfRX3_21 hset_eq (by omega) rfl ?_
            refine J_iconst (v := nI 4) dX3_tell_70 (by decide +kernel) ?_
            refine J_icmp_ltN (tgt := 76) dX3_tell_71 (by decide) (by omega) (by omega) (fun _ => ?_) (fun z => absurd z (by decide))
            refine J_aload_n dX3_tell_76 rfl ?_
            refine J_get 0 dX3_tell_77 jk3 (Nat.le_of_ble_eq_true rfl) jfRX3_11 hset_eq (by omega) rfl ?_
            refine J_aload_n dX3_tell_80 rfl ?_
            refine J_get 3 dX3_tell_81 jk3 (Nat.le_of_ble_eq_true rfl) jfRX3_21 hset_eq (by omega) rfl ?_
            refine J_iload_n dX3_tell_84 rfl ?_
            refine J_iconst (v := nI 1) dX3_tell_85 (by decide +kernel) ?_
            refine J_isubN dX3_tell_86 (by omega) ?_
            refine J_iastN (i := 0) (v := ((x / 10) % 10) - 1) dX3_tell_87 ((hset_ne (by omega)).trans H1) (by omega) (by omega) (by omega) ?_
            refine J_aload_n dX3_tell_88 rfl ?_
            refine J_dup dX3_tell_89 rfl ?_
            refine J_get 3 dX3_tell_90 jk3 (Nat.le_of_ble_eq_true rfl) jfRX3_21 ((hset_ne (by omega)).trans hset_eq) (by omega) rfl ?_
            refine J_iconst (v := nI 1) dX3_tell_93 (by decide +kernel) ?_
            refine J_iaddN dX3_tell_94 ?_
            refine J.stk (st' := [.int (nI 1), .ref (E.1 + 30)]) rfl ?_
            refine J_put 3 dX3_tell_95 jk3 (Nat.le_of_ble_eq_true rfl) jfRX3_21 ((hset_ne (by omega)).trans hset_eq) (by omega) rfl rfl rfl (Nat.le_of_ble_eq_true rfl) ?_
            refine J.cast (h' := (hset (hset (hset h 30 (.inr (2, [.ref (E.1 + 31), .ref (E.1 + 32), .ref (E.1 + 33), .int (nI 0), .int (nI lb), .int (nI le)]))) 31 (cI E 4 (nF (updN T 0 (((x / 10) % 10) - 1))))) 30 (.inr (2, [.ref (E.1 + 31), .ref (E.1 + 32), .ref (E.1 + 33), .int (nI 1), .int (nI lb), .int (nI le)])))) rfl ?_
            refine J.cast ((hset_comm (by omega)).trans (hset_cg hset_hset rfl)) ?_
            refine J_iload_n dX3_tell_98 rfl ?_
            refine J_bipush (v := nI 10) dX3_tell_99 (by decide +kernel) ?_
            refine J_idivN dX3_tell_101 (by omega) (by omega) (by omega) ?_
            refine J.stk (st' := [.int (nI 1)]) rfl ?_
            refine J_istore_n dX3_tell_102 (Nat.le_of_ble_eq_true rfl) (L' := [(2, .int (nI 1)), (4, .int (nI 0)), (3, .int (nI ((x / 10) % 10))), (0, .ref (E.1 + 30)), (1, .int (nI x))]) rfl ?_
            refine J_goto (tgt := 22) dX3_tell_103 (by decide) ?_
            refine J_iload_n dX3_tell_22 rfl ?_
            refine J_if_leN (tgt := 106) dX3_tell_23 (by decide) (by omega) (fun z => absurd z (by decide)) (fun _ => ?_)
            refine J_iload_n dX3_tell_26 rfl ?_
            refine J_iload_n dX3_tell_27 rfl ?_
            refine J_idivN dX3_tell_28 (by omega) (by omega) (by omega) ?_
            refine J_bipush (v := nI 10) dX3_tell_29 (by decide +kernel) ?_
            refine J_iremN dX3_tell_31 (by omega) (by omega) (by omega) ?_
            refine J_istore_n dX3_tell_32 (Nat.le_of_ble_eq_true rfl) (L' := [(3, .int (nI ((x / 1) % 10))), (2, .int (nI 1)), (4, .int (nI 0)), (0, .ref (E.1 + 30)), (1, .int (nI x))]) rfl ?_
            refine J_iload_n dX3_tell_33 rfl ?_
            refine J_if_neN (tgt := 48) dX3_tell_34 (by decide) (by omega) (fun c147 => ?_) (fun c147 => ?_)
            · skip
              refine J_iconst (v := nI 0) dX3_tell_48 (by decide +kernel) ?_
              refine J_istore dX3_tell_49 (Nat.le_of_ble_eq_true rfl) (L' := [(4, .int (nI 0)), (3, .int (nI ((x / 1) % 10))), (2, .int (nI 1)), (0, .ref (E.1 + 30)), (1, .int (nI x))]) rfl ?_
              refine J_iload dX3_tell_51 rfl ?_
              refine J_if_neN (tgt := 98) dX3_tell_53 (by decide) (by omega) (fun z => absurd z (by decide)) (fun _ => ?_)
              refine J_iload_n dX3_tell_56 rfl ?_
              refine J_iconst (v := nI 1) dX3_tell_57 (by decide +kernel) ?_
              refine J_icmp_ltN (tgt := 74) dX3_tell_58 (by decide) (by omega) (by omega) (fun c149 => ?_) (fun c149 => ?_)
              · skip
                refine J_iconst (v := nI 0) dX3_tell_74 (by decide +kernel) ?_
                exact J_zret dX3_tell_75 rfl rfl ⟨Nat.le_refl _, Nat.le_refl _⟩ (by rw [hPP]; exact ⟨rfl, rfl, (updN T 0 (((x / 10) % 10) - 1)), 1, rfl⟩)
              · skip
                refine J_iload_n dX3_tell_61 rfl ?_
                refine J_iconst (v := nI 4) dX3_tell_62 (by decide +kernel) ?_
                refine J_icmp_gtN (tgt := 74) dX3_tell_63 (by decide) (by omega) (by omega) (fun c150 => ?_) (fun c150 => ?_)
                · skip
                  refine J_iconst (v := nI 0) dX3_tell_74 (by decide +kernel) ?_
                  exact J_zret dX3_tell_75 rfl rfl ⟨Nat.le_refl _, Nat.le_refl _⟩ (by rw [hPP]; exact ⟨rfl, rfl, (updN T 0 (((x / 10) % 10) - 1)), 1, rfl⟩)
                · skip
                  refine J_aload_n dX3_tell_66 rfl ?_
                  refine J_get 3 dX3_tell_67 jk3 (Nat.le_of_ble_eq_true rfl) jfRX3_21 ((hset_ne (by omega)).trans hset_eq) (by omega) rfl ?_
                  refine J_iconst (v := nI 4) dX3_tell_70 (by decide +kernel) ?_
                  refine J_icmp_ltN (tgt := 76) dX3_tell_71 (by decide) (by omega) (by omega) (fun _ => ?_) (fun z => absurd z (by decide))
                  refine J_aload_n dX3_tell_76 rfl ?_
                  refine J_get 0 dX3_tell_77 jk3 (Nat.le_of_ble_eq_true rfl) jfRX3_11 ((hset_ne (by omega)).trans hset_eq) (by omega) rfl ?_
                  refine J_aload_n dX3_tell_80 rfl ?_
                  refine J_get 3 dX3_tell_81 jk3 (Nat.le_of_ble_eq_true rfl) jfRX3_21 ((hset_ne (by omega)).trans hset_eq) (by omega) rfl ?_
                  refine J_iload_n dX3_tell_84 rfl ?_
                  refine J_iconst (v := nI 1) dX3_tell_85 (by decide +kernel) ?_
                  refine J_isubN dX3_tell_86 (by omega) ?_
                  refine J_iastN (i := 1) (v := ((x / 1) % 10) - 1) dX3_tell_87 hset_eq (by omega) (by omega) (by omega) ?_
                  refine J.cast hset_hset ?_
                  refine J_aload_n dX3_tell_88 rfl ?_
                  refine J_dup dX3_tell_89 rfl ?_
                  refine J_get 3 dX3_tell_90 jk3 (Nat.le_of_ble_eq_true rfl) jfRX3_21 ((hset_ne (by omega)).trans hset_eq) (by omega) rfl ?_
                  refine J_iconst (v := nI 1) dX3_tell_93 (by decide +kernel) ?_
                  refine J_iaddN dX3_tell_94 ?_
                  refine J.stk (st' := [.int (nI 2), .ref (E.1 + 30)]) rfl ?_
                  refine J_put 3 dX3_tell_95 jk3 (Nat.le_of_ble_eq_true rfl) jfRX3_21 ((hset_ne (by omega)).trans hset_eq) (by omega) rfl rfl rfl (Nat.le_of_ble_eq_true rfl) ?_
                  refine J.cast (h' := (hset (hset (hset h 30 (.inr (2, [.ref (E.1 + 31), .ref (E.1 + 32), .ref (E.1 + 33), .int (nI 1), .int (nI lb), .int (nI le)]))) 31 (cI E 4 (nF (updN (updN T 0 (((x / 10) % 10) - 1)) 1 (((x / 1) % 10) - 1))))) 30 (.inr (2, [.ref (E.1 + 31), .ref (E.1 + 32), .ref (E.1 + 33), .int (nI 2), .int (nI lb), .int (nI le)])))) rfl ?_
                  refine J.cast ((hset_comm (by omega)).trans (hset_cg hset_hset rfl)) ?_
                  refine J_iload_n dX3_tell_98 rfl ?_
                  refine J_bipush (v := nI 10) dX3_tell_99 (by decide +kernel) ?_
                  refine J_idivN dX3_tell_101 (by omega) (by omega) (by omega) ?_
                  refine J.stk (st' := [.int (nI 0)]) rfl ?_
                  refine J_istore_n dX3_tell_102 (Nat.le_of_ble_eq_true rfl) (L' := [(2, .int (nI 0)), (4, .int (nI 0)), (3, .int (nI ((x / 1) % 10))), (0, .ref (E.1 + 30)), (1, .int (nI x))]) rfl ?_
                  refine J_goto (tgt := 22) dX3_tell_103 (by decide) ?_
                  refine J_iload_n dX3_tell_22 rfl ?_
                  refine J_if_leN (tgt := 106) dX3_tell_23 (by decide) (by omega) (fun _ => ?_) (fun z => absurd z (by decide))
                  refine J_iconst (v := nI 1) dX3_tell_106 (by decide +kernel) ?_
                  exact J_zret dX3_tell_107 rfl rfl ⟨Nat.le_refl _, Nat.le_refl _⟩ (by rw [hPP]; exact ⟨(congrArg some (jv_N (by first | rfl | (exfalso; exact hbad ⟨by omega, by omega, by omega, by omega, by omega⟩)))), rfl, (updN (updN T 0 (((x / 10) % 10) - 1)) 1 (((x / 1) % 10) - 1)), 2, rfl⟩)
            · skip
              refine J_aload_n dX3_tell_37 rfl ?_
              refine J_get 3 dX3_tell_38 jk3 (Nat.le_of_ble_eq_true rfl) jfRX3_21 ((hset_ne (by omega)).trans hset_eq) (by omega) rfl ?_
              refine J_if_neN (tgt := 48) dX3_tell_41 (by decide) (by omega) (fun _ => ?_) (fun z => absurd z (by decide))
              refine J_iconst (v := nI 0) dX3_tell_48 (by decide +kernel) ?_
              refine J_istore dX3_tell_49 (Nat.le_of_ble_eq_true rfl) (L' := [(4, .int (nI 0)), (3, .int (nI ((x / 1) % 10))), (2, .int (nI 1)), (0, .ref (E.1 + 30)), (1, .int (nI x))]) rfl ?_
              refine J_iload dX3_tell_51 rfl ?_
              refine J_if_neN (tgt := 98) dX3_tell_53 (by decide) (by omega) (fun z => absurd z (by decide)) (fun _ => ?_)
              refine J_iload_n dX3_tell_56 rfl ?_
              refine J_iconst (v := nI 1) dX3_tell_57 (by decide +kernel) ?_
              refine J_icmp_ltN (tgt := 74) dX3_tell_58 (by decide) (by omega) (by omega) (fun c155 => ?_) (fun c155 => ?_)
              · skip
                refine J_iconst (v := nI 0) dX3_tell_74 (by decide +kernel) ?_
                exact J_zret dX3_tell_75 rfl rfl ⟨Nat.le_refl _, Nat.le_refl _⟩ (by rw [hPP]; exact ⟨rfl, rfl, (updN T 0 (((x / 10) % 10) - 1)), 1, rfl⟩)
              · skip
                refine J_iload_n dX3_tell_61 rfl ?_
                refine J_iconst (v := nI 4) dX3_tell_62 (by decide +kernel) ?_
                refine J_icmp_gtN (tgt := 74) dX3_tell_63 (by decide) (by omega) (by omega) (fun c156 => ?_) (fun c156 => ?_)
                · skip
                  refine J_iconst (v := nI 0) dX3_tell_74 (by decide +kernel) ?_
                  exact J_zret dX3_tell_75 rfl rfl ⟨Nat.le_refl _, Nat.le_refl _⟩ (by rw [hPP]; exact ⟨rfl, rfl, (updN T 0 (((x / 10) % 10) - 1)), 1, rfl⟩)
                · skip
                  refine J_aload_n dX3_tell_66 rfl ?_
                  refine J_get 3 dX3_tell_67 jk3 (Nat.le_of_ble_eq_true rfl) jfRX3_21 ((hset_ne (by omega)).trans hset_eq) (by omega) rfl ?_
                  refine J_iconst (v := nI 4) dX3_tell_70 (by decide +kernel) ?_
                  refine J_icmp_ltN (tgt := 76) dX3_tell_71 (by decide) (by omega) (by omega) (fun _ => ?_) (fun z => absurd z (by decide))
                  refine J_aload_n dX3_tell_76 rfl ?_
                  refine J_get 0 dX3_tell_77 jk3 (Nat.le_of_ble_eq_true rfl) jfRX3_11 ((hset_ne (by omega)).trans hset_eq) (by omega) rfl ?_
                  refine J_aload_n dX3_tell_80 rfl ?_
                  refine J_get 3 dX3_tell_81 jk3 (Nat.le_of_ble_eq_true rfl) jfRX3_21 ((hset_ne (by omega)).trans hset_eq) (by omega) rfl ?_
                  refine J_iload_n dX3_tell_84 rfl ?_
                  refine J_iconst (v := nI 1) dX3_tell_85 (by decide +kernel) ?_
                  refine J_isubN dX3_tell_86 (by omega) ?_
                  refine J_iastN (i := 1) (v := ((x / 1) % 10) - 1) dX3_tell_87 hset_eq (by omega) (by omega) (by omega) ?_
                  refine J.cast hset_hset ?_
                  refine J_aload_n dX3_tell_88 rfl ?_
                  refine J_dup dX3_tell_89 rfl ?_
                  refine J_get 3 dX3_tell_90 jk3 (Nat.le_of_ble_eq_true rfl) jfRX3_21 ((hset_ne (by omega)).trans hset_eq) (by omega) rfl ?_
                  refine J_iconst (v := nI 1) dX3_tell_93 (by decide +kernel) ?_
                  refine J_iaddN dX3_tell_94 ?_
                  refine J.stk (st' := [.int (nI 2), .ref (E.1 + 30)]) rfl ?_
                  refine J_put 3 dX3_tell_95 jk3 (Nat.le_of_ble_eq_true rfl) jfRX3_21 ((hset_ne (by omega)).trans hset_eq) (by omega) rfl rfl rfl (Nat.le_of_ble_eq_true rfl) ?_
                  refine J.cast (h' := (hset (hset (hset h 30 (.inr (2, [.ref (E.1 + 31), .ref (E.1 + 32), .ref (E.1 + 33), .int (nI 1), .int (nI lb), .int (nI le)]))) 31 (cI E 4 (nF (updN (updN T 0 (((x / 10) % 10) - 1)) 1 (((x / 1) % 10) - 1))))) 30 (.inr (2, [.ref (E.1 + 31), .ref (E.1 + 32), .ref (E.1 + 33), .int (nI 2), .int (nI lb), .int (nI le)])))) rfl ?_
                  refine J.cast ((hset_comm (by omega)).trans (hset_cg hset_hset rfl)) ?_
                  refine J_iload_n dX3_tell_98 rfl ?_
                  refine J_bipush (v := nI 10) dX3_tell_99 (by decide +kernel) ?_
                  refine J_idivN dX3_tell_101 (by omega) (by omega) (by omega) ?_
                  refine J.stk (st' := [.int (nI 0)]) rfl ?_
                  refine J_istore_n dX3_tell_102 (Nat.le_of_ble_eq_true rfl) (L' := [(2, .int (nI 0)), (4, .int (nI 0)), (3, .int (nI ((x / 1) % 10))), (0, .ref (E.1 + 30)), (1, .int (nI x))]) rfl ?_
                  refine J_goto (tgt := 22) dX3_tell_103 (by decide) ?_
                  refine J_iload_n dX3_tell_22 rfl ?_
                  refine J_if_leN (tgt := 106) dX3_tell_23 (by decide) (by omega) (fun _ => ?_) (fun z => absurd z (by decide))
                  refine J_iconst (v := nI 1) dX3_tell_106 (by decide +kernel) ?_
                  exact J_zret dX3_tell_107 rfl rfl ⟨Nat.le_refl _, Nat.le_refl _⟩ (by rw [hPP]; exact ⟨(congrArg some (jv_N (by first | rfl | (exfalso; exact hbad ⟨by omega, by omega, by omega, by omega, by omega⟩)))), rfl, (updN (updN T 0 (((x / 10) % 10) - 1)) 1 (((x / 1) % 10) - 1)), 2, rfl⟩)
      · skip
        refine J_aload_n dX3_tell_37 rfl ?_
        refine J_get 3 dX3_tell_38 jk3 (Nat.le_of_ble_eq_true rfl) jfRX3_21 hset_eq (by omega) rfl ?_
        refine J_if_neN (tgt := 48) dX3_tell_41 (by decide) (by omega) (fun z => absurd z (by decide)) (fun _ => ?_)
        refine J_iconst (v := nI 1) dX3_tell_44 (by decide +kernel) ?_
        refine J_goto (tgt := 49) dX3_tell_45 (by decide) ?_
        refine J_istore dX3_tell_49 (Nat.le_of_ble_eq_true rfl) (L' := [(4, .int (nI 1)), (3, .int (nI ((x / 10) % 10))), (2, .int (nI 10)), (0, .ref (E.1 + 30)), (1, .int (nI x))]) rfl ?_
        refine J_iload dX3_tell_51 rfl ?_
        refine J_if_neN (tgt := 98) dX3_tell_53 (by decide) (by omega) (fun _ => ?_) (fun z => absurd z (by decide))
        refine J_iload_n dX3_tell_98 rfl ?_
        refine J_bipush (v := nI 10) dX3_tell_99 (by decide +kernel) ?_
        refine J_idivN dX3_tell_101 (by omega) (by omega) (by omega) ?_
        refine J.stk (st' := [.int (nI 1)]) rfl ?_
        refine J_istore_n dX3_tell_102 (Nat.le_of_ble_eq_true rfl) (L' := [(2, .int (nI 1)), (4, .int (nI 1)), (3, .int (nI ((x / 10) % 10))), (0, .ref (E.1 + 30)), (1, .int (nI x))]) rfl ?_
        refine J_goto (tgt := 22) dX3_tell_103 (by decide) ?_
        refine J_iload_n dX3_tell_22 rfl ?_
        refine J_if_leN (tgt := 106) dX3_tell_23 (by decide) (by omega) (fun z => absurd z (by decide)) (fun _ => ?_)
        refine J_iload_n dX3_tell_26 rfl ?_
        refine J_iload_n dX3_tell_27 rfl ?_
        refine J_idivN dX3_tell_28 (by omega) (by omega) (by omega) ?_
        refine J_bipush (v := nI 10) dX3_tell_29 (by decide +kernel) ?_
        refine J_iremN dX3_tell_31 (by omega) (by omega) (by omega) ?_
        refine J_istore_n dX3_tell_32 (Nat.le_of_ble_eq_true rfl) (L' := [(3, .int (nI ((x / 1) % 10))), (2, .int (nI 1)), (4, .int (nI 1)), (0, .ref (E.1 + 30)), (1, .int (nI x))]) rfl ?_
        refine J_iload_n dX3_tell_33 rfl ?_
        refine J_if_neN (tgt := 48) dX3_tell_34 (by decide) (by omega) (fun c162 => ?_) (fun c162 => ?_)
        · skip
          refine J_iconst (v := nI 0) dX3_tell_48 (by decide +kernel) ?_
          refine J_istore dX3_tell_49 (Nat.le_of_ble_eq_true rfl) (L' := [(4, .int (nI 0)), (3, .int (nI ((x / 1) % 10))), (2, .int (nI 1)), (0, .ref (E.1 + 30)), (1, .int (nI x))]) rfl ?_
          refine J_iload dX3_tell_51 rfl ?_
          refine J_if_neN (tgt := 98) dX3_tell_53 (by decide) (by omega) (fun z => absurd z (by decide)) (fun _ => ?_)
          refine J_iload_n dX3_tell_56 rfl ?_
          refine J_iconst (v := nI 1) dX3_tell_57 (by decide +kernel) ?_
          refine J_icmp_ltN (tgt := 74) dX3_tell_58 (by decide) (by omega) (by omega) (fun c164 => ?_) (fun c164 => ?_)
          · skip
            refine J_iconst (v := nI 0) dX3_tell_74 (by decide +kernel) ?_
            exact J_zret dX3_tell_75 rfl rfl ⟨Nat.le_refl _, Nat.le_refl _⟩ (by rw [hPP]; exact ⟨rfl, rfl, T, 0, ((show (hset h 30 (.inr (2, [.ref (E.1 + 31), .ref (E.1 + 32), .ref (E.1 + 33), .int (nI 0), .int (nI lb), .int (nI le)]))) = (hset (hset h 30 (.inr (2, [.ref (E.1 + 31), .ref (E.1 + 32), .ref (E.1 + 33), .int (nI 0), .int (nI lb), .int (nI le)]))) 31 (cI E 4 (nF T))) by funext z; simp only [hset]; (repeat' split) <;> first | rfl | (exfalso; omega) | (subst_vars; first | exact H1)).trans (hset_cg (hset_cg rfl rfl) rfl))⟩)
          · skip
            refine J_iload_n dX3_tell_61 rfl ?_
            refine J_iconst (v := nI 4) dX3_tell_62 (by decide +kernel) ?_
            refine J_icmp_gtN (tgt := 74) dX3_tell_63 (by decide) (by omega) (by omega) (fun c165 => ?_) (fun c165 => ?_)
            · skip
              refine J_iconst (v := nI 0) dX3_tell_74 (by decide +kernel) ?_
              exact J_zret dX3_tell_75 rfl rfl ⟨Nat.le_refl _, Nat.le_refl _⟩ (by rw [hPP]; exact ⟨rfl, rfl, T, 0, ((show (hset h 30 (.inr (2, [.ref (E.1 + 31), .ref (E.1 + 32), .ref (E.1 + 33), .int (nI 0), .int (nI lb), .int (nI le)]))) = (hset (hset h 30 (.inr (2, [.ref (E.1 + 31), .ref (E.1 + 32), .ref (E.1 + 33), .int (nI 0), .int (nI lb), .int (nI le)]))) 31 (cI E 4 (nF T))) by funext z; simp only [hset]; (repeat' split) <;> first | rfl | (exfalso; omega) | (subst_vars; first | exact H1)).trans (hset_cg (hset_cg rfl rfl) rfl))⟩)
            · skip
              refine J_aload_n dX3_tell_66 rfl ?_
              refine J_get 3 dX3_tell_67 jk3 (Nat.le_of_ble_eq_true rfl) jfRX3_21 hset_eq (by omega) rfl ?_
              refine J_iconst (v := nI 4) dX3_tell_70 (by decide +kernel) ?_
              refine J_icmp_ltN (tgt := 76) dX3_tell_71 (by decide) (by omega) (by omega) (fun _ => ?_) (fun z => absurd z (by decide))
              refine J_aload_n dX3_tell_76 rfl ?_
              refine J_get 0 dX3_tell_77 jk3 (Nat.le_of_ble_eq_true rfl) jfRX3_11 hset_eq (by omega) rfl ?_
              refine J_aload_n dX3_tell_80 rfl ?_
              refine J_get 3 dX3_tell_81 jk3 (Nat.le_of_ble_eq_true rfl) jfRX3_21 hset_eq (by omega) rfl ?_
              refine J_iload_n dX3_tell_84 rfl ?_
              refine J_iconst (v := nI 1) dX3_tell_85 (by decide +kernel) ?_
              refine J_isubN dX3_tell_86 (by omega) ?_
              refine J_iastN (i := 0) (v := ((x / 1) % 10) - 1) dX3_tell_87 ((hset_ne (by omega)).trans H1) (by omega) (by omega) (by omega) ?_
              refine J_aload_n dX3_tell_88 rfl ?_
              refine J_dup dX3_tell_89 rfl ?_
              refine J_get 3 dX3_tell_90 jk3 (Nat.le_of_ble_eq_true rfl) jfRX3_21 ((hset_ne (by omega)).trans hset_eq) (by omega) rfl ?_
              refine J_iconst (v := nI 1) dX3_tell_93 (by decide +kernel) ?_
              refine J_iaddN dX3_tell_94 ?_
              refine J.stk (st' := [.int (nI 1), .ref (E.1 + 30)]) rfl ?_
              refine J_put 3 dX3_tell_95 jk3 (Nat.le_of_ble_eq_true rfl) jfRX3_21 ((hset_ne (by omega)).trans hset_eq) (by omega) rfl rfl rfl (Nat.le_of_ble_eq_true rfl) ?_
              refine J.cast (h' := (hset (hset (hset h 30 (.inr (2, [.ref (E.1 + 31), .ref (E.1 + 32), .ref (E.1 + 33), .int (nI 0), .int (nI lb), .int (nI le)]))) 31 (cI E 4 (nF (updN T 0 (((x / 1) % 10) - 1))))) 30 (.inr (2, [.ref (E.1 + 31), .ref (E.1 + 32), .ref (E.1 + 33), .int (nI 1), .int (nI lb), .int (nI le)])))) rfl ?_
              refine J.cast ((hset_comm (by omega)).trans (hset_cg hset_hset rfl)) ?_
              refine J_iload_n dX3_tell_98 rfl ?_
              refine J_bipush (v := nI 10) dX3_tell_99 (by decide +kernel) ?_
              refine J_idivN dX3_tell_101 (by omega) (by omega) (by omega) ?_
              refine J.stk (st' := [.int (nI 0)]) rfl ?_
              refine J_istore_n dX3_tell_102 (Nat.le_of_ble_eq_true rfl) (L' := [(2, .int (nI 0)), (4, .int (nI 0)), (3, .int (nI ((x / 1) % 10))), (0, .ref (E.1 + 30)), (1, .int (nI x))]) rfl ?_
              refine J_goto (tgt := 22) dX3_tell_103 (by decide) ?_
              refine J_iload_n dX3_tell_22 rfl ?_
              refine J_if_leN (tgt := 106) dX3_tell_23 (by decide) (by omega) (fun _ => ?_) (fun z => absurd z (by decide))
              refine J_iconst (v := nI 1) dX3_tell_106 (by decide +kernel) ?_
              exact J_zret dX3_tell_107 rfl rfl ⟨Nat.le_refl _, Nat.le_refl _⟩ (by rw [hPP]; exact ⟨(congrArg some (jv_N (by first | rfl | (exfalso; exact hbad ⟨by omega, by omega, by omega, by omega, by omega⟩)))), rfl, (updN T 0 (((x / 1) % 10) - 1)), 1, rfl⟩)
        · skip
          refine J_aload_n dX3_tell_37 rfl ?_
          refine J_get 3 dX3_tell_38 jk3 (Nat.le_of_ble_eq_true rfl) jfRX3_21 hset_eq (by omega) rfl ?_
          refine J_if_neN (tgt := 48) dX3_tell_41 (by decide) (by omega) (fun z => absurd z (by decide)) (fun _ => ?_)
          refine J_iconst (v := nI 1) dX3_tell_44 (by decide +kernel) ?_
          refine J_goto (tgt := 49) dX3_tell_45 (by decide) ?_
          refine J_istore dX3_tell_49 (Nat.le_of_ble_eq_true rfl) (L' := [(4, .int (nI 1)), (3, .int (nI ((x / 1) % 10))), (2, .int (nI 1)), (0, .ref (E.1 + 30)), (1, .int (nI x))]) rfl ?_
          refine J_iload dX3_tell_51 rfl ?_
          refine J_if_neN (tgt := 98) dX3_tell_53 (by decide) (by omega) (fun _ => ?_) (fun z => absurd z (by decide))
          refine J_iload_n dX3_tell_98 rfl ?_
          refine J_bipush (v := nI 10) dX3_tell_99 (by decide +kernel) ?_
          refine J_idivN dX3_tell_101 (by omega) (by omega) (by omega) ?_
          refine J.stk (st' := [.int (nI 0)]) rfl ?_
          refine J_istore_n dX3_tell_102 (Nat.le_of_ble_eq_true rfl) (L' := [(2, .int (nI 0)), (4, .int (nI 1)), (3, .int (nI ((x / 1) % 10))), (0, .ref (E.1 + 30)), (1, .int (nI x))]) rfl ?_
          refine J_goto (tgt := 22) dX3_tell_103 (by decide) ?_
          refine J_iload_n dX3_tell_22 rfl ?_
          refine J_if_leN (tgt := 106) dX3_tell_23 (by decide) (by omega) (fun _ => ?_) (fun z => absurd z (by decide))
          refine J_iconst (v := nI 1) dX3_tell_106 (by decide +kernel) ?_
          exact J_zret dX3_tell_107 rfl rfl ⟨Nat.le_refl _, Nat.le_refl _⟩ (by rw [hPP]; exact ⟨(congrArg some (jv_N (by first | rfl | (exfalso; exact hbad ⟨by omega, by omega, by omega, by omega, by omega⟩)))), rfl, T, 0, ((show (hset h 30 (.inr (2, [.ref (E.1 + 31), .ref (E.1 + 32), .ref (E.1 + 33), .int (nI 0), .int (nI lb), .int (nI le)]))) = (hset (hset h 30 (.inr (2, [.ref (E.1 + 31), .ref (E.1 + 32), .ref (E.1 + 33), .int (nI 0), .int (nI lb), .int (nI le)]))) 31 (cI E 4 (nF T))) by funext z; simp only [hset]; (repeat' split) <;> first | rfl | (exfalso; omega) | (subst_vars; first | exact H1)).trans (hset_cg (hset_cg rfl rfl) rfl))⟩)

set_option maxHeartbeats 1000000 in
set_option maxRecDepth 100000 in
theorem ctX3_tell_big {E : jE} {h : Nat → va_E} {n : Nat} (x : Nat) (lz : Nat) (lb : Nat) (le : Nat) (T : Nat → Nat) (H0 : h 30 = .inr (2, [.ref (E.1 + 31), .ref (E.1 + 32), .ref (E.1 + 33), .int (nI lz), .int (nI lb), .int (nI le)])) (H1 : h 31 = cI E 4 (nF T)) (hn : 38 ≤ n) (h32x : x < 2 ^ 32) (hbad : ¬ x ≤ 4444) : jC E mX3_tell (1, 0, 0) [.ref (E.1 + 30), .int (nI x)] h n (fun v h' n' => v = some (.int (nI 0)) ∧ n' = n ∧ ∃ (T1 : Nat → Nat) (ps1 : Nat), h' = (hset (hset h 30 (.inr (2, [.ref (E.1 + 31), .ref (E.1 + 32), .ref (E.1 + 33), .int (nI ps1), .int (nI lb), .int (nI le)]))) 31 (cI E 4 (nF T1)))) := by
  refine J.of (L := [(0, .ref (E.1 + 30)), (1, .int (nI x))]) rfl (by decide +kernel) (Nat.le_of_ble_eq_true rfl) ?_
  obtain ⟨PP, hPP⟩ : ∃ PP : jPost, PP = (fun v h' n' => v = some (.int (nI 0)) ∧ n' = n ∧ ∃ (T1 : Nat → Nat) (ps1 : Nat), h' = (hset (hset h 30 (.inr (2, [.ref (E.1 + 31), .ref (E.1 + 32), .ref (E.1 + 33), .int (nI ps1), .int (nI lb), .int (nI le)]))) 31 (cI E 4 (nF T1)))) := ⟨_, rfl⟩
  rw [← hPP]
  refine J_aload_n dX3_tell_0 rfl ?_
  refine J_iconst (v := nI 0) dX3_tell_1 (by decide +kernel) ?_
  refine J_put 3 dX3_tell_2 jk3 (Nat.le_of_ble_eq_true rfl) jfRX3_21 H0 (by omega) rfl rfl rfl (Nat.le_of_ble_eq_true rfl) ?_
  refine J.cast (h' := (hset h 30 (.inr (2, [.ref (E.1 + 31), .ref (E.1 + 32), .ref (E.1 + 33), .int (nI 0), .int (nI lb), .int (nI le)])))) rfl ?_
  refine J_iload_n dX3_tell_5 rfl ?_
  refine J_if_ltW (tgt := 16) dX3_tell_6 (by decide) (by omega) (fun c1 => ?_) (fun c1 => ?_)
  · skip
    refine J_iconst (v := nI 0) dX3_tell_16 (by decide +kernel) ?_
    exact J_zret dX3_tell_17 rfl rfl ⟨Nat.le_refl _, Nat.le_refl _⟩ (by rw [hPP]; exact ⟨rfl, rfl, T, 0, ((show (hset h 30 (.inr (2, [.ref (E.1 + 31), .ref (E.1 + 32), .ref (E.1 + 33), .int (nI 0), .int (nI lb), .int (nI le)]))) = (hset (hset h 30 (.inr (2, [.ref (E.1 + 31), .ref (E.1 + 32), .ref (E.1 + 33), .int (nI 0), .int (nI lb), .int (nI le)]))) 31 (cI E 4 (nF T))) by funext z; simp only [hset]; (repeat' split) <;> first | rfl | (exfalso; omega) | (subst_vars; first | exact H1)).trans (hset_cg (hset_cg rfl rfl) rfl))⟩)
  · skip
    refine J_iload_n dX3_tell_9 rfl ?_
    refine J_sipush (v := nI 4444) dX3_tell_10 (by decide +kernel) ?_
    refine J_icmp_leW (tgt := 18) dX3_tell_13 (by decide) (by omega) (by omega) (fun c2 => (by exfalso; omega)) (fun c2 => ?_)
    refine J_iconst (v := nI 0) dX3_tell_16 (by decide +kernel) ?_
    exact J_zret dX3_tell_17 rfl rfl ⟨Nat.le_refl _, Nat.le_refl _⟩ (by rw [hPP]; exact ⟨rfl, rfl, T, 0, ((show (hset h 30 (.inr (2, [.ref (E.1 + 31), .ref (E.1 + 32), .ref (E.1 + 33), .int (nI 0), .int (nI lb), .int (nI le)]))) = (hset (hset h 30 (.inr (2, [.ref (E.1 + 31), .ref (E.1 + 32), .ref (E.1 + 33), .int (nI 0), .int (nI lb), .int (nI le)]))) 31 (cI E 4 (nF T))) by funext z; simp only [hset]; (repeat' split) <;> first | rfl | (exfalso; omega) | (subst_vars; first | exact H1)).trans (hset_cg (hset_cg rfl rfl) rfl))⟩)

set_option maxHeartbeats 1000000 in
set_option maxRecDepth 100000 in
theorem ctX3_place0 {E : jE} {h : Nat → va_E} {n : Nat} (w : oW) (k : Nat) (p : Nat) (c : Nat) (bb : Nat) (lz : Nat) (lb : Nat) (le : Nat) (an : Nat) (td : Nat) (gr : Nat) (T : Nat → Nat) (W : Nat → Nat) (C : Nat → Nat) (K : Nat → Nat) (M : Nat → Nat) (H0 : h 30 = .inr (2, [.ref (E.1 + 31), .ref (E.1 + 32), .ref (E.1 + 33), .int (nI lz), .int (nI lb), .int (nI le)])) (H1 : h 31 = cI E 4 (nF T)) (H2 : h 32 = cI E 4 (nF W)) (H3 : h 33 = cI E 4 (nF C)) (H4 : h 12 = .inr (5, [.ref (E.1 + 13), .ref (E.1 + 14), .ref (E.1 + 15), .ref (E.1 + 17), .ref (E.1 + 19), .int (nI an), .int (nI td), .int (nI gr)])) (H5 : h 13 = cI E 4 (nF K)) (H6 : h 14 = cI E 16 (nF M)) (hn : 38 ≤ n) (hkr : k + 0 = lz) (hlz : lz ≤ 4) (hc : c = PS w k p) (hcb : c ≤ 168 * k) (hle : le ≤ 1000) (hlb : lb ≤ 5) (hK : ∀ zz, K zz ≤ 5) (hM : ∀ zz, M zz ≤ 20) (hg : gr ≤ 9) (hw : oH w an gr lb K T lz) (hWp : ∀ zz, zz < k → W zz = digO k p zz) (hC : le < 1000 → ∀ zz, zz < lz → C zz = digO lz bb zz) (hM2 : ∀ zz, zz < 4 * an → M zz = PM w k p zz) : jC E mX3_place (8, 0, 0) [.ref (E.1 + 30), .ref (E.1 + 12), .int (nI k), .int (nI c)] h n (fun v h' n' => v = none ∧ n' = n ∧ ∃ (W1 : Nat → Nat) (C1 : Nat → Nat), h' = (hset (hset (hset (hset h 14 (cI E 16 (nF M))) 30 (.inr (2, [.ref (E.1 + 31), .ref (E.1 + 32), .ref (E.1 + 33), .int (nI lz), .int (nI lb), .int (nI ((dfsO w 0 k p (le, bb)).1))]))) 32 (cI E 4 (nF W1))) 33 (cI E 4 (nF C1))) ∧ (∀ zz, zz < k → W1 zz = digO k p zz) ∧ ((dfsO w 0 k p (le, bb)).1 < 1000 → ∀ zz, zz < lz → C1 zz = digO lz (dfsO w 0 k p (le, bb)).2 zz)) := by
  refine J.of (L := [(0, .ref (E.1 + 30)), (1, .ref (E.1 + 12)), (2, .int (nI k)), (3, .int (nI c))]) rfl (by decide +kernel) (Nat.le_of_ble_eq_true rfl) ?_
  obtain ⟨PP, hPP⟩ : ∃ PP : jPost, PP = (fun v h' n' => v = none ∧ n' = n ∧ ∃ (W1 : Nat → Nat) (C1 : Nat → Nat), h' = (hset (hset (hset (hset h 14 (cI E 16 (nF M))) 30 (.inr (2, [.ref (E.1 + 31), .ref (E.1 + 32), .ref (E.1 + 33), .int (nI lz), .int (nI lb), .int (nI ((dfsO w 0 k p (le, bb)).1))]))) 32 (cI E 4 (nF W1))) 33 (cI E 4 (nF C1))) ∧ (∀ zz, zz < k → W1 zz = digO k p zz) ∧ ((dfsO w 0 k p (le, bb)).1 < 1000 → ∀ zz, zz < lz → C1 zz = digO lz (dfsO w 0 k p (le, bb)).2 zz)) := ⟨_, rfl⟩
  rw [← hPP]
  obtain ⟨w1, w2, w3, w4, w5, w6⟩ := id hw
  refine J_iload_n dX3_place_0 rfl ?_
  refine J_aload_n dX3_place_1 rfl ?_
  refine J_get 5 dX3_place_2 jk3 (Nat.le_of_ble_eq_true rfl) jfRX3_28 H0 (by omega) rfl ?_
  refine J_icmp_ltN (tgt := 9) dX3_place_5 (by decide) (by omega) (by omega) (fun c1 => ?_) (fun c1 => ?_)
  · skip
    have hleaf := fun (z : c < le) => dfs_leaf (B := bb) hc z
    refine J_iload_n dX3_place_9 rfl ?_
    refine J_aload_n dX3_place_10 rfl ?_
    refine J_get 3 dX3_place_11 jk3 (Nat.le_of_ble_eq_true rfl) jfRX3_21 H0 (by omega) rfl ?_
    refine J_icmp_geN (tgt := 22) dX3_place_14 (by decide) (by omega) (by omega) (fun c2 => ?_) (fun c2 => (by exfalso; omega))
    refine J_aload_n dX3_place_22 rfl ?_
    refine J_iload_n dX3_place_23 rfl ?_
    refine J_put 5 dX3_place_24 jk3 (Nat.le_of_ble_eq_true rfl) jfRX3_28 H0 (by omega) rfl rfl rfl (Nat.le_of_ble_eq_true rfl) ?_
    refine J.cast (h' := (hset h 30 (.inr (2, [.ref (E.1 + 31), .ref (E.1 + 32), .ref (E.1 + 33), .int (nI lz), .int (nI lb), .int (nI c)])))) rfl ?_
    refine J_aload_n dX3_place_27 rfl ?_
    refine J_get 1 dX3_place_28 jk3 (Nat.le_of_ble_eq_true rfl) jfRX3_15 hset_eq (by omega) rfl ?_
    refine J_iconst (v := nI 0) dX3_place_31 (by decide +kernel) ?_
    refine J_aload_n dX3_place_32 rfl ?_
    refine J_get 2 dX3_place_33 jk3 (Nat.le_of_ble_eq_true rfl) jfRX3_18 hset_eq (by omega) rfl ?_
    refine J_iconst (v := nI 0) dX3_place_36 (by decide +kernel) ?_
    refine J_aload_n dX3_place_37 rfl ?_
    refine J_get 1 dX3_place_38 jk3 (Nat.le_of_ble_eq_true rfl) jfRX3_15 hset_eq (by omega) rfl ?_
    refine J_alenN dX3_place_41 ((hset_ne (by omega)).trans H2) (by omega) ?_
    refine J_copyN dX3_place_42 jlRX3_35 jcp_n jcp_s jcp_i ((hset_ne (by omega)).trans H2) (by omega) ((hset_ne (by omega)).trans H3) (by omega) (by omega) (by omega) (by omega) (by omega) (Nat.le_of_ble_eq_true rfl) (Nat.le_of_ble_eq_true rfl) ?_
    exact J_vret dX3_place_45 rfl ⟨Nat.le_refl _, Nat.le_refl _⟩ (by rw [hPP]; exact ⟨rfl, rfl, W, (va_cpy W C 0 0 4), ((show (hset (hset h 30 (.inr (2, [.ref (E.1 + 31), .ref (E.1 + 32), .ref (E.1 + 33), .int (nI lz), .int (nI lb), .int (nI c)]))) 33 (cI E 4 (nF (va_cpy W C 0 0 4)))) = (hset (hset (hset (hset h 14 (cI E 16 (nF M))) 30 (.inr (2, [.ref (E.1 + 31), .ref (E.1 + 32), .ref (E.1 + 33), .int (nI lz), .int (nI lb), .int (nI c)]))) 32 (cI E 4 (nF W))) 33 (cI E 4 (nF (va_cpy W C 0 0 4)))) by funext z; simp only [hset]; (repeat' split) <;> first | rfl | (exfalso; omega) | (subst_vars; first | exact H6 | exact H2)).trans (hset_cg (hset_cg (hset_cg (hset_cg rfl rfl) (congrArg (fun z => (Sum.inr (2, z) : va_E)) (jS_c rfl (jS_c rfl (jS_c rfl (jS_c rfl (jS_c rfl (jS_c (jv_N (by first | (rw [hcut]) | (rw [hleaf (by omega)]))) rfl)))))))) rfl) rfl)), (by first | assumption), (by first | (rw [hcut]; exact hC) | (rw [hleaf (by omega)]; intro _ zz hz; rw [cpy_at (by omega), show lz = k by omega]; exact hWp zz (by omega)))⟩)
  · skip
    have hcut := dfsO_cut (w := w) (by omega) 0 k p (le, bb) (by show le ≤ _; omega)
    exact J_vret dX3_place_8 rfl ⟨Nat.le_refl _, Nat.le_refl _⟩ (by rw [hPP]; exact ⟨rfl, rfl, W, C, ((show h = (hset (hset (hset (hset h 14 (cI E 16 (nF M))) 30 (.inr (2, [.ref (E.1 + 31), .ref (E.1 + 32), .ref (E.1 + 33), .int (nI lz), .int (nI lb), .int (nI le)]))) 32 (cI E 4 (nF W))) 33 (cI E 4 (nF C))) by funext z; simp only [hset]; (repeat' split) <;> first | rfl | (exfalso; omega) | (subst_vars; first | exact H6 | exact H0 | exact H2 | exact H3)).trans (hset_cg (hset_cg (hset_cg (hset_cg rfl rfl) (congrArg (fun z => (Sum.inr (2, z) : va_E)) (jS_c rfl (jS_c rfl (jS_c rfl (jS_c rfl (jS_c rfl (jS_c (jv_N (by first | (rw [hcut]) | (rw [hleaf (by omega)]))) rfl)))))))) rfl) rfl)), (by first | assumption), (by first | (rw [hcut]; exact hC) | (rw [hleaf (by omega)]; intro _ zz hz; rw [cpy_at (by omega), show lz = k by omega]; exact hWp zz (by omega)))⟩)

set_option maxHeartbeats 1000000 in
set_option maxRecDepth 100000 in
theorem ctX3_place1 {E : jE} {h : Nat → va_E} {n : Nat} (w : oW) (k : Nat) (p : Nat) (c : Nat) (bb : Nat) (lz : Nat) (lb : Nat) (le : Nat) (an : Nat) (td : Nat) (gr : Nat) (T : Nat → Nat) (W : Nat → Nat) (C : Nat → Nat) (K : Nat → Nat) (M : Nat → Nat) (H0 : h 30 = .inr (2, [.ref (E.1 + 31), .ref (E.1 + 32), .ref (E.1 + 33), .int (nI lz), .int (nI lb), .int (nI le)])) (H1 : h 31 = cI E 4 (nF T)) (H2 : h 32 = cI E 4 (nF W)) (H3 : h 33 = cI E 4 (nF C)) (H4 : h 12 = .inr (5, [.ref (E.1 + 13), .ref (E.1 + 14), .ref (E.1 + 15), .ref (E.1 + 17), .ref (E.1 + 19), .int (nI an), .int (nI td), .int (nI gr)])) (H5 : h 13 = cI E 4 (nF K)) (H6 : h 14 = cI E 16 (nF M)) (hn : 38 ≤ n) (hkr : k + 1 = lz) (hlz : lz ≤ 4) (hc : c = PS w k p) (hcb : c ≤ 168 * k) (hle : le ≤ 1000) (hlb : lb ≤ 5) (hK : ∀ zz, K zz ≤ 5) (hM : ∀ zz, M zz ≤ 20) (hg : gr ≤ 9) (hw : oH w an gr lb K T lz) (hWp : ∀ zz, zz < k → W zz = digO k p zz) (hC : le < 1000 → ∀ zz, zz < lz → C zz = digO lz bb zz) (hM2 : ∀ zz, zz < 4 * an → M zz = PM w k p zz) : jC E mX3_place (9, 0, 0) [.ref (E.1 + 30), .ref (E.1 + 12), .int (nI k), .int (nI c)] h n (fun v h' n' => v = none ∧ n' = n ∧ ∃ (W1 : Nat → Nat) (C1 : Nat → Nat), h' = (hset (hset (hset (hset h 14 (cI E 16 (nF M))) 30 (.inr (2, [.ref (E.1 + 31), .ref (E.1 + 32), .ref (E.1 + 33), .int (nI lz), .int (nI lb), .int (nI ((dfsO w 1 k p (le, bb)).1))]))) 32 (cI E 4 (nF W1))) 33 (cI E 4 (nF C1))) ∧ (∀ zz, zz < k → W1 zz = digO k p zz) ∧ ((dfsO w 1 k p (le, bb)).1 < 1000 → ∀ zz, zz < lz → C1 zz = digO lz (dfsO w 1 k p (le, bb)).2 zz)) := by
  refine J.of (L := [(0, .ref (E.1 + 30)), (1, .ref (E.1 + 12)), (2, .int (nI k)), (3, .int (nI c))]) rfl (by decide +kernel) (Nat.le_of_ble_eq_true rfl) ?_
  obtain ⟨PP, hPP⟩ : ∃ PP : jPost, PP = (fun v h' n' => v = none ∧ n' = n ∧ ∃ (W1 : Nat → Nat) (C1 : Nat → Nat), h' = (hset (hset (hset (hset h 14 (cI E 16 (nF M))) 30 (.inr (2, [.ref (E.1 + 31), .ref (E.1 + 32), .ref (E.1 + 33), .int (nI lz), .int (nI lb), .int (nI ((dfsO w 1 k p (le, bb)).1))]))) 32 (cI E 4 (nF W1))) 33 (cI E 4 (nF C1))) ∧ (∀ zz, zz < k → W1 zz = digO k p zz) ∧ ((dfsO w 1 k p (le, bb)).1 < 1000 → ∀ zz, zz < lz → C1 zz = digO lz (dfsO w 1 k p (le, bb)).2 zz)) := ⟨_, rfl⟩
  rw [← hPP]
  obtain ⟨w1, w2, w3, w4, w5, w6⟩ := id hw
  have tk := (w6 k (by omega)).2
  refine J_iload_n dX3_place_0 rfl ?_
  refine J_aload_n dX3_place_1 rfl ?_
  refine J_get 5 dX3_place_2 jk3 (Nat.le_of_ble_eq_true rfl) jfRX3_28 H0 (by omega) rfl ?_
  refine J_icmp_ltN (tgt := 9) dX3_place_5 (by decide) (by omega) (by omega) (fun c1 => ?_) (fun c1 => ?_)
  · skip
    have hleaf := fun (z : c < le) => dfs_leaf (B := bb) hc z
    refine J_iload_n dX3_place_9 rfl ?_
    refine J_aload_n dX3_place_10 rfl ?_
    refine J_get 3 dX3_place_11 jk3 (Nat.le_of_ble_eq_true rfl) jfRX3_21 H0 (by omega) rfl ?_
    refine J_icmp_geN (tgt := 22) dX3_place_14 (by decide) (by omega) (by omega) (fun c2 => (by exfalso; omega)) (fun c2 => ?_)
    refine J_iload_n dX3_place_17 rfl ?_
    refine J_iconst (v := nI 4) dX3_place_18 (by decide +kernel) ?_
    refine J_icmp_ltN (tgt := 46) dX3_place_19 (by decide) (by omega) (by omega) (fun c3 => ?_) (fun c3 => (by exfalso; omega))
    refine J_aload_n dX3_place_46 rfl ?_
    refine J_get 0 dX3_place_47 jk3 (Nat.le_of_ble_eq_true rfl) jfRX3_11 H0 (by omega) rfl ?_
    refine J_iload_n dX3_place_50 rfl ?_
    refine J_ialdN (i := k) dX3_place_51 H1 (by omega) (by omega) (by omega) ?_
    refine J_istore dX3_place_52 (Nat.le_of_ble_eq_true rfl) (L' := [(4, .int (nI (T k))), (0, .ref (E.1 + 30)), (1, .ref (E.1 + 12)), (2, .int (nI k)), (3, .int (nI c))]) rfl ?_
    refine J_iconst (v := nI 0) dX3_place_54 (by decide +kernel) ?_
    refine J_istore dX3_place_55 (Nat.le_of_ble_eq_true rfl) (L' := [(5, .int (nI 0)), (4, .int (nI (T k))), (0, .ref (E.1 + 30)), (1, .ref (E.1 + 12)), (2, .int (nI k)), (3, .int (nI c))]) rfl ?_
    have CUT57 : ∀ (f57 : Nat) (i : Nat) (W1 : Nat → Nat) (C1 : Nat → Nat) (hm57 : an - i < f57) (hi : i ≤ an) (hW2 : ∀ zz, zz < k → W1 zz = digO k p zz) (hC2 : (foldN (fun x1 x2 => dfsO w 0 (k + 1) (4 * p + x1) x2) (le, bb) i).1 < 1000 → ∀ zz, zz < lz → C1 zz = digO lz (foldN (fun x1 x2 => dfsO w 0 (k + 1) (4 * p + x1) x2) (le, bb) i).2 zz), J E mX3_place (9, 0, 0) jS0 PP (hset (hset (hset (hset h 14 (cI E 16 (nF M))) 30 (.inr (2, [.ref (E.1 + 31), .ref (E.1 + 32), .ref (E.1 + 33), .int (nI lz), .int (nI lb), .int (nI ((foldN (fun x1 x2 => dfsO w 0 (k + 1) (4 * p + x1) x2) (le, bb) i).1))]))) 32 (cI E 4 (nF W1))) 33 (cI E 4 (nF C1))) n (0, 0) 57 [(5, .int (nI i)), (4, .int (nI (T k))), (0, .ref (E.1 + 30)), (1, .ref (E.1 + 12)), (2, .int (nI k)), (3, .int (nI c))] [] := by
      intro f57
      induction f57 with
      | zero => intro i W1 C1 hm57; exact absurd hm57 (Nat.not_lt_zero _)
      | succ f57 ih57 =>
        intro i W1 C1 hm57 hi hW2 hC2
        have hS := foldN_le1 (f := (fun x1 x2 => dfsO w 0 (k + 1) (4 * p + x1) x2)) (s := (le, bb)) (fun x1 x2 => dfsO_le _ _ _ _) i
        have hS2 : (foldN (fun x1 x2 => dfsO w 0 (k + 1) (4 * p + x1) x2) (le, bb) i).1 ≤ le := hS
        have hF := fgnN_le (K := K) (g := gr) (a := i) (t := T k) hM 4
        refine J_iload dX3_place_57 rfl ?_
        refine J_aload_n dX3_place_59 rfl ?_
        refine J_get 5 dX3_place_60 jk6 (Nat.le_of_ble_eq_true rfl) jfRX3_41 ((hset_ne (by omega)).trans ((hset_ne (by omega)).trans ((hset_ne (by omega)).trans ((hset_ne (by omega)).trans H4)))) (by omega) rfl ?_
        refine J_icmp_geN (tgt := 126) dX3_place_63 (by decide) (by omega) (by omega) (fun c4 => ?_) (fun c4 => ?_)
        · skip
          exact J_vret dX3_place_126 rfl ⟨Nat.le_refl _, Nat.le_refl _⟩ (by rw [hPP]; exact ⟨rfl, rfl, W1, C1, (hset_cg (hset_cg (hset_cg (hset_cg rfl rfl) (congrArg (fun z => (Sum.inr (2, z) : va_E)) (jS_c rfl (jS_c rfl (jS_c rfl (jS_c rfl (jS_c rfl (jS_c (jv_N (by first | (rw [hcut]) | (rw [show i = an by omega, ← w1]; rfl))) rfl)))))))) rfl) rfl), (by first | assumption), (by first | (rw [hcut]; exact hC) | (rw [show i = an by omega, ← w1] at hC2; exact hC2))⟩)
        · skip
          refine J_aload_n dX3_place_66 rfl ?_
          refine J_iload dX3_place_67 rfl ?_
          refine J_iload dX3_place_69 rfl ?_
          refine J_callVr (M' := mX6_remembered) (d' := (1, 0, 0)) (rest := []) dX3_place_71 jmX6_remembered jlRX3_46 (ctX6_remembered 12 i (T k) an td gr M ((hset_ne (by omega)).trans ((hset_ne (by omega)).trans ((hset_ne (by omega)).trans ((hset_ne (by omega)).trans H4)))) ((hset_ne (by omega)).trans ((hset_ne (by omega)).trans ((hset_ne (by omega)).trans hset_eq))) (by omega) (by first | assumption | omega) (by first | assumption | omega)) ((hset_ne (by omega)).trans ((hset_ne (by omega)).trans ((hset_ne (by omega)).trans ((hset_ne (by omega)).trans H4)))) (by omega) jk6.1 rfl rfl (Nat.le_of_ble_eq_true rfl) (Nat.le_of_ble_eq_true rfl) ⟨Nat.le_refl _, Nat.le_refl _⟩ ?_
          refine J_istore dX3_place_74 (Nat.le_of_ble_eq_true rfl) (L' := [(6, .int (nI (M (4 * i + (T k))))), (5, .int (nI i)), (4, .int (nI (T k))), (0, .ref (E.1 + 30)), (1, .ref (E.1 + 12)), (2, .int (nI k)), (3, .int (nI c))]) rfl ?_
          refine J_aload_n dX3_place_76 rfl ?_
          refine J_get 1 dX3_place_77 jk3 (Nat.le_of_ble_eq_true rfl) jfRX3_15 ((hset_ne (by omega)).trans ((hset_ne (by omega)).trans hset_eq)) (by omega) rfl ?_
          refine J_iload_n dX3_place_80 rfl ?_
          refine J_iload dX3_place_81 rfl ?_
          refine J_iastN (i := k) (v := i) dX3_place_83 ((hset_ne (by omega)).trans hset_eq) (by omega) (by omega) (by omega) ?_
          refine J.cast ((hset_comm (by omega)).trans (hset_cg hset_hset rfl)) ?_
          refine J_aload_n dX3_place_84 rfl ?_
          refine J_iload dX3_place_85 rfl ?_
          refine J_iload dX3_place_87 rfl ?_
          refine J_aload_n dX3_place_89 rfl ?_
          refine J_get 4 dX3_place_90 jk3 (Nat.le_of_ble_eq_true rfl) jfRX3_25 ((hset_ne (by omega)).trans ((hset_ne (by omega)).trans hset_eq)) (by omega) rfl ?_
          refine J_callVr (M' := mX6_beat) (d' := (4, 0, 0)) (rest := []) dX3_place_93 jmX6_beat jlRX3_50 (ctX6_beat 12 i (T k) lb an td gr K M ((hset_ne (by omega)).trans ((hset_ne (by omega)).trans ((hset_ne (by omega)).trans ((hset_ne (by omega)).trans H4)))) ((hset_ne (by omega)).trans ((hset_ne (by omega)).trans ((hset_ne (by omega)).trans ((hset_ne (by omega)).trans H5)))) ((hset_ne (by omega)).trans ((hset_ne (by omega)).trans ((hset_ne (by omega)).trans hset_eq))) (by omega) (by first | assumption | omega) (by first | assumption | omega) (by first | assumption | omega) (by first | assumption | omega) (by first | assumption | omega) (by first | assumption | omega)) ((hset_ne (by omega)).trans ((hset_ne (by omega)).trans ((hset_ne (by omega)).trans ((hset_ne (by omega)).trans H4)))) (by omega) jk6.1 rfl rfl (Nat.le_of_ble_eq_true rfl) (Nat.le_of_ble_eq_true rfl) ⟨Nat.le_refl _, Nat.le_refl _⟩ ?_
          refine J.cast ((hset_comm (by omega)).trans (hset_cg ((hset_comm (by omega)).trans (hset_cg ((hset_comm (by omega)).trans (hset_cg hset_hset rfl)) rfl)) rfl)) ?_
          have fc5 : fgnN K M gr i (T k) 4 ≤ 42 * 4 := fgnN_le (show ∀ zz, M zz ≤ 20 from by first | assumption | omega) 4
          refine J_istore dX3_place_96 (Nat.le_of_ble_eq_true rfl) (L' := [(7, .int (nI (fgnN K M gr i (T k) 4))), (6, .int (nI (M (4 * i + (T k))))), (5, .int (nI i)), (4, .int (nI (T k))), (0, .ref (E.1 + 30)), (1, .ref (E.1 + 12)), (2, .int (nI k)), (3, .int (nI c))]) rfl ?_
          refine J_aload_n dX3_place_98 rfl ?_
          refine J_aload_n dX3_place_99 rfl ?_
          refine J_iload_n dX3_place_100 rfl ?_
          refine J_iconst (v := nI 1) dX3_place_101 (by decide +kernel) ?_
          refine J_iaddN dX3_place_102 ?_
          refine J_iload_n dX3_place_103 rfl ?_
          refine J_iload dX3_place_104 rfl ?_
          refine J_iaddN dX3_place_106 ?_
          refine J_callS (M' := mX3_place) (d' := (8, 0, 0)) (rest := []) dX3_place_107 jmX3_place jlRX3_31 (ctX3_place0 w (k + 1) (4 * p + i) (c + (fgnN K M gr i (T k) 4)) ((foldN (fun x1 x2 => dfsO w 0 (k + 1) (4 * p + x1) x2) (le, bb) i).2) lz lb ((foldN (fun x1 x2 => dfsO w 0 (k + 1) (4 * p + x1) x2) (le, bb) i).1) an td gr T (updN W1 k i) C1 K (addMN K M i (T k) lb) ((hset_ne (by omega)).trans ((hset_ne (by omega)).trans hset_eq)) ((hset_ne (by omega)).trans ((hset_ne (by omega)).trans ((hset_ne (by omega)).trans ((hset_ne (by omega)).trans H1)))) ((hset_ne (by omega)).trans hset_eq) hset_eq ((hset_ne (by omega)).trans ((hset_ne (by omega)).trans ((hset_ne (by omega)).trans ((hset_ne (by omega)).trans H4)))) ((hset_ne (by omega)).trans ((hset_ne (by omega)).trans ((hset_ne (by omega)).trans ((hset_ne (by omega)).trans H5)))) ((hset_ne (by omega)).trans ((hset_ne (by omega)).trans ((hset_ne (by omega)).trans hset_eq))) (by omega) (by first | assumption | omega) (by first | assumption | omega) (by rw [hc]; exact PS_st hw (by omega) (by omega) hM2) (by first | assumption | omega) (by first | assumption | omega) (by first | assumption | omega) (by first | assumption | omega) (by exact addMN_le hM) (by first | assumption | omega) (by first | assumption | omega) (by exact dig_st hW2 (by omega)) (by exact hC2) (by exact PM_st hw (by omega) (by omega) hM2)) rfl rfl (Nat.le_of_ble_eq_true rfl) (Nat.le_of_ble_eq_true rfl) (by constructor <;> decide +kernel) (fun v9 h9 n9 q9 => ?_)
          obtain ⟨rfl, hn9, W1_6, C1_7, rfl, hW1_8, hC1_9⟩ := q9
          replace hn9 := hn9.symm
          subst hn9
          refine J.cast ((hset_cg ((hset_cg ((hset_cg ((hset_comm (by omega)).trans (hset_cg ((hset_comm (by omega)).trans (hset_cg ((hset_comm (by omega)).trans (hset_cg hset_hset rfl)) rfl)) rfl)) rfl).trans ((hset_comm (by omega)).trans (hset_cg ((hset_comm (by omega)).trans (hset_cg hset_hset rfl)) rfl))) rfl).trans ((hset_comm (by omega)).trans (hset_cg hset_hset rfl))) rfl).trans hset_hset) ?_
          refine J.stk (st' := []) rfl ?_
          have hW3 := hW1_8
          have hC3 := hC1_9
          refine J_aload_n dX3_place_110 rfl ?_
          refine J_iload dX3_place_111 rfl ?_
          refine J_iload dX3_place_113 rfl ?_
          refine J_iload dX3_place_115 rfl ?_
          refine J_callVn (M' := mX6_setMemory) (d' := (1, 0, 0)) (rest := []) dX3_place_117 jmX6_setMemory jlRX3_54 (ctX6_setMemory 12 i (T k) (M (4 * i + (T k))) an td gr (addMN K M i (T k) lb) ((hset_ne (by omega)).trans ((hset_ne (by omega)).trans ((hset_ne (by omega)).trans ((hset_ne (by omega)).trans H4)))) ((hset_ne (by omega)).trans ((hset_ne (by omega)).trans ((hset_ne (by omega)).trans hset_eq))) (by omega) (by first | assumption | omega) (by first | assumption | omega)) ((hset_ne (by omega)).trans ((hset_ne (by omega)).trans ((hset_ne (by omega)).trans ((hset_ne (by omega)).trans H4)))) (by omega) jk6.1 rfl rfl (Nat.le_of_ble_eq_true rfl) (Nat.le_of_ble_eq_true rfl) ⟨Nat.le_refl _, Nat.le_refl _⟩ ?_
          refine J.cast ((hset_comm (by omega)).trans (hset_cg ((hset_comm (by omega)).trans (hset_cg ((hset_comm (by omega)).trans (hset_cg hset_hset rfl)) rfl)) rfl)) ?_
          refine J_iincN (q := 2) (a := i) (m := 1) dX3_place_120 rfl (by decide +kernel) (Nat.le_of_ble_eq_true rfl) (L' := [(5, .int (nI (i + 1))), (7, .int (nI (fgnN K M gr i (T k) 4))), (6, .int (nI (M (4 * i + (T k))))), (4, .int (nI (T k))), (0, .ref (E.1 + 30)), (1, .ref (E.1 + 12)), (2, .int (nI k)), (3, .int (nI c))]) rfl ?_
          refine J_goto (tgt := 57) dX3_place_123 (by decide) ?_
          refine J.sub [0, 3, 4, 5, 6, 7] (L' := [(5, .int (nI (i + 1))), (4, .int (nI (T k))), (0, .ref (E.1 + 30)), (1, .ref (E.1 + 12)), (2, .int (nI k)), (3, .int (nI c))]) rfl ?_
          refine J.eqs (h' := (hset (hset (hset (hset h 14 (cI E 16 (nF M))) 30 (.inr (2, [.ref (E.1 + 31), .ref (E.1 + 32), .ref (E.1 + 33), .int (nI lz), .int (nI lb), .int (nI ((foldN (fun x1 x2 => dfsO w 0 (k + 1) (4 * p + x1) x2) (le, bb) (i + 1)).1))]))) 32 (cI E 4 (nF W1_6))) 33 (cI E 4 (nF C1_7)))) (L' := [(5, .int (nI (i + 1))), (4, .int (nI (T k))), (0, .ref (E.1 + 30)), (1, .ref (E.1 + 12)), (2, .int (nI k)), (3, .int (nI c))]) (st' := []) (hset_cg (hset_cg (hset_cg (hset_cg rfl (cI_cg (by intro z; first | rfl | exact unM z))) (congrArg (fun z => (Sum.inr (2, z) : va_E)) (jS_c rfl (jS_c rfl (jS_c rfl (jS_c rfl (jS_c rfl (jS_c (jv_N (by first | rfl | exact unM z)) rfl)))))))) rfl) rfl) rfl rfl ?_
          exact ih57 (i + 1) W1_6 C1_7 (by omega) (by first | assumption | omega) (by first | exact hWp | (intro zz hz; rw [hW3 zz (by omega), dig_pre hz (by omega)])) (by first | exact hC | exact hC3)
    refine J.eqs (h' := (hset (hset (hset (hset h 14 (cI E 16 (nF M))) 30 (.inr (2, [.ref (E.1 + 31), .ref (E.1 + 32), .ref (E.1 + 33), .int (nI lz), .int (nI lb), .int (nI ((foldN (fun x1 x2 => dfsO w 0 (k + 1) (4 * p + x1) x2) (le, bb) 0).1))]))) 32 (cI E 4 (nF W))) 33 (cI E 4 (nF C)))) (L' := [(5, .int (nI 0)), (4, .int (nI (T k))), (0, .ref (E.1 + 30)), (1, .ref (E.1 + 12)), (2, .int (nI k)), (3, .int (nI c))]) (st' := []) ((show h = (hset (hset (hset (hset h 14 (cI E 16 (nF M))) 30 (.inr (2, [.ref (E.1 + 31), .ref (E.1 + 32), .ref (E.1 + 33), .int (nI lz), .int (nI lb), .int (nI le)]))) 32 (cI E 4 (nF W))) 33 (cI E 4 (nF C))) by funext z; simp only [hset]; (repeat' split) <;> first | rfl | (exfalso; omega) | (subst_vars; first | exact H6 | exact H0 | exact H2 | exact H3)).trans (hset_cg (hset_cg (hset_cg (hset_cg rfl rfl) (congrArg (fun z => (Sum.inr (2, z) : va_E)) (jS_c rfl (jS_c rfl (jS_c rfl (jS_c rfl (jS_c rfl (jS_c (jv_N (by first | rfl | exact unM z)) rfl)))))))) rfl) rfl)) rfl rfl ?_
    exact CUT57 (an - 0 + 1) 0 W C (Nat.lt_succ_self _) (by first | assumption | omega) (by first | exact hWp | (intro zz hz; rw [hW3 zz (by omega), dig_pre hz (by omega)])) (by first | exact hC | exact hC3)
  · skip
    have hcut := dfsO_cut (w := w) (by omega) 1 k p (le, bb) (by show le ≤ _; omega)
    exact J_vret dX3_place_8 rfl ⟨Nat.le_refl _, Nat.le_refl _⟩ (by rw [hPP]; exact ⟨rfl, rfl, W, C, ((show h = (hset (hset (hset (hset h 14 (cI E 16 (nF M))) 30 (.inr (2, [.ref (E.1 + 31), .ref (E.1 + 32), .ref (E.1 + 33), .int (nI lz), .int (nI lb), .int (nI le)]))) 32 (cI E 4 (nF W))) 33 (cI E 4 (nF C))) by funext z; simp only [hset]; (repeat' split) <;> first | rfl | (exfalso; omega) | (subst_vars; first | exact H6 | exact H0 | exact H2 | exact H3)).trans (hset_cg (hset_cg (hset_cg (hset_cg rfl rfl) (congrArg (fun z => (Sum.inr (2, z) : va_E)) (jS_c rfl (jS_c rfl (jS_c rfl (jS_c rfl (jS_c rfl (jS_c (jv_N (by first | (rw [hcut]) | (rw [show i = an by omega, ← w1]; rfl))) rfl)))))))) rfl) rfl)), (by first | assumption), (by first | (rw [hcut]; exact hC) | (rw [show i = an by omega, ← w1] at hC2; exact hC2))⟩)

set_option maxHeartbeats 1000000 in
set_option maxRecDepth 100000 in
theorem ctX3_place2 {E : jE} {h : Nat → va_E} {n : Nat} (w : oW) (k : Nat) (p : Nat) (c : Nat) (bb : Nat) (lz : Nat) (lb : Nat) (le : Nat) (an : Nat) (td : Nat) (gr : Nat) (T : Nat → Nat) (W : Nat → Nat) (C : Nat → Nat) (K : Nat → Nat) (M : Nat → Nat) (H0 : h 30 = .inr (2, [.ref (E.1 + 31), .ref (E.1 + 32), .ref (E.1 + 33), .int (nI lz), .int (nI lb), .int (nI le)])) (H1 : h 31 = cI E 4 (nF T)) (H2 : h 32 = cI E 4 (nF W)) (H3 : h 33 = cI E 4 (nF C)) (H4 : h 12 = .inr (5, [.ref (E.1 + 13), .ref (E.1 + 14), .ref (E.1 + 15), .ref (E.1 + 17), .ref (E.1 + 19), .int (nI an), .int (nI td), .int (nI gr)])) (H5 : h 13 = cI E 4 (nF K)) (H6 : h 14 = cI E 16 (nF M)) (hn : 38 ≤ n) (hkr : k + 2 = lz) (hlz : lz ≤ 4) (hc : c = PS w k p) (hcb : c ≤ 168 * k) (hle : le ≤ 1000) (hlb : lb ≤ 5) (hK : ∀ zz, K zz ≤ 5) (hM : ∀ zz, M zz ≤ 20) (hg : gr ≤ 9) (hw : oH w an gr lb K T lz) (hWp : ∀ zz, zz < k → W zz = digO k p zz) (hC : le < 1000 → ∀ zz, zz < lz → C zz = digO lz bb zz) (hM2 : ∀ zz, zz < 4 * an → M zz = PM w k p zz) : jC E mX3_place (10, 0, 0) [.ref (E.1 + 30), .ref (E.1 + 12), .int (nI k), .int (nI c)] h n (fun v h' n' => v = none ∧ n' = n ∧ ∃ (W1 : Nat → Nat) (C1 : Nat → Nat), h' = (hset (hset (hset (hset h 14 (cI E 16 (nF M))) 30 (.inr (2, [.ref (E.1 + 31), .ref (E.1 + 32), .ref (E.1 + 33), .int (nI lz), .int (nI lb), .int (nI ((dfsO w 2 k p (le, bb)).1))]))) 32 (cI E 4 (nF W1))) 33 (cI E 4 (nF C1))) ∧ (∀ zz, zz < k → W1 zz = digO k p zz) ∧ ((dfsO w 2 k p (le, bb)).1 < 1000 → ∀ zz, zz < lz → C1 zz = digO lz (dfsO w 2 k p (le, bb)).2 zz)) := by
  refine J.of (L := [(0, .ref (E.1 + 30)), (1, .ref (E.1 + 12)), (2, .int (nI k)), (3, .int (nI c))]) rfl (by decide +kernel) (Nat.le_of_ble_eq_true rfl) ?_
  obtain ⟨PP, hPP⟩ : ∃ PP : jPost, PP = (fun v h' n' => v = none ∧ n' = n ∧ ∃ (W1 : Nat → Nat) (C1 : Nat → Nat), h' = (hset (hset (hset (hset h 14 (cI E 16 (nF M))) 30 (.inr (2, [.ref (E.1 + 31), .ref (E.1 + 32), .ref (E.1 + 33), .int (nI lz), .int (nI lb), .int (nI ((dfsO w 2 k p (le, bb)).1))]))) 32 (cI E 4 (nF W1))) 33 (cI E 4 (nF C1))) ∧ (∀ zz, zz < k → W1 zz = digO k p zz) ∧ ((dfsO w 2 k p (le, bb)).1 < 1000 → ∀ zz, zz < lz → C1 zz = digO lz (dfsO w 2 k p (le, bb)).2 zz)) := ⟨_, rfl⟩
  rw [← hPP]
  obtain ⟨w1, w2, w3, w4, w5, w6⟩ := id hw
  have tk := (w6 k (by omega)).2
  refine J_iload_n dX3_place_0 rfl ?_
  refine J_aload_n dX3_place_1 rfl ?_
  refine J_get 5 dX3_place_2 jk3 (Nat.le_of_ble_eq_true rfl) jfRX3_28 H0 (by omega) rfl ?_
  refine J_icmp_ltN (tgt := 9) dX3_place_5 (by decide) (by omega) (by omega) (fun c1 => ?_) (fun c1 => ?_)
  · skip
    have hleaf := fun (z : c < le) => dfs_leaf (B := bb) hc z
    refine J_iload_n dX3_place_9 rfl ?_
    refine J_aload_n dX3_place_10 rfl ?_
    refine J_get 3 dX3_place_11 jk3 (Nat.le_of_ble_eq_true rfl) jfRX3_21 H0 (by omega) rfl ?_
    refine J_icmp_geN (tgt := 22) dX3_place_14 (by decide) (by omega) (by omega) (fun c2 => (by exfalso; omega)) (fun c2 => ?_)
    refine J_iload_n dX3_place_17 rfl ?_
    refine J_iconst (v := nI 4) dX3_place_18 (by decide +kernel) ?_
    refine J_icmp_ltN (tgt := 46) dX3_place_19 (by decide) (by omega) (by omega) (fun c3 => ?_) (fun c3 => (by exfalso; omega))
    refine J_aload_n dX3_place_46 rfl ?_
    refine J_get 0 dX3_place_47 jk3 (Nat.le_of_ble_eq_true rfl) jfRX3_11 H0 (by omega) rfl ?_
    refine J_iload_n dX3_place_50 rfl ?_
    refine J_ialdN (i := k) dX3_place_51 H1 (by omega) (by omega) (by omega) ?_
    refine J_istore dX3_place_52 (Nat.le_of_ble_eq_true rfl) (L' := [(4, .int (nI (T k))), (0, .ref (E.1 + 30)), (1, .ref (E.1 + 12)), (2, .int (nI k)), (3, .int (nI c))]) rfl ?_
    refine J_iconst (v := nI 0) dX3_place_54 (by decide +kernel) ?_
    refine J_istore dX3_place_55 (Nat.le_of_ble_eq_true rfl) (L' := [(5, .int (nI 0)), (4, .int (nI (T k))), (0, .ref (E.1 + 30)), (1, .ref (E.1 + 12)), (2, .int (nI k)), (3, .int (nI c))]) rfl ?_
    have CUT57 : ∀ (f57 : Nat) (i : Nat) (W1 : Nat → Nat) (C1 : Nat → Nat) (hm57 : an - i < f57) (hi : i ≤ an) (hW2 : ∀ zz, zz < k → W1 zz = digO k p zz) (hC2 : (foldN (fun x1 x2 => dfsO w 1 (k + 1) (4 * p + x1) x2) (le, bb) i).1 < 1000 → ∀ zz, zz < lz → C1 zz = digO lz (foldN (fun x1 x2 => dfsO w 1 (k + 1) (4 * p + x1) x2) (le, bb) i).2 zz), J E mX3_place (10, 0, 0) jS0 PP (hset (hset (hset (hset h 14 (cI E 16 (nF M))) 30 (.inr (2, [.ref (E.1 + 31), .ref (E.1 + 32), .ref (E.1 + 33), .int (nI lz), .int (nI lb), .int (nI ((foldN (fun x1 x2 => dfsO w 1 (k + 1) (4 * p + x1) x2) (le, bb) i).1))]))) 32 (cI E 4 (nF W1))) 33 (cI E 4 (nF C1))) n (0, 0) 57 [(5, .int (nI i)), (4, .int (nI (T k))), (0, .ref (E.1 + 30)), (1, .ref (E.1 + 12)), (2, .int (nI k)), (3, .int (nI c))] [] := by
      intro f57
      induction f57 with
      | zero => intro i W1 C1 hm57; exact absurd hm57 (Nat.not_lt_zero _)
      | succ f57 ih57 =>
        intro i W1 C1 hm57 hi hW2 hC2
        have hS := foldN_le1 (f := (fun x1 x2 => dfsO w 1 (k + 1) (4 * p + x1) x2)) (s := (le, bb)) (fun x1 x2 => dfsO_le _ _ _ _) i
        have hS2 : (foldN (fun x1 x2 => dfsO w 1 (k + 1) (4 * p + x1) x2) (le, bb) i).1 ≤ le := hS
        have hF := fgnN_le (K := K) (g := gr) (a := i) (t := T k) hM 4
        refine J_iload dX3_place_57 rfl ?_
        refine J_aload_n dX3_place_59 rfl ?_
        refine J_get 5 dX3_place_60 jk6 (Nat.le_of_ble_eq_true rfl) jfRX3_41 ((hset_ne (by omega)).trans ((hset_ne (by omega)).trans ((hset_ne (by omega)).trans ((hset_ne (by omega)).trans H4)))) (by omega) rfl ?_
        refine J_icmp_geN (tgt := 126) dX3_place_63 (by decide) (by omega) (by omega) (fun c4 => ?_) (fun c4 => ?_)
        · skip
          exact J_vret dX3_place_126 rfl ⟨Nat.le_refl _, Nat.le_refl _⟩ (by rw [hPP]; exact ⟨rfl, rfl, W1, C1, (hset_cg (hset_cg (hset_cg (hset_cg rfl rfl) (congrArg (fun z => (Sum.inr (2, z) : va_E)) (jS_c rfl (jS_c rfl (jS_c rfl (jS_c rfl (jS_c rfl (jS_c (jv_N (by first | (rw [hcut]) | (rw [show i = an by omega, ← w1]; rfl))) rfl)))))))) rfl) rfl), (by first | assumption), (by first | (rw [hcut]; exact hC) | (rw [show i = an by omega, ← w1] at hC2; exact hC2))⟩)
        · skip
          refine J_aload_n dX3_place_66 rfl ?_
          refine J_iload dX3_place_67 rfl ?_
          refine J_iload dX3_place_69 rfl ?_
          refine J_callVr (M' := mX6_remembered) (d' := (1, 0, 0)) (rest := []) dX3_place_71 jmX6_remembered jlRX3_46 (ctX6_remembered 12 i (T k) an td gr M ((hset_ne (by omega)).trans ((hset_ne (by omega)).trans ((hset_ne (by omega)).trans ((hset_ne (by omega)).trans H4)))) ((hset_ne (by omega)).trans ((hset_ne (by omega)).trans ((hset_ne (by omega)).trans hset_eq))) (by omega) (by first | assumption | omega) (by first | assumption | omega)) ((hset_ne (by omega)).trans ((hset_ne (by omega)).trans ((hset_ne (by omega)).trans ((hset_ne (by omega)).trans H4)))) (by omega) jk6.1 rfl rfl (Nat.le_of_ble_eq_true rfl) (Nat.le_of_ble_eq_true rfl) ⟨Nat.le_refl _, Nat.le_refl _⟩ ?_
          refine J_istore dX3_place_74 (Nat.le_of_ble_eq_true rfl) (L' := [(6, .int (nI (M (4 * i + (T k))))), (5, .int (nI i)), (4, .int (nI (T k))), (0, .ref (E.1 + 30)), (1, .ref (E.1 + 12)), (2, .int (nI k)), (3, .int (nI c))]) rfl ?_
          refine J_aload_n dX3_place_76 rfl ?_
          refine J_get 1 dX3_place_77 jk3 (Nat.le_of_ble_eq_true rfl) jfRX3_15 ((hset_ne (by omega)).trans ((hset_ne (by omega)).trans hset_eq)) (by omega) rfl ?_
          refine J_iload_n dX3_place_80 rfl ?_
          refine J_iload dX3_place_81 rfl ?_
          refine J_iastN (i := k) (v := i) dX3_place_83 ((hset_ne (by omega)).trans hset_eq) (by omega) (by omega) (by omega) ?_
          refine J.cast ((hset_comm (by omega)).trans (hset_cg hset_hset rfl)) ?_
          refine J_aload_n dX3_place_84 rfl ?_
          refine J_iload dX3_place_85 rfl ?_
          refine J_iload dX3_place_87 rfl ?_
          refine J_aload_n dX3_place_89 rfl ?_
          refine J_get 4 dX3_place_90 jk3 (Nat.le_of_ble_eq_true rfl) jfRX3_25 ((hset_ne (by omega)).trans ((hset_ne (by omega)).trans hset_eq)) (by omega) rfl ?_
          refine J_callVr (M' := mX6_beat) (d' := (4, 0, 0)) (rest := []) dX3_place_93 jmX6_beat jlRX3_50 (ctX6_beat 12 i (T k) lb an td gr K M ((hset_ne (by omega)).trans ((hset_ne (by omega)).trans ((hset_ne (by omega)).trans ((hset_ne (by omega)).trans H4)))) ((hset_ne (by omega)).trans ((hset_ne (by omega)).trans ((hset_ne (by omega)).trans ((hset_ne (by omega)).trans H5)))) ((hset_ne (by omega)).trans ((hset_ne (by omega)).trans ((hset_ne (by omega)).trans hset_eq))) (by omega) (by first | assumption | omega) (by first | assumption | omega) (by first | assumption | omega) (by first | assumption | omega) (by first | assumption | omega) (by first | assumption | omega)) ((hset_ne (by omega)).trans ((hset_ne (by omega)).trans ((hset_ne (by omega)).trans ((hset_ne (by omega)).trans H4)))) (by omega) jk6.1 rfl rfl (Nat.le_of_ble_eq_true rfl) (Nat.le_of_ble_eq_true rfl) ⟨Nat.le_refl _, Nat.le_refl _⟩ ?_
          refine J.cast ((hset_comm (by omega)).trans (hset_cg ((hset_comm (by omega)).trans (hset_cg ((hset_comm (by omega)).trans (hset_cg hset_hset rfl)) rfl)) rfl)) ?_
          have fc5 : fgnN K M gr i (T k) 4 ≤ 42 * 4 := fgnN_le (show ∀ zz, M zz ≤ 20 from by first | assumption | omega) 4
          refine J_istore dX3_place_96 (Nat.le_of_ble_eq_true rfl) (L' := [(7, .int (nI (fgnN K M gr i (T k) 4))), (6, .int (nI (M (4 * i + (T k))))), (5, .int (nI i)), (4, .int (nI (T k))), (0, .ref (E.1 + 30)), (1, .ref (E.1 + 12)), (2, .int (nI k)), (3, .int (nI c))]) rfl ?_
          refine J_aload_n dX3_place_98 rfl ?_
          refine J_aload_n dX3_place_99 rfl ?_
          refine J_iload_n dX3_place_100 rfl ?_
          refine J_iconst (v := nI 1) dX3_place_101 (by decide +kernel) ?_
          refine J_iaddN dX3_place_102 ?_
          refine J_iload_n dX3_place_103 rfl ?_
          refine J_iload dX3_place_104 rfl ?_
          refine J_iaddN dX3_place_106 ?_
          refine J_callS (M' := mX3_place) (d' := (9, 0, 0)) (rest := []) dX3_place_107 jmX3_place jlRX3_31 (ctX3_place1 w (k + 1) (4 * p + i) (c + (fgnN K M gr i (T k) 4)) ((foldN (fun x1 x2 => dfsO w 1 (k + 1) (4 * p + x1) x2) (le, bb) i).2) lz lb ((foldN (fun x1 x2 => dfsO w 1 (k + 1) (4 * p + x1) x2) (le, bb) i).1) an td gr T (updN W1 k i) C1 K (addMN K M i (T k) lb) ((hset_ne (by omega)).trans ((hset_ne (by omega)).trans hset_eq)) ((hset_ne (by omega)).trans ((hset_ne (by omega)).trans ((hset_ne (by omega)).trans ((hset_ne (by omega)).trans H1)))) ((hset_ne (by omega)).trans hset_eq) hset_eq ((hset_ne (by omega)).trans ((hset_ne (by omega)).trans ((hset_ne (by omega)).trans ((hset_ne (by omega)).trans H4)))) ((hset_ne (by omega)).trans ((hset_ne (by omega)).trans ((hset_ne (by omega)).trans ((hset_ne (by omega)).trans H5)))) ((hset_ne (by omega)).trans ((hset_ne (by omega)).trans ((hset_ne (by omega)).trans hset_eq))) (by omega) (by first | assumption | omega) (by first | assumption | omega) (by rw [hc]; exact PS_st hw (by omega) (by omega) hM2) (by first | assumption | omega) (by first | assumption | omega) (by first | assumption | omega) (by first | assumption | omega) (by exact addMN_le hM) (by first | assumption | omega) (by first | assumption | omega) (by exact dig_st hW2 (by omega)) (by exact hC2) (by exact PM_st hw (by omega) (by omega) hM2)) rfl rfl (Nat.le_of_ble_eq_true rfl) (Nat.le_of_ble_eq_true rfl) (by constructor <;> decide +kernel) (fun v9 h9 n9 q9 => ?_)
          obtain ⟨rfl, hn9, W1_6, C1_7, rfl, hW1_8, hC1_9⟩ := q9
          replace hn9 := hn9.symm
          subst hn9
          refine J.cast ((hset_cg ((hset_cg ((hset_cg ((hset_comm (by omega)).trans (hset_cg ((hset_comm (by omega)).trans (hset_cg ((hset_comm (by omega)).trans (hset_cg hset_hset rfl)) rfl)) rfl)) rfl).trans ((hset_comm (by omega)).trans (hset_cg ((hset_comm (by omega)).trans (hset_cg hset_hset rfl)) rfl))) rfl).trans ((hset_comm (by omega)).trans (hset_cg hset_hset rfl))) rfl).trans hset_hset) ?_
          refine J.stk (st' := []) rfl ?_
          have hW3 := hW1_8
          have hC3 := hC1_9
          refine J_aload_n dX3_place_110 rfl ?_
          refine J_iload dX3_place_111 rfl ?_
          refine J_iload dX3_place_113 rfl ?_
          refine J_iload dX3_place_115 rfl ?_
          refine J_callVn (M' := mX6_setMemory) (d' := (1, 0, 0)) (rest := []) dX3_place_117 jmX6_setMemory jlRX3_54 (ctX6_setMemory 12 i (T k) (M (4 * i + (T k))) an td gr (addMN K M i (T k) lb) ((hset_ne (by omega)).trans ((hset_ne (by omega)).trans ((hset_ne (by omega)).trans ((hset_ne (by omega)).trans H4)))) ((hset_ne (by omega)).trans ((hset_ne (by omega)).trans ((hset_ne (by omega)).trans hset_eq))) (by omega) (by first | assumption | omega) (by first | assumption | omega)) ((hset_ne (by omega)).trans ((hset_ne (by omega)).trans ((hset_ne (by omega)).trans ((hset_ne (by omega)).trans H4)))) (by omega) jk6.1 rfl rfl (Nat.le_of_ble_eq_true rfl) (Nat.le_of_ble_eq_true rfl) ⟨Nat.le_refl _, Nat.le_refl _⟩ ?_
          refine J.cast ((hset_comm (by omega)).trans (hset_cg ((hset_comm (by omega)).trans (hset_cg ((hset_comm (by omega)).trans (hset_cg hset_hset rfl)) rfl)) rfl)) ?_
          refine J_iincN (q := 2) (a := i) (m := 1) dX3_place_120 rfl (by decide +kernel) (Nat.le_of_ble_eq_true rfl) (L' := [(5, .int (nI (i + 1))), (7, .int (nI (fgnN K M gr i (T k) 4))), (6, .int (nI (M (4 * i + (T k))))), (4, .int (nI (T k))), (0, .ref (E.1 + 30)), (1, .ref (E.1 + 12)), (2, .int (nI k)), (3, .int (nI c))]) rfl ?_
          refine J_goto (tgt := 57) dX3_place_123 (by decide) ?_
          refine J.sub [0, 3, 4, 5, 6, 7] (L' := [(5, .int (nI (i + 1))), (4, .int (nI (T k))), (0, .ref (E.1 + 30)), (1, .ref (E.1 + 12)), (2, .int (nI k)), (3, .int (nI c))]) rfl ?_
          refine J.eqs (h' := (hset (hset (hset (hset h 14 (cI E 16 (nF M))) 30 (.inr (2, [.ref (E.1 + 31), .ref (E.1 + 32), .ref (E.1 + 33), .int (nI lz), .int (nI lb), .int (nI ((foldN (fun x1 x2 => dfsO w 1 (k + 1) (4 * p + x1) x2) (le, bb) (i + 1)).1))]))) 32 (cI E 4 (nF W1_6))) 33 (cI E 4 (nF C1_7)))) (L' := [(5, .int (nI (i + 1))), (4, .int (nI (T k))), (0, .ref (E.1 + 30)), (1, .ref (E.1 + 12)), (2, .int (nI k)), (3, .int (nI c))]) (st' := []) (hset_cg (hset_cg (hset_cg (hset_cg rfl (cI_cg (by intro z; first | rfl | exact unM z))) (congrArg (fun z => (Sum.inr (2, z) : va_E)) (jS_c rfl (jS_c rfl (jS_c rfl (jS_c rfl (jS_c rfl (jS_c (jv_N (by first | rfl | exact unM z)) rfl)))))))) rfl) rfl) rfl rfl ?_
          exact ih57 (i + 1) W1_6 C1_7 (by omega) (by first | assumption | omega) (by first | exact hWp | (intro zz hz; rw [hW3 zz (by omega), dig_pre hz (by omega)])) (by first | exact hC | exact hC3)
    refine J.eqs (h' := (hset (hset (hset (hset h 14 (cI E 16 (nF M))) 30 (.inr (2, [.ref (E.1 + 31), .ref (E.1 + 32), .ref (E.1 + 33), .int (nI lz), .int (nI lb), .int (nI ((foldN (fun x1 x2 => dfsO w 1 (k + 1) (4 * p + x1) x2) (le, bb) 0).1))]))) 32 (cI E 4 (nF W))) 33 (cI E 4 (nF C)))) (L' := [(5, .int (nI 0)), (4, .int (nI (T k))), (0, .ref (E.1 + 30)), (1, .ref (E.1 + 12)), (2, .int (nI k)), (3, .int (nI c))]) (st' := []) ((show h = (hset (hset (hset (hset h 14 (cI E 16 (nF M))) 30 (.inr (2, [.ref (E.1 + 31), .ref (E.1 + 32), .ref (E.1 + 33), .int (nI lz), .int (nI lb), .int (nI le)]))) 32 (cI E 4 (nF W))) 33 (cI E 4 (nF C))) by funext z; simp only [hset]; (repeat' split) <;> first | rfl | (exfalso; omega) | (subst_vars; first | exact H6 | exact H0 | exact H2 | exact H3)).trans (hset_cg (hset_cg (hset_cg (hset_cg rfl rfl) (congrArg (fun z => (Sum.inr (2, z) : va_E)) (jS_c rfl (jS_c rfl (jS_c rfl (jS_c rfl (jS_c rfl (jS_c (jv_N (by first | rfl | exact unM z)) rfl)))))))) rfl) rfl)) rfl rfl ?_
    exact CUT57 (an - 0 + 1) 0 W C (Nat.lt_succ_self _) (by first | assumption | omega) (by first | exact hWp | (intro zz hz; rw [hW3 zz (by omega), dig_pre hz (by omega)])) (by first | exact hC | exact hC3)
  · skip
    have hcut := dfsO_cut (w := w) (by omega) 2 k p (le, bb) (by show le ≤ _; omega)
    exact J_vret dX3_place_8 rfl ⟨Nat.le_refl _, Nat.le_refl _⟩ (by rw [hPP]; exact ⟨rfl, rfl, W, C, ((show h = (hset (hset (hset (hset h 14 (cI E 16 (nF M))) 30 (.inr (2, [.ref (E.1 + 31), .ref (E.1 + 32), .ref (E.1 + 33), .int (nI lz), .int (nI lb), .int (nI le)]))) 32 (cI E 4 (nF W))) 33 (cI E 4 (nF C))) by funext z; simp only [hset]; (repeat' split) <;> first | rfl | (exfalso; omega) | (subst_vars; first | exact H6 | exact H0 | exact H2 | exact H3)).trans (hset_cg (hset_cg (hset_cg (hset_cg rfl rfl) (congrArg (fun z => (Sum.inr (2, z) : va_E)) (jS_c rfl (jS_c rfl (jS_c rfl (jS_c rfl (jS_c rfl (jS_c (jv_N (by first | (rw [hcut]) | (rw [show i = an by omega, ← w1]; rfl))) rfl)))))))) rfl) rfl)), (by first | assumption), (by first | (rw [hcut]; exact hC) | (rw [show i = an by omega, ← w1] at hC2; exact hC2))⟩)

set_option maxHeartbeats 1000000 in
set_option maxRecDepth 100000 in
theorem ctX3_place3 {E : jE} {h : Nat → va_E} {n : Nat} (w : oW) (k : Nat) (p : Nat) (c : Nat) (bb : Nat) (lz : Nat) (lb : Nat) (le : Nat) (an : Nat) (td : Nat) (gr : Nat) (T : Nat → Nat) (W : Nat → Nat) (C : Nat → Nat) (K : Nat → Nat) (M : Nat → Nat) (H0 : h 30 = .inr (2, [.ref (E.1 + 31), .ref (E.1 + 32), .ref (E.1 + 33), .int (nI lz), .int (nI lb), .int (nI le)])) (H1 : h 31 = cI E 4 (nF T)) (H2 : h 32 = cI E 4 (nF W)) (H3 : h 33 = cI E 4 (nF C)) (H4 : h 12 = .inr (5, [.ref (E.1 + 13), .ref (E.1 + 14), .ref (E.1 + 15), .ref (E.1 + 17), .ref (E.1 + 19), .int (nI an), .int (nI td), .int (nI gr)])) (H5 : h 13 = cI E 4 (nF K)) (H6 : h 14 = cI E 16 (nF M)) (hn : 38 ≤ n) (hkr : k + 3 = lz) (hlz : lz ≤ 4) (hc : c = PS w k p) (hcb : c ≤ 168 * k) (hle : le ≤ 1000) (hlb : lb ≤ 5) (hK : ∀ zz, K zz ≤ 5) (hM : ∀ zz, M zz ≤ 20) (hg : gr ≤ 9) (hw : oH w an gr lb K T lz) (hWp : ∀ zz, zz < k → W zz = digO k p zz) (hC : le < 1000 → ∀ zz, zz < lz → C zz = digO lz bb zz) (hM2 : ∀ zz, zz < 4 * an → M zz = PM w k p zz) : jC E mX3_place (11, 0, 0) [.ref (E.1 + 30), .ref (E.1 + 12), .int (nI k), .int (nI c)] h n (fun v h' n' => v = none ∧ n' = n ∧ ∃ (W1 : Nat → Nat) (C1 : Nat → Nat), h' = (hset (hset (hset (hset h 14 (cI E 16 (nF M))) 30 (.inr (2, [.ref (E.1 + 31), .ref (E.1 + 32), .ref (E.1 + 33), .int (nI lz), .int (nI lb), .int (nI ((dfsO w 3 k p (le, bb)).1))]))) 32 (cI E 4 (nF W1))) 33 (cI E 4 (nF C1))) ∧ (∀ zz, zz < k → W1 zz = digO k p zz) ∧ ((dfsO w 3 k p (le, bb)).1 < 1000 → ∀ zz, zz < lz → C1 zz = digO lz (dfsO w 3 k p (le, bb)).2 zz)) := by
  refine J.of (L := [(0, .ref (E.1 + 30)), (1, .ref (E.1 + 12)), (2, .int (nI k)), (3, .int (nI c))]) rfl (by decide +kernel) (Nat.le_of_ble_eq_true rfl) ?_
  obtain ⟨PP, hPP⟩ : ∃ PP : jPost, PP = (fun v h' n' => v = none ∧ n' = n ∧ ∃ (W1 : Nat → Nat) (C1 : Nat → Nat), h' = (hset (hset (hset (hset h 14 (cI E 16 (nF M))) 30 (.inr (2, [.ref (E.1 + 31), .ref (E.1 + 32), .ref (E.1 + 33), .int (nI lz), .int (nI lb), .int (nI ((dfsO w 3 k p (le, bb)).1))]))) 32 (cI E 4 (nF W1))) 33 (cI E 4 (nF C1))) ∧ (∀ zz, zz < k → W1 zz = digO k p zz) ∧ ((dfsO w 3 k p (le, bb)).1 < 1000 → ∀ zz, zz < lz → C1 zz = digO lz (dfsO w 3 k p (le, bb)).2 zz)) := ⟨_, rfl⟩
  rw [← hPP]
  obtain ⟨w1, w2, w3, w4, w5, w6⟩ := id hw
  have tk := (w6 k (by omega)).2
  refine J_iload_n dX3_place_0 rfl ?_
  refine J_aload_n dX3_place_1 rfl ?_
  refine J_get 5 dX3_place_2 jk3 (Nat.le_of_ble_eq_true rfl) jfRX3_28 H0 (by omega) rfl ?_
  refine J_icmp_ltN (tgt := 9) dX3_place_5 (by decide) (by omega) (by omega) (fun c1 => ?_) (fun c1 => ?_)
  · skip
    have hleaf := fun (z : c < le) => dfs_leaf (B := bb) hc z
    refine J_iload_n dX3_place_9 rfl ?_
    refine J_aload_n dX3_place_10 rfl ?_
    refine J_get 3 dX3_place_11 jk3 (Nat.le_of_ble_eq_true rfl) jfRX3_21 H0 (by omega) rfl ?_
    refine J_icmp_geN (tgt := 22) dX3_place_14 (by decide) (by omega) (by omega) (fun c2 => (by exfalso; omega)) (fun c2 => ?_)
    refine J_iload_n dX3_place_17 rfl ?_
    refine J_iconst (v := nI 4) dX3_place_18 (by decide +kernel) ?_
    refine J_icmp_ltN (tgt := 46) dX3_place_19 (by decide) (by omega) (by omega) (fun c3 => ?_) (fun c3 => (by exfalso; omega))
    refine J_aload_n dX3_place_46 rfl ?_
    refine J_get 0 dX3_place_47 jk3 (Nat.le_of_ble_eq_true rfl) jfRX3_11 H0 (by omega) rfl ?_
    refine J_iload_n dX3_place_50 rfl ?_
    refine J_ialdN (i := k) dX3_place_51 H1 (by omega) (by omega) (by omega) ?_
    refine J_istore dX3_place_52 (Nat.le_of_ble_eq_true rfl) (L' := [(4, .int (nI (T k))), (0, .ref (E.1 + 30)), (1, .ref (E.1 + 12)), (2, .int (nI k)), (3, .int (nI c))]) rfl ?_
    refine J_iconst (v := nI 0) dX3_place_54 (by decide +kernel) ?_
    refine J_istore dX3_place_55 (Nat.le_of_ble_eq_true rfl) (L' := [(5, .int (nI 0)), (4, .int (nI (T k))), (0, .ref (E.1 + 30)), (1, .ref (E.1 + 12)), (2, .int (nI k)), (3, .int (nI c))]) rfl ?_
    have CUT57 : ∀ (f57 : Nat) (i : Nat) (W1 : Nat → Nat) (C1 : Nat → Nat) (hm57 : an - i < f57) (hi : i ≤ an) (hW2 : ∀ zz, zz < k → W1 zz = digO k p zz) (hC2 : (foldN (fun x1 x2 => dfsO w 2 (k + 1) (4 * p + x1) x2) (le, bb) i).1 < 1000 → ∀ zz, zz < lz → C1 zz = digO lz (foldN (fun x1 x2 => dfsO w 2 (k + 1) (4 * p + x1) x2) (le, bb) i).2 zz), J E mX3_place (11, 0, 0) jS0 PP (hset (hset (hset (hset h 14 (cI E 16 (nF M))) 30 (.inr (2, [.ref (E.1 + 31), .ref (E.1 + 32), .ref (E.1 + 33), .int (nI lz), .int (nI lb), .int (nI ((foldN (fun x1 x2 => dfsO w 2 (k + 1) (4 * p + x1) x2) (le, bb) i).1))]))) 32 (cI E 4 (nF W1))) 33 (cI E 4 (nF C1))) n (0, 0) 57 [(5, .int (nI i)), (4, .int (nI (T k))), (0, .ref (E.1 + 30)), (1, .ref (E.1 + 12)), (2, .int (nI k)), (3, .int (nI c))] [] := by
      intro f57
      induction f57 with
      | zero => intro i W1 C1 hm57; exact absurd hm57 (Nat.not_lt_zero _)
      | succ f57 ih57 =>
        intro i W1 C1 hm57 hi hW2 hC2
        have hS := foldN_le1 (f := (fun x1 x2 => dfsO w 2 (k + 1) (4 * p + x1) x2)) (s := (le, bb)) (fun x1 x2 => dfsO_le _ _ _ _) i
        have hS2 : (foldN (fun x1 x2 => dfsO w 2 (k + 1) (4 * p + x1) x2) (le, bb) i).1 ≤ le := hS
        have hF := fgnN_le (K := K) (g := gr) (a := i) (t := T k) hM 4
        refine J_iload dX3_place_57 rfl ?_
        refine J_aload_n dX3_place_59 rfl ?_
        refine J_get 5 dX3_place_60 jk6 (Nat.le_of_ble_eq_true rfl) jfRX3_41 ((hset_ne (by omega)).trans ((hset_ne (by omega)).trans ((hset_ne (by omega)).trans ((hset_ne (by omega)).trans H4)))) (by omega) rfl ?_
        refine J_icmp_geN (tgt := 126) dX3_place_63 (by decide) (by omega) (by omega) (fun c4 => ?_) (fun c4 => ?_)
        · skip
          exact J_vret dX3_place_126 rfl ⟨Nat.le_refl _, Nat.le_refl _⟩ (by rw [hPP]; exact ⟨rfl, rfl, W1, C1, (hset_cg (hset_cg (hset_cg (hset_cg rfl rfl) (congrArg (fun z => (Sum.inr (2, z) : va_E)) (jS_c rfl (jS_c rfl (jS_c rfl (jS_c rfl (jS_c rfl (jS_c (jv_N (by first | (rw [hcut]) | (rw [show i = an by omega, ← w1]; rfl))) rfl)))))))) rfl) rfl), (by first | assumption), (by first | (rw [hcut]; exact hC) | (rw [show i = an by omega, ← w1] at hC2; exact hC2))⟩)
        · skip
          refine J_aload_n dX3_place_66 rfl ?_
          refine J_iload dX3_place_67 rfl ?_
          refine J_iload dX3_place_69 rfl ?_
          refine J_callVr (M' := mX6_remembered) (d' := (1, 0, 0)) (rest := []) dX3_place_71 jmX6_remembered jlRX3_46 (ctX6_remembered 12 i (T k) an td gr M ((hset_ne (by omega)).trans ((hset_ne (by omega)).trans ((hset_ne (by omega)).trans ((hset_ne (by omega)).trans H4)))) ((hset_ne (by omega)).trans ((hset_ne (by omega)).trans ((hset_ne (by omega)).trans hset_eq))) (by omega) (by first | assumption | omega) (by first | assumption | omega)) ((hset_ne (by omega)).trans ((hset_ne (by omega)).trans ((hset_ne (by omega)).trans ((hset_ne (by omega)).trans H4)))) (by omega) jk6.1 rfl rfl (Nat.le_of_ble_eq_true rfl) (Nat.le_of_ble_eq_true rfl) ⟨Nat.le_refl _, Nat.le_refl _⟩ ?_
          refine J_istore dX3_place_74 (Nat.le_of_ble_eq_true rfl) (L' := [(6, .int (nI (M (4 * i + (T k))))), (5, .int (nI i)), (4, .int (nI (T k))), (0, .ref (E.1 + 30)), (1, .ref (E.1 + 12)), (2, .int (nI k)), (3, .int (nI c))]) rfl ?_
          refine J_aload_n dX3_place_76 rfl ?_
          refine J_get 1 dX3_place_77 jk3 (Nat.le_of_ble_eq_true rfl) jfRX3_15 ((hset_ne (by omega)).trans ((hset_ne (by omega)).trans hset_eq)) (by omega) rfl ?_
          refine J_iload_n dX3_place_80 rfl ?_
          refine J_iload dX3_place_81 rfl ?_
          refine J_iastN (i := k) (v := i) dX3_place_83 ((hset_ne (by omega)).trans hset_eq) (by omega) (by omega) (by omega) ?_
          refine J.cast ((hset_comm (by omega)).trans (hset_cg hset_hset rfl)) ?_
          refine J_aload_n dX3_place_84 rfl ?_
          refine J_iload dX3_place_85 rfl ?_
          refine J_iload dX3_place_87 rfl ?_
          refine J_aload_n dX3_place_89 rfl ?_
          refine J_get 4 dX3_place_90 jk3 (Nat.le_of_ble_eq_true rfl) jfRX3_25 ((hset_ne (by omega)).trans ((hset_ne (by omega)).trans hset_eq)) (by omega) rfl ?_
          refine J_callVr (M' := mX6_beat) (d' := (4, 0, 0)) (rest := []) dX3_place_93 jmX6_beat jlRX3_50 (ctX6_beat 12 i (T k) lb an td gr K M ((hset_ne (by omega)).trans ((hset_ne (by omega)).trans ((hset_ne (by omega)).trans ((hset_ne (by omega)).trans H4)))) ((hset_ne (by omega)).trans ((hset_ne (by omega)).trans ((hset_ne (by omega)).trans ((hset_ne (by omega)).trans H5)))) ((hset_ne (by omega)).trans ((hset_ne (by omega)).trans ((hset_ne (by omega)).trans hset_eq))) (by omega) (by first | assumption | omega) (by first | assumption | omega) (by first | assumption | omega) (by first | assumption | omega) (by first | assumption | omega) (by first | assumption | omega)) ((hset_ne (by omega)).trans ((hset_ne (by omega)).trans ((hset_ne (by omega)).trans ((hset_ne (by omega)).trans H4)))) (by omega) jk6.1 rfl rfl (Nat.le_of_ble_eq_true rfl) (Nat.le_of_ble_eq_true rfl) ⟨Nat.le_refl _, Nat.le_refl _⟩ ?_
          refine J.cast ((hset_comm (by omega)).trans (hset_cg ((hset_comm (by omega)).trans (hset_cg ((hset_comm (by omega)).trans (hset_cg hset_hset rfl)) rfl)) rfl)) ?_
          have fc5 : fgnN K M gr i (T k) 4 ≤ 42 * 4 := fgnN_le (show ∀ zz, M zz ≤ 20 from by first | assumption | omega) 4
          refine J_istore dX3_place_96 (Nat.le_of_ble_eq_true rfl) (L' := [(7, .int (nI (fgnN K M gr i (T k) 4))), (6, .int (nI (M (4 * i + (T k))))), (5, .int (nI i)), (4, .int (nI (T k))), (0, .ref (E.1 + 30)), (1, .ref (E.1 + 12)), (2, .int (nI k)), (3, .int (nI c))]) rfl ?_
          refine J_aload_n dX3_place_98 rfl ?_
          refine J_aload_n dX3_place_99 rfl ?_
          refine J_iload_n dX3_place_100 rfl ?_
          refine J_iconst (v := nI 1) dX3_place_101 (by decide +kernel) ?_
          refine J_iaddN dX3_place_102 ?_
          refine J_iload_n dX3_place_103 rfl ?_
          refine J_iload dX3_place_104 rfl ?_
          refine J_iaddN dX3_place_106 ?_
          refine J_callS (M' := mX3_place) (d' := (10, 0, 0)) (rest := []) dX3_place_107 jmX3_place jlRX3_31 (ctX3_place2 w (k + 1) (4 * p + i) (c + (fgnN K M gr i (T k) 4)) ((foldN (fun x1 x2 => dfsO w 2 (k + 1) (4 * p + x1) x2) (le, bb) i).2) lz lb ((foldN (fun x1 x2 => dfsO w 2 (k + 1) (4 * p + x1) x2) (le, bb) i).1) an td gr T (updN W1 k i) C1 K (addMN K M i (T k) lb) ((hset_ne (by omega)).trans ((hset_ne (by omega)).trans hset_eq)) ((hset_ne (by omega)).trans ((hset_ne (by omega)).trans ((hset_ne (by omega)).trans ((hset_ne (by omega)).trans H1)))) ((hset_ne (by omega)).trans hset_eq) hset_eq ((hset_ne (by omega)).trans ((hset_ne (by omega)).trans ((hset_ne (by omega)).trans ((hset_ne (by omega)).trans H4)))) ((hset_ne (by omega)).trans ((hset_ne (by omega)).trans ((hset_ne (by omega)).trans ((hset_ne (by omega)).trans H5)))) ((hset_ne (by omega)).trans ((hset_ne (by omega)).trans ((hset_ne (by omega)).trans hset_eq))) (by omega) (by first | assumption | omega) (by first | assumption | omega) (by rw [hc]; exact PS_st hw (by omega) (by omega) hM2) (by first | assumption | omega) (by first | assumption | omega) (by first | assumption | omega) (by first | assumption | omega) (by exact addMN_le hM) (by first | assumption | omega) (by first | assumption | omega) (by exact dig_st hW2 (by omega)) (by exact hC2) (by exact PM_st hw (by omega) (by omega) hM2)) rfl rfl (Nat.le_of_ble_eq_true rfl) (Nat.le_of_ble_eq_true rfl) (by constructor <;> decide +kernel) (fun v9 h9 n9 q9 => ?_)
          obtain ⟨rfl, hn9, W1_6, C1_7, rfl, hW1_8, hC1_9⟩ := q9
          replace hn9 := hn9.symm
          subst hn9
          refine J.cast ((hset_cg ((hset_cg ((hset_cg ((hset_comm (by omega)).trans (hset_cg ((hset_comm (by omega)).trans (hset_cg ((hset_comm (by omega)).trans (hset_cg hset_hset rfl)) rfl)) rfl)) rfl).trans ((hset_comm (by omega)).trans (hset_cg ((hset_comm (by omega)).trans (hset_cg hset_hset rfl)) rfl))) rfl).trans ((hset_comm (by omega)).trans (hset_cg hset_hset rfl))) rfl).trans hset_hset) ?_
          refine J.stk (st' := []) rfl ?_
          have hW3 := hW1_8
          have hC3 := hC1_9
          refine J_aload_n dX3_place_110 rfl ?_
          refine J_iload dX3_place_111 rfl ?_
          refine J_iload dX3_place_113 rfl ?_
          refine J_iload dX3_place_115 rfl ?_
          refine J_callVn (M' := mX6_setMemory) (d' := (1, 0, 0)) (rest := []) dX3_place_117 jmX6_setMemory jlRX3_54 (ctX6_setMemory 12 i (T k) (M (4 * i + (T k))) an td gr (addMN K M i (T k) lb) ((hset_ne (by omega)).trans ((hset_ne (by omega)).trans ((hset_ne (by omega)).trans ((hset_ne (by omega)).trans H4)))) ((hset_ne (by omega)).trans ((hset_ne (by omega)).trans ((hset_ne (by omega)).trans hset_eq))) (by omega) (by first | assumption | omega) (by first | assumption | omega)) ((hset_ne (by omega)).trans ((hset_ne (by omega)).trans ((hset_ne (by omega)).trans ((hset_ne (by omega)).trans H4)))) (by omega) jk6.1 rfl rfl (Nat.le_of_ble_eq_true rfl) (Nat.le_of_ble_eq_true rfl) ⟨Nat.le_refl _, Nat.le_refl _⟩ ?_
          refine J.cast ((hset_comm (by omega)).trans (hset_cg ((hset_comm (by omega)).trans (hset_cg ((hset_comm (by omega)).trans (hset_cg hset_hset rfl)) rfl)) rfl)) ?_
          refine J_iincN (q := 2) (a := i) (m := 1) dX3_place_120 rfl (by decide +kernel) (Nat.le_of_ble_eq_true rfl) (L' := [(5, .int (nI (i + 1))), (7, .int (nI (fgnN K M gr i (T k) 4))), (6, .int (nI (M (4 * i + (T k))))), (4, .int (nI (T k))), (0, .ref (E.1 + 30)), (1, .ref (E.1 + 12)), (2, .int (nI k)), (3, .int (nI c))]) rfl ?_
          refine J_goto (tgt := 57) dX3_place_123 (by decide) ?_
          refine J.sub [0, 3, 4, 5, 6, 7] (L' := [(5, .int (nI (i + 1))), (4, .int (nI (T k))), (0, .ref (E.1 + 30)), (1, .ref (E.1 + 12)), (2, .int (nI k)), (3, .int (nI c))]) rfl ?_
          refine J.eqs (h' := (hset (hset (hset (hset h 14 (cI E 16 (nF M))) 30 (.inr (2, [.ref (E.1 + 31), .ref (E.1 + 32), .ref (E.1 + 33), .int (nI lz), .int (nI lb), .int (nI ((foldN (fun x1 x2 => dfsO w 2 (k + 1) (4 * p + x1) x2) (le, bb) (i + 1)).1))]))) 32 (cI E 4 (nF W1_6))) 33 (cI E 4 (nF C1_7)))) (L' := [(5, .int (nI (i + 1))), (4, .int (nI (T k))), (0, .ref (E.1 + 30)), (1, .ref (E.1 + 12)), (2, .int (nI k)), (3, .int (nI c))]) (st' := []) (hset_cg (hset_cg (hset_cg (hset_cg rfl (cI_cg (by intro z; first | rfl | exact unM z))) (congrArg (fun z => (Sum.inr (2, z) : va_E)) (jS_c rfl (jS_c rfl (jS_c rfl (jS_c rfl (jS_c rfl (jS_c (jv_N (by first | rfl | exact unM z)) rfl)))))))) rfl) rfl) rfl rfl ?_
          exact ih57 (i + 1) W1_6 C1_7 (by omega) (by first | assumption | omega) (by first | exact hWp | (intro zz hz; rw [hW3 zz (by omega), dig_pre hz (by omega)])) (by first | exact hC | exact hC3)
    refine J.eqs (h' := (hset (hset (hset (hset h 14 (cI E 16 (nF M))) 30 (.inr (2, [.ref (E.1 + 31), .ref (E.1 + 32), .ref (E.1 + 33), .int (nI lz), .int (nI lb), .int (nI ((foldN (fun x1 x2 => dfsO w 2 (k + 1) (4 * p + x1) x2) (le, bb) 0).1))]))) 32 (cI E 4 (nF W))) 33 (cI E 4 (nF C)))) (L' := [(5, .int (nI 0)), (4, .int (nI (T k))), (0, .ref (E.1 + 30)), (1, .ref (E.1 + 12)), (2, .int (nI k)), (3, .int (nI c))]) (st' := []) ((show h = (hset (hset (hset (hset h 14 (cI E 16 (nF M))) 30 (.inr (2, [.ref (E.1 + 31), .ref (E.1 + 32), .ref (E.1 + 33), .int (nI lz), .int (nI lb), .int (nI le)]))) 32 (cI E 4 (nF W))) 33 (cI E 4 (nF C))) by funext z; simp only [hset]; (repeat' split) <;> first | rfl | (exfalso; omega) | (subst_vars; first | exact H6 | exact H0 | exact H2 | exact H3)).trans (hset_cg (hset_cg (hset_cg (hset_cg rfl rfl) (congrArg (fun z => (Sum.inr (2, z) : va_E)) (jS_c rfl (jS_c rfl (jS_c rfl (jS_c rfl (jS_c rfl (jS_c (jv_N (by first | rfl | exact unM z)) rfl)))))))) rfl) rfl)) rfl rfl ?_
    exact CUT57 (an - 0 + 1) 0 W C (Nat.lt_succ_self _) (by first | assumption | omega) (by first | exact hWp | (intro zz hz; rw [hW3 zz (by omega), dig_pre hz (by omega)])) (by first | exact hC | exact hC3)
  · skip
    have hcut := dfsO_cut (w := w) (by omega) 3 k p (le, bb) (by show le ≤ _; omega)
    exact J_vret dX3_place_8 rfl ⟨Nat.le_refl _, Nat.le_refl _⟩ (by rw [hPP]; exact ⟨rfl, rfl, W, C, ((show h = (hset (hset (hset (hset h 14 (cI E 16 (nF M))) 30 (.inr (2, [.ref (E.1 + 31), .ref (E.1 + 32), .ref (E.1 + 33), .int (nI lz), .int (nI lb), .int (nI le)]))) 32 (cI E 4 (nF W))) 33 (cI E 4 (nF C))) by funext z; simp only [hset]; (repeat' split) <;> first | rfl | (exfalso; omega) | (subst_vars; first | exact H6 | exact H0 | exact H2 | exact H3)).trans (hset_cg (hset_cg (hset_cg (hset_cg rfl rfl) (congrArg (fun z => (Sum.inr (2, z) : va_E)) (jS_c rfl (jS_c rfl (jS_c rfl (jS_c rfl (jS_c rfl (jS_c (jv_N (by first | (rw [hcut]) | (rw [show i = an by omega, ← w1]; rfl))) rfl)))))))) rfl) rfl)), (by first | assumption), (by first | (rw [hcut]; exact hC) | (rw [show i = an by omega, ← w1] at hC2; exact hC2))⟩)

set_option maxHeartbeats 1000000 in
set_option maxRecDepth 100000 in
theorem ctX3_place4 {E : jE} {h : Nat → va_E} {n : Nat} (w : oW) (k : Nat) (p : Nat) (c : Nat) (bb : Nat) (lz : Nat) (lb : Nat) (le : Nat) (an : Nat) (td : Nat) (gr : Nat) (T : Nat → Nat) (W : Nat → Nat) (C : Nat → Nat) (K : Nat → Nat) (M : Nat → Nat) (H0 : h 30 = .inr (2, [.ref (E.1 + 31), .ref (E.1 + 32), .ref (E.1 + 33), .int (nI lz), .int (nI lb), .int (nI le)])) (H1 : h 31 = cI E 4 (nF T)) (H2 : h 32 = cI E 4 (nF W)) (H3 : h 33 = cI E 4 (nF C)) (H4 : h 12 = .inr (5, [.ref (E.1 + 13), .ref (E.1 + 14), .ref (E.1 + 15), .ref (E.1 + 17), .ref (E.1 + 19), .int (nI an), .int (nI td), .int (nI gr)])) (H5 : h 13 = cI E 4 (nF K)) (H6 : h 14 = cI E 16 (nF M)) (hn : 38 ≤ n) (hkr : k + 4 = lz) (hlz : lz ≤ 4) (hc : c = PS w k p) (hcb : c ≤ 168 * k) (hle : le ≤ 1000) (hlb : lb ≤ 5) (hK : ∀ zz, K zz ≤ 5) (hM : ∀ zz, M zz ≤ 20) (hg : gr ≤ 9) (hw : oH w an gr lb K T lz) (hWp : ∀ zz, zz < k → W zz = digO k p zz) (hC : le < 1000 → ∀ zz, zz < lz → C zz = digO lz bb zz) (hM2 : ∀ zz, zz < 4 * an → M zz = PM w k p zz) : jC E mX3_place (12, 0, 0) [.ref (E.1 + 30), .ref (E.1 + 12), .int (nI k), .int (nI c)] h n (fun v h' n' => v = none ∧ n' = n ∧ ∃ (W1 : Nat → Nat) (C1 : Nat → Nat), h' = (hset (hset (hset (hset h 14 (cI E 16 (nF M))) 30 (.inr (2, [.ref (E.1 + 31), .ref (E.1 + 32), .ref (E.1 + 33), .int (nI lz), .int (nI lb), .int (nI ((dfsO w 4 k p (le, bb)).1))]))) 32 (cI E 4 (nF W1))) 33 (cI E 4 (nF C1))) ∧ (∀ zz, zz < k → W1 zz = digO k p zz) ∧ ((dfsO w 4 k p (le, bb)).1 < 1000 → ∀ zz, zz < lz → C1 zz = digO lz (dfsO w 4 k p (le, bb)).2 zz)) := by
  refine J.of (L := [(0, .ref (E.1 + 30)), (1, .ref (E.1 + 12)), (2, .int (nI k)), (3, .int (nI c))]) rfl (by decide +kernel) (Nat.le_of_ble_eq_true rfl) ?_
  obtain ⟨PP, hPP⟩ : ∃ PP : jPost, PP = (fun v h' n' => v = none ∧ n' = n ∧ ∃ (W1 : Nat → Nat) (C1 : Nat → Nat), h' = (hset (hset (hset (hset h 14 (cI E 16 (nF M))) 30 (.inr (2, [.ref (E.1 + 31), .ref (E.1 + 32), .ref (E.1 + 33), .int (nI lz), .int (nI lb), .int (nI ((dfsO w 4 k p (le, bb)).1))]))) 32 (cI E 4 (nF W1))) 33 (cI E 4 (nF C1))) ∧ (∀ zz, zz < k → W1 zz = digO k p zz) ∧ ((dfsO w 4 k p (le, bb)).1 < 1000 → ∀ zz, zz < lz → C1 zz = digO lz (dfsO w 4 k p (le, bb)).2 zz)) := ⟨_, rfl⟩
  rw [← hPP]
  obtain ⟨w1, w2, w3, w4, w5, w6⟩ := id hw
  have tk := (w6 k (by omega)).2
  refine J_iload_n dX3_place_0 rfl ?_
  refine J_aload_n dX3_place_1 rfl ?_
  refine J_get 5 dX3_place_2 jk3 (Nat.le_of_ble_eq_true rfl) jfRX3_28 H0 (by omega) rfl ?_
  refine J_icmp_ltN (tgt := 9) dX3_place_5 (by decide) (by omega) (by omega) (fun c1 => ?_) (fun c1 => ?_)
  · skip
    have hleaf := fun (z : c < le) => dfs_leaf (B := bb) hc z
    refine J_iload_n dX3_place_9 rfl ?_
    refine J_aload_n dX3_place_10 rfl ?_
    refine J_get 3 dX3_place_11 jk3 (Nat.le_of_ble_eq_true rfl) jfRX3_21 H0 (by omega) rfl ?_
    refine J_icmp_geN (tgt := 22) dX3_place_14 (by decide) (by omega) (by omega) (fun c2 => (by exfalso; omega)) (fun c2 => ?_)
    refine J_iload_n dX3_place_17 rfl ?_
    refine J_iconst (v := nI 4) dX3_place_18 (by decide +kernel) ?_
    refine J_icmp_ltN (tgt := 46) dX3_place_19 (by decide) (by omega) (by omega) (fun c3 => ?_) (fun c3 => (by exfalso; omega))
    refine J_aload_n dX3_place_46 rfl ?_
    refine J_get 0 dX3_place_47 jk3 (Nat.le_of_ble_eq_true rfl) jfRX3_11 H0 (by omega) rfl ?_
    refine J_iload_n dX3_place_50 rfl ?_
    refine J_ialdN (i := k) dX3_place_51 H1 (by omega) (by omega) (by omega) ?_
    refine J_istore dX3_place_52 (Nat.le_of_ble_eq_true rfl) (L' := [(4, .int (nI (T k))), (0, .ref (E.1 + 30)), (1, .ref (E.1 + 12)), (2, .int (nI k)), (3, .int (nI c))]) rfl ?_
    refine J_iconst (v := nI 0) dX3_place_54 (by decide +kernel) ?_
    refine J_istore dX3_place_55 (Nat.le_of_ble_eq_true rfl) (L' := [(5, .int (nI 0)), (4, .int (nI (T k))), (0, .ref (E.1 + 30)), (1, .ref (E.1 + 12)), (2, .int (nI k)), (3, .int (nI c))]) rfl ?_
    have CUT57 : ∀ (f57 : Nat) (i : Nat) (W1 : Nat → Nat) (C1 : Nat → Nat) (hm57 : an - i < f57) (hi : i ≤ an) (hW2 : ∀ zz, zz < k → W1 zz = digO k p zz) (hC2 : (foldN (fun x1 x2 => dfsO w 3 (k + 1) (4 * p + x1) x2) (le, bb) i).1 < 1000 → ∀ zz, zz < lz → C1 zz = digO lz (foldN (fun x1 x2 => dfsO w 3 (k + 1) (4 * p + x1) x2) (le, bb) i).2 zz), J E mX3_place (12, 0, 0) jS0 PP (hset (hset (hset (hset h 14 (cI E 16 (nF M))) 30 (.inr (2, [.ref (E.1 + 31), .ref (E.1 + 32), .ref (E.1 + 33), .int (nI lz), .int (nI lb), .int (nI ((foldN (fun x1 x2 => dfsO w 3 (k + 1) (4 * p + x1) x2) (le, bb) i).1))]))) 32 (cI E 4 (nF W1))) 33 (cI E 4 (nF C1))) n (0, 0) 57 [(5, .int (nI i)), (4, .int (nI (T k))), (0, .ref (E.1 + 30)), (1, .ref (E.1 + 12)), (2, .int (nI k)), (3, .int (nI c))] [] := by
      intro f57
      induction f57 with
      | zero => intro i W1 C1 hm57; exact absurd hm57 (Nat.not_lt_zero _)
      | succ f57 ih57 =>
        intro i W1 C1 hm57 hi hW2 hC2
        have hS := foldN_le1 (f := (fun x1 x2 => dfsO w 3 (k + 1) (4 * p + x1) x2)) (s := (le, bb)) (fun x1 x2 => dfsO_le _ _ _ _) i
        have hS2 : (foldN (fun x1 x2 => dfsO w 3 (k + 1) (4 * p + x1) x2) (le, bb) i).1 ≤ le := hS
        have hF := fgnN_le (K := K) (g := gr) (a := i) (t := T k) hM 4
        refine J_iload dX3_place_57 rfl ?_
        refine J_aload_n dX3_place_59 rfl ?_
        refine J_get 5 dX3_place_60 jk6 (Nat.le_of_ble_eq_true rfl) jfRX3_41 ((hset_ne (by omega)).trans ((hset_ne (by omega)).trans ((hset_ne (by omega)).trans ((hset_ne (by omega)).trans H4)))) (by omega) rfl ?_
        refine J_icmp_geN (tgt := 126) dX3_place_63 (by decide) (by omega) (by omega) (fun c4 => ?_) (fun c4 => ?_)
        · skip
          exact J_vret dX3_place_126 rfl ⟨Nat.le_refl _, Nat.le_refl _⟩ (by rw [hPP]; exact ⟨rfl, rfl, W1, C1, (hset_cg (hset_cg (hset_cg (hset_cg rfl rfl) (congrArg (fun z => (Sum.inr (2, z) : va_E)) (jS_c rfl (jS_c rfl (jS_c rfl (jS_c rfl (jS_c rfl (jS_c (jv_N (by first | (rw [hcut]) | (rw [show i = an by omega, ← w1]; rfl))) rfl)))))))) rfl) rfl), (by first | assumption), (by first | (rw [hcut]; exact hC) | (rw [show i = an by omega, ← w1] at hC2; exact hC2))⟩)
        · skip
          refine J_aload_n dX3_place_66 rfl ?_
          refine J_iload dX3_place_67 rfl ?_
          refine J_iload dX3_place_69 rfl ?_
          refine J_callVr (M' := mX6_remembered) (d' := (1, 0, 0)) (rest := []) dX3_place_71 jmX6_remembered jlRX3_46 (ctX6_remembered 12 i (T k) an td gr M ((hset_ne (by omega)).trans ((hset_ne (by omega)).trans ((hset_ne (by omega)).trans ((hset_ne (by omega)).trans H4)))) ((hset_ne (by omega)).trans ((hset_ne (by omega)).trans ((hset_ne (by omega)).trans hset_eq))) (by omega) (by first | assumption | omega) (by first | assumption | omega)) ((hset_ne (by omega)).trans ((hset_ne (by omega)).trans ((hset_ne (by omega)).trans ((hset_ne (by omega)).trans H4)))) (by omega) jk6.1 rfl rfl (Nat.le_of_ble_eq_true rfl) (Nat.le_of_ble_eq_true rfl) ⟨Nat.le_refl _, Nat.le_refl _⟩ ?_
          refine J_istore dX3_place_74 (Nat.le_of_ble_eq_true rfl) (L' := [(6, .int (nI (M (4 * i + (T k))))), (5, .int (nI i)), (4, .int (nI (T k))), (0, .ref (E.1 + 30)), (1, .ref (E.1 + 12)), (2, .int (nI k)), (3, .int (nI c))]) rfl ?_
          refine J_aload_n dX3_place_76 rfl ?_
          refine J_get 1 dX3_place_77 jk3 (Nat.le_of_ble_eq_true rfl) jfRX3_15 ((hset_ne (by omega)).trans ((hset_ne (by omega)).trans hset_eq)) (by omega) rfl ?_
          refine J_iload_n dX3_place_80 rfl ?_
          refine J_iload dX3_place_81 rfl ?_
          refine J_iastN (i := k) (v := i) dX3_place_83 ((hset_ne (by omega)).trans hset_eq) (by omega) (by omega) (by omega) ?_
          refine J.cast ((hset_comm (by omega)).trans (hset_cg hset_hset rfl)) ?_
          refine J_aload_n dX3_place_84 rfl ?_
          refine J_iload dX3_place_85 rfl ?_
          refine J_iload dX3_place_87 rfl ?_
          refine J_aload_n dX3_place_89 rfl ?_
          refine J_get 4 dX3_place_90 jk3 (Nat.le_of_ble_eq_true rfl) jfRX3_25 ((hset_ne (by omega)).trans ((hset_ne (by omega)).trans hset_eq)) (by omega) rfl ?_
          refine J_callVr (M' := mX6_beat) (d' := (4, 0, 0)) (rest := []) dX3_place_93 jmX6_beat jlRX3_50 (ctX6_beat 12 i (T k) lb an td gr K M ((hset_ne (by omega)).trans ((hset_ne (by omega)).trans ((hset_ne (by omega)).trans ((hset_ne (by omega)).trans H4)))) ((hset_ne (by omega)).trans ((hset_ne (by omega)).trans ((hset_ne (by omega)).trans ((hset_ne (by omega)).trans H5)))) ((hset_ne (by omega)).trans ((hset_ne (by omega)).trans ((hset_ne (by omega)).trans hset_eq))) (by omega) (by first | assumption | omega) (by first | assumption | omega) (by first | assumption | omega) (by first | assumption | omega) (by first | assumption | omega) (by first | assumption | omega)) ((hset_ne (by omega)).trans ((hset_ne (by omega)).trans ((hset_ne (by omega)).trans ((hset_ne (by omega)).trans H4)))) (by omega) jk6.1 rfl rfl (Nat.le_of_ble_eq_true rfl) (Nat.le_of_ble_eq_true rfl) ⟨Nat.le_refl _, Nat.le_refl _⟩ ?_
          refine J.cast ((hset_comm (by omega)).trans (hset_cg ((hset_comm (by omega)).trans (hset_cg ((hset_comm (by omega)).trans (hset_cg hset_hset rfl)) rfl)) rfl)) ?_
          have fc5 : fgnN K M gr i (T k) 4 ≤ 42 * 4 := fgnN_le (show ∀ zz, M zz ≤ 20 from by first | assumption | omega) 4
          refine J_istore dX3_place_96 (Nat.le_of_ble_eq_true rfl) (L' := [(7, .int (nI (fgnN K M gr i (T k) 4))), (6, .int (nI (M (4 * i + (T k))))), (5, .int (nI i)), (4, .int (nI (T k))), (0, .ref (E.1 + 30)), (1, .ref (E.1 + 12)), (2, .int (nI k)), (3, .int (nI c))]) rfl ?_
          refine J_aload_n dX3_place_98 rfl ?_
          refine J_aload_n dX3_place_99 rfl ?_
          refine J_iload_n dX3_place_100 rfl ?_
          refine J_iconst (v := nI 1) dX3_place_101 (by decide +kernel) ?_
          refine J_iaddN dX3_place_102 ?_
          refine J_iload_n dX3_place_103 rfl ?_
          refine J_iload dX3_place_104 rfl ?_
          refine J_iaddN dX3_place_106 ?_
          refine J_callS (M' := mX3_place) (d' := (11, 0, 0)) (rest := []) dX3_place_107 jmX3_place jlRX3_31 (ctX3_place3 w (k + 1) (4 * p + i) (c + (fgnN K M gr i (T k) 4)) ((foldN (fun x1 x2 => dfsO w 3 (k + 1) (4 * p + x1) x2) (le, bb) i).2) lz lb ((foldN (fun x1 x2 => dfsO w 3 (k + 1) (4 * p + x1) x2) (le, bb) i).1) an td gr T (updN W1 k i) C1 K (addMN K M i (T k) lb) ((hset_ne (by omega)).trans ((hset_ne (by omega)).trans hset_eq)) ((hset_ne (by omega)).trans ((hset_ne (by omega)).trans ((hset_ne (by omega)).trans ((hset_ne (by omega)).trans H1)))) ((hset_ne (by omega)).trans hset_eq) hset_eq ((hset_ne (by omega)).trans ((hset_ne (by omega)).trans ((hset_ne (by omega)).trans ((hset_ne (by omega)).trans H4)))) ((hset_ne (by omega)).trans ((hset_ne (by omega)).trans ((hset_ne (by omega)).trans ((hset_ne (by omega)).trans H5)))) ((hset_ne (by omega)).trans ((hset_ne (by omega)).trans ((hset_ne (by omega)).trans hset_eq))) (by omega) (by first | assumption | omega) (by first | assumption | omega) (by rw [hc]; exact PS_st hw (by omega) (by omega) hM2) (by first | assumption | omega) (by first | assumption | omega) (by first | assumption | omega) (by first | assumption | omega) (by exact addMN_le hM) (by first | assumption | omega) (by first | assumption | omega) (by exact dig_st hW2 (by omega)) (by exact hC2) (by exact PM_st hw (by omega) (by omega) hM2)) rfl rfl (Nat.le_of_ble_eq_true rfl) (Nat.le_of_ble_eq_true rfl) (by constructor <;> decide +kernel) (fun v9 h9 n9 q9 => ?_)
          obtain ⟨rfl, hn9, W1_6, C1_7, rfl, hW1_8, hC1_9⟩ := q9
          replace hn9 := hn9.symm
          subst hn9
          refine J.cast ((hset_cg ((hset_cg ((hset_cg ((hset_comm (by omega)).trans (hset_cg ((hset_comm (by omega)).trans (hset_cg ((hset_comm (by omega)).trans (hset_cg hset_hset rfl)) rfl)) rfl)) rfl).trans ((hset_comm (by omega)).trans (hset_cg ((hset_comm (by omega)).trans (hset_cg hset_hset rfl)) rfl))) rfl).trans ((hset_comm (by omega)).trans (hset_cg hset_hset rfl))) rfl).trans hset_hset) ?_
          refine J.stk (st' := []) rfl ?_
          have hW3 := hW1_8
          have hC3 := hC1_9
          refine J_aload_n dX3_place_110 rfl ?_
          refine J_iload dX3_place_111 rfl ?_
          refine J_iload dX3_place_113 rfl ?_
          refine J_iload dX3_place_115 rfl ?_
          refine J_callVn (M' := mX6_setMemory) (d' := (1, 0, 0)) (rest := []) dX3_place_117 jmX6_setMemory jlRX3_54 (ctX6_setMemory 12 i (T k) (M (4 * i + (T k))) an td gr (addMN K M i (T k) lb) ((hset_ne (by omega)).trans ((hset_ne (by omega)).trans ((hset_ne (by omega)).trans ((hset_ne (by omega)).trans H4)))) ((hset_ne (by omega)).trans ((hset_ne (by omega)).trans ((hset_ne (by omega)).trans hset_eq))) (by omega) (by first | assumption | omega) (by first | assumption | omega)) ((hset_ne (by omega)).trans ((hset_ne (by omega)).trans ((hset_ne (by omega)).trans ((hset_ne (by omega)).trans H4)))) (by omega) jk6.1 rfl rfl (Nat.le_of_ble_eq_true rfl) (Nat.le_of_ble_eq_true rfl) ⟨Nat.le_refl _, Nat.le_refl _⟩ ?_
          refine J.cast ((hset_comm (by omega)).trans (hset_cg ((hset_comm (by omega)).trans (hset_cg ((hset_comm (by omega)).trans (hset_cg hset_hset rfl)) rfl)) rfl)) ?_
          refine J_iincN (q := 2) (a := i) (m := 1) dX3_place_120 rfl (by decide +kernel) (Nat.le_of_ble_eq_true rfl) (L' := [(5, .int (nI (i + 1))), (7, .int (nI (fgnN K M gr i (T k) 4))), (6, .int (nI (M (4 * i + (T k))))), (4, .int (nI (T k))), (0, .ref (E.1 + 30)), (1, .ref (E.1 + 12)), (2, .int (nI k)), (3, .int (nI c))]) rfl ?_
          refine J_goto (tgt := 57) dX3_place_123 (by decide) ?_
          refine J.sub [0, 3, 4, 5, 6, 7] (L' := [(5, .int (nI (i + 1))), (4, .int (nI (T k))), (0, .ref (E.1 + 30)), (1, .ref (E.1 + 12)), (2, .int (nI k)), (3, .int (nI c))]) rfl ?_
          refine J.eqs (h' := (hset (hset (hset (hset h 14 (cI E 16 (nF M))) 30 (.inr (2, [.ref (E.1 + 31), .ref (E.1 + 32), .ref (E.1 + 33), .int (nI lz), .int (nI lb), .int (nI ((foldN (fun x1 x2 => dfsO w 3 (k + 1) (4 * p + x1) x2) (le, bb) (i + 1)).1))]))) 32 (cI E 4 (nF W1_6))) 33 (cI E 4 (nF C1_7)))) (L' := [(5, .int (nI (i + 1))), (4, .int (nI (T k))), (0, .ref (E.1 + 30)), (1, .ref (E.1 + 12)), (2, .int (nI k)), (3, .int (nI c))]) (st' := []) (hset_cg (hset_cg (hset_cg (hset_cg rfl (cI_cg (by intro z; first | rfl | exact unM z))) (congrArg (fun z => (Sum.inr (2, z) : va_E)) (jS_c rfl (jS_c rfl (jS_c rfl (jS_c rfl (jS_c rfl (jS_c (jv_N (by first | rfl | exact unM z)) rfl)))))))) rfl) rfl) rfl rfl ?_
          exact ih57 (i + 1) W1_6 C1_7 (by omega) (by first | assumption | omega) (by first | exact hWp | (intro zz hz; rw [hW3 zz (by omega), dig_pre hz (by omega)])) (by first | exact hC | exact hC3)
    refine J.eqs (h' := (hset (hset (hset (hset h 14 (cI E 16 (nF M))) 30 (.inr (2, [.ref (E.1 + 31), .ref (E.1 + 32), .ref (E.1 + 33), .int (nI lz), .int (nI lb), .int (nI ((foldN (fun x1 x2 => dfsO w 3 (k + 1) (4 * p + x1) x2) (le, bb) 0).1))]))) 32 (cI E 4 (nF W))) 33 (cI E 4 (nF C)))) (L' := [(5, .int (nI 0)), (4, .int (nI (T k))), (0, .ref (E.1 + 30)), (1, .ref (E.1 + 12)), (2, .int (nI k)), (3, .int (nI c))]) (st' := []) ((show h = (hset (hset (hset (hset h 14 (cI E 16 (nF M))) 30 (.inr (2, [.ref (E.1 + 31), .ref (E.1 + 32), .ref (E.1 + 33), .int (nI lz), .int (nI lb), .int (nI le)]))) 32 (cI E 4 (nF W))) 33 (cI E 4 (nF C))) by funext z; simp only [hset]; (repeat' split) <;> first | rfl | (exfalso; omega) | (subst_vars; first | exact H6 | exact H0 | exact H2 | exact H3)).trans (hset_cg (hset_cg (hset_cg (hset_cg rfl rfl) (congrArg (fun z => (Sum.inr (2, z) : va_E)) (jS_c rfl (jS_c rfl (jS_c rfl (jS_c rfl (jS_c rfl (jS_c (jv_N (by first | rfl | exact unM z)) rfl)))))))) rfl) rfl)) rfl rfl ?_
    exact CUT57 (an - 0 + 1) 0 W C (Nat.lt_succ_self _) (by first | assumption | omega) (by first | exact hWp | (intro zz hz; rw [hW3 zz (by omega), dig_pre hz (by omega)])) (by first | exact hC | exact hC3)
  · skip
    have hcut := dfsO_cut (w := w) (by omega) 4 k p (le, bb) (by show le ≤ _; omega)
    exact J_vret dX3_place_8 rfl ⟨Nat.le_refl _, Nat.le_refl _⟩ (by rw [hPP]; exact ⟨rfl, rfl, W, C, ((show h = (hset (hset (hset (hset h 14 (cI E 16 (nF M))) 30 (.inr (2, [.ref (E.1 + 31), .ref (E.1 + 32), .ref (E.1 + 33), .int (nI lz), .int (nI lb), .int (nI le)]))) 32 (cI E 4 (nF W))) 33 (cI E 4 (nF C))) by funext z; simp only [hset]; (repeat' split) <;> first | rfl | (exfalso; omega) | (subst_vars; first | exact H6 | exact H0 | exact H2 | exact H3)).trans (hset_cg (hset_cg (hset_cg (hset_cg rfl rfl) (congrArg (fun z => (Sum.inr (2, z) : va_E)) (jS_c rfl (jS_c rfl (jS_c rfl (jS_c rfl (jS_c rfl (jS_c (jv_N (by first | (rw [hcut]) | (rw [show i = an by omega, ← w1]; rfl))) rfl)))))))) rfl) rfl)), (by first | assumption), (by first | (rw [hcut]; exact hC) | (rw [show i = an by omega, ← w1] at hC2; exact hC2))⟩)

set_option maxHeartbeats 1000000 in
set_option maxRecDepth 100000 in
theorem ctX3_search {E : jE} {h : Nat → va_E} {n : Nat} (w : oW) (bl : Nat) (lz : Nat) (lb : Nat) (le : Nat) (an : Nat) (td : Nat) (gr : Nat) (T : Nat → Nat) (W : Nat → Nat) (C : Nat → Nat) (K : Nat → Nat) (M : Nat → Nat) (H0 : h 30 = .inr (2, [.ref (E.1 + 31), .ref (E.1 + 32), .ref (E.1 + 33), .int (nI lz), .int (nI lb), .int (nI le)])) (H1 : h 31 = cI E 4 (nF T)) (H2 : h 32 = cI E 4 (nF W)) (H3 : h 33 = cI E 4 (nF C)) (H4 : h 12 = .inr (5, [.ref (E.1 + 13), .ref (E.1 + 14), .ref (E.1 + 15), .ref (E.1 + 17), .ref (E.1 + 19), .int (nI an), .int (nI td), .int (nI gr)])) (H5 : h 13 = cI E 4 (nF K)) (H6 : h 14 = cI E 16 (nF M)) (hn : 38 ≤ n) (hlz : lz ≤ 4) (hlb : bl ≤ 5) (hK : ∀ zz, K zz ≤ 5) (hM : ∀ zz, M zz ≤ 20) (hg : gr ≤ 9) (hw : oH w an gr bl K T lz) (hM2 : ∀ zz, zz < 4 * an → M zz = w.M zz) : jC E mX3_search (13, 0, 0) [.ref (E.1 + 30), .ref (E.1 + 12), .int (nI bl)] h n (fun v h' n' => v = none ∧ n' = n ∧ ∃ (W1 : Nat → Nat) (C1 : Nat → Nat), h' = (hset (hset (hset (hset h 14 (cI E 16 (nF M))) 30 (.inr (2, [.ref (E.1 + 31), .ref (E.1 + 32), .ref (E.1 + 33), .int (nI lz), .int (nI bl), .int (nI ((dfsO w lz 0 0 (1000, 0)).1))]))) 32 (cI E 4 (nF W1))) 33 (cI E 4 (nF C1))) ∧ ((dfsO w lz 0 0 (1000, 0)).1 < 1000 → ∀ zz, zz < lz → C1 zz = digO lz (dfsO w lz 0 0 (1000, 0)).2 zz)) := by
  refine J.of (L := [(0, .ref (E.1 + 30)), (1, .ref (E.1 + 12)), (2, .int (nI bl))]) rfl (by decide +kernel) (Nat.le_of_ble_eq_true rfl) ?_
  obtain ⟨PP, hPP⟩ : ∃ PP : jPost, PP = (fun v h' n' => v = none ∧ n' = n ∧ ∃ (W1 : Nat → Nat) (C1 : Nat → Nat), h' = (hset (hset (hset (hset h 14 (cI E 16 (nF M))) 30 (.inr (2, [.ref (E.1 + 31), .ref (E.1 + 32), .ref (E.1 + 33), .int (nI lz), .int (nI bl), .int (nI ((dfsO w lz 0 0 (1000, 0)).1))]))) 32 (cI E 4 (nF W1))) 33 (cI E 4 (nF C1))) ∧ ((dfsO w lz 0 0 (1000, 0)).1 < 1000 → ∀ zz, zz < lz → C1 zz = digO lz (dfsO w lz 0 0 (1000, 0)).2 zz)) := ⟨_, rfl⟩
  rw [← hPP]
  refine J_aload_n dX3_search_0 rfl ?_
  refine J_iload_n dX3_search_1 rfl ?_
  refine J_put 4 dX3_search_2 jk3 (Nat.le_of_ble_eq_true rfl) jfRX3_25 H0 (by omega) rfl rfl rfl (Nat.le_of_ble_eq_true rfl) ?_
  refine J.cast (h' := (hset h 30 (.inr (2, [.ref (E.1 + 31), .ref (E.1 + 32), .ref (E.1 + 33), .int (nI lz), .int (nI bl), .int (nI le)])))) rfl ?_
  refine J_aload_n dX3_search_5 rfl ?_
  refine J_sipush (v := nI 1000) dX3_search_6 (by decide +kernel) ?_
  refine J_put 5 dX3_search_9 jk3 (Nat.le_of_ble_eq_true rfl) jfRX3_28 hset_eq (by omega) rfl rfl rfl (Nat.le_of_ble_eq_true rfl) ?_
  refine J.cast (h' := (hset (hset h 30 (.inr (2, [.ref (E.1 + 31), .ref (E.1 + 32), .ref (E.1 + 33), .int (nI lz), .int (nI bl), .int (nI le)]))) 30 (.inr (2, [.ref (E.1 + 31), .ref (E.1 + 32), .ref (E.1 + 33), .int (nI lz), .int (nI bl), .int (nI 1000)])))) rfl ?_
  refine J.cast hset_hset ?_
  refine J_aload_n dX3_search_12 rfl ?_
  refine J_aload_n dX3_search_13 rfl ?_
  refine J_iconst (v := nI 0) dX3_search_14 (by decide +kernel) ?_
  refine J_iconst (v := nI 0) dX3_search_15 (by decide +kernel) ?_
  have sp1 : (lz = 0) ∨ (lz = 1) ∨ (lz = 2) ∨ (lz = 3) ∨ (lz = 4) := by omega
  rcases sp1 with sp1 | sp1 | sp1 | sp1 | sp1
  · skip
    refine J_callS (M' := mX3_place) (d' := (8, 0, 0)) (rest := []) dX3_search_16 jmX3_place jlRX3_31 (ctX3_place0 w 0 0 0 0 lz bl 1000 an td gr T W C K M hset_eq ((hset_ne (by omega)).trans H1) ((hset_ne (by omega)).trans H2) ((hset_ne (by omega)).trans H3) ((hset_ne (by omega)).trans H4) ((hset_ne (by omega)).trans H5) ((hset_ne (by omega)).trans H6) (by omega) (by first | assumption | omega) (by first | assumption | omega) (by rfl) (by first | assumption | omega) (by first | assumption | omega) (by first | assumption | omega) (by first | assumption | omega) (by first | assumption | omega) (by first | assumption | omega) (by first | assumption | omega) (by exact fun zz hz => absurd hz (Nat.not_lt_zero zz)) (by exact fun q => absurd q (Nat.lt_irrefl _)) (by first | assumption | omega)) rfl rfl (Nat.le_of_ble_eq_true rfl) (Nat.le_of_ble_eq_true rfl) (by constructor <;> decide +kernel) (fun v9 h9 n9 q9 => ?_)
    obtain ⟨rfl, hn9, W1_2, C1_3, rfl, hW1_4, hC1_5⟩ := q9
    replace hn9 := hn9.symm
    subst hn9
    refine J.cast (hset_cg (hset_cg ((hset_comm (by omega)).trans (hset_cg hset_hset rfl)) rfl) rfl) ?_
    refine J.stk (st' := []) rfl ?_
    have hC3 := hC1_5
    exact J_vret dX3_search_19 rfl ⟨Nat.le_refl _, Nat.le_refl _⟩ (by rw [hPP]; exact ⟨rfl, rfl, W1_2, C1_3, ((show (hset (hset (hset (hset h 30 (.inr (2, [.ref (E.1 + 31), .ref (E.1 + 32), .ref (E.1 + 33), .int (nI lz), .int (nI bl), .int (nI ((dfsO w 0 0 0 (1000, 0)).1))]))) 14 (cI E 16 (nF M))) 32 (cI E 4 (nF W1_2))) 33 (cI E 4 (nF C1_3))) = (hset (hset (hset (hset h 14 (cI E 16 (nF M))) 30 (.inr (2, [.ref (E.1 + 31), .ref (E.1 + 32), .ref (E.1 + 33), .int (nI lz), .int (nI bl), .int (nI ((dfsO w 0 0 0 (1000, 0)).1))]))) 32 (cI E 4 (nF W1_2))) 33 (cI E 4 (nF C1_3))) by funext z; simp only [hset]; (repeat' split) <;> first | rfl | (exfalso; omega) | (subst_vars; first | exact rfl)).trans (hset_cg (hset_cg (hset_cg (hset_cg rfl rfl) (congrArg (fun z => (Sum.inr (2, z) : va_E)) (jS_c rfl (jS_c rfl (jS_c rfl (jS_c rfl (jS_c rfl (jS_c (jv_N (by first | (rw [show lz = 0 by omega]) | (rw [show lz = 1 by omega]) | (rw [show lz = 2 by omega]) | (rw [show lz = 3 by omega]) | (rw [show lz = 4 by omega]))) rfl)))))))) rfl) rfl)), (by first | (rw [show lz = 0 by omega] at hC3 ⊢; exact hC3) | (rw [show lz = 1 by omega] at hC3 ⊢; exact hC3) | (rw [show lz = 2 by omega] at hC3 ⊢; exact hC3) | (rw [show lz = 3 by omega] at hC3 ⊢; exact hC3) | (rw [show lz = 4 by omega] at hC3 ⊢; exact hC3))⟩)
  · skip
    refine J_callS (M' := mX3_place) (d' := (9, 0, 0)) (rest := []) dX3_search_16 jmX3_place jlRX3_31 (ctX3_place1 w 0 0 0 0 lz bl 1000 an td gr T W C K M hset_eq ((hset_ne (by omega)).trans H1) ((hset_ne (by omega)).trans H2) ((hset_ne (by omega)).trans H3) ((hset_ne (by omega)).trans H4) ((hset_ne (by omega)).trans H5) ((hset_ne (by omega)).trans H6) (by omega) (by first | assumption | omega) (by first | assumption | omega) (by rfl) (by first | assumption | omega) (by first | assumption | omega) (by first | assumption | omega) (by first | assumption | omega) (by first | assumption | omega) (by first | assumption | omega) (by first | assumption | omega) (by exact fun zz hz => absurd hz (Nat.not_lt_zero zz)) (by exact fun q => absurd q (Nat.lt_irrefl _)) (by first | assumption | omega)) rfl rfl (Nat.le_of_ble_eq_true rfl) (Nat.le_of_ble_eq_true rfl) (by constructor <;> decide +kernel) (fun v9 h9 n9 q9 => ?_)
    obtain ⟨rfl, hn9, W1_6, C1_7, rfl, hW1_8, hC1_9⟩ := q9
    replace hn9 := hn9.symm
    subst hn9
    refine J.cast (hset_cg (hset_cg ((hset_comm (by omega)).trans (hset_cg hset_hset rfl)) rfl) rfl) ?_
    refine J.stk (st' := []) rfl ?_
    have hC3 := hC1_9
    exact J_vret dX3_search_19 rfl ⟨Nat.le_refl _, Nat.le_refl _⟩ (by rw [hPP]; exact ⟨rfl, rfl, W1_6, C1_7, ((show (hset (hset (hset (hset h 30 (.inr (2, [.ref (E.1 + 31), .ref (E.1 + 32), .ref (E.1 + 33), .int (nI lz), .int (nI bl), .int (nI ((dfsO w 1 0 0 (1000, 0)).1))]))) 14 (cI E 16 (nF M))) 32 (cI E 4 (nF W1_6))) 33 (cI E 4 (nF C1_7))) = (hset (hset (hset (hset h 14 (cI E 16 (nF M))) 30 (.inr (2, [.ref (E.1 + 31), .ref (E.1 + 32), .ref (E.1 + 33), .int (nI lz), .int (nI bl), .int (nI ((dfsO w 1 0 0 (1000, 0)).1))]))) 32 (cI E 4 (nF W1_6))) 33 (cI E 4 (nF C1_7))) by funext z; simp only [hset]; (repeat' split) <;> first | rfl | (exfalso; omega) | (subst_vars; first | exact rfl)).trans (hset_cg (hset_cg (hset_cg (hset_cg rfl rfl) (congrArg (fun z => (Sum.inr (2, z) : va_E)) (jS_c rfl (jS_c rfl (jS_c rfl (jS_c rfl (jS_c rfl (jS_c (jv_N (by first | (rw [show lz = 0 by omega]) | (rw [show lz = 1 by omega]) | (rw [show lz = 2 by omega]) | (rw [show lz = 3 by omega]) | (rw [show lz = 4 by omega]))) rfl)))))))) rfl) rfl)), (by first | (rw [show lz = 0 by omega] at hC3 ⊢; exact hC3) | (rw [show lz = 1 by omega] at hC3 ⊢; exact hC3) | (rw [show lz = 2 by omega] at hC3 ⊢; exact hC3) | (rw [show lz = 3 by omega] at hC3 ⊢; exact hC3) | (rw [show lz = 4 by omega] at hC3 ⊢; exact hC3))⟩)
  · skip
    refine J_callS (M' := mX3_place) (d' := (10, 0, 0)) (rest := []) dX3_search_16 jmX3_place jlRX3_31 (ctX3_place2 w 0 0 0 0 lz bl 1000 an td gr T W C K M hset_eq ((hset_ne (by omega)).trans H1) ((hset_ne (by omega)).trans H2) ((hset_ne (by omega)).trans H3) ((hset_ne (by omega)).trans H4) ((hset_ne (by omega)).trans H5) ((hset_ne (by omega)).trans H6) (by omega) (by first | assumption | omega) (by first | assumption | omega) (by rfl) (by first | assumption | omega) (by first | assumption | omega) (by first | assumption | omega) (by first | assumption | omega) (by first | assumption | omega) (by first | assumption | omega) (by first | assumption | omega) (by exact fun zz hz => absurd hz (Nat.not_lt_zero zz)) (by exact fun q => absurd q (Nat.lt_irrefl _)) (by first | assumption | omega)) rfl rfl (Nat.le_of_ble_eq_true rfl) (Nat.le_of_ble_eq_true rfl) (by constructor <;> decide +kernel) (fun v9 h9 n9 q9 => ?_)
    obtain ⟨rfl, hn9, W1_10, C1_11, rfl, hW1_12, hC1_13⟩ := q9
    replace hn9 := hn9.symm
    subst hn9
    refine J.cast (hset_cg (hset_cg ((hset_comm (by omega)).trans (hset_cg hset_hset rfl)) rfl) rfl) ?_
    refine J.stk (st' := []) rfl ?_
    have hC3 := hC1_13
    exact J_vret dX3_search_19 rfl ⟨Nat.le_refl _, Nat.le_refl _⟩ (by rw [hPP]; exact ⟨rfl, rfl, W1_10, C1_11, ((show (hset (hset (hset (hset h 30 (.inr (2, [.ref (E.1 + 31), .ref (E.1 + 32), .ref (E.1 + 33), .int (nI lz), .int (nI bl), .int (nI ((dfsO w 2 0 0 (1000, 0)).1))]))) 14 (cI E 16 (nF M))) 32 (cI E 4 (nF W1_10))) 33 (cI E 4 (nF C1_11))) = (hset (hset (hset (hset h 14 (cI E 16 (nF M))) 30 (.inr (2, [.ref (E.1 + 31), .ref (E.1 + 32), .ref (E.1 + 33), .int (nI lz), .int (nI bl), .int (nI ((dfsO w 2 0 0 (1000, 0)).1))]))) 32 (cI E 4 (nF W1_10))) 33 (cI E 4 (nF C1_11))) by funext z; simp only [hset]; (repeat' split) <;> first | rfl | (exfalso; omega) | (subst_vars; first | exact rfl)).trans (hset_cg (hset_cg (hset_cg (hset_cg rfl rfl) (congrArg (fun z => (Sum.inr (2, z) : va_E)) (jS_c rfl (jS_c rfl (jS_c rfl (jS_c rfl (jS_c rfl (jS_c (jv_N (by first | (rw [show lz = 0 by omega]) | (rw [show lz = 1 by omega]) | (rw [show lz = 2 by omega]) | (rw [show lz = 3 by omega]) | (rw [show lz = 4 by omega]))) rfl)))))))) rfl) rfl)), (by first | (rw [show lz = 0 by omega] at hC3 ⊢; exact hC3) | (rw [show lz = 1 by omega] at hC3 ⊢; exact hC3) | (rw [show lz = 2 by omega] at hC3 ⊢; exact hC3) | (rw [show lz = 3 by omega] at hC3 ⊢; exact hC3) | (rw [show lz = 4 by omega] at hC3 ⊢; exact hC3))⟩)
  · skip
    refine J_callS (M' := mX3_place) (d' := (11, 0, 0)) (rest := []) dX3_search_16 jmX3_place jlRX3_31 (ctX3_place3 w 0 0 0 0 lz bl 1000 an td gr T W C K M hset_eq ((hset_ne (by omega)).trans H1) ((hset_ne (by omega)).trans H2) ((hset_ne (by omega)).trans H3) ((hset_ne (by omega)).trans H4) ((hset_ne (by omega)).trans H5) ((hset_ne (by omega)).trans H6) (by omega) (by first | assumption | omega) (by first | assumption | omega) (by rfl) (by first | assumption | omega) (by first | assumption | omega) (by first | assumption | omega) (by first | assumption | omega) (by first | assumption | omega) (by first | assumption | omega) (by first | assumption | omega) (by exact fun zz hz => absurd hz (Nat.not_lt_zero zz)) (by exact fun q => absurd q (Nat.lt_irrefl _)) (by first | assumption | omega)) rfl rfl (Nat.le_of_ble_eq_true rfl) (Nat.le_of_ble_eq_true rfl) (by constructor <;> decide +kernel) (fun v9 h9 n9 q9 => ?_)
    obtain ⟨rfl, hn9, W1_14, C1_15, rfl, hW1_16, hC1_17⟩ := q9
    replace hn9 := hn9.symm
    subst hn9
    refine J.cast (hset_cg (hset_cg ((hset_comm (by omega)).trans (hset_cg hset_hset rfl)) rfl) rfl) ?_
    refine J.stk (st' := []) rfl ?_
    have hC3 := hC1_17
    exact J_vret dX3_search_19 rfl ⟨Nat.le_refl _, Nat.le_refl _⟩ (by rw [hPP]; exact ⟨rfl, rfl, W1_14, C1_15, ((show (hset (hset (hset (hset h 30 (.inr (2, [.ref (E.1 + 31), .ref (E.1 + 32), .ref (E.1 + 33), .int (nI lz), .int (nI bl), .int (nI ((dfsO w 3 0 0 (1000, 0)).1))]))) 14 (cI E 16 (nF M))) 32 (cI E 4 (nF W1_14))) 33 (cI E 4 (nF C1_15))) = (hset (hset (hset (hset h 14 (cI E 16 (nF M))) 30 (.inr (2, [.ref (E.1 + 31), .ref (E.1 + 32), .ref (E.1 + 33), .int (nI lz), .int (nI bl), .int (nI ((dfsO w 3 0 0 (1000, 0)).1))]))) 32 (cI E 4 (nF W1_14))) 33 (cI E 4 (nF C1_15))) by funext z; simp only [hset]; (repeat' split) <;> first | rfl | (exfalso; omega) | (subst_vars; first | exact rfl)).trans (hset_cg (hset_cg (hset_cg (hset_cg rfl rfl) (congrArg (fun z => (Sum.inr (2, z) : va_E)) (jS_c rfl (jS_c rfl (jS_c rfl (jS_c rfl (jS_c rfl (jS_c (jv_N (by first | (rw [show lz = 0 by omega]) | (rw [show lz = 1 by omega]) | (rw [show lz = 2 by omega]) | (rw [show lz = 3 by omega]) | (rw [show lz = 4 by omega]))) rfl)))))))) rfl) rfl)), (by first | (rw [show lz = 0 by omega] at hC3 ⊢; exact hC3) | (rw [show lz = 1 by omega] at hC3 ⊢; exact hC3) | (rw [show lz = 2 by omega] at hC3 ⊢; exact hC3) | (rw [show lz = 3 by omega] at hC3 ⊢; exact hC3) | (rw [show lz = 4 by omega] at hC3 ⊢; exact hC3))⟩)
  · skip
    refine J_callS (M' := mX3_place) (d' := (12, 0, 0)) (rest := []) dX3_search_16 jmX3_place jlRX3_31 (ctX3_place4 w 0 0 0 0 lz bl 1000 an td gr T W C K M hset_eq ((hset_ne (by omega)).trans H1) ((hset_ne (by omega)).trans H2) ((hset_ne (by omega)).trans H3) ((hset_ne (by omega)).trans H4) ((hset_ne (by omega)).trans H5) ((hset_ne (by omega)).trans H6) (by omega) (by first | assumption | omega) (by first | assumption | omega) (by rfl) (by first | assumption | omega) (by first | assumption | omega) (by first | assumption | omega) (by first | assumption | omega) (by first | assumption | omega) (by first | assumption | omega) (by first | assumption | omega) (by exact fun zz hz => absurd hz (Nat.not_lt_zero zz)) (by exact fun q => absurd q (Nat.lt_irrefl _)) (by first | assumption | omega)) rfl rfl (Nat.le_of_ble_eq_true rfl) (Nat.le_of_ble_eq_true rfl) (by constructor <;> decide +kernel) (fun v9 h9 n9 q9 => ?_)
    obtain ⟨rfl, hn9, W1_18, C1_19, rfl, hW1_20, hC1_21⟩ := q9
    replace hn9 := hn9.symm
    subst hn9
    refine J.cast (hset_cg (hset_cg ((hset_comm (by omega)).trans (hset_cg hset_hset rfl)) rfl) rfl) ?_
    refine J.stk (st' := []) rfl ?_
    have hC3 := hC1_21
    exact J_vret dX3_search_19 rfl ⟨Nat.le_refl _, Nat.le_refl _⟩ (by rw [hPP]; exact ⟨rfl, rfl, W1_18, C1_19, ((show (hset (hset (hset (hset h 30 (.inr (2, [.ref (E.1 + 31), .ref (E.1 + 32), .ref (E.1 + 33), .int (nI lz), .int (nI bl), .int (nI ((dfsO w 4 0 0 (1000, 0)).1))]))) 14 (cI E 16 (nF M))) 32 (cI E 4 (nF W1_18))) 33 (cI E 4 (nF C1_19))) = (hset (hset (hset (hset h 14 (cI E 16 (nF M))) 30 (.inr (2, [.ref (E.1 + 31), .ref (E.1 + 32), .ref (E.1 + 33), .int (nI lz), .int (nI bl), .int (nI ((dfsO w 4 0 0 (1000, 0)).1))]))) 32 (cI E 4 (nF W1_18))) 33 (cI E 4 (nF C1_19))) by funext z; simp only [hset]; (repeat' split) <;> first | rfl | (exfalso; omega) | (subst_vars; first | exact rfl)).trans (hset_cg (hset_cg (hset_cg (hset_cg rfl rfl) (congrArg (fun z => (Sum.inr (2, z) : va_E)) (jS_c rfl (jS_c rfl (jS_c rfl (jS_c rfl (jS_c rfl (jS_c (jv_N (by first | (rw [show lz = 0 by omega]) | (rw [show lz = 1 by omega]) | (rw [show lz = 2 by omega]) | (rw [show lz = 3 by omega]) | (rw [show lz = 4 by omega]))) rfl)))))))) rfl) rfl)), (by first | (rw [show lz = 0 by omega] at hC3 ⊢; exact hC3) | (rw [show lz = 1 by omega] at hC3 ⊢; exact hC3) | (rw [show lz = 2 by omega] at hC3 ⊢; exact hC3) | (rw [show lz = 3 by omega] at hC3 ⊢; exact hC3) | (rw [show lz = 4 by omega] at hC3 ⊢; exact hC3))⟩)
