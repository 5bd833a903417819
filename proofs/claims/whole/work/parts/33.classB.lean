set_option maxHeartbeats 1000000 in
set_option maxRecDepth 100000 in
theorem ctX7_waits_bad {E : jE} {h : Nat → va_E} {n : Nat} (a : Nat) (t : Nat) (x : Nat) (w : Nat) (ab : Nat) (be : Nat) (bd : Nat) (no : Nat) (fu : Nat) (an : Nat) (td : Nat) (gr : Nat) (H0 : h 0 = .inr (6, [.ref (E.1 + 1), .ref (E.1 + 12), .ref (E.1 + 23), .ref (E.1 + 24), .ref (E.1 + 30), .ref (E.1 + 34), .ref (E.1 + 37), .int (nI ab), .int (nI be), .int (nI bd), .int (nI no), .int (nI fu)])) (H1 : h 1 = .inr (5, [.ref (E.1 + 2), .ref (E.1 + 3), .ref (E.1 + 4), .ref (E.1 + 6), .ref (E.1 + 8), .int (nI an), .int (nI td), .int (nI gr)])) (hn : 38 ≤ n) (h32a : a < 2 ^ 32) (h32t : t < 2 ^ 32) (h32x : x < 2 ^ 32) (h32w : w < 2 ^ 32) (hn4 : an ≤ 4) (hbad : ¬ (a < an ∧ t ≤ 3 ∧ x ≤ 80 ∧ w ≤ 50)) : jC E mX7_waits (4, 0, 0) [.ref (E.1 + 0), .int (nI a), .int (nI t), .int (nI x), .int (nI w)] h n (jR (some (.int (-2))) (hset h 0 (.inr (6, [.ref (E.1 + 1), .ref (E.1 + 12), .ref (E.1 + 23), .ref (E.1 + 24), .ref (E.1 + 30), .ref (E.1 + 34), .ref (E.1 + 37), .int (nI ab), .int (nI be), .int (nI (bd + 1)), .int (nI no), .int (nI fu)]))) n) := by
  refine J.of (L := [(0, .ref (E.1 + 0)), (1, .int (nI a)), (2, .int (nI t)), (3, .int (nI x)), (4, .int (nI w))]) rfl (by decide +kernel) (Nat.le_of_ble_eq_true rfl) ?_
  obtain ⟨PP, hPP⟩ : ∃ PP : jPost, PP = (jR (some (.int (-2))) (hset h 0 (.inr (6, [.ref (E.1 + 1), .ref (E.1 + 12), .ref (E.1 + 23), .ref (E.1 + 24), .ref (E.1 + 30), .ref (E.1 + 34), .ref (E.1 + 37), .int (nI ab), .int (nI be), .int (nI (bd + 1)), .int (nI no), .int (nI fu)]))) n) := ⟨_, rfl⟩
  rw [← hPP]
  refine J_aload_n dX7_waits_0 rfl ?_
  refine J_iload_n dX7_waits_1 rfl ?_
  refine J_iload_n dX7_waits_2 rfl ?_
  refine J_callVr (M' := mX7_isPlace) (d' := (3, 0, 0)) (rest := []) dX7_waits_3 jmX7_isPlace jlRX7_98 (ctX7_isPlace a t an td gr ab be bd no fu H0 H1 (by omega) (by first | assumption | omega) (by first | assumption | omega) (by first | assumption | omega)) H0 (by omega) jk7.1 rfl rfl (Nat.le_of_ble_eq_true rfl) (Nat.le_of_ble_eq_true rfl) ⟨Nat.le_refl _, Nat.le_refl _⟩ ?_
  refine J_if_eqB (tgt := 30) dX7_waits_6 (by decide) (fun c1 => ?_) (fun c1 => ?_)
  · skip
    refine J_aload_n dX7_waits_30 rfl ?_
    refine J_bipush (v := (-2)) dX7_waits_31 (by decide +kernel) ?_
    refine J_callVr (M' := mX7_refuse) (d' := (1, 0, 0)) (rest := []) dX7_waits_33 jmX7_refuse jlRX7_59 (ctX7_refuse2 ab be bd no fu H0 (by omega) ) H0 (by omega) jk7.1 rfl rfl (Nat.le_of_ble_eq_true rfl) (Nat.le_of_ble_eq_true rfl) ⟨Nat.le_refl _, Nat.le_refl _⟩ ?_
    exact J_iret dX7_waits_36 rfl ⟨Nat.le_refl _, Nat.le_refl _⟩ (by rw [hPP]; exact ⟨rfl, rfl, rfl⟩)
  · skip
    refine J_iload_n dX7_waits_9 rfl ?_
    refine J_iconst (v := nI 0) dX7_waits_10 (by decide +kernel) ?_
    refine J_bipush (v := nI 80) dX7_waits_11 (by decide +kernel) ?_
    refine J_callSr (M' := mX7_isWithin) (d' := (1, 0, 0)) (rest := []) dX7_waits_13 jmX7_isWithin jlRX7_70 (ctX7_isWithin x 0 80   (by first | assumption | omega) (by first | assumption | omega) (by first | assumption | omega)) rfl rfl (Nat.le_of_ble_eq_true rfl) (Nat.le_of_ble_eq_true rfl) ⟨Nat.le_refl _, Nat.le_refl _⟩ ?_
    refine J_if_eqB (tgt := 30) dX7_waits_16 (by decide) (fun c2 => ?_) (fun c2 => ?_)
    · skip
      refine J_aload_n dX7_waits_30 rfl ?_
      refine J_bipush (v := (-2)) dX7_waits_31 (by decide +kernel) ?_
      refine J_callVr (M' := mX7_refuse) (d' := (1, 0, 0)) (rest := []) dX7_waits_33 jmX7_refuse jlRX7_59 (ctX7_refuse2 ab be bd no fu H0 (by omega) ) H0 (by omega) jk7.1 rfl rfl (Nat.le_of_ble_eq_true rfl) (Nat.le_of_ble_eq_true rfl) ⟨Nat.le_refl _, Nat.le_refl _⟩ ?_
      exact J_iret dX7_waits_36 rfl ⟨Nat.le_refl _, Nat.le_refl _⟩ (by rw [hPP]; exact ⟨rfl, rfl, rfl⟩)
    · skip
      refine J_iload dX7_waits_19 rfl ?_
      refine J_iconst (v := nI 0) dX7_waits_21 (by decide +kernel) ?_
      refine J_bipush (v := nI 50) dX7_waits_22 (by decide +kernel) ?_
      refine J_callSr (M' := mX7_isWithin) (d' := (1, 0, 0)) (rest := []) dX7_waits_24 jmX7_isWithin jlRX7_70 (ctX7_isWithin w 0 50   (by first | assumption | omega) (by first | assumption | omega) (by first | assumption | omega)) rfl rfl (Nat.le_of_ble_eq_true rfl) (Nat.le_of_ble_eq_true rfl) ⟨Nat.le_refl _, Nat.le_refl _⟩ ?_
      refine J_if_neB (tgt := 37) dX7_waits_27 (by decide) (fun c3 => (by exfalso; omega)) (fun c3 => ?_)
      refine J_aload_n dX7_waits_30 rfl ?_
      refine J_bipush (v := (-2)) dX7_waits_31 (by decide +kernel) ?_
      refine J_callVr (M' := mX7_refuse) (d' := (1, 0, 0)) (rest := []) dX7_waits_33 jmX7_refuse jlRX7_59 (ctX7_refuse2 ab be bd no fu H0 (by omega) ) H0 (by omega) jk7.1 rfl rfl (Nat.le_of_ble_eq_true rfl) (Nat.le_of_ble_eq_true rfl) ⟨Nat.le_refl _, Nat.le_refl _⟩ ?_
      exact J_iret dX7_waits_36 rfl ⟨Nat.le_refl _, Nat.le_refl _⟩ (by rw [hPP]; exact ⟨rfl, rfl, rfl⟩)

set_option maxHeartbeats 1000000 in
set_option maxRecDepth 100000 in
theorem ctX7_waits {E : jE} {h : Nat → va_E} {n : Nat} (a : Nat) (t : Nat) (x : Nat) (w : Nat) (an : Nat) (td : Nat) (gr : Nat) (K : Nat → Nat) (M : Nat → Nat) (an2 : Nat) (td2 : Nat) (gr2 : Nat) (K2 : Nat → Nat) (M2 : Nat → Nat) (ab : Nat) (be : Nat) (bd : Nat) (no : Nat) (fu : Nat) (H0 : h 0 = .inr (6, [.ref (E.1 + 1), .ref (E.1 + 12), .ref (E.1 + 23), .ref (E.1 + 24), .ref (E.1 + 30), .ref (E.1 + 34), .ref (E.1 + 37), .int (nI ab), .int (nI be), .int (nI bd), .int (nI no), .int (nI fu)])) (H1 : h 1 = .inr (5, [.ref (E.1 + 2), .ref (E.1 + 3), .ref (E.1 + 4), .ref (E.1 + 6), .ref (E.1 + 8), .int (nI an), .int (nI td), .int (nI gr)])) (H2 : h 2 = cI E 4 (nF K)) (H3 : h 3 = cI E 16 (nF M)) (H4 : h 12 = .inr (5, [.ref (E.1 + 13), .ref (E.1 + 14), .ref (E.1 + 15), .ref (E.1 + 17), .ref (E.1 + 19), .int (nI an2), .int (nI td2), .int (nI gr2)])) (H5 : h 13 = cI E 4 (nF K2)) (H6 : h 14 = cI E 16 (nF M2)) (hn : 38 ≤ n) (hK : ∀ zz, K zz ≤ 5) (hM : ∀ zz, M zz ≤ 20) (hg : gr ≤ 9) (hn4 : an ≤ 4) (hK2 : ∀ zz, K2 zz ≤ 5) (hM2 : ∀ zz, M2 zz ≤ 20) (htd : td ≤ 999) (ha : a < an) (ht : t < 4) (hx : x ≤ 80) (hw : w ≤ 50) : jC E mX7_waits (4, 0, 0) [.ref (E.1 + 0), .int (nI a), .int (nI t), .int (nI x), .int (nI w)] h n (fun v h' n' => v = some (.int (oI (waitN K M gr a t td x w))) ∧ n' = n ∧ ∃ M3 : Nat → Nat, (∀ zz, M3 zz ≤ 20) ∧ h' = (hset (hset (hset h 13 (cI E 4 (nF (va_cpy K K2 0 0 4)))) 14 (cI E 16 (nF M3))) 12 (.inr (5, [.ref (E.1 + 13), .ref (E.1 + 14), .ref (E.1 + 15), .ref (E.1 + 17), .ref (E.1 + 19), .int (nI an), .int (nI td), .int (nI gr)])))) := by
  refine J.of (L := [(0, .ref (E.1 + 0)), (1, .int (nI a)), (2, .int (nI t)), (3, .int (nI x)), (4, .int (nI w))]) rfl (by decide +kernel) (Nat.le_of_ble_eq_true rfl) ?_
  obtain ⟨PP, hPP⟩ : ∃ PP : jPost, PP = (fun v h' n' => v = some (.int (oI (waitN K M gr a t td x w))) ∧ n' = n ∧ ∃ M3 : Nat → Nat, (∀ zz, M3 zz ≤ 20) ∧ h' = (hset (hset (hset h 13 (cI E 4 (nF (va_cpy K K2 0 0 4)))) 14 (cI E 16 (nF M3))) 12 (.inr (5, [.ref (E.1 + 13), .ref (E.1 + 14), .ref (E.1 + 15), .ref (E.1 + 17), .ref (E.1 + 19), .int (nI an), .int (nI td), .int (nI gr)])))) := ⟨_, rfl⟩
  rw [← hPP]
  refine J_aload_n dX7_waits_0 rfl ?_
  refine J_iload_n dX7_waits_1 rfl ?_
  refine J_iload_n dX7_waits_2 rfl ?_
  refine J_callVr (M' := mX7_isPlace) (d' := (3, 0, 0)) (rest := []) dX7_waits_3 jmX7_isPlace jlRX7_98 (ctX7_isPlace a t an td gr ab be bd no fu H0 H1 (by omega) (by first | assumption | omega) (by first | assumption | omega) (by first | assumption | omega)) H0 (by omega) jk7.1 rfl rfl (Nat.le_of_ble_eq_true rfl) (Nat.le_of_ble_eq_true rfl) ⟨Nat.le_refl _, Nat.le_refl _⟩ ?_
  refine J_if_eqB (tgt := 30) dX7_waits_6 (by decide) (fun c1 => (by exfalso; omega)) (fun c1 => ?_)
  refine J_iload_n dX7_waits_9 rfl ?_
  refine J_iconst (v := nI 0) dX7_waits_10 (by decide +kernel) ?_
  refine J_bipush (v := nI 80) dX7_waits_11 (by decide +kernel) ?_
  refine J_callSr (M' := mX7_isWithin) (d' := (1, 0, 0)) (rest := []) dX7_waits_13 jmX7_isWithin jlRX7_70 (ctX7_isWithin x 0 80   (by first | assumption | omega) (by first | assumption | omega) (by first | assumption | omega)) rfl rfl (Nat.le_of_ble_eq_true rfl) (Nat.le_of_ble_eq_true rfl) ⟨Nat.le_refl _, Nat.le_refl _⟩ ?_
  refine J_if_eqB (tgt := 30) dX7_waits_16 (by decide) (fun c2 => (by exfalso; omega)) (fun c2 => ?_)
  refine J_iload dX7_waits_19 rfl ?_
  refine J_iconst (v := nI 0) dX7_waits_21 (by decide +kernel) ?_
  refine J_bipush (v := nI 50) dX7_waits_22 (by decide +kernel) ?_
  refine J_callSr (M' := mX7_isWithin) (d' := (1, 0, 0)) (rest := []) dX7_waits_24 jmX7_isWithin jlRX7_70 (ctX7_isWithin w 0 50   (by first | assumption | omega) (by first | assumption | omega) (by first | assumption | omega)) rfl rfl (Nat.le_of_ble_eq_true rfl) (Nat.le_of_ble_eq_true rfl) ⟨Nat.le_refl _, Nat.le_refl _⟩ ?_
  refine J_if_neB (tgt := 37) dX7_waits_27 (by decide) (fun c3 => ?_) (fun c3 => (by exfalso; omega))
  refine J_aload_n dX7_waits_37 rfl ?_
  refine J_get 1 dX7_waits_38 jk7 (Nat.le_of_ble_eq_true rfl) jfRX7_16 H0 (by omega) rfl ?_
  refine J_aload_n dX7_waits_41 rfl ?_
  refine J_get 0 dX7_waits_42 jk7 (Nat.le_of_ble_eq_true rfl) jfRX7_10 H0 (by omega) rfl ?_
  refine J_callVn (M' := mX6_takeAnvils) (d' := (1, 0, 0)) (rest := []) dX7_waits_45 jmX6_takeAnvils jlRX7_150 (ctX6_takeAnvils 12 1 an2 td2 gr2 K2 M2 an td gr K M H4 H5 H6 H1 H2 H3 (by omega) (by first | assumption | omega)) H4 (by omega) jk6.1 rfl rfl (Nat.le_of_ble_eq_true rfl) (Nat.le_of_ble_eq_true rfl) ⟨Nat.le_refl _, Nat.le_refl _⟩ ?_
  have hK3 : ∀ i, va_cpy K K2 0 0 4 i ≤ 5 := va_cpy_le hK hK2
  have hM3 : ∀ i, va_cpy M M2 0 0 16 i ≤ 20 := va_cpy_le hM hM2
  refine J_iconst (v := nI 0) dX7_waits_48 (by decide +kernel) ?_
  refine J_istore dX7_waits_49 (Nat.le_of_ble_eq_true rfl) (L' := [(5, .int (nI 0)), (0, .ref (E.1 + 0)), (1, .int (nI a)), (2, .int (nI t)), (3, .int (nI x)), (4, .int (nI w))]) rfl ?_
  have CUT51 : ∀ (f51 : Nat) (i : Nat) (hm51 : 31 - i < f51) (hi : i ≤ 31) (hno : ∀ j, j < i → ¬ waitP K M gr a t td x w j), J E mX7_waits (4, 0, 0) jS0 PP (hset (hset (hset h 13 (cI E 4 (nF (va_cpy K K2 0 0 4)))) 14 (cI E 16 (nF (fadeI (va_cpy K K2 0 0 4) (va_cpy M M2 0 0 16) a td i)))) 12 (.inr (5, [.ref (E.1 + 13), .ref (E.1 + 14), .ref (E.1 + 15), .ref (E.1 + 17), .ref (E.1 + 19), .int (nI an), .int (nI td), .int (nI gr)]))) n (0, 0) 51 [(5, .int (nI i)), (0, .ref (E.1 + 0)), (1, .int (nI a)), (2, .int (nI t)), (3, .int (nI x)), (4, .int (nI w))] [] := by
    intro f51
    induction f51 with
    | zero => intro i hm51; exact absurd hm51 (Nat.not_lt_zero _)
    | succ f51 ih51 =>
      intro i hm51 hi hno
      refine J_iload dX7_waits_51 rfl ?_
      refine J_bipush (v := nI 30) dX7_waits_53 (by decide +kernel) ?_
      refine J_icmp_gtN (tgt := 112) dX7_waits_55 (by decide) (by omega) (by omega) (fun c4 => ?_) (fun c4 => ?_)
      · skip
        refine J_iconst (v := (-1)) dX7_waits_112 (by decide +kernel) ?_
        exact J_iret dX7_waits_113 rfl ⟨Nat.le_refl _, Nat.le_refl _⟩ (by rw [hPP]; exact ⟨congrArg (fun z => some (Value.int z)) (by first | exact (oI_some (p := waitP K M gr a t td x w) (by have e1 := waitP_c (K := K) (M := M) (K2 := K2) (M2 := M2) (g := gr) (a := a) (t := t) (d := td) (x := x) (w := w) (i := i) (by omega) (by omega); rw [e1]; omega) hno (by omega)) | exact oI_none (p := waitP K M gr a t td x w) (fun j hj => hno j (by omega))), rfl, (fadeI (va_cpy K K2 0 0 4) (va_cpy M M2 0 0 16) a td i), (by intro j; first | exact hM3 j | exact fadeI_le hM3 _ j), rfl⟩)
      · skip
        refine J_aload_n dX7_waits_58 rfl ?_
        refine J_get 1 dX7_waits_59 jk7 (Nat.le_of_ble_eq_true rfl) jfRX7_16 ((hset_ne (by omega)).trans ((hset_ne (by omega)).trans ((hset_ne (by omega)).trans H0))) (by omega) rfl ?_
        refine J_iload_n dX7_waits_62 rfl ?_
        refine J_iload_n dX7_waits_63 rfl ?_
        refine J_callVr (M' := mX6_unwanted) (d' := (3, 0, 0)) (rest := []) dX7_waits_64 jmX6_unwanted jlRX7_142 (ctX6_unwanted 12 a t an td gr (va_cpy K K2 0 0 4) (fadeI (va_cpy K K2 0 0 4) (va_cpy M M2 0 0 16) a td i) hset_eq ((hset_ne (by omega)).trans ((hset_ne (by omega)).trans hset_eq)) ((hset_ne (by omega)).trans hset_eq) (by omega) (by first | assumption | omega) (by first | assumption | omega) (by exact hK3) (by exact fadeI_le hM3 i) (by first | assumption | omega)) hset_eq (by omega) jk6.1 rfl rfl (Nat.le_of_ble_eq_true rfl) (Nat.le_of_ble_eq_true rfl) ⟨Nat.le_refl _, Nat.le_refl _⟩ ?_
        have fc5 : fgnN (va_cpy K K2 0 0 4) (fadeI (va_cpy K K2 0 0 4) (va_cpy M M2 0 0 16) a td i) gr a t 4 ≤ 42 * 4 := fgnN_le (show ∀ zz, (fadeI (va_cpy K K2 0 0 4) (va_cpy M M2 0 0 16) a td i) zz ≤ 20 from by exact fadeI_le hM3 i) 4
        refine J_iload_n dX7_waits_67 rfl ?_
        refine J_icmp_gtN (tgt := 88) dX7_waits_68 (by decide) (by omega) (by omega) (fun c6 => ?_) (fun c6 => ?_)
        · skip
          refine J_aload_n dX7_waits_88 rfl ?_
          refine J_get 1 dX7_waits_89 jk7 (Nat.le_of_ble_eq_true rfl) jfRX7_16 ((hset_ne (by omega)).trans ((hset_ne (by omega)).trans ((hset_ne (by omega)).trans H0))) (by omega) rfl ?_
          refine J_iload_n dX7_waits_92 rfl ?_
          refine J_aload_n dX7_waits_93 rfl ?_
          refine J_get 0 dX7_waits_94 jk7 (Nat.le_of_ble_eq_true rfl) jfRX7_10 ((hset_ne (by omega)).trans ((hset_ne (by omega)).trans ((hset_ne (by omega)).trans H0))) (by omega) rfl ?_
          refine J_get 6 dX7_waits_97 jk6 (Nat.le_of_ble_eq_true rfl) jfRX7_115 ((hset_ne (by omega)).trans ((hset_ne (by omega)).trans ((hset_ne (by omega)).trans H1))) (by omega) rfl ?_
          refine J_iload dX7_waits_100 rfl ?_
          refine J_iaddN dX7_waits_102 ?_
          refine J_callVn (M' := mX6_fade) (d' := (2, 0, 0)) (rest := []) dX7_waits_103 jmX6_fade jlRX7_156 (ctX6_fade 12 a (td + i) an td gr (va_cpy K K2 0 0 4) (fadeI (va_cpy K K2 0 0 4) (va_cpy M M2 0 0 16) a td i) hset_eq ((hset_ne (by omega)).trans ((hset_ne (by omega)).trans hset_eq)) ((hset_ne (by omega)).trans hset_eq) (by omega) (by first | assumption | omega) (by first | assumption | omega) (by exact hK3) (by exact fadeI_le hM3 i)) hset_eq (by omega) jk6.1 rfl rfl (Nat.le_of_ble_eq_true rfl) (Nat.le_of_ble_eq_true rfl) ⟨Nat.le_refl _, Nat.le_refl _⟩ ?_
          refine J.cast ((hset_comm (by omega)).trans (hset_cg hset_hset rfl)) ?_
          refine J_iincN (q := 0) (a := i) (m := 1) dX7_waits_106 rfl (by decide +kernel) (Nat.le_of_ble_eq_true rfl) (L' := [(5, .int (nI (i + 1))), (0, .ref (E.1 + 0)), (1, .int (nI a)), (2, .int (nI t)), (3, .int (nI x)), (4, .int (nI w))]) rfl ?_
          refine J_goto (tgt := 51) dX7_waits_109 (by decide) ?_
          refine J.eqs (h' := (hset (hset (hset h 13 (cI E 4 (nF (va_cpy K K2 0 0 4)))) 14 (cI E 16 (nF (fadeI (va_cpy K K2 0 0 4) (va_cpy M M2 0 0 16) a td (i + 1))))) 12 (.inr (5, [.ref (E.1 + 13), .ref (E.1 + 14), .ref (E.1 + 15), .ref (E.1 + 17), .ref (E.1 + 19), .int (nI an), .int (nI td), .int (nI gr)])))) (L' := [(5, .int (nI (i + 1))), (0, .ref (E.1 + 0)), (1, .int (nI a)), (2, .int (nI t)), (3, .int (nI x)), (4, .int (nI w))]) (st' := []) (hset_cg (hset_cg (hset_cg rfl rfl) (cI_cg (by intro z; rfl))) rfl) rfl rfl ?_
          exact ih51 (i + 1) (by omega) (by first | assumption | omega) (by first | exact (fun j hj => absurd hj (Nat.not_lt_zero j)) | exact lt_step hno (by have e1 := waitP_c (K := K) (M := M) (K2 := K2) (M2 := M2) (g := gr) (a := a) (t := t) (d := td) (x := x) (w := w) (i := i) (by omega) (by omega); rw [e1]; omega))
        · skip
          refine J_aload_n dX7_waits_71 rfl ?_
          refine J_get 1 dX7_waits_72 jk7 (Nat.le_of_ble_eq_true rfl) jfRX7_16 ((hset_ne (by omega)).trans ((hset_ne (by omega)).trans ((hset_ne (by omega)).trans H0))) (by omega) rfl ?_
          refine J_iload_n dX7_waits_75 rfl ?_
          refine J_iload_n dX7_waits_76 rfl ?_
          refine J_callVr (M' := mX6_risen) (d' := (2, 0, 0)) (rest := []) dX7_waits_77 jmX6_risen jlRX7_139 (ctX6_risen 12 a t an td gr (va_cpy K K2 0 0 4) (fadeI (va_cpy K K2 0 0 4) (va_cpy M M2 0 0 16) a td i) hset_eq ((hset_ne (by omega)).trans ((hset_ne (by omega)).trans hset_eq)) ((hset_ne (by omega)).trans hset_eq) (by omega) (by first | assumption | omega) (by first | assumption | omega) (by exact hK3) (by exact fadeI_le hM3 i) (by first | assumption | omega)) hset_eq (by omega) jk6.1 rfl rfl (Nat.le_of_ble_eq_true rfl) (Nat.le_of_ble_eq_true rfl) ⟨Nat.le_refl _, Nat.le_refl _⟩ ?_
          have fc7 : upN ((va_cpy K K2 0 0 4) a) ((fadeI (va_cpy K K2 0 0 4) (va_cpy M M2 0 0 16) a td i) (4 * a + t)) gr ≤ 42 := upN_le ((show ∀ zz, (fadeI (va_cpy K K2 0 0 4) (va_cpy M M2 0 0 16) a td i) zz ≤ 20 from by exact fadeI_le hM3 i) (4 * a + t))
          refine J_iload dX7_waits_80 rfl ?_
          refine J_icmp_ltN (tgt := 88) dX7_waits_82 (by decide) (by omega) (by omega) (fun c8 => ?_) (fun c8 => ?_)
          · skip
            refine J_aload_n dX7_waits_88 rfl ?_
            refine J_get 1 dX7_waits_89 jk7 (Nat.le_of_ble_eq_true rfl) jfRX7_16 ((hset_ne (by omega)).trans ((hset_ne (by omega)).trans ((hset_ne (by omega)).trans H0))) (by omega) rfl ?_
            refine J_iload_n dX7_waits_92 rfl ?_
            refine J_aload_n dX7_waits_93 rfl ?_
            refine J_get 0 dX7_waits_94 jk7 (Nat.le_of_ble_eq_true rfl) jfRX7_10 ((hset_ne (by omega)).trans ((hset_ne (by omega)).trans ((hset_ne (by omega)).trans H0))) (by omega) rfl ?_
            refine J_get 6 dX7_waits_97 jk6 (Nat.le_of_ble_eq_true rfl) jfRX7_115 ((hset_ne (by omega)).trans ((hset_ne (by omega)).trans ((hset_ne (by omega)).trans H1))) (by omega) rfl ?_
            refine J_iload dX7_waits_100 rfl ?_
            refine J_iaddN dX7_waits_102 ?_
            refine J_callVn (M' := mX6_fade) (d' := (2, 0, 0)) (rest := []) dX7_waits_103 jmX6_fade jlRX7_156 (ctX6_fade 12 a (td + i) an td gr (va_cpy K K2 0 0 4) (fadeI (va_cpy K K2 0 0 4) (va_cpy M M2 0 0 16) a td i) hset_eq ((hset_ne (by omega)).trans ((hset_ne (by omega)).trans hset_eq)) ((hset_ne (by omega)).trans hset_eq) (by omega) (by first | assumption | omega) (by first | assumption | omega) (by exact hK3) (by exact fadeI_le hM3 i)) hset_eq (by omega) jk6.1 rfl rfl (Nat.le_of_ble_eq_true rfl) (Nat.le_of_ble_eq_true rfl) ⟨Nat.le_refl _, Nat.le_refl _⟩ ?_
            refine J.cast ((hset_comm (by omega)).trans (hset_cg hset_hset rfl)) ?_
            refine J_iincN (q := 0) (a := i) (m := 1) dX7_waits_106 rfl (by decide +kernel) (Nat.le_of_ble_eq_true rfl) (L' := [(5, .int (nI (i + 1))), (0, .ref (E.1 + 0)), (1, .int (nI a)), (2, .int (nI t)), (3, .int (nI x)), (4, .int (nI w))]) rfl ?_
            refine J_goto (tgt := 51) dX7_waits_109 (by decide) ?_
            refine J.eqs (h' := (hset (hset (hset h 13 (cI E 4 (nF (va_cpy K K2 0 0 4)))) 14 (cI E 16 (nF (fadeI (va_cpy K K2 0 0 4) (va_cpy M M2 0 0 16) a td (i + 1))))) 12 (.inr (5, [.ref (E.1 + 13), .ref (E.1 + 14), .ref (E.1 + 15), .ref (E.1 + 17), .ref (E.1 + 19), .int (nI an), .int (nI td), .int (nI gr)])))) (L' := [(5, .int (nI (i + 1))), (0, .ref (E.1 + 0)), (1, .int (nI a)), (2, .int (nI t)), (3, .int (nI x)), (4, .int (nI w))]) (st' := []) (hset_cg (hset_cg (hset_cg rfl rfl) (cI_cg (by intro z; rfl))) rfl) rfl rfl ?_
            exact ih51 (i + 1) (by omega) (by first | assumption | omega) (by first | exact (fun j hj => absurd hj (Nat.not_lt_zero j)) | exact lt_step hno (by have e1 := waitP_c (K := K) (M := M) (K2 := K2) (M2 := M2) (g := gr) (a := a) (t := t) (d := td) (x := x) (w := w) (i := i) (by omega) (by omega); rw [e1]; omega))
          · skip
            refine J_iload dX7_waits_85 rfl ?_
            exact J_iret dX7_waits_87 rfl ⟨Nat.le_refl _, Nat.le_refl _⟩ (by rw [hPP]; exact ⟨congrArg (fun z => some (Value.int z)) (by first | exact (oI_some (p := waitP K M gr a t td x w) (by have e1 := waitP_c (K := K) (M := M) (K2 := K2) (M2 := M2) (g := gr) (a := a) (t := t) (d := td) (x := x) (w := w) (i := i) (by omega) (by omega); rw [e1]; omega) hno (by omega)) | exact oI_none (p := waitP K M gr a t td x w) (fun j hj => hno j (by omega))), rfl, (fadeI (va_cpy K K2 0 0 4) (va_cpy M M2 0 0 16) a td i), (by intro j; first | exact hM3 j | exact fadeI_le hM3 _ j), rfl⟩)
  refine J.eqs (h' := (hset (hset (hset h 13 (cI E 4 (nF (va_cpy K K2 0 0 4)))) 14 (cI E 16 (nF (fadeI (va_cpy K K2 0 0 4) (va_cpy M M2 0 0 16) a td 0)))) 12 (.inr (5, [.ref (E.1 + 13), .ref (E.1 + 14), .ref (E.1 + 15), .ref (E.1 + 17), .ref (E.1 + 19), .int (nI an), .int (nI td), .int (nI gr)])))) (L' := [(5, .int (nI 0)), (0, .ref (E.1 + 0)), (1, .int (nI a)), (2, .int (nI t)), (3, .int (nI x)), (4, .int (nI w))]) (st' := []) (hset_cg (hset_cg (hset_cg rfl rfl) (cI_cg (by intro z; rfl))) rfl) rfl rfl ?_
  exact CUT51 (31 - 0 + 1) 0 (Nat.lt_succ_self _) (by first | assumption | omega) (by first | exact (fun j hj => absurd hj (Nat.not_lt_zero j)) | exact lt_step hno (by have e1 := waitP_c (K := K) (M := M) (K2 := K2) (M2 := M2) (g := gr) (a := a) (t := t) (d := td) (x := x) (w := w) (i := i) (by omega) (by omega); rw [e1]; omega))

set_option maxHeartbeats 1000000 in
set_option maxRecDepth 100000 in
theorem ctX7_best_bad {E : jE} {h : Nat → va_E} {n : Nat} (t : Nat) (ab : Nat) (be : Nat) (bd : Nat) (no : Nat) (fu : Nat) (H0 : h 0 = .inr (6, [.ref (E.1 + 1), .ref (E.1 + 12), .ref (E.1 + 23), .ref (E.1 + 24), .ref (E.1 + 30), .ref (E.1 + 34), .ref (E.1 + 37), .int (nI ab), .int (nI be), .int (nI bd), .int (nI no), .int (nI fu)])) (hn : 38 ≤ n) (h32t : t < 2 ^ 32) (hbad : ¬ t ≤ 3) : jC E mX7_best (4, 0, 0) [.ref (E.1 + 0), .int (nI t)] h n (jR (some (.int (-2))) (hset h 0 (.inr (6, [.ref (E.1 + 1), .ref (E.1 + 12), .ref (E.1 + 23), .ref (E.1 + 24), .ref (E.1 + 30), .ref (E.1 + 34), .ref (E.1 + 37), .int (nI ab), .int (nI be), .int (nI (bd + 1)), .int (nI no), .int (nI fu)]))) n) := by
  refine J.of (L := [(0, .ref (E.1 + 0)), (1, .int (nI t))]) rfl (by decide +kernel) (Nat.le_of_ble_eq_true rfl) ?_
  obtain ⟨PP, hPP⟩ : ∃ PP : jPost, PP = (jR (some (.int (-2))) (hset h 0 (.inr (6, [.ref (E.1 + 1), .ref (E.1 + 12), .ref (E.1 + 23), .ref (E.1 + 24), .ref (E.1 + 30), .ref (E.1 + 34), .ref (E.1 + 37), .int (nI ab), .int (nI be), .int (nI (bd + 1)), .int (nI no), .int (nI fu)]))) n) := ⟨_, rfl⟩
  rw [← hPP]
  refine J_iload_n dX7_best_0 rfl ?_
  refine J_callSr (M' := mX7_isTemper) (d' := (2, 0, 0)) (rest := []) dX7_best_1 jmX7_isTemper jlRX7_163 (ctX7_isTemper t   (by first | assumption | omega)) rfl rfl (Nat.le_of_ble_eq_true rfl) (Nat.le_of_ble_eq_true rfl) ⟨Nat.le_refl _, Nat.le_refl _⟩ ?_
  refine J_if_neB (tgt := 14) dX7_best_4 (by decide) (fun c1 => (by exfalso; omega)) (fun c1 => ?_)
  refine J_aload_n dX7_best_7 rfl ?_
  refine J_bipush (v := (-2)) dX7_best_8 (by decide +kernel) ?_
  refine J_callVr (M' := mX7_refuse) (d' := (1, 0, 0)) (rest := []) dX7_best_10 jmX7_refuse jlRX7_59 (ctX7_refuse2 ab be bd no fu H0 (by omega) ) H0 (by omega) jk7.1 rfl rfl (Nat.le_of_ble_eq_true rfl) (Nat.le_of_ble_eq_true rfl) ⟨Nat.le_refl _, Nat.le_refl _⟩ ?_
  exact J_iret dX7_best_13 rfl ⟨Nat.le_refl _, Nat.le_refl _⟩ (by rw [hPP]; exact ⟨rfl, rfl, rfl⟩)

set_option maxHeartbeats 1000000 in
set_option maxRecDepth 100000 in
theorem ctX7_best {E : jE} {h : Nat → va_E} {n : Nat} (t : Nat) (an : Nat) (td : Nat) (gr : Nat) (K : Nat → Nat) (M : Nat → Nat) (ab : Nat) (be : Nat) (bd : Nat) (no : Nat) (fu : Nat) (H0 : h 0 = .inr (6, [.ref (E.1 + 1), .ref (E.1 + 12), .ref (E.1 + 23), .ref (E.1 + 24), .ref (E.1 + 30), .ref (E.1 + 34), .ref (E.1 + 37), .int (nI ab), .int (nI be), .int (nI bd), .int (nI no), .int (nI fu)])) (H1 : h 1 = .inr (5, [.ref (E.1 + 2), .ref (E.1 + 3), .ref (E.1 + 4), .ref (E.1 + 6), .ref (E.1 + 8), .int (nI an), .int (nI td), .int (nI gr)])) (H2 : h 2 = cI E 4 (nF K)) (H3 : h 3 = cI E 16 (nF M)) (hn : 38 ≤ n) (hK : ∀ zz, K zz ≤ 5) (hM : ∀ zz, M zz ≤ 20) (hg : gr ≤ 9) (hn4 : an ≤ 4) (ht : t < 4) : jC E mX7_best (4, 0, 0) [.ref (E.1 + 0), .int (nI t)] h n (jR (some (.int (oI (bestN (fun a => fgnN K M gr a t 4) (fun a => upN (K a) (M (4 * a + t)) gr) an)))) h n) := by
  refine J.of (L := [(0, .ref (E.1 + 0)), (1, .int (nI t))]) rfl (by decide +kernel) (Nat.le_of_ble_eq_true rfl) ?_
  obtain ⟨PP, hPP⟩ : ∃ PP : jPost, PP = (jR (some (.int (oI (bestN (fun a => fgnN K M gr a t 4) (fun a => upN (K a) (M (4 * a + t)) gr) an)))) h n) := ⟨_, rfl⟩
  rw [← hPP]
  refine J_iload_n dX7_best_0 rfl ?_
  refine J_callSr (M' := mX7_isTemper) (d' := (2, 0, 0)) (rest := []) dX7_best_1 jmX7_isTemper jlRX7_163 (ctX7_isTemper t   (by first | assumption | omega)) rfl rfl (Nat.le_of_ble_eq_true rfl) (Nat.le_of_ble_eq_true rfl) ⟨Nat.le_refl _, Nat.le_refl _⟩ ?_
  refine J_if_neB (tgt := 14) dX7_best_4 (by decide) (fun c1 => ?_) (fun c1 => (by exfalso; omega))
  refine J_iconst (v := (-1)) dX7_best_14 (by decide +kernel) ?_
  refine J_istore_n dX7_best_15 (Nat.le_of_ble_eq_true rfl) (L' := [(2, .int (-1)), (0, .ref (E.1 + 0)), (1, .int (nI t))]) rfl ?_
  refine J_iconst (v := nI 0) dX7_best_16 (by decide +kernel) ?_
  refine J_istore_n dX7_best_17 (Nat.le_of_ble_eq_true rfl) (L' := [(3, .int (nI 0)), (2, .int (-1)), (0, .ref (E.1 + 0)), (1, .int (nI t))]) rfl ?_
  refine J_iconst (v := nI 0) dX7_best_18 (by decide +kernel) ?_
  refine J_istore dX7_best_19 (Nat.le_of_ble_eq_true rfl) (L' := [(4, .int (nI 0)), (3, .int (nI 0)), (2, .int (-1)), (0, .ref (E.1 + 0)), (1, .int (nI t))]) rfl ?_
  refine J_iconst (v := nI 0) dX7_best_21 (by decide +kernel) ?_
  refine J_istore dX7_best_22 (Nat.le_of_ble_eq_true rfl) (L' := [(5, .int (nI 0)), (4, .int (nI 0)), (3, .int (nI 0)), (2, .int (-1)), (0, .ref (E.1 + 0)), (1, .int (nI t))]) rfl ?_
  refine J_iload dX7_best_24 rfl ?_
  refine J_aload_n dX7_best_26 rfl ?_
  refine J_get 0 dX7_best_27 jk7 (Nat.le_of_ble_eq_true rfl) jfRX7_10 H0 (by omega) rfl ?_
  refine J_get 5 dX7_best_30 jk6 (Nat.le_of_ble_eq_true rfl) jfRX7_63 H1 (by omega) rfl ?_
  refine J_icmp_geN (tgt := 100) dX7_best_33 (by decide) (by omega) (by omega) (fun c2 => ?_) (fun c2 => ?_)
  · skip
    refine J_iload_n dX7_best_100 rfl ?_
    exact J_iret dX7_best_101 rfl ⟨Nat.le_refl _, Nat.le_refl _⟩ (by rw [hPP]; exact ⟨(congrArg some (jv_I (by first | (rw [show i = an by omega] at hbest; rw [hbest]; rfl) | (rw [show an = 0 by omega]; rfl)))), rfl, rfl⟩)
  · skip
    refine J_aload_n dX7_best_36 rfl ?_
    refine J_get 0 dX7_best_37 jk7 (Nat.le_of_ble_eq_true rfl) jfRX7_10 H0 (by omega) rfl ?_
    refine J_iload dX7_best_40 rfl ?_
    refine J_iload_n dX7_best_42 rfl ?_
    refine J_callVr (M' := mX6_unwanted) (d' := (3, 0, 0)) (rest := []) dX7_best_43 jmX6_unwanted jlRX7_142 (ctX6_unwanted 1 0 t an td gr K M H1 H2 H3 (by omega) (by first | assumption | omega) (by first | assumption | omega) (by first | assumption | omega) (by first | assumption | omega) (by first | assumption | omega)) H1 (by omega) jk6.1 rfl rfl (Nat.le_of_ble_eq_true rfl) (Nat.le_of_ble_eq_true rfl) ⟨Nat.le_refl _, Nat.le_refl _⟩ ?_
    have fc3 : fgnN K M gr 0 t 4 ≤ 42 * 4 := fgnN_le (show ∀ zz, M zz ≤ 20 from by first | assumption | omega) 4
    skip
    refine J_istore dX7_best_46 (Nat.le_of_ble_eq_true rfl) (L' := [(6, .int (nI (fgnN K M gr 0 t 4))), (5, .int (nI 0)), (4, .int (nI 0)), (3, .int (nI 0)), (2, .int (-1)), (0, .ref (E.1 + 0)), (1, .int (nI t))]) rfl ?_
    refine J_aload_n dX7_best_48 rfl ?_
    refine J_get 0 dX7_best_49 jk7 (Nat.le_of_ble_eq_true rfl) jfRX7_10 H0 (by omega) rfl ?_
    refine J_iload dX7_best_52 rfl ?_
    refine J_iload_n dX7_best_54 rfl ?_
    refine J_callVr (M' := mX6_risen) (d' := (2, 0, 0)) (rest := []) dX7_best_55 jmX6_risen jlRX7_139 (ctX6_risen 1 0 t an td gr K M H1 H2 H3 (by omega) (by first | assumption | omega) (by first | assumption | omega) (by first | assumption | omega) (by first | assumption | omega) (by first | assumption | omega)) H1 (by omega) jk6.1 rfl rfl (Nat.le_of_ble_eq_true rfl) (Nat.le_of_ble_eq_true rfl) ⟨Nat.le_refl _, Nat.le_refl _⟩ ?_
    have fc4 : upN (K 0) (M (4 * 0 + t)) gr ≤ 42 := upN_le ((show ∀ zz, M zz ≤ 20 from by first | assumption | omega) (4 * 0 + t))
    refine J_istore dX7_best_58 (Nat.le_of_ble_eq_true rfl) (L' := [(7, .int (nI (upN (K 0) (M (4 * 0 + t)) gr))), (6, .int (nI (fgnN K M gr 0 t 4))), (5, .int (nI 0)), (4, .int (nI 0)), (3, .int (nI 0)), (2, .int (-1)), (0, .ref (E.1 + 0)), (1, .int (nI t))]) rfl ?_
    refine J_iload_n dX7_best_60 rfl ?_
    refine J_iconst (v := (-1)) dX7_best_61 (by decide +kernel) ?_
    refine J_icmp_eq (tgt := 84) dX7_best_62 (by decide) (fun _ => ?_) (fun z => absurd z (by decide +kernel))
    refine J_iload dX7_best_84 rfl ?_
    refine J_istore_n dX7_best_86 (Nat.le_of_ble_eq_true rfl) (L' := [(2, .int (nI 0)), (7, .int (nI (upN (K 0) (M (4 * 0 + t)) gr))), (6, .int (nI (fgnN K M gr 0 t 4))), (5, .int (nI 0)), (4, .int (nI 0)), (3, .int (nI 0)), (0, .ref (E.1 + 0)), (1, .int (nI t))]) rfl ?_
    refine J_iload dX7_best_87 rfl ?_
    refine J_istore_n dX7_best_89 (Nat.le_of_ble_eq_true rfl) (L' := [(3, .int (nI (fgnN K M gr 0 t 4))), (2, .int (nI 0)), (7, .int (nI (upN (K 0) (M (4 * 0 + t)) gr))), (6, .int (nI (fgnN K M gr 0 t 4))), (5, .int (nI 0)), (4, .int (nI 0)), (0, .ref (E.1 + 0)), (1, .int (nI t))]) rfl ?_
    refine J_iload dX7_best_90 rfl ?_
    refine J_istore dX7_best_92 (Nat.le_of_ble_eq_true rfl) (L' := [(4, .int (nI (upN (K 0) (M (4 * 0 + t)) gr))), (3, .int (nI (fgnN K M gr 0 t 4))), (2, .int (nI 0)), (7, .int (nI (upN (K 0) (M (4 * 0 + t)) gr))), (6, .int (nI (fgnN K M gr 0 t 4))), (5, .int (nI 0)), (0, .ref (E.1 + 0)), (1, .int (nI t))]) rfl ?_
    refine J_iincN (q := 5) (a := 0) (m := 1) dX7_best_94 rfl (by decide +kernel) (Nat.le_of_ble_eq_true rfl) (L' := [(5, .int (nI 1)), (4, .int (nI (upN (K 0) (M (4 * 0 + t)) gr))), (3, .int (nI (fgnN K M gr 0 t 4))), (2, .int (nI 0)), (7, .int (nI (upN (K 0) (M (4 * 0 + t)) gr))), (6, .int (nI (fgnN K M gr 0 t 4))), (0, .ref (E.1 + 0)), (1, .int (nI t))]) rfl ?_
    refine J_goto (tgt := 24) dX7_best_97 (by decide) ?_
    have CUT24 : ∀ (f24 : Nat) (i : Nat) (b : Nat) (hm24 : an - i < f24) (hi : i ≤ an) (hi1 : 1 ≤ i) (hbi : b < i) (hbest : bestN (fun a => fgnN K M gr a t 4) (fun a => upN (K a) (M (4 * a + t)) gr) i = some b), J E mX7_best (4, 0, 0) jS0 PP h n (0, 0) 24 [(5, .int (nI i)), (2, .int (nI b)), (3, .int (nI (fgnN K M gr b t 4))), (4, .int (nI (upN (K b) (M (4 * b + t)) gr))), (0, .ref (E.1 + 0)), (1, .int (nI t))] [] := by
      intro f24
      induction f24 with
      | zero => intro i b hm24; exact absurd hm24 (Nat.not_lt_zero _)
      | succ f24 ih24 =>
        intro i b hm24 hi hi1 hbi hbest
        have fb := fgnN_le (K := K) (g := gr) (a := b) (t := t) hM 4
        have ub := upN_le (kd := K b) (g := gr) (hM (4 * b + t))
        refine J_iload dX7_best_24 rfl ?_
        refine J_aload_n dX7_best_26 rfl ?_
        refine J_get 0 dX7_best_27 jk7 (Nat.le_of_ble_eq_true rfl) jfRX7_10 H0 (by omega) rfl ?_
        refine J_get 5 dX7_best_30 jk6 (Nat.le_of_ble_eq_true rfl) jfRX7_63 H1 (by omega) rfl ?_
        refine J_icmp_geN (tgt := 100) dX7_best_33 (by decide) (by omega) (by omega) (fun c5 => ?_) (fun c5 => ?_)
        · skip
          refine J_iload_n dX7_best_100 rfl ?_
          exact J_iret dX7_best_101 rfl ⟨Nat.le_refl _, Nat.le_refl _⟩ (by rw [hPP]; exact ⟨(congrArg some (jv_I (a := nI b) (by first | (rw [show i = an by omega] at hbest; rw [hbest]; rfl) | (rw [show an = 0 by omega]; rfl)))), rfl, rfl⟩)
        · skip
          refine J_aload_n dX7_best_36 rfl ?_
          refine J_get 0 dX7_best_37 jk7 (Nat.le_of_ble_eq_true rfl) jfRX7_10 H0 (by omega) rfl ?_
          refine J_iload dX7_best_40 rfl ?_
          refine J_iload_n dX7_best_42 rfl ?_
          refine J_callVr (M' := mX6_unwanted) (d' := (3, 0, 0)) (rest := []) dX7_best_43 jmX6_unwanted jlRX7_142 (ctX6_unwanted 1 i t an td gr K M H1 H2 H3 (by omega) (by first | assumption | omega) (by first | assumption | omega) (by first | assumption | omega) (by first | assumption | omega) (by first | assumption | omega)) H1 (by omega) jk6.1 rfl rfl (Nat.le_of_ble_eq_true rfl) (Nat.le_of_ble_eq_true rfl) ⟨Nat.le_refl _, Nat.le_refl _⟩ ?_
          have fc6 : fgnN K M gr i t 4 ≤ 42 * 4 := fgnN_le (show ∀ zz, M zz ≤ 20 from by first | assumption | omega) 4
          skip
          refine J_istore dX7_best_46 (Nat.le_of_ble_eq_true rfl) (L' := [(6, .int (nI (fgnN K M gr i t 4))), (5, .int (nI i)), (2, .int (nI b)), (3, .int (nI (fgnN K M gr b t 4))), (4, .int (nI (upN (K b) (M (4 * b + t)) gr))), (0, .ref (E.1 + 0)), (1, .int (nI t))]) rfl ?_
          refine J_aload_n dX7_best_48 rfl ?_
          refine J_get 0 dX7_best_49 jk7 (Nat.le_of_ble_eq_true rfl) jfRX7_10 H0 (by omega) rfl ?_
          refine J_iload dX7_best_52 rfl ?_
          refine J_iload_n dX7_best_54 rfl ?_
          refine J_callVr (M' := mX6_risen) (d' := (2, 0, 0)) (rest := []) dX7_best_55 jmX6_risen jlRX7_139 (ctX6_risen 1 i t an td gr K M H1 H2 H3 (by omega) (by first | assumption | omega) (by first | assumption | omega) (by first | assumption | omega) (by first | assumption | omega) (by first | assumption | omega)) H1 (by omega) jk6.1 rfl rfl (Nat.le_of_ble_eq_true rfl) (Nat.le_of_ble_eq_true rfl) ⟨Nat.le_refl _, Nat.le_refl _⟩ ?_
          have fc7 : upN (K i) (M (4 * i + t)) gr ≤ 42 := upN_le ((show ∀ zz, M zz ≤ 20 from by first | assumption | omega) (4 * i + t))
          refine J_istore dX7_best_58 (Nat.le_of_ble_eq_true rfl) (L' := [(7, .int (nI (upN (K i) (M (4 * i + t)) gr))), (6, .int (nI (fgnN K M gr i t 4))), (5, .int (nI i)), (2, .int (nI b)), (3, .int (nI (fgnN K M gr b t 4))), (4, .int (nI (upN (K b) (M (4 * b + t)) gr))), (0, .ref (E.1 + 0)), (1, .int (nI t))]) rfl ?_
          refine J_iload_n dX7_best_60 rfl ?_
          refine J_iconst (v := (-1)) dX7_best_61 (by decide +kernel) ?_
          refine J_icmp_eqV (tgt := 84) dX7_best_62 (by decide) (by omega) (fun z => (by exfalso; omega)) (fun _ => ?_)
          refine J_iload dX7_best_65 rfl ?_
          refine J_iload_n dX7_best_67 rfl ?_
          refine J_icmp_ltN (tgt := 84) dX7_best_68 (by decide) (by omega) (by omega) (fun c8 => ?_) (fun c8 => ?_)
          · skip
            refine J_iload dX7_best_84 rfl ?_
            refine J_istore_n dX7_best_86 (Nat.le_of_ble_eq_true rfl) (L' := [(2, .int (nI i)), (7, .int (nI (upN (K i) (M (4 * i + t)) gr))), (6, .int (nI (fgnN K M gr i t 4))), (5, .int (nI i)), (3, .int (nI (fgnN K M gr b t 4))), (4, .int (nI (upN (K b) (M (4 * b + t)) gr))), (0, .ref (E.1 + 0)), (1, .int (nI t))]) rfl ?_
            refine J_iload dX7_best_87 rfl ?_
            refine J_istore_n dX7_best_89 (Nat.le_of_ble_eq_true rfl) (L' := [(3, .int (nI (fgnN K M gr i t 4))), (2, .int (nI i)), (7, .int (nI (upN (K i) (M (4 * i + t)) gr))), (6, .int (nI (fgnN K M gr i t 4))), (5, .int (nI i)), (4, .int (nI (upN (K b) (M (4 * b + t)) gr))), (0, .ref (E.1 + 0)), (1, .int (nI t))]) rfl ?_
            refine J_iload dX7_best_90 rfl ?_
            refine J_istore dX7_best_92 (Nat.le_of_ble_eq_true rfl) (L' := [(4, .int (nI (upN (K i) (M (4 * i + t)) gr))), (3, .int (nI (fgnN K M gr i t 4))), (2, .int (nI i)), (7, .int (nI (upN (K i) (M (4 * i + t)) gr))), (6, .int (nI (fgnN K M gr i t 4))), (5, .int (nI i)), (0, .ref (E.1 + 0)), (1, .int (nI t))]) rfl ?_
            refine J_iincN (q := 5) (a := i) (m := 1) dX7_best_94 rfl (by decide +kernel) (Nat.le_of_ble_eq_true rfl) (L' := [(5, .int (nI (i + 1))), (4, .int (nI (upN (K i) (M (4 * i + t)) gr))), (3, .int (nI (fgnN K M gr i t 4))), (2, .int (nI i)), (7, .int (nI (upN (K i) (M (4 * i + t)) gr))), (6, .int (nI (fgnN K M gr i t 4))), (0, .ref (E.1 + 0)), (1, .int (nI t))]) rfl ?_
            refine J_goto (tgt := 24) dX7_best_97 (by decide) ?_
            refine J.sub [0, 3, 2, 1, 6, 7] (L' := [(5, .int (nI (i + 1))), (2, .int (nI i)), (3, .int (nI (fgnN K M gr i t 4))), (4, .int (nI (upN (K i) (M (4 * i + t)) gr))), (0, .ref (E.1 + 0)), (1, .int (nI t))]) rfl ?_
            exact ih24 (i + 1) i (by omega) (by first | assumption | omega) (by first | assumption | omega) (by first | assumption | omega) (by first | exact bestN_s hbest (by omega) | exact bestN_k hbest (by omega) | exact bestN_1)
          · skip
            refine J_iload dX7_best_71 rfl ?_
            refine J_iload_n dX7_best_73 rfl ?_
            refine J_icmp_neN (tgt := 94) dX7_best_74 (by decide) (by omega) (by omega) (fun c9 => ?_) (fun c9 => ?_)
            · skip
              refine J_iincN (q := 2) (a := i) (m := 1) dX7_best_94 rfl (by decide +kernel) (Nat.le_of_ble_eq_true rfl) (L' := [(5, .int (nI (i + 1))), (7, .int (nI (upN (K i) (M (4 * i + t)) gr))), (6, .int (nI (fgnN K M gr i t 4))), (2, .int (nI b)), (3, .int (nI (fgnN K M gr b t 4))), (4, .int (nI (upN (K b) (M (4 * b + t)) gr))), (0, .ref (E.1 + 0)), (1, .int (nI t))]) rfl ?_
              refine J_goto (tgt := 24) dX7_best_97 (by decide) ?_
              refine J.sub [0, 3, 4, 5, 6, 7] (L' := [(5, .int (nI (i + 1))), (2, .int (nI b)), (3, .int (nI (fgnN K M gr b t 4))), (4, .int (nI (upN (K b) (M (4 * b + t)) gr))), (0, .ref (E.1 + 0)), (1, .int (nI t))]) rfl ?_
              exact ih24 (i + 1) b (by omega) (by first | assumption | omega) (by first | assumption | omega) (by first | assumption | omega) (by first | exact bestN_s hbest (by omega) | exact bestN_k hbest (by omega) | exact bestN_1)
            · skip
              refine J_iload dX7_best_77 rfl ?_
              refine J_iload dX7_best_79 rfl ?_
              refine J_icmp_leN (tgt := 94) dX7_best_81 (by decide) (by omega) (by omega) (fun c10 => ?_) (fun c10 => ?_)
              · skip
                refine J_iincN (q := 2) (a := i) (m := 1) dX7_best_94 rfl (by decide +kernel) (Nat.le_of_ble_eq_true rfl) (L' := [(5, .int (nI (i + 1))), (7, .int (nI (upN (K i) (M (4 * i + t)) gr))), (6, .int (nI (fgnN K M gr i t 4))), (2, .int (nI b)), (3, .int (nI (fgnN K M gr b t 4))), (4, .int (nI (upN (K b) (M (4 * b + t)) gr))), (0, .ref (E.1 + 0)), (1, .int (nI t))]) rfl ?_
                refine J_goto (tgt := 24) dX7_best_97 (by decide) ?_
                refine J.sub [0, 3, 4, 5, 6, 7] (L' := [(5, .int (nI (i + 1))), (2, .int (nI b)), (3, .int (nI (fgnN K M gr b t 4))), (4, .int (nI (upN (K b) (M (4 * b + t)) gr))), (0, .ref (E.1 + 0)), (1, .int (nI t))]) rfl ?_
                exact ih24 (i + 1) b (by omega) (by first | assumption | omega) (by first | assumption | omega) (by first | assumption | omega) (by first | exact bestN_s hbest (by omega) | exact bestN_k hbest (by omega) | exact bestN_1)
              · skip
                refine J_iload dX7_best_84 rfl ?_
                refine J_istore_n dX7_best_86 (Nat.le_of_ble_eq_true rfl) (L' := [(2, .int (nI i)), (7, .int (nI (upN (K i) (M (4 * i + t)) gr))), (6, .int (nI (fgnN K M gr i t 4))), (5, .int (nI i)), (3, .int (nI (fgnN K M gr b t 4))), (4, .int (nI (upN (K b) (M (4 * b + t)) gr))), (0, .ref (E.1 + 0)), (1, .int (nI t))]) rfl ?_
                refine J_iload dX7_best_87 rfl ?_
                refine J_istore_n dX7_best_89 (Nat.le_of_ble_eq_true rfl) (L' := [(3, .int (nI (fgnN K M gr i t 4))), (2, .int (nI i)), (7, .int (nI (upN (K i) (M (4 * i + t)) gr))), (6, .int (nI (fgnN K M gr i t 4))), (5, .int (nI i)), (4, .int (nI (upN (K b) (M (4 * b + t)) gr))), (0, .ref (E.1 + 0)), (1, .int (nI t))]) rfl ?_
                refine J_iload dX7_best_90 rfl ?_
                refine J_istore dX7_best_92 (Nat.le_of_ble_eq_true rfl) (L' := [(4, .int (nI (upN (K i) (M (4 * i + t)) gr))), (3, .int (nI (fgnN K M gr i t 4))), (2, .int (nI i)), (7, .int (nI (upN (K i) (M (4 * i + t)) gr))), (6, .int (nI (fgnN K M gr i t 4))), (5, .int (nI i)), (0, .ref (E.1 + 0)), (1, .int (nI t))]) rfl ?_
                refine J_iincN (q := 5) (a := i) (m := 1) dX7_best_94 rfl (by decide +kernel) (Nat.le_of_ble_eq_true rfl) (L' := [(5, .int (nI (i + 1))), (4, .int (nI (upN (K i) (M (4 * i + t)) gr))), (3, .int (nI (fgnN K M gr i t 4))), (2, .int (nI i)), (7, .int (nI (upN (K i) (M (4 * i + t)) gr))), (6, .int (nI (fgnN K M gr i t 4))), (0, .ref (E.1 + 0)), (1, .int (nI t))]) rfl ?_
                refine J_goto (tgt := 24) dX7_best_97 (by decide) ?_
                refine J.sub [0, 3, 2, 1, 6, 7] (L' := [(5, .int (nI (i + 1))), (2, .int (nI i)), (3, .int (nI (fgnN K M gr i t 4))), (4, .int (nI (upN (K i) (M (4 * i + t)) gr))), (0, .ref (E.1 + 0)), (1, .int (nI t))]) rfl ?_
                exact ih24 (i + 1) i (by omega) (by first | assumption | omega) (by first | assumption | omega) (by first | assumption | omega) (by first | exact bestN_s hbest (by omega) | exact bestN_k hbest (by omega) | exact bestN_1)
    refine J.sub [0, 3, 2, 1, 6, 7] (L' := [(5, .int (nI 1)), (2, .int (nI 0)), (3, .int (nI (fgnN K M gr 0 t 4))), (4, .int (nI (upN (K 0) (M (4 * 0 + t)) gr))), (0, .ref (E.1 + 0)), (1, .int (nI t))]) rfl ?_
    exact CUT24 (an - 1 + 1) 1 0 (Nat.lt_succ_self _) (by first | assumption | omega) (by first | assumption | omega) (by first | assumption | omega) (by first | exact bestN_s hbest (by omega) | exact bestN_k hbest (by omega) | exact bestN_1)

set_option maxHeartbeats 1000000 in
set_option maxRecDepth 100000 in
theorem ctX7_note_bad {E : jE} {h : Nat → va_E} {n : Nat} (a : Nat) (x : Nat) (y : Nat) (z : Nat) (ab : Nat) (be : Nat) (bd : Nat) (no : Nat) (fu : Nat) (an : Nat) (td : Nat) (gr : Nat) (H0 : h 0 = .inr (6, [.ref (E.1 + 1), .ref (E.1 + 12), .ref (E.1 + 23), .ref (E.1 + 24), .ref (E.1 + 30), .ref (E.1 + 34), .ref (E.1 + 37), .int (nI ab), .int (nI be), .int (nI bd), .int (nI no), .int (nI fu)])) (H1 : h 1 = .inr (5, [.ref (E.1 + 2), .ref (E.1 + 3), .ref (E.1 + 4), .ref (E.1 + 6), .ref (E.1 + 8), .int (nI an), .int (nI td), .int (nI gr)])) (hn : 38 ≤ n) (h32a : a < 2 ^ 32) (h32x : x < 2 ^ 32) (h32y : y < 2 ^ 32) (h32z : z < 2 ^ 32) (hn4 : an ≤ 4) (hbad : ¬ (a < an ∧ x ≤ 20 ∧ y ≤ 99 ∧ z ≤ 20)) : jC E mX7_note (3, 0, 0) [.ref (E.1 + 0), .int (nI a), .int (nI x), .int (nI y), .int (nI z)] h n (jR (some (.int (-2))) (hset h 0 (.inr (6, [.ref (E.1 + 1), .ref (E.1 + 12), .ref (E.1 + 23), .ref (E.1 + 24), .ref (E.1 + 30), .ref (E.1 + 34), .ref (E.1 + 37), .int (nI ab), .int (nI be), .int (nI (bd + 1)), .int (nI no), .int (nI fu)]))) n) := by
  refine J.of (L := [(0, .ref (E.1 + 0)), (1, .int (nI a)), (2, .int (nI x)), (3, .int (nI y)), (4, .int (nI z))]) rfl (by decide +kernel) (Nat.le_of_ble_eq_true rfl) ?_
  obtain ⟨PP, hPP⟩ : ∃ PP : jPost, PP = (jR (some (.int (-2))) (hset h 0 (.inr (6, [.ref (E.1 + 1), .ref (E.1 + 12), .ref (E.1 + 23), .ref (E.1 + 24), .ref (E.1 + 30), .ref (E.1 + 34), .ref (E.1 + 37), .int (nI ab), .int (nI be), .int (nI (bd + 1)), .int (nI no), .int (nI fu)]))) n) := ⟨_, rfl⟩
  rw [← hPP]
  refine J_aload_n dX7_note_0 rfl ?_
  refine J_get 0 dX7_note_1 jk7 (Nat.le_of_ble_eq_true rfl) jfRX7_10 H0 (by omega) rfl ?_
  refine J_iload_n dX7_note_4 rfl ?_
  refine J_callVr (M' := mX6_has) (d' := (1, 0, 0)) (rest := []) dX7_note_5 jmX6_has jlRX7_133 (ctX6_has 1 a an td gr H1 (by omega) (by first | assumption | omega) (by first | assumption | omega)) H1 (by omega) jk6.1 rfl rfl (Nat.le_of_ble_eq_true rfl) (Nat.le_of_ble_eq_true rfl) ⟨Nat.le_refl _, Nat.le_refl _⟩ ?_
  refine J_if_eqB (tgt := 36) dX7_note_8 (by decide) (fun c1 => ?_) (fun c1 => ?_)
  · skip
    refine J_aload_n dX7_note_36 rfl ?_
    refine J_bipush (v := (-2)) dX7_note_37 (by decide +kernel) ?_
    refine J_callVr (M' := mX7_refuse) (d' := (1, 0, 0)) (rest := []) dX7_note_39 jmX7_refuse jlRX7_59 (ctX7_refuse2 ab be bd no fu H0 (by omega) ) H0 (by omega) jk7.1 rfl rfl (Nat.le_of_ble_eq_true rfl) (Nat.le_of_ble_eq_true rfl) ⟨Nat.le_refl _, Nat.le_refl _⟩ ?_
    exact J_iret dX7_note_42 rfl ⟨Nat.le_refl _, Nat.le_refl _⟩ (by rw [hPP]; exact ⟨rfl, rfl, rfl⟩)
  · skip
    refine J_iload_n dX7_note_11 rfl ?_
    refine J_callSr (M' := mX7_isMemory) (d' := (2, 0, 0)) (rest := []) dX7_note_12 jmX7_isMemory jlRX7_74 (ctX7_isMemory x   (by first | assumption | omega)) rfl rfl (Nat.le_of_ble_eq_true rfl) (Nat.le_of_ble_eq_true rfl) ⟨Nat.le_refl _, Nat.le_refl _⟩ ?_
    refine J_if_eqB (tgt := 36) dX7_note_15 (by decide) (fun c2 => ?_) (fun c2 => ?_)
    · skip
      refine J_aload_n dX7_note_36 rfl ?_
      refine J_bipush (v := (-2)) dX7_note_37 (by decide +kernel) ?_
      refine J_callVr (M' := mX7_refuse) (d' := (1, 0, 0)) (rest := []) dX7_note_39 jmX7_refuse jlRX7_59 (ctX7_refuse2 ab be bd no fu H0 (by omega) ) H0 (by omega) jk7.1 rfl rfl (Nat.le_of_ble_eq_true rfl) (Nat.le_of_ble_eq_true rfl) ⟨Nat.le_refl _, Nat.le_refl _⟩ ?_
      exact J_iret dX7_note_42 rfl ⟨Nat.le_refl _, Nat.le_refl _⟩ (by rw [hPP]; exact ⟨rfl, rfl, rfl⟩)
    · skip
      refine J_iload_n dX7_note_18 rfl ?_
      refine J_iconst (v := nI 0) dX7_note_19 (by decide +kernel) ?_
      refine J_bipush (v := nI 99) dX7_note_20 (by decide +kernel) ?_
      refine J_callSr (M' := mX7_isWithin) (d' := (1, 0, 0)) (rest := []) dX7_note_22 jmX7_isWithin jlRX7_70 (ctX7_isWithin y 0 99   (by first | assumption | omega) (by first | assumption | omega) (by first | assumption | omega)) rfl rfl (Nat.le_of_ble_eq_true rfl) (Nat.le_of_ble_eq_true rfl) ⟨Nat.le_refl _, Nat.le_refl _⟩ ?_
      refine J_if_eqB (tgt := 36) dX7_note_25 (by decide) (fun c3 => ?_) (fun c3 => ?_)
      · skip
        refine J_aload_n dX7_note_36 rfl ?_
        refine J_bipush (v := (-2)) dX7_note_37 (by decide +kernel) ?_
        refine J_callVr (M' := mX7_refuse) (d' := (1, 0, 0)) (rest := []) dX7_note_39 jmX7_refuse jlRX7_59 (ctX7_refuse2 ab be bd no fu H0 (by omega) ) H0 (by omega) jk7.1 rfl rfl (Nat.le_of_ble_eq_true rfl) (Nat.le_of_ble_eq_true rfl) ⟨Nat.le_refl _, Nat.le_refl _⟩ ?_
        exact J_iret dX7_note_42 rfl ⟨Nat.le_refl _, Nat.le_refl _⟩ (by rw [hPP]; exact ⟨rfl, rfl, rfl⟩)
      · skip
        refine J_iload dX7_note_28 rfl ?_
        refine J_callSr (M' := mX7_isMemory) (d' := (2, 0, 0)) (rest := []) dX7_note_30 jmX7_isMemory jlRX7_74 (ctX7_isMemory z   (by first | assumption | omega)) rfl rfl (Nat.le_of_ble_eq_true rfl) (Nat.le_of_ble_eq_true rfl) ⟨Nat.le_refl _, Nat.le_refl _⟩ ?_
        refine J_if_neB (tgt := 43) dX7_note_33 (by decide) (fun c4 => (by exfalso; omega)) (fun c4 => ?_)
        refine J_aload_n dX7_note_36 rfl ?_
        refine J_bipush (v := (-2)) dX7_note_37 (by decide +kernel) ?_
        refine J_callVr (M' := mX7_refuse) (d' := (1, 0, 0)) (rest := []) dX7_note_39 jmX7_refuse jlRX7_59 (ctX7_refuse2 ab be bd no fu H0 (by omega) ) H0 (by omega) jk7.1 rfl rfl (Nat.le_of_ble_eq_true rfl) (Nat.le_of_ble_eq_true rfl) ⟨Nat.le_refl _, Nat.le_refl _⟩ ?_
        exact J_iret dX7_note_42 rfl ⟨Nat.le_refl _, Nat.le_refl _⟩ (by rw [hPP]; exact ⟨rfl, rfl, rfl⟩)

set_option maxHeartbeats 1000000 in
set_option maxRecDepth 100000 in
theorem ctX7_note_full {E : jE} {h : Nat → va_E} {n : Nat} (a : Nat) (x : Nat) (y : Nat) (z : Nat) (an : Nat) (td : Nat) (gr : Nat) (nn : Nat) (NC : Nat → Nat) (ab : Nat) (be : Nat) (bd : Nat) (no : Nat) (fu : Nat) (H0 : h 0 = .inr (6, [.ref (E.1 + 1), .ref (E.1 + 12), .ref (E.1 + 23), .ref (E.1 + 24), .ref (E.1 + 30), .ref (E.1 + 34), .ref (E.1 + 37), .int (nI ab), .int (nI be), .int (nI bd), .int (nI no), .int (nI fu)])) (H1 : h 1 = .inr (5, [.ref (E.1 + 2), .ref (E.1 + 3), .ref (E.1 + 4), .ref (E.1 + 6), .ref (E.1 + 8), .int (nI an), .int (nI td), .int (nI gr)])) (H2 : h 4 = .inr (3, [.ref (E.1 + 5), .int (nI nn)])) (H3 : h 5 = cI E 24 (nF NC)) (hn : 38 ≤ n) (hn4 : an ≤ 4) (ha : a < an) (hx : x ≤ 20) (hy : y ≤ 99) (hz : z ≤ 20) (hnn : nn = 6) : jC E mX7_note (3, 0, 0) [.ref (E.1 + 0), .int (nI a), .int (nI x), .int (nI y), .int (nI z)] h n (jR (some (.int (-4))) (hset h 0 (.inr (6, [.ref (E.1 + 1), .ref (E.1 + 12), .ref (E.1 + 23), .ref (E.1 + 24), .ref (E.1 + 30), .ref (E.1 + 34), .ref (E.1 + 37), .int (nI ab), .int (nI be), .int (nI bd), .int (nI no), .int (nI (fu + 1))]))) n) := by
  refine J.of (L := [(0, .ref (E.1 + 0)), (1, .int (nI a)), (2, .int (nI x)), (3, .int (nI y)), (4, .int (nI z))]) rfl (by decide +kernel) (Nat.le_of_ble_eq_true rfl) ?_
  obtain ⟨PP, hPP⟩ : ∃ PP : jPost, PP = (jR (some (.int (-4))) (hset h 0 (.inr (6, [.ref (E.1 + 1), .ref (E.1 + 12), .ref (E.1 + 23), .ref (E.1 + 24), .ref (E.1 + 30), .ref (E.1 + 34), .ref (E.1 + 37), .int (nI ab), .int (nI be), .int (nI bd), .int (nI no), .int (nI (fu + 1))]))) n) := ⟨_, rfl⟩
  rw [← hPP]
  refine J_aload_n dX7_note_0 rfl ?_
  refine J_get 0 dX7_note_1 jk7 (Nat.le_of_ble_eq_true rfl) jfRX7_10 H0 (by omega) rfl ?_
  refine J_iload_n dX7_note_4 rfl ?_
  refine J_callVr (M' := mX6_has) (d' := (1, 0, 0)) (rest := []) dX7_note_5 jmX6_has jlRX7_133 (ctX6_has 1 a an td gr H1 (by omega) (by first | assumption | omega) (by first | assumption | omega)) H1 (by omega) jk6.1 rfl rfl (Nat.le_of_ble_eq_true rfl) (Nat.le_of_ble_eq_true rfl) ⟨Nat.le_refl _, Nat.le_refl _⟩ ?_
  refine J_if_eqB (tgt := 36) dX7_note_8 (by decide) (fun c1 => (by exfalso; omega)) (fun c1 => ?_)
  refine J_iload_n dX7_note_11 rfl ?_
  refine J_callSr (M' := mX7_isMemory) (d' := (2, 0, 0)) (rest := []) dX7_note_12 jmX7_isMemory jlRX7_74 (ctX7_isMemory x   (by first | assumption | omega)) rfl rfl (Nat.le_of_ble_eq_true rfl) (Nat.le_of_ble_eq_true rfl) ⟨Nat.le_refl _, Nat.le_refl _⟩ ?_
  refine J_if_eqB (tgt := 36) dX7_note_15 (by decide) (fun c2 => (by exfalso; omega)) (fun c2 => ?_)
  refine J_iload_n dX7_note_18 rfl ?_
  refine J_iconst (v := nI 0) dX7_note_19 (by decide +kernel) ?_
  refine J_bipush (v := nI 99) dX7_note_20 (by decide +kernel) ?_
  refine J_callSr (M' := mX7_isWithin) (d' := (1, 0, 0)) (rest := []) dX7_note_22 jmX7_isWithin jlRX7_70 (ctX7_isWithin y 0 99   (by first | assumption | omega) (by first | assumption | omega) (by first | assumption | omega)) rfl rfl (Nat.le_of_ble_eq_true rfl) (Nat.le_of_ble_eq_true rfl) ⟨Nat.le_refl _, Nat.le_refl _⟩ ?_
  refine J_if_eqB (tgt := 36) dX7_note_25 (by decide) (fun c3 => (by exfalso; omega)) (fun c3 => ?_)
  refine J_iload dX7_note_28 rfl ?_
  refine J_callSr (M' := mX7_isMemory) (d' := (2, 0, 0)) (rest := []) dX7_note_30 jmX7_isMemory jlRX7_74 (ctX7_isMemory z   (by first | assumption | omega)) rfl rfl (Nat.le_of_ble_eq_true rfl) (Nat.le_of_ble_eq_true rfl) ⟨Nat.le_refl _, Nat.le_refl _⟩ ?_
  refine J_if_neB (tgt := 43) dX7_note_33 (by decide) (fun c4 => ?_) (fun c4 => (by exfalso; omega))
  refine J_aload_n dX7_note_43 rfl ?_
  refine J_get 0 dX7_note_44 jk7 (Nat.le_of_ble_eq_true rfl) jfRX7_10 H0 (by omega) rfl ?_
  refine J_get 2 dX7_note_47 jk6 (Nat.le_of_ble_eq_true rfl) jfRX7_184 H1 (by omega) rfl ?_
  refine J_iload_n dX7_note_50 rfl ?_
  refine J_iload_n dX7_note_51 rfl ?_
  refine J_iload_n dX7_note_52 rfl ?_
  refine J_iload dX7_note_53 rfl ?_
  refine J_callVr (M' := mX4_append) (d' := (1, 0, 0)) (rest := []) dX7_note_55 jmX4_append jlRX7_188 (ctX4_append0 4 a x y z nn NC H2 H3 (by omega) (by first | assumption | omega)) H2 (by omega) jk4.1 rfl rfl (Nat.le_of_ble_eq_true rfl) (Nat.le_of_ble_eq_true rfl) ⟨Nat.le_refl _, Nat.le_refl _⟩ ?_
  refine J_if_eqN (tgt := 74) dX7_note_58 (by decide) (by omega) (fun _ => ?_) (fun z => absurd z (by decide))
  refine J_aload_n dX7_note_74 rfl ?_
  refine J_bipush (v := (-4)) dX7_note_75 (by decide +kernel) ?_
  refine J_callVr (M' := mX7_refuse) (d' := (1, 0, 0)) (rest := []) dX7_note_77 jmX7_refuse jlRX7_59 (ctX7_refuse4 ab be bd no fu H0 (by omega) ) H0 (by omega) jk7.1 rfl rfl (Nat.le_of_ble_eq_true rfl) (Nat.le_of_ble_eq_true rfl) ⟨Nat.le_refl _, Nat.le_refl _⟩ ?_
  exact J_iret dX7_note_80 rfl ⟨Nat.le_refl _, Nat.le_refl _⟩ (by rw [hPP]; exact ⟨rfl, rfl, rfl⟩)

set_option maxHeartbeats 1000000 in
set_option maxRecDepth 100000 in
theorem ctX7_note {E : jE} {h : Nat → va_E} {n : Nat} (a : Nat) (x : Nat) (y : Nat) (z : Nat) (an : Nat) (td : Nat) (gr : Nat) (nn : Nat) (NC : Nat → Nat) (ab : Nat) (be : Nat) (bd : Nat) (no : Nat) (fu : Nat) (H0 : h 0 = .inr (6, [.ref (E.1 + 1), .ref (E.1 + 12), .ref (E.1 + 23), .ref (E.1 + 24), .ref (E.1 + 30), .ref (E.1 + 34), .ref (E.1 + 37), .int (nI ab), .int (nI be), .int (nI bd), .int (nI no), .int (nI fu)])) (H1 : h 1 = .inr (5, [.ref (E.1 + 2), .ref (E.1 + 3), .ref (E.1 + 4), .ref (E.1 + 6), .ref (E.1 + 8), .int (nI an), .int (nI td), .int (nI gr)])) (H2 : h 4 = .inr (3, [.ref (E.1 + 5), .int (nI nn)])) (H3 : h 5 = cI E 24 (nF NC)) (hn : 38 ≤ n) (hn4 : an ≤ 4) (ha : a < an) (hx : x ≤ 20) (hy : y ≤ 99) (hz : z ≤ 20) (hnn : nn < 6) : jC E mX7_note (3, 0, 0) [.ref (E.1 + 0), .int (nI a), .int (nI x), .int (nI y), .int (nI z)] h n (jR (some (.int (nI (nn + 1)))) (hset (hset h (4 + 1) (cI E 24 (nF (rowN NC nn a x y z)))) 4 (.inr (3, [.ref (E.1 + 5), .int (nI (nn + 1))]))) n) := by
  refine J.of (L := [(0, .ref (E.1 + 0)), (1, .int (nI a)), (2, .int (nI x)), (3, .int (nI y)), (4, .int (nI z))]) rfl (by decide +kernel) (Nat.le_of_ble_eq_true rfl) ?_
  obtain ⟨PP, hPP⟩ : ∃ PP : jPost, PP = (jR (some (.int (nI (nn + 1)))) (hset (hset h (4 + 1) (cI E 24 (nF (rowN NC nn a x y z)))) 4 (.inr (3, [.ref (E.1 + 5), .int (nI (nn + 1))]))) n) := ⟨_, rfl⟩
  rw [← hPP]
  refine J_aload_n dX7_note_0 rfl ?_
  refine J_get 0 dX7_note_1 jk7 (Nat.le_of_ble_eq_true rfl) jfRX7_10 H0 (by omega) rfl ?_
  refine J_iload_n dX7_note_4 rfl ?_
  refine J_callVr (M' := mX6_has) (d' := (1, 0, 0)) (rest := []) dX7_note_5 jmX6_has jlRX7_133 (ctX6_has 1 a an td gr H1 (by omega) (by first | assumption | omega) (by first | assumption | omega)) H1 (by omega) jk6.1 rfl rfl (Nat.le_of_ble_eq_true rfl) (Nat.le_of_ble_eq_true rfl) ⟨Nat.le_refl _, Nat.le_refl _⟩ ?_
  refine J_if_eqB (tgt := 36) dX7_note_8 (by decide) (fun c1 => (by exfalso; omega)) (fun c1 => ?_)
  refine J_iload_n dX7_note_11 rfl ?_
  refine J_callSr (M' := mX7_isMemory) (d' := (2, 0, 0)) (rest := []) dX7_note_12 jmX7_isMemory jlRX7_74 (ctX7_isMemory x   (by first | assumption | omega)) rfl rfl (Nat.le_of_ble_eq_true rfl) (Nat.le_of_ble_eq_true rfl) ⟨Nat.le_refl _, Nat.le_refl _⟩ ?_
  refine J_if_eqB (tgt := 36) dX7_note_15 (by decide) (fun c2 => (by exfalso; omega)) (fun c2 => ?_)
  refine J_iload_n dX7_note_18 rfl ?_
  refine J_iconst (v := nI 0) dX7_note_19 (by decide +kernel) ?_
  refine J_bipush (v := nI 99) dX7_note_20 (by decide +kernel) ?_
  refine J_callSr (M' := mX7_isWithin) (d' := (1, 0, 0)) (rest := []) dX7_note_22 jmX7_isWithin jlRX7_70 (ctX7_isWithin y 0 99   (by first | assumption | omega) (by first | assumption | omega) (by first | assumption | omega)) rfl rfl (Nat.le_of_ble_eq_true rfl) (Nat.le_of_ble_eq_true rfl) ⟨Nat.le_refl _, Nat.le_refl _⟩ ?_
  refine J_if_eqB (tgt := 36) dX7_note_25 (by decide) (fun c3 => (by exfalso; omega)) (fun c3 => ?_)
  refine J_iload dX7_note_28 rfl ?_
  refine J_callSr (M' := mX7_isMemory) (d' := (2, 0, 0)) (rest := []) dX7_note_30 jmX7_isMemory jlRX7_74 (ctX7_isMemory z   (by first | assumption | omega)) rfl rfl (Nat.le_of_ble_eq_true rfl) (Nat.le_of_ble_eq_true rfl) ⟨Nat.le_refl _, Nat.le_refl _⟩ ?_
  refine J_if_neB (tgt := 43) dX7_note_33 (by decide) (fun c4 => ?_) (fun c4 => (by exfalso; omega))
  refine J_aload_n dX7_note_43 rfl ?_
  refine J_get 0 dX7_note_44 jk7 (Nat.le_of_ble_eq_true rfl) jfRX7_10 H0 (by omega) rfl ?_
  refine J_get 2 dX7_note_47 jk6 (Nat.le_of_ble_eq_true rfl) jfRX7_184 H1 (by omega) rfl ?_
  refine J_iload_n dX7_note_50 rfl ?_
  refine J_iload_n dX7_note_51 rfl ?_
  refine J_iload_n dX7_note_52 rfl ?_
  refine J_iload dX7_note_53 rfl ?_
  refine J_callVr (M' := mX4_append) (d' := (1, 0, 0)) (rest := []) dX7_note_55 jmX4_append jlRX7_188 (ctX4_append1 4 a x y z nn NC H2 H3 (by omega) (by first | assumption | omega)) H2 (by omega) jk4.1 rfl rfl (Nat.le_of_ble_eq_true rfl) (Nat.le_of_ble_eq_true rfl) ⟨Nat.le_refl _, Nat.le_refl _⟩ ?_
  refine J_if_eqN (tgt := 74) dX7_note_58 (by decide) (by omega) (fun z => absurd z (by decide)) (fun _ => ?_)
  refine J_aload_n dX7_note_61 rfl ?_
  refine J_get 0 dX7_note_62 jk7 (Nat.le_of_ble_eq_true rfl) jfRX7_10 ((hset_ne (by omega)).trans ((hset_ne (by omega)).trans H0)) (by omega) rfl ?_
  refine J_get 2 dX7_note_65 jk6 (Nat.le_of_ble_eq_true rfl) jfRX7_184 ((hset_ne (by omega)).trans ((hset_ne (by omega)).trans H1)) (by omega) rfl ?_
  refine J_get 1 dX7_note_68 jk4 (Nat.le_of_ble_eq_true rfl) jfRX7_193 hset_eq (by omega) rfl ?_
  refine J_goto (tgt := 80) dX7_note_71 (by decide) ?_
  exact J_iret dX7_note_80 rfl ⟨Nat.le_refl _, Nat.le_refl _⟩ (by rw [hPP]; exact ⟨rfl, rfl, rfl⟩)

set_option maxHeartbeats 1000000 in
set_option maxRecDepth 100000 in
theorem ctX7_came_bad {E : jE} {h : Nat → va_E} {n : Nat} (a : Nat) (t : Nat) (x : Nat) (y : Nat) (ab : Nat) (be : Nat) (bd : Nat) (no : Nat) (fu : Nat) (an : Nat) (td : Nat) (gr : Nat) (H0 : h 0 = .inr (6, [.ref (E.1 + 1), .ref (E.1 + 12), .ref (E.1 + 23), .ref (E.1 + 24), .ref (E.1 + 30), .ref (E.1 + 34), .ref (E.1 + 37), .int (nI ab), .int (nI be), .int (nI bd), .int (nI no), .int (nI fu)])) (H1 : h 1 = .inr (5, [.ref (E.1 + 2), .ref (E.1 + 3), .ref (E.1 + 4), .ref (E.1 + 6), .ref (E.1 + 8), .int (nI an), .int (nI td), .int (nI gr)])) (hn : 38 ≤ n) (h32a : a < 2 ^ 32) (h32t : t < 2 ^ 32) (h32x : x < 2 ^ 32) (h32y : y < 2 ^ 32) (hn4 : an ≤ 4) (hbad : ¬ (a < an ∧ t ≤ 3 ∧ x ≤ 9 ∧ y ≤ 50)) : jC E mX7_came (4, 0, 0) [.ref (E.1 + 0), .int (nI a), .int (nI t), .int (nI x), .int (nI y)] h n (jR (some (.int (-2))) (hset h 0 (.inr (6, [.ref (E.1 + 1), .ref (E.1 + 12), .ref (E.1 + 23), .ref (E.1 + 24), .ref (E.1 + 30), .ref (E.1 + 34), .ref (E.1 + 37), .int (nI ab), .int (nI be), .int (nI (bd + 1)), .int (nI no), .int (nI fu)]))) n) := by
  refine J.of (L := [(0, .ref (E.1 + 0)), (1, .int (nI a)), (2, .int (nI t)), (3, .int (nI x)), (4, .int (nI y))]) rfl (by decide +kernel) (Nat.le_of_ble_eq_true rfl) ?_
  obtain ⟨PP, hPP⟩ : ∃ PP : jPost, PP = (jR (some (.int (-2))) (hset h 0 (.inr (6, [.ref (E.1 + 1), .ref (E.1 + 12), .ref (E.1 + 23), .ref (E.1 + 24), .ref (E.1 + 30), .ref (E.1 + 34), .ref (E.1 + 37), .int (nI ab), .int (nI be), .int (nI (bd + 1)), .int (nI no), .int (nI fu)]))) n) := ⟨_, rfl⟩
  rw [← hPP]
  refine J_aload_n dX7_came_0 rfl ?_
  refine J_iload_n dX7_came_1 rfl ?_
  refine J_iload_n dX7_came_2 rfl ?_
  refine J_callVr (M' := mX7_isPlace) (d' := (3, 0, 0)) (rest := []) dX7_came_3 jmX7_isPlace jlRX7_98 (ctX7_isPlace a t an td gr ab be bd no fu H0 H1 (by omega) (by first | assumption | omega) (by first | assumption | omega) (by first | assumption | omega)) H0 (by omega) jk7.1 rfl rfl (Nat.le_of_ble_eq_true rfl) (Nat.le_of_ble_eq_true rfl) ⟨Nat.le_refl _, Nat.le_refl _⟩ ?_
  refine J_if_eqB (tgt := 27) dX7_came_6 (by decide) (fun c1 => ?_) (fun c1 => ?_)
  · skip
    refine J_aload_n dX7_came_27 rfl ?_
    refine J_bipush (v := (-2)) dX7_came_28 (by decide +kernel) ?_
    refine J_callVr (M' := mX7_refuse) (d' := (1, 0, 0)) (rest := []) dX7_came_30 jmX7_refuse jlRX7_59 (ctX7_refuse2 ab be bd no fu H0 (by omega) ) H0 (by omega) jk7.1 rfl rfl (Nat.le_of_ble_eq_true rfl) (Nat.le_of_ble_eq_true rfl) ⟨Nat.le_refl _, Nat.le_refl _⟩ ?_
    exact J_iret dX7_came_33 rfl ⟨Nat.le_refl _, Nat.le_refl _⟩ (by rw [hPP]; exact ⟨rfl, rfl, rfl⟩)
  · skip
    refine J_iload_n dX7_came_9 rfl ?_
    refine J_callSr (M' := mX7_isHand) (d' := (2, 0, 0)) (rest := []) dX7_came_10 jmX7_isHand jlRX7_55 (ctX7_isHand x   (by first | assumption | omega)) rfl rfl (Nat.le_of_ble_eq_true rfl) (Nat.le_of_ble_eq_true rfl) ⟨Nat.le_refl _, Nat.le_refl _⟩ ?_
    refine J_if_eqB (tgt := 27) dX7_came_13 (by decide) (fun c2 => ?_) (fun c2 => ?_)
    · skip
      refine J_aload_n dX7_came_27 rfl ?_
      refine J_bipush (v := (-2)) dX7_came_28 (by decide +kernel) ?_
      refine J_callVr (M' := mX7_refuse) (d' := (1, 0, 0)) (rest := []) dX7_came_30 jmX7_refuse jlRX7_59 (ctX7_refuse2 ab be bd no fu H0 (by omega) ) H0 (by omega) jk7.1 rfl rfl (Nat.le_of_ble_eq_true rfl) (Nat.le_of_ble_eq_true rfl) ⟨Nat.le_refl _, Nat.le_refl _⟩ ?_
      exact J_iret dX7_came_33 rfl ⟨Nat.le_refl _, Nat.le_refl _⟩ (by rw [hPP]; exact ⟨rfl, rfl, rfl⟩)
    · skip
      refine J_iload dX7_came_16 rfl ?_
      refine J_iconst (v := nI 0) dX7_came_18 (by decide +kernel) ?_
      refine J_bipush (v := nI 50) dX7_came_19 (by decide +kernel) ?_
      refine J_callSr (M' := mX7_isWithin) (d' := (1, 0, 0)) (rest := []) dX7_came_21 jmX7_isWithin jlRX7_70 (ctX7_isWithin y 0 50   (by first | assumption | omega) (by first | assumption | omega) (by first | assumption | omega)) rfl rfl (Nat.le_of_ble_eq_true rfl) (Nat.le_of_ble_eq_true rfl) ⟨Nat.le_refl _, Nat.le_refl _⟩ ?_
      refine J_if_neB (tgt := 34) dX7_came_24 (by decide) (fun c3 => (by exfalso; omega)) (fun c3 => ?_)
      refine J_aload_n dX7_came_27 rfl ?_
      refine J_bipush (v := (-2)) dX7_came_28 (by decide +kernel) ?_
      refine J_callVr (M' := mX7_refuse) (d' := (1, 0, 0)) (rest := []) dX7_came_30 jmX7_refuse jlRX7_59 (ctX7_refuse2 ab be bd no fu H0 (by omega) ) H0 (by omega) jk7.1 rfl rfl (Nat.le_of_ble_eq_true rfl) (Nat.le_of_ble_eq_true rfl) ⟨Nat.le_refl _, Nat.le_refl _⟩ ?_
      exact J_iret dX7_came_33 rfl ⟨Nat.le_refl _, Nat.le_refl _⟩ (by rw [hPP]; exact ⟨rfl, rfl, rfl⟩)

set_option maxHeartbeats 1000000 in
set_option maxRecDepth 100000 in
theorem ctX7_came_full {E : jE} {h : Nat → va_E} {n : Nat} (a : Nat) (t : Nat) (x : Nat) (y : Nat) (an : Nat) (td : Nat) (gr : Nat) (cn : Nat) (CC : Nat → Nat) (ab : Nat) (be : Nat) (bd : Nat) (no : Nat) (fu : Nat) (H0 : h 0 = .inr (6, [.ref (E.1 + 1), .ref (E.1 + 12), .ref (E.1 + 23), .ref (E.1 + 24), .ref (E.1 + 30), .ref (E.1 + 34), .ref (E.1 + 37), .int (nI ab), .int (nI be), .int (nI bd), .int (nI no), .int (nI fu)])) (H1 : h 1 = .inr (5, [.ref (E.1 + 2), .ref (E.1 + 3), .ref (E.1 + 4), .ref (E.1 + 6), .ref (E.1 + 8), .int (nI an), .int (nI td), .int (nI gr)])) (H2 : h 6 = .inr (3, [.ref (E.1 + 7), .int (nI cn)])) (H3 : h 7 = cI E 24 (nF CC)) (hn : 38 ≤ n) (hn4 : an ≤ 4) (ha : a < an) (ht : t < 4) (hx : x ≤ 9) (hy : y ≤ 50) (hnn : cn = 6) : jC E mX7_came (4, 0, 0) [.ref (E.1 + 0), .int (nI a), .int (nI t), .int (nI x), .int (nI y)] h n (jR (some (.int (-4))) (hset h 0 (.inr (6, [.ref (E.1 + 1), .ref (E.1 + 12), .ref (E.1 + 23), .ref (E.1 + 24), .ref (E.1 + 30), .ref (E.1 + 34), .ref (E.1 + 37), .int (nI ab), .int (nI be), .int (nI bd), .int (nI no), .int (nI (fu + 1))]))) n) := by
  refine J.of (L := [(0, .ref (E.1 + 0)), (1, .int (nI a)), (2, .int (nI t)), (3, .int (nI x)), (4, .int (nI y))]) rfl (by decide +kernel) (Nat.le_of_ble_eq_true rfl) ?_
  obtain ⟨PP, hPP⟩ : ∃ PP : jPost, PP = (jR (some (.int (-4))) (hset h 0 (.inr (6, [.ref (E.1 + 1), .ref (E.1 + 12), .ref (E.1 + 23), .ref (E.1 + 24), .ref (E.1 + 30), .ref (E.1 + 34), .ref (E.1 + 37), .int (nI ab), .int (nI be), .int (nI bd), .int (nI no), .int (nI (fu + 1))]))) n) := ⟨_, rfl⟩
  rw [← hPP]
  refine J_aload_n dX7_came_0 rfl ?_
  refine J_iload_n dX7_came_1 rfl ?_
  refine J_iload_n dX7_came_2 rfl ?_
  refine J_callVr (M' := mX7_isPlace) (d' := (3, 0, 0)) (rest := []) dX7_came_3 jmX7_isPlace jlRX7_98 (ctX7_isPlace a t an td gr ab be bd no fu H0 H1 (by omega) (by first | assumption | omega) (by first | assumption | omega) (by first | assumption | omega)) H0 (by omega) jk7.1 rfl rfl (Nat.le_of_ble_eq_true rfl) (Nat.le_of_ble_eq_true rfl) ⟨Nat.le_refl _, Nat.le_refl _⟩ ?_
  refine J_if_eqB (tgt := 27) dX7_came_6 (by decide) (fun c1 => (by exfalso; omega)) (fun c1 => ?_)
  refine J_iload_n dX7_came_9 rfl ?_
  refine J_callSr (M' := mX7_isHand) (d' := (2, 0, 0)) (rest := []) dX7_came_10 jmX7_isHand jlRX7_55 (ctX7_isHand x   (by first | assumption | omega)) rfl rfl (Nat.le_of_ble_eq_true rfl) (Nat.le_of_ble_eq_true rfl) ⟨Nat.le_refl _, Nat.le_refl _⟩ ?_
  refine J_if_eqB (tgt := 27) dX7_came_13 (by decide) (fun c2 => (by exfalso; omega)) (fun c2 => ?_)
  refine J_iload dX7_came_16 rfl ?_
  refine J_iconst (v := nI 0) dX7_came_18 (by decide +kernel) ?_
  refine J_bipush (v := nI 50) dX7_came_19 (by decide +kernel) ?_
  refine J_callSr (M' := mX7_isWithin) (d' := (1, 0, 0)) (rest := []) dX7_came_21 jmX7_isWithin jlRX7_70 (ctX7_isWithin y 0 50   (by first | assumption | omega) (by first | assumption | omega) (by first | assumption | omega)) rfl rfl (Nat.le_of_ble_eq_true rfl) (Nat.le_of_ble_eq_true rfl) ⟨Nat.le_refl _, Nat.le_refl _⟩ ?_
  refine J_if_neB (tgt := 34) dX7_came_24 (by decide) (fun c3 => ?_) (fun c3 => (by exfalso; omega))
  refine J_aload_n dX7_came_34 rfl ?_
  refine J_get 0 dX7_came_35 jk7 (Nat.le_of_ble_eq_true rfl) jfRX7_10 H0 (by omega) rfl ?_
  refine J_get 3 dX7_came_38 jk6 (Nat.le_of_ble_eq_true rfl) jfRX7_194 H1 (by omega) rfl ?_
  refine J_iload_n dX7_came_41 rfl ?_
  refine J_iload_n dX7_came_42 rfl ?_
  refine J_iload_n dX7_came_43 rfl ?_
  refine J_iload dX7_came_44 rfl ?_
  refine J_callVr (M' := mX4_append) (d' := (1, 0, 0)) (rest := []) dX7_came_46 jmX4_append jlRX7_188 (ctX4_append0 6 a t x y cn CC H2 H3 (by omega) (by first | assumption | omega)) H2 (by omega) jk4.1 rfl rfl (Nat.le_of_ble_eq_true rfl) (Nat.le_of_ble_eq_true rfl) ⟨Nat.le_refl _, Nat.le_refl _⟩ ?_
  refine J_if_eqN (tgt := 65) dX7_came_49 (by decide) (by omega) (fun _ => ?_) (fun z => absurd z (by decide))
  refine J_aload_n dX7_came_65 rfl ?_
  refine J_bipush (v := (-4)) dX7_came_66 (by decide +kernel) ?_
  refine J_callVr (M' := mX7_refuse) (d' := (1, 0, 0)) (rest := []) dX7_came_68 jmX7_refuse jlRX7_59 (ctX7_refuse4 ab be bd no fu H0 (by omega) ) H0 (by omega) jk7.1 rfl rfl (Nat.le_of_ble_eq_true rfl) (Nat.le_of_ble_eq_true rfl) ⟨Nat.le_refl _, Nat.le_refl _⟩ ?_
  exact J_iret dX7_came_71 rfl ⟨Nat.le_refl _, Nat.le_refl _⟩ (by rw [hPP]; exact ⟨rfl, rfl, rfl⟩)

set_option maxHeartbeats 1000000 in
set_option maxRecDepth 100000 in
theorem ctX7_came {E : jE} {h : Nat → va_E} {n : Nat} (a : Nat) (t : Nat) (x : Nat) (y : Nat) (an : Nat) (td : Nat) (gr : Nat) (cn : Nat) (CC : Nat → Nat) (ab : Nat) (be : Nat) (bd : Nat) (no : Nat) (fu : Nat) (H0 : h 0 = .inr (6, [.ref (E.1 + 1), .ref (E.1 + 12), .ref (E.1 + 23), .ref (E.1 + 24), .ref (E.1 + 30), .ref (E.1 + 34), .ref (E.1 + 37), .int (nI ab), .int (nI be), .int (nI bd), .int (nI no), .int (nI fu)])) (H1 : h 1 = .inr (5, [.ref (E.1 + 2), .ref (E.1 + 3), .ref (E.1 + 4), .ref (E.1 + 6), .ref (E.1 + 8), .int (nI an), .int (nI td), .int (nI gr)])) (H2 : h 6 = .inr (3, [.ref (E.1 + 7), .int (nI cn)])) (H3 : h 7 = cI E 24 (nF CC)) (hn : 38 ≤ n) (hn4 : an ≤ 4) (ha : a < an) (ht : t < 4) (hx : x ≤ 9) (hy : y ≤ 50) (hnn : cn < 6) : jC E mX7_came (4, 0, 0) [.ref (E.1 + 0), .int (nI a), .int (nI t), .int (nI x), .int (nI y)] h n (jR (some (.int (nI (cn + 1)))) (hset (hset h (6 + 1) (cI E 24 (nF (rowN CC cn a t x y)))) 6 (.inr (3, [.ref (E.1 + 7), .int (nI (cn + 1))]))) n) := by
  refine J.of (L := [(0, .ref (E.1 + 0)), (1, .int (nI a)), (2, .int (nI t)), (3, .int (nI x)), (4, .int (nI y))]) rfl (by decide +kernel) (Nat.le_of_ble_eq_true rfl) ?_
  obtain ⟨PP, hPP⟩ : ∃ PP : jPost, PP = (jR (some (.int (nI (cn + 1)))) (hset (hset h (6 + 1) (cI E 24 (nF (rowN CC cn a t x y)))) 6 (.inr (3, [.ref (E.1 + 7), .int (nI (cn + 1))]))) n) := ⟨_, rfl⟩
  rw [← hPP]
  refine J_aload_n dX7_came_0 rfl ?_
  refine J_iload_n dX7_came_1 rfl ?_
  refine J_iload_n dX7_came_2 rfl ?_
  refine J_callVr (M' := mX7_isPlace) (d' := (3, 0, 0)) (rest := []) dX7_came_3 jmX7_isPlace jlRX7_98 (ctX7_isPlace a t an td gr ab be bd no fu H0 H1 (by omega) (by first | assumption | omega) (by first | assumption | omega) (by first | assumption | omega)) H0 (by omega) jk7.1 rfl rfl (Nat.le_of_ble_eq_true rfl) (Nat.le_of_ble_eq_true rfl) ⟨Nat.le_refl _, Nat.le_refl _⟩ ?_
  refine J_if_eqB (tgt := 27) dX7_came_6 (by decide) (fun c1 => (by exfalso; omega)) (fun c1 => ?_)
  refine J_iload_n dX7_came_9 rfl ?_
  refine J_callSr (M' := mX7_isHand) (d' := (2, 0, 0)) (rest := []) dX7_came_10 jmX7_isHand jlRX7_55 (ctX7_isHand x   (by first | assumption | omega)) rfl rfl (Nat.le_of_ble_eq_true rfl) (Nat.le_of_ble_eq_true rfl) ⟨Nat.le_refl _, Nat.le_refl _⟩ ?_
  refine J_if_eqB (tgt := 27) dX7_came_13 (by decide) (fun c2 => (by exfalso; omega)) (fun c2 => ?_)
  refine J_iload dX7_came_16 rfl ?_
  refine J_iconst (v := nI 0) dX7_came_18 (by decide +kernel) ?_
  refine J_bipush (v := nI 50) dX7_came_19 (by decide +kernel) ?_
  refine J_callSr (M' := mX7_isWithin) (d' := (1, 0, 0)) (rest := []) dX7_came_21 jmX7_isWithin jlRX7_70 (ctX7_isWithin y 0 50   (by first | assumption | omega) (by first | assumption | omega) (by first | assumption | omega)) rfl rfl (Nat.le_of_ble_eq_true rfl) (Nat.le_of_ble_eq_true rfl) ⟨Nat.le_refl _, Nat.le_refl _⟩ ?_
  refine J_if_neB (tgt := 34) dX7_came_24 (by decide) (fun c3 => ?_) (fun c3 => (by exfalso; omega))
  refine J_aload_n dX7_came_34 rfl ?_
  refine J_get 0 dX7_came_35 jk7 (Nat.le_of_ble_eq_true rfl) jfRX7_10 H0 (by omega) rfl ?_
  refine J_get 3 dX7_came_38 jk6 (Nat.le_of_ble_eq_true rfl) jfRX7_194 H1 (by omega) rfl ?_
  refine J_iload_n dX7_came_41 rfl ?_
  refine J_iload_n dX7_came_42 rfl ?_
  refine J_iload_n dX7_came_43 rfl ?_
  refine J_iload dX7_came_44 rfl ?_
  refine J_callVr (M' := mX4_append) (d' := (1, 0, 0)) (rest := []) dX7_came_46 jmX4_append jlRX7_188 (ctX4_append1 6 a t x y cn CC H2 H3 (by omega) (by first | assumption | omega)) H2 (by omega) jk4.1 rfl rfl (Nat.le_of_ble_eq_true rfl) (Nat.le_of_ble_eq_true rfl) ⟨Nat.le_refl _, Nat.le_refl _⟩ ?_
  refine J_if_eqN (tgt := 65) dX7_came_49 (by decide) (by omega) (fun z => absurd z (by decide)) (fun _ => ?_)
  refine J_aload_n dX7_came_52 rfl ?_
  refine J_get 0 dX7_came_53 jk7 (Nat.le_of_ble_eq_true rfl) jfRX7_10 ((hset_ne (by omega)).trans ((hset_ne (by omega)).trans H0)) (by omega) rfl ?_
  refine J_get 3 dX7_came_56 jk6 (Nat.le_of_ble_eq_true rfl) jfRX7_194 ((hset_ne (by omega)).trans ((hset_ne (by omega)).trans H1)) (by omega) rfl ?_
  refine J_get 1 dX7_came_59 jk4 (Nat.le_of_ble_eq_true rfl) jfRX7_193 hset_eq (by omega) rfl ?_
  refine J_goto (tgt := 71) dX7_came_62 (by decide) ?_
  exact J_iret dX7_came_71 rfl ⟨Nat.le_refl _, Nat.le_refl _⟩ (by rw [hPP]; exact ⟨rfl, rfl, rfl⟩)

set_option maxHeartbeats 1000000 in
set_option maxRecDepth 100000 in
theorem ctX7_forget_bad {E : jE} {h : Nat → va_E} {n : Nat} (x : Nat) (ab : Nat) (be : Nat) (bd : Nat) (no : Nat) (fu : Nat) (H0 : h 0 = .inr (6, [.ref (E.1 + 1), .ref (E.1 + 12), .ref (E.1 + 23), .ref (E.1 + 24), .ref (E.1 + 30), .ref (E.1 + 34), .ref (E.1 + 37), .int (nI ab), .int (nI be), .int (nI bd), .int (nI no), .int (nI fu)])) (hn : 38 ≤ n) (h32x : x < 2 ^ 32) (hbad : ¬ x ≤ 1) : jC E mX7_forget (2, 0, 0) [.ref (E.1 + 0), .int (nI x)] h n (jR (some (.int (-2))) (hset h 0 (.inr (6, [.ref (E.1 + 1), .ref (E.1 + 12), .ref (E.1 + 23), .ref (E.1 + 24), .ref (E.1 + 30), .ref (E.1 + 34), .ref (E.1 + 37), .int (nI ab), .int (nI be), .int (nI (bd + 1)), .int (nI no), .int (nI fu)]))) n) := by
  refine J.of (L := [(0, .ref (E.1 + 0)), (1, .int (nI x))]) rfl (by decide +kernel) (Nat.le_of_ble_eq_true rfl) ?_
  obtain ⟨PP, hPP⟩ : ∃ PP : jPost, PP = (jR (some (.int (-2))) (hset h 0 (.inr (6, [.ref (E.1 + 1), .ref (E.1 + 12), .ref (E.1 + 23), .ref (E.1 + 24), .ref (E.1 + 30), .ref (E.1 + 34), .ref (E.1 + 37), .int (nI ab), .int (nI be), .int (nI (bd + 1)), .int (nI no), .int (nI fu)]))) n) := ⟨_, rfl⟩
  rw [← hPP]
  refine J_iload_n dX7_forget_0 rfl ?_
  refine J_iconst (v := nI 0) dX7_forget_1 (by decide +kernel) ?_
  refine J_iconst (v := nI 1) dX7_forget_2 (by decide +kernel) ?_
  refine J_callSr (M' := mX7_isWithin) (d' := (1, 0, 0)) (rest := []) dX7_forget_3 jmX7_isWithin jlRX7_70 (ctX7_isWithin x 0 1   (by first | assumption | omega) (by first | assumption | omega) (by first | assumption | omega)) rfl rfl (Nat.le_of_ble_eq_true rfl) (Nat.le_of_ble_eq_true rfl) ⟨Nat.le_refl _, Nat.le_refl _⟩ ?_
  refine J_if_neB (tgt := 16) dX7_forget_6 (by decide) (fun c1 => (by exfalso; omega)) (fun c1 => ?_)
  refine J_aload_n dX7_forget_9 rfl ?_
  refine J_bipush (v := (-2)) dX7_forget_10 (by decide +kernel) ?_
  refine J_callVr (M' := mX7_refuse) (d' := (1, 0, 0)) (rest := []) dX7_forget_12 jmX7_refuse jlRX7_59 (ctX7_refuse2 ab be bd no fu H0 (by omega) ) H0 (by omega) jk7.1 rfl rfl (Nat.le_of_ble_eq_true rfl) (Nat.le_of_ble_eq_true rfl) ⟨Nat.le_refl _, Nat.le_refl _⟩ ?_
  exact J_iret dX7_forget_15 rfl ⟨Nat.le_refl _, Nat.le_refl _⟩ (by rw [hPP]; exact ⟨rfl, rfl, rfl⟩)

set_option maxHeartbeats 1000000 in
set_option maxRecDepth 100000 in
theorem ctX7_forget_0 {E : jE} {h : Nat → va_E} {n : Nat} (an : Nat) (td : Nat) (gr : Nat) (nn : Nat) (cn : Nat) (ab : Nat) (be : Nat) (bd : Nat) (no : Nat) (fu : Nat) (H0 : h 0 = .inr (6, [.ref (E.1 + 1), .ref (E.1 + 12), .ref (E.1 + 23), .ref (E.1 + 24), .ref (E.1 + 30), .ref (E.1 + 34), .ref (E.1 + 37), .int (nI ab), .int (nI be), .int (nI bd), .int (nI no), .int (nI fu)])) (H1 : h 1 = .inr (5, [.ref (E.1 + 2), .ref (E.1 + 3), .ref (E.1 + 4), .ref (E.1 + 6), .ref (E.1 + 8), .int (nI an), .int (nI td), .int (nI gr)])) (H2 : h 4 = .inr (3, [.ref (E.1 + 5), .int (nI nn)])) (H3 : h 6 = .inr (3, [.ref (E.1 + 7), .int (nI cn)])) (hn : 38 ≤ n) : jC E mX7_forget (2, 0, 0) [.ref (E.1 + 0), .int (nI 0)] h n (jR (some (.int (nI nn))) (hset h 4 (.inr (3, [.ref (E.1 + 5), .int (nI 0)]))) n) := by
  refine J.of (L := [(0, .ref (E.1 + 0)), (1, .int (nI 0))]) rfl (by decide +kernel) (Nat.le_of_ble_eq_true rfl) ?_
  obtain ⟨PP, hPP⟩ : ∃ PP : jPost, PP = (jR (some (.int (nI nn))) (hset h 4 (.inr (3, [.ref (E.1 + 5), .int (nI 0)]))) n) := ⟨_, rfl⟩
  rw [← hPP]
  refine J_iload_n dX7_forget_0 rfl ?_
  refine J_iconst (v := nI 0) dX7_forget_1 (by decide +kernel) ?_
  refine J_iconst (v := nI 1) dX7_forget_2 (by decide +kernel) ?_
  refine J_callSr (M' := mX7_isWithin) (d' := (1, 0, 0)) (rest := []) dX7_forget_3 jmX7_isWithin jlRX7_70 (ctX7_isWithin 0 0 1   (by first | assumption | omega) (by first | assumption | omega) (by first | assumption | omega)) rfl rfl (Nat.le_of_ble_eq_true rfl) (Nat.le_of_ble_eq_true rfl) ⟨Nat.le_refl _, Nat.le_refl _⟩ ?_
  refine J_if_neB (tgt := 16) dX7_forget_6 (by decide) (fun c1 => ?_) (fun c1 => (by exfalso; omega))
  refine J_iload_n dX7_forget_16 rfl ?_
  refine J_if_neN (tgt := 30) dX7_forget_17 (by decide) (by omega) (fun z => absurd z (by decide)) (fun _ => ?_)
  refine J_aload_n dX7_forget_20 rfl ?_
  refine J_get 0 dX7_forget_21 jk7 (Nat.le_of_ble_eq_true rfl) jfRX7_10 H0 (by omega) rfl ?_
  refine J_get 2 dX7_forget_24 jk6 (Nat.le_of_ble_eq_true rfl) jfRX7_184 H1 (by omega) rfl ?_
  refine J_goto (tgt := 37) dX7_forget_27 (by decide) ?_
  refine J_astore_n dX7_forget_37 (Nat.le_of_ble_eq_true rfl) (L' := [(2, .ref (E.1 + 4)), (0, .ref (E.1 + 0)), (1, .int (nI 0))]) rfl ?_
  refine J_aload_n dX7_forget_38 rfl ?_
  refine J_get 1 dX7_forget_39 jk4 (Nat.le_of_ble_eq_true rfl) jfRX7_193 H2 (by omega) rfl ?_
  refine J_istore_n dX7_forget_42 (Nat.le_of_ble_eq_true rfl) (L' := [(3, .int (nI nn)), (2, .ref (E.1 + 4)), (0, .ref (E.1 + 0)), (1, .int (nI 0))]) rfl ?_
  refine J_aload_n dX7_forget_43 rfl ?_
  refine J_iconst (v := nI 0) dX7_forget_44 (by decide +kernel) ?_
  refine J_put 1 dX7_forget_45 jk4 (Nat.le_of_ble_eq_true rfl) jfRX7_193 H2 (by omega) rfl rfl rfl (Nat.le_of_ble_eq_true rfl) ?_
  refine J.cast (h' := (hset h 4 (.inr (3, [.ref (E.1 + 5), .int (nI 0)])))) rfl ?_
  refine J_iload_n dX7_forget_48 rfl ?_
  exact J_iret dX7_forget_49 rfl ⟨Nat.le_refl _, Nat.le_refl _⟩ (by rw [hPP]; exact ⟨rfl, rfl, rfl⟩)

set_option maxHeartbeats 1000000 in
set_option maxRecDepth 100000 in
theorem ctX7_forget_1 {E : jE} {h : Nat → va_E} {n : Nat} (an : Nat) (td : Nat) (gr : Nat) (nn : Nat) (cn : Nat) (ab : Nat) (be : Nat) (bd : Nat) (no : Nat) (fu : Nat) (H0 : h 0 = .inr (6, [.ref (E.1 + 1), .ref (E.1 + 12), .ref (E.1 + 23), .ref (E.1 + 24), .ref (E.1 + 30), .ref (E.1 + 34), .ref (E.1 + 37), .int (nI ab), .int (nI be), .int (nI bd), .int (nI no), .int (nI fu)])) (H1 : h 1 = .inr (5, [.ref (E.1 + 2), .ref (E.1 + 3), .ref (E.1 + 4), .ref (E.1 + 6), .ref (E.1 + 8), .int (nI an), .int (nI td), .int (nI gr)])) (H2 : h 4 = .inr (3, [.ref (E.1 + 5), .int (nI nn)])) (H3 : h 6 = .inr (3, [.ref (E.1 + 7), .int (nI cn)])) (hn : 38 ≤ n) : jC E mX7_forget (2, 0, 0) [.ref (E.1 + 0), .int (nI 1)] h n (jR (some (.int (nI cn))) (hset h 6 (.inr (3, [.ref (E.1 + 7), .int (nI 0)]))) n) := by
  refine J.of (L := [(0, .ref (E.1 + 0)), (1, .int (nI 1))]) rfl (by decide +kernel) (Nat.le_of_ble_eq_true rfl) ?_
  obtain ⟨PP, hPP⟩ : ∃ PP : jPost, PP = (jR (some (.int (nI cn))) (hset h 6 (.inr (3, [.ref (E.1 + 7), .int (nI 0)]))) n) := ⟨_, rfl⟩
  rw [← hPP]
  refine J_iload_n dX7_forget_0 rfl ?_
  refine J_iconst (v := nI 0) dX7_forget_1 (by decide +kernel) ?_
  refine J_iconst (v := nI 1) dX7_forget_2 (by decide +kernel) ?_
  refine J_callSr (M' := mX7_isWithin) (d' := (1, 0, 0)) (rest := []) dX7_forget_3 jmX7_isWithin jlRX7_70 (ctX7_isWithin 1 0 1   (by first | assumption | omega) (by first | assumption | omega) (by first | assumption | omega)) rfl rfl (Nat.le_of_ble_eq_true rfl) (Nat.le_of_ble_eq_true rfl) ⟨Nat.le_refl _, Nat.le_refl _⟩ ?_
  refine J_if_neB (tgt := 16) dX7_forget_6 (by decide) (fun c1 => ?_) (fun c1 => (by exfalso; omega))
  refine J_iload_n dX7_forget_16 rfl ?_
  refine J_if_neN (tgt := 30) dX7_forget_17 (by decide) (by omega) (fun _ => ?_) (fun z => absurd z (by decide))
  refine J_aload_n dX7_forget_30 rfl ?_
  refine J_get 0 dX7_forget_31 jk7 (Nat.le_of_ble_eq_true rfl) jfRX7_10 H0 (by omega) rfl ?_
  refine J_get 3 dX7_forget_34 jk6 (Nat.le_of_ble_eq_true rfl) jfRX7_194 H1 (by omega) rfl ?_
  refine J_astore_n dX7_forget_37 (Nat.le_of_ble_eq_true rfl) (L' := [(2, .ref (E.1 + 6)), (0, .ref (E.1 + 0)), (1, .int (nI 1))]) rfl ?_
  refine J_aload_n dX7_forget_38 rfl ?_
  refine J_get 1 dX7_forget_39 jk4 (Nat.le_of_ble_eq_true rfl) jfRX7_193 H3 (by omega) rfl ?_
  refine J_istore_n dX7_forget_42 (Nat.le_of_ble_eq_true rfl) (L' := [(3, .int (nI cn)), (2, .ref (E.1 + 6)), (0, .ref (E.1 + 0)), (1, .int (nI 1))]) rfl ?_
  refine J_aload_n dX7_forget_43 rfl ?_
  refine J_iconst (v := nI 0) dX7_forget_44 (by decide +kernel) ?_
  refine J_put 1 dX7_forget_45 jk4 (Nat.le_of_ble_eq_true rfl) jfRX7_193 H3 (by omega) rfl rfl rfl (Nat.le_of_ble_eq_true rfl) ?_
  refine J.cast (h' := (hset h 6 (.inr (3, [.ref (E.1 + 7), .int (nI 0)])))) rfl ?_
  refine J_iload_n dX7_forget_48 rfl ?_
  exact J_iret dX7_forget_49 rfl ⟨Nat.le_refl _, Nat.le_refl _⟩ (by rw [hPP]; exact ⟨rfl, rfl, rfl⟩)
