set_option maxHeartbeats 1000000 in
set_option maxRecDepth 100000 in
theorem ctX1_gained {E : jE} {h : Nat → va_E} {n : Nat} (r : Nat) (own : Nat) (other : Nat) (F : Nat → Int32) (H0 : h r = cI E 4 F) (hn : r < n) (ho : own < 4) (ho2 : other < 4) : jC E mX1_gained (1, 0, 0) [.ref (E.1 + r), .int (nI own), .int (nI other)] h n (jR (some (.int (gnI F own other))) h n) := by
  refine J.of (L := [(0, .ref (E.1 + r)), (1, .int (nI own)), (2, .int (nI other))]) rfl (by decide +kernel) (Nat.le_of_ble_eq_true rfl) ?_
  obtain ⟨PP, hPP⟩ : ∃ PP : jPost, PP = (jR (some (.int (gnI F own other))) h n) := ⟨_, rfl⟩
  rw [← hPP]
  refine J_iload_n dX1_gained_0 rfl ?_
  refine J_iload_n dX1_gained_1 rfl ?_
  refine J_icmp_neN (tgt := 13) dX1_gained_2 (by decide) (by omega) (by omega) (fun c1 => ?_) (fun c1 => ?_)
  · skip
    refine J_aload_n dX1_gained_13 rfl ?_
    refine J_iload_n dX1_gained_14 rfl ?_
    refine J_ialdF (i := own) dX1_gained_15 H0 (by omega) (by omega) (by omega) ?_
    exact J_iret dX1_gained_16 rfl ⟨Nat.le_refl _, Nat.le_refl _⟩ (by rw [hPP]; exact ⟨(congrArg some (jv_I (by first | exact gnI_t (by assumption) | exact gnI_f (by assumption)))), rfl, rfl⟩)
  · skip
    refine J_aload_n dX1_gained_5 rfl ?_
    refine J_iload_n dX1_gained_6 rfl ?_
    refine J_ialdF (i := own) dX1_gained_7 H0 (by omega) (by omega) (by omega) ?_
    refine J_iconst (v := nI 2) dX1_gained_8 (by decide +kernel) ?_
    refine J_idiv dX1_gained_9 (by decide +kernel) ?_
    refine J_goto (tgt := 16) dX1_gained_10 (by decide) ?_
    exact J_iret dX1_gained_16 rfl ⟨Nat.le_refl _, Nat.le_refl _⟩ (by rw [hPP]; exact ⟨(congrArg some (jv_I (by first | exact gnI_t (by assumption) | exact gnI_f (by assumption)))), rfl, rfl⟩)

set_option maxHeartbeats 1000000 in
set_option maxRecDepth 100000 in
theorem ctX1_isBestAgainst {E : jE} {h : Nat → va_E} {n : Nat} (r : Nat) (own : Nat) (other : Nat) (ka : Nat) (F : Nat → Int32) (H0 : h 34 = .inr (0, [.ref (E.1 + 35), .ref (E.1 + 36), .int (nI ka)])) (H1 : h r = cI E 4 F) (hn : 38 ≤ n ∧ r < 38) (hka : ka ≤ 4) (ho : own < 4) (ho2 : other < 4) : jC E mX1_isBestAgainst (2, 0, 0) [.ref (E.1 + 34), .ref (E.1 + r), .int (nI own), .int (nI other)] h n (jR (some (.int (jb (bestG F own other ka)))) h n) := by
  refine J.of (L := [(0, .ref (E.1 + 34)), (1, .ref (E.1 + r)), (2, .int (nI own)), (3, .int (nI other))]) rfl (by decide +kernel) (Nat.le_of_ble_eq_true rfl) ?_
  obtain ⟨PP, hPP⟩ : ∃ PP : jPost, PP = (jR (some (.int (jb (bestG F own other ka)))) h n) := ⟨_, rfl⟩
  rw [← hPP]
  refine J_aload_n dX1_isBestAgainst_0 rfl ?_
  refine J_iload_n dX1_isBestAgainst_1 rfl ?_
  refine J_iload_n dX1_isBestAgainst_2 rfl ?_
  refine J_callSr (M' := mX1_gained) (d' := (1, 0, 0)) (rest := []) dX1_isBestAgainst_3 jmX1_gained jlRX1_33 (ctX1_gained r own other F H1 (by omega) (by first | assumption | omega) (by first | assumption | omega)) rfl rfl (Nat.le_of_ble_eq_true rfl) (Nat.le_of_ble_eq_true rfl) ⟨Nat.le_refl _, Nat.le_refl _⟩ ?_
  refine J_istore dX1_isBestAgainst_6 (Nat.le_of_ble_eq_true rfl) (L' := [(4, .int (gnI F own other)), (0, .ref (E.1 + 34)), (1, .ref (E.1 + r)), (2, .int (nI own)), (3, .int (nI other))]) rfl ?_
  refine J_iconst (v := nI 0) dX1_isBestAgainst_8 (by decide +kernel) ?_
  refine J_istore dX1_isBestAgainst_9 (Nat.le_of_ble_eq_true rfl) (L' := [(5, .int (nI 0)), (4, .int (gnI F own other)), (0, .ref (E.1 + 34)), (1, .ref (E.1 + r)), (2, .int (nI own)), (3, .int (nI other))]) rfl ?_
  have CUT11 : ∀ (f11 : Nat) (i : Nat) (hm11 : ka - i < f11) (hi : i ≤ ka) (hb : bestG F own other i), J E mX1_isBestAgainst (2, 0, 0) jS0 PP h n (0, 0) 11 [(5, .int (nI i)), (4, .int (gnI F own other)), (0, .ref (E.1 + 34)), (1, .ref (E.1 + r)), (2, .int (nI own)), (3, .int (nI other))] [] := by
    intro f11
    induction f11 with
    | zero => intro i hm11; exact absurd hm11 (Nat.not_lt_zero _)
    | succ f11 ih11 =>
      intro i hm11 hi hb
      refine J_iload dX1_isBestAgainst_11 rfl ?_
      refine J_aload_n dX1_isBestAgainst_13 rfl ?_
      refine J_get 2 dX1_isBestAgainst_14 jk1 (Nat.le_of_ble_eq_true rfl) jfRX1_24 H0 (by omega) rfl ?_
      refine J_icmp_geN (tgt := 40) dX1_isBestAgainst_17 (by decide) (by omega) (by omega) (fun c1 => ?_) (fun c1 => ?_)
      · skip
        refine J_iconst (v := nI 1) dX1_isBestAgainst_40 (by decide +kernel) ?_
        exact J_zret dX1_isBestAgainst_41 rfl rfl ⟨Nat.le_refl _, Nat.le_refl _⟩ (by rw [hPP]; exact ⟨(congrArg some (Option.some.inj (jret_B1 (by first | (rw [← show i = ka by omega]; exact hb) | exact (fun q => absurd (q i (by omega)) (by assumption)))))), rfl, rfl⟩)
      · skip
        refine J_aload_n dX1_isBestAgainst_20 rfl ?_
        refine J_iload dX1_isBestAgainst_21 rfl ?_
        refine J_iload_n dX1_isBestAgainst_23 rfl ?_
        refine J_callSr (M' := mX1_gained) (d' := (1, 0, 0)) (rest := []) dX1_isBestAgainst_24 jmX1_gained jlRX1_33 (ctX1_gained r i other F H1 (by omega) (by first | assumption | omega) (by first | assumption | omega)) rfl rfl (Nat.le_of_ble_eq_true rfl) (Nat.le_of_ble_eq_true rfl) ⟨Nat.le_refl _, Nat.le_refl _⟩ ?_
        refine J_iload dX1_isBestAgainst_27 rfl ?_
        refine J_icmp_le (tgt := 34) dX1_isBestAgainst_29 (by decide) (fun c2 => ?_) (fun c2 => ?_)
        · skip
          refine J_iincN (q := 0) (a := i) (m := 1) dX1_isBestAgainst_34 rfl (by decide +kernel) (Nat.le_of_ble_eq_true rfl) (L' := [(5, .int (nI (i + 1))), (4, .int (gnI F own other)), (0, .ref (E.1 + 34)), (1, .ref (E.1 + r)), (2, .int (nI own)), (3, .int (nI other))]) rfl ?_
          refine J_goto (tgt := 11) dX1_isBestAgainst_37 (by decide) ?_
          exact ih11 (i + 1) (by omega) (by first | assumption | omega) (by first | exact (fun k hk => absurd hk (Nat.not_lt_zero k)) | exact lt_step hb (by assumption))
        · skip
          refine J_iconst (v := nI 0) dX1_isBestAgainst_32 (by decide +kernel) ?_
          exact J_zret dX1_isBestAgainst_33 rfl rfl ⟨Nat.le_refl _, Nat.le_refl _⟩ (by rw [hPP]; exact ⟨(congrArg some (Option.some.inj (jret_B0 (by first | (rw [← show i = ka by omega]; exact hb) | exact (fun q => absurd (q i (by omega)) (by assumption)))))), rfl, rfl⟩)
  exact CUT11 (ka - 0 + 1) 0 (Nat.lt_succ_self _) (by first | assumption | omega) (by first | exact (fun k hk => absurd hk (Nat.not_lt_zero k)) | exact lt_step hb (by assumption))

set_option maxHeartbeats 1000000 in
set_option maxRecDepth 100000 in
theorem ctX1_rests {E : jE} {h : Nat → va_E} {n : Nat} (i : Nat) (j : Nat) (ka : Nat) (F1 : Nat → Int32) (F2 : Nat → Int32) (H0 : h 34 = .inr (0, [.ref (E.1 + 35), .ref (E.1 + 36), .int (nI ka)])) (H1 : h 35 = cI E 4 F1) (H2 : h 36 = cI E 4 F2) (hn : 38 ≤ n) (hka : ka ≤ 4) (hi : i < 4) (hj : j < 4) : jC E mX1_rests (3, 0, 0) [.ref (E.1 + 34), .int (nI i), .int (nI j)] h n (jR (some (.int (jb (rstP F1 F2 i j ka)))) h n) := by
  refine J.of (L := [(0, .ref (E.1 + 34)), (1, .int (nI i)), (2, .int (nI j))]) rfl (by decide +kernel) (Nat.le_of_ble_eq_true rfl) ?_
  obtain ⟨PP, hPP⟩ : ∃ PP : jPost, PP = (jR (some (.int (jb (rstP F1 F2 i j ka)))) h n) := ⟨_, rfl⟩
  rw [← hPP]
  refine J_aload_n dX1_rests_0 rfl ?_
  refine J_aload_n dX1_rests_1 rfl ?_
  refine J_get 0 dX1_rests_2 jk1 (Nat.le_of_ble_eq_true rfl) jfRX1_9 H0 (by omega) rfl ?_
  refine J_iload_n dX1_rests_5 rfl ?_
  refine J_iload_n dX1_rests_6 rfl ?_
  refine J_callVr (M' := mX1_isBestAgainst) (d' := (2, 0, 0)) (rest := []) dX1_rests_7 jmX1_isBestAgainst jlRX1_29 (ctX1_isBestAgainst 35 i j ka F1 H0 H1 (by omega) (by first | assumption | omega) (by first | assumption | omega) (by first | assumption | omega)) H0 (by omega) jk1.1 rfl rfl (Nat.le_of_ble_eq_true rfl) (Nat.le_of_ble_eq_true rfl) ⟨Nat.le_refl _, Nat.le_refl _⟩ ?_
  refine J_if_eqB (tgt := 30) dX1_rests_10 (by decide) (fun c1 => ?_) (fun c1 => ?_)
  · skip
    refine J_iconst (v := nI 0) dX1_rests_30 (by decide +kernel) ?_
    exact J_zret dX1_rests_31 rfl rfl ⟨Nat.le_refl _, Nat.le_refl _⟩ (by rw [hPP]; exact ⟨(congrArg some (Option.some.inj (jret_B0 (by first | exact rst_of (by assumption) (by assumption) | exact rst_1 (by assumption) | exact rst_2 (by assumption))))), rfl, rfl⟩)
  · skip
    refine J_aload_n dX1_rests_13 rfl ?_
    refine J_aload_n dX1_rests_14 rfl ?_
    refine J_get 1 dX1_rests_15 jk1 (Nat.le_of_ble_eq_true rfl) jfRX1_15 H0 (by omega) rfl ?_
    refine J_iload_n dX1_rests_18 rfl ?_
    refine J_iload_n dX1_rests_19 rfl ?_
    refine J_callVr (M' := mX1_isBestAgainst) (d' := (2, 0, 0)) (rest := []) dX1_rests_20 jmX1_isBestAgainst jlRX1_29 (ctX1_isBestAgainst 36 j i ka F2 H0 H2 (by omega) (by first | assumption | omega) (by first | assumption | omega) (by first | assumption | omega)) H0 (by omega) jk1.1 rfl rfl (Nat.le_of_ble_eq_true rfl) (Nat.le_of_ble_eq_true rfl) ⟨Nat.le_refl _, Nat.le_refl _⟩ ?_
    refine J_if_eqB (tgt := 30) dX1_rests_23 (by decide) (fun c2 => ?_) (fun c2 => ?_)
    · skip
      refine J_iconst (v := nI 0) dX1_rests_30 (by decide +kernel) ?_
      exact J_zret dX1_rests_31 rfl rfl ⟨Nat.le_refl _, Nat.le_refl _⟩ (by rw [hPP]; exact ⟨(congrArg some (Option.some.inj (jret_B0 (by first | exact rst_of (by assumption) (by assumption) | exact rst_1 (by assumption) | exact rst_2 (by assumption))))), rfl, rfl⟩)
    · skip
      refine J_iconst (v := nI 1) dX1_rests_26 (by decide +kernel) ?_
      refine J_goto (tgt := 31) dX1_rests_27 (by decide) ?_
      exact J_zret dX1_rests_31 rfl rfl ⟨Nat.le_refl _, Nat.le_refl _⟩ (by rw [hPP]; exact ⟨(congrArg some (Option.some.inj (jret_B1 (by first | exact rst_of (by assumption) (by assumption) | exact rst_1 (by assumption) | exact rst_2 (by assumption))))), rfl, rfl⟩)

set_option maxHeartbeats 1000000 in
set_option maxRecDepth 100000 in
theorem ctX1_open {E : jE} {h : Nat → va_E} {n : Nat} (s : Nat) (t : Nat) (an : Nat) (td : Nat) (gr : Nat) (K : Nat → Nat) (M : Nat → Nat) (ka : Nat) (F1 : Nat → Int32) (F2 : Nat → Int32) (H0 : h 34 = .inr (0, [.ref (E.1 + 35), .ref (E.1 + 36), .int (nI ka)])) (H1 : h 35 = cI E 4 F1) (H2 : h 36 = cI E 4 F2) (H3 : h 1 = .inr (5, [.ref (E.1 + 2), .ref (E.1 + 3), .ref (E.1 + 4), .ref (E.1 + 6), .ref (E.1 + 8), .int (nI an), .int (nI td), .int (nI gr)])) (H4 : h 2 = cI E 4 (nF K)) (H5 : h 3 = cI E 16 (nF M)) (hn : 38 ≤ n) (hK : ∀ zz, K zz ≤ 5) (hM : ∀ zz, M zz ≤ 20) (hg : gr ≤ 9) (hn4 : an ≤ 4) (hs : s < 4) (ht : t < 4) : jC E mX1_open (4, 0, 0) [.ref (E.1 + 34), .ref (E.1 + 1), .int (nI s), .int (nI t)] h n (jR none (hset (hset (hset h 34 (.inr (0, [.ref (E.1 + 35), .ref (E.1 + 36), .int (nI an)]))) 35 (cI E 4 (gF K M gr s an F1))) 36 (cI E 4 (gF K M gr t an F2))) n) := by
  refine J.of (L := [(0, .ref (E.1 + 34)), (1, .ref (E.1 + 1)), (2, .int (nI s)), (3, .int (nI t))]) rfl (by decide +kernel) (Nat.le_of_ble_eq_true rfl) ?_
  obtain ⟨PP, hPP⟩ : ∃ PP : jPost, PP = (jR none (hset (hset (hset h 34 (.inr (0, [.ref (E.1 + 35), .ref (E.1 + 36), .int (nI an)]))) 35 (cI E 4 (gF K M gr s an F1))) 36 (cI E 4 (gF K M gr t an F2))) n) := ⟨_, rfl⟩
  rw [← hPP]
  refine J_aload_n dX1_open_0 rfl ?_
  refine J_aload_n dX1_open_1 rfl ?_
  refine J_get 5 dX1_open_2 jk6 (Nat.le_of_ble_eq_true rfl) jfRX1_18 H3 (by omega) rfl ?_
  refine J_put 2 dX1_open_5 jk1 (Nat.le_of_ble_eq_true rfl) jfRX1_24 H0 (by omega) rfl rfl rfl (Nat.le_of_ble_eq_true rfl) ?_
  refine J.cast (h' := (hset h 34 (.inr (0, [.ref (E.1 + 35), .ref (E.1 + 36), .int (nI an)])))) rfl ?_
  refine J_iconst (v := nI 0) dX1_open_8 (by decide +kernel) ?_
  refine J_istore dX1_open_9 (Nat.le_of_ble_eq_true rfl) (L' := [(4, .int (nI 0)), (0, .ref (E.1 + 34)), (1, .ref (E.1 + 1)), (2, .int (nI s)), (3, .int (nI t))]) rfl ?_
  have CUT11 : ∀ (f11 : Nat) (i : Nat) (hm11 : an - i < f11) (hi : i ≤ an), J E mX1_open (4, 0, 0) jS0 PP (hset (hset (hset h 34 (.inr (0, [.ref (E.1 + 35), .ref (E.1 + 36), .int (nI an)]))) 35 (cI E 4 (gF K M gr s i F1))) 36 (cI E 4 (gF K M gr t i F2))) n (0, 0) 11 [(4, .int (nI i)), (0, .ref (E.1 + 34)), (1, .ref (E.1 + 1)), (2, .int (nI s)), (3, .int (nI t))] [] := by
    intro f11
    induction f11 with
    | zero => intro i hm11; exact absurd hm11 (Nat.not_lt_zero _)
    | succ f11 ih11 =>
      intro i hm11 hi
      refine J_iload dX1_open_11 rfl ?_
      refine J_aload_n dX1_open_13 rfl ?_
      refine J_get 2 dX1_open_14 jk1 (Nat.le_of_ble_eq_true rfl) jfRX1_24 ((hset_ne (by omega)).trans ((hset_ne (by omega)).trans hset_eq)) (by omega) rfl ?_
      refine J_icmp_geN (tgt := 60) dX1_open_17 (by decide) (by omega) (by omega) (fun c1 => ?_) (fun c1 => ?_)
      · skip
        exact J_vret dX1_open_60 rfl ⟨Nat.le_refl _, Nat.le_refl _⟩ (by rw [hPP]; exact ⟨rfl, (hset_cg (hset_cg (hset_cg rfl rfl) (by rw [show i = an by omega])) (by rw [show i = an by omega])), rfl⟩)
      · skip
        refine J_aload_n dX1_open_20 rfl ?_
        refine J_get 0 dX1_open_21 jk1 (Nat.le_of_ble_eq_true rfl) jfRX1_9 ((hset_ne (by omega)).trans ((hset_ne (by omega)).trans hset_eq)) (by omega) rfl ?_
        refine J_iload dX1_open_24 rfl ?_
        refine J_bipush (v := nI 20) dX1_open_26 (by decide +kernel) ?_
        refine J_aload_n dX1_open_28 rfl ?_
        refine J_iload dX1_open_29 rfl ?_
        refine J_iload_n dX1_open_31 rfl ?_
        refine J_callVr (M' := mX6_unwanted) (d' := (3, 0, 0)) (rest := [.int (nI 20), .int (nI i), .ref (E.1 + 35)]) dX1_open_32 jmX6_unwanted jlRX1_25 (ctX6_unwanted 1 i s an td gr K M ((hset_ne (by omega)).trans ((hset_ne (by omega)).trans ((hset_ne (by omega)).trans H3))) ((hset_ne (by omega)).trans ((hset_ne (by omega)).trans ((hset_ne (by omega)).trans H4))) ((hset_ne (by omega)).trans ((hset_ne (by omega)).trans ((hset_ne (by omega)).trans H5))) (by omega) (by first | assumption | omega) (by first | assumption | omega) (by first | assumption | omega) (by first | assumption | omega) (by first | assumption | omega)) ((hset_ne (by omega)).trans ((hset_ne (by omega)).trans ((hset_ne (by omega)).trans H3))) (by omega) jk6.1 rfl rfl (Nat.le_of_ble_eq_true rfl) (Nat.le_of_ble_eq_true rfl) ⟨Nat.le_refl _, Nat.le_refl _⟩ ?_
        have fc2 : fgnN K M gr i s 4 ≤ 42 * 4 := fgnN_le (show ∀ zz, M zz ≤ 20 from by first | assumption | omega) 4
        refine J_isub dX1_open_35 ?_
        refine J_iastF dX1_open_36 ((hset_ne (by omega)).trans hset_eq) (by omega) (by omega) (by omega) ?_
        refine J.cast ((hset_comm (by omega)).trans (hset_cg hset_hset rfl)) ?_
        refine J_aload_n dX1_open_37 rfl ?_
        refine J_get 1 dX1_open_38 jk1 (Nat.le_of_ble_eq_true rfl) jfRX1_15 ((hset_ne (by omega)).trans ((hset_ne (by omega)).trans hset_eq)) (by omega) rfl ?_
        refine J_iload dX1_open_41 rfl ?_
        refine J_bipush (v := nI 20) dX1_open_43 (by decide +kernel) ?_
        refine J_aload_n dX1_open_45 rfl ?_
        refine J_iload dX1_open_46 rfl ?_
        refine J_iload_n dX1_open_48 rfl ?_
        refine J_callVr (M' := mX6_unwanted) (d' := (3, 0, 0)) (rest := [.int (nI 20), .int (nI i), .ref (E.1 + 36)]) dX1_open_49 jmX6_unwanted jlRX1_25 (ctX6_unwanted 1 i t an td gr K M ((hset_ne (by omega)).trans ((hset_ne (by omega)).trans ((hset_ne (by omega)).trans H3))) ((hset_ne (by omega)).trans ((hset_ne (by omega)).trans ((hset_ne (by omega)).trans H4))) ((hset_ne (by omega)).trans ((hset_ne (by omega)).trans ((hset_ne (by omega)).trans H5))) (by omega) (by first | assumption | omega) (by first | assumption | omega) (by first | assumption | omega) (by first | assumption | omega) (by first | assumption | omega)) ((hset_ne (by omega)).trans ((hset_ne (by omega)).trans ((hset_ne (by omega)).trans H3))) (by omega) jk6.1 rfl rfl (Nat.le_of_ble_eq_true rfl) (Nat.le_of_ble_eq_true rfl) ⟨Nat.le_refl _, Nat.le_refl _⟩ ?_
        have fc3 : fgnN K M gr i t 4 ≤ 42 * 4 := fgnN_le (show ∀ zz, M zz ≤ 20 from by first | assumption | omega) 4
        refine J_isub dX1_open_52 ?_
        refine J_iastF dX1_open_53 hset_eq (by omega) (by omega) (by omega) ?_
        refine J.cast hset_hset ?_
        refine J_iincN (q := 0) (a := i) (m := 1) dX1_open_54 rfl (by decide +kernel) (Nat.le_of_ble_eq_true rfl) (L' := [(4, .int (nI (i + 1))), (0, .ref (E.1 + 34)), (1, .ref (E.1 + 1)), (2, .int (nI s)), (3, .int (nI t))]) rfl ?_
        refine J_goto (tgt := 11) dX1_open_57 (by decide) ?_
        refine J.eqs (h' := (hset (hset (hset h 34 (.inr (0, [.ref (E.1 + 35), .ref (E.1 + 36), .int (nI an)]))) 35 (cI E 4 (gF K M gr s (i + 1) F1))) 36 (cI E 4 (gF K M gr t (i + 1) F2)))) (L' := [(4, .int (nI (i + 1))), (0, .ref (E.1 + 34)), (1, .ref (E.1 + 1)), (2, .int (nI s)), (3, .int (nI t))]) (st' := []) (hset_cg (hset_cg (hset_cg rfl rfl) (by first | exact congrArg (cI E 4) gF_0 | exact congrArg (cI E 4) gF_s)) (by first | exact congrArg (cI E 4) gF_0 | exact congrArg (cI E 4) gF_s)) rfl rfl ?_
        exact ih11 (i + 1) (by omega) (by first | assumption | omega)
  refine J.eqs (h' := (hset (hset (hset h 34 (.inr (0, [.ref (E.1 + 35), .ref (E.1 + 36), .int (nI an)]))) 35 (cI E 4 (gF K M gr s 0 F1))) 36 (cI E 4 (gF K M gr t 0 F2)))) (L' := [(4, .int (nI 0)), (0, .ref (E.1 + 34)), (1, .ref (E.1 + 1)), (2, .int (nI s)), (3, .int (nI t))]) (st' := []) ((show (hset h 34 (.inr (0, [.ref (E.1 + 35), .ref (E.1 + 36), .int (nI an)]))) = (hset (hset (hset h 34 (.inr (0, [.ref (E.1 + 35), .ref (E.1 + 36), .int (nI an)]))) 35 (cI E 4 F1)) 36 (cI E 4 F2)) by funext z; simp only [hset]; (repeat' split) <;> first | rfl | (exfalso; omega) | (subst_vars; first | exact H1 | exact H2)).trans (hset_cg (hset_cg (hset_cg rfl rfl) (by first | exact congrArg (cI E 4) gF_0 | exact congrArg (cI E 4) gF_s)) (by first | exact congrArg (cI E 4) gF_0 | exact congrArg (cI E 4) gF_s))) rfl rfl ?_
  exact CUT11 (an - 0 + 1) 0 (Nat.lt_succ_self _) (by first | assumption | omega)

set_option maxHeartbeats 1000000 in
set_option maxRecDepth 100000 in
theorem ctX7_two_bad {E : jE} {h : Nat → va_E} {n : Nat} (s : Nat) (t : Nat) (k : Nat) (ab : Nat) (be : Nat) (bd : Nat) (no : Nat) (fu : Nat) (H0 : h 0 = .inr (6, [.ref (E.1 + 1), .ref (E.1 + 12), .ref (E.1 + 23), .ref (E.1 + 24), .ref (E.1 + 30), .ref (E.1 + 34), .ref (E.1 + 37), .int (nI ab), .int (nI be), .int (nI bd), .int (nI no), .int (nI fu)])) (hn : 38 ≤ n) (h32s : s < 2 ^ 32) (h32t : t < 2 ^ 32) (h32k : k < 2 ^ 32) (hbad : ¬ (s ≤ 3 ∧ t ≤ 3 ∧ (k < 2 ^ 31 ∨ k = 4294967295))) : jC E mX7_two (5, 0, 0) [.ref (E.1 + 0), .int (nI s), .int (nI t), .int (nI k)] h n (jR (some (.int (-10))) (hset h 0 (.inr (6, [.ref (E.1 + 1), .ref (E.1 + 12), .ref (E.1 + 23), .ref (E.1 + 24), .ref (E.1 + 30), .ref (E.1 + 34), .ref (E.1 + 37), .int (nI ab), .int (nI be), .int (nI (bd + 1)), .int (nI no), .int (nI fu)]))) n) := by
  refine J.of (L := [(0, .ref (E.1 + 0)), (1, .int (nI s)), (2, .int (nI t)), (3, .int (nI k))]) rfl (by decide +kernel) (Nat.le_of_ble_eq_true rfl) ?_
  obtain ⟨PP, hPP⟩ : ∃ PP : jPost, PP = (jR (some (.int (-10))) (hset h 0 (.inr (6, [.ref (E.1 + 1), .ref (E.1 + 12), .ref (E.1 + 23), .ref (E.1 + 24), .ref (E.1 + 30), .ref (E.1 + 34), .ref (E.1 + 37), .int (nI ab), .int (nI be), .int (nI (bd + 1)), .int (nI no), .int (nI fu)]))) n) := ⟨_, rfl⟩
  rw [← hPP]
  refine J_iload_n dX7_two_0 rfl ?_
  refine J_callSr (M' := mX7_isTemper) (d' := (2, 0, 0)) (rest := []) dX7_two_1 jmX7_isTemper jlRX7_163 (ctX7_isTemper s   (by first | assumption | omega)) rfl rfl (Nat.le_of_ble_eq_true rfl) (Nat.le_of_ble_eq_true rfl) ⟨Nat.le_refl _, Nat.le_refl _⟩ ?_
  refine J_if_eqB (tgt := 19) dX7_two_4 (by decide) (fun c1 => ?_) (fun c1 => ?_)
  · skip
    refine J_aload_n dX7_two_19 rfl ?_
    refine J_callVr (M' := mX7_refuseTenBelow) (d' := (2, 0, 0)) (rest := []) dX7_two_20 jmX7_refuseTenBelow jlRX7_169 (ctX7_refuseTenBelow ab be bd no fu H0 (by omega) ) H0 (by omega) jk7.1 rfl rfl (Nat.le_of_ble_eq_true rfl) (Nat.le_of_ble_eq_true rfl) ⟨Nat.le_refl _, Nat.le_refl _⟩ ?_
    exact J_iret dX7_two_23 rfl ⟨Nat.le_refl _, Nat.le_refl _⟩ (by rw [hPP]; exact ⟨rfl, rfl, rfl⟩)
  · skip
    refine J_iload_n dX7_two_7 rfl ?_
    refine J_callSr (M' := mX7_isTemper) (d' := (2, 0, 0)) (rest := []) dX7_two_8 jmX7_isTemper jlRX7_163 (ctX7_isTemper t   (by first | assumption | omega)) rfl rfl (Nat.le_of_ble_eq_true rfl) (Nat.le_of_ble_eq_true rfl) ⟨Nat.le_refl _, Nat.le_refl _⟩ ?_
    refine J_if_eqB (tgt := 19) dX7_two_11 (by decide) (fun c2 => ?_) (fun c2 => ?_)
    · skip
      refine J_aload_n dX7_two_19 rfl ?_
      refine J_callVr (M' := mX7_refuseTenBelow) (d' := (2, 0, 0)) (rest := []) dX7_two_20 jmX7_refuseTenBelow jlRX7_169 (ctX7_refuseTenBelow ab be bd no fu H0 (by omega) ) H0 (by omega) jk7.1 rfl rfl (Nat.le_of_ble_eq_true rfl) (Nat.le_of_ble_eq_true rfl) ⟨Nat.le_refl _, Nat.le_refl _⟩ ?_
      exact J_iret dX7_two_23 rfl ⟨Nat.le_refl _, Nat.le_refl _⟩ (by rw [hPP]; exact ⟨rfl, rfl, rfl⟩)
    · skip
      refine J_iload_n dX7_two_14 rfl ?_
      refine J_iconst (v := (-1)) dX7_two_15 (by decide +kernel) ?_
      refine J_icmp_geV (tgt := 24) dX7_two_16 (by decide) (by omega) (fun c3 => (by exfalso; omega)) (fun c3 => ?_)
      refine J_aload_n dX7_two_19 rfl ?_
      refine J_callVr (M' := mX7_refuseTenBelow) (d' := (2, 0, 0)) (rest := []) dX7_two_20 jmX7_refuseTenBelow jlRX7_169 (ctX7_refuseTenBelow ab be bd no fu H0 (by omega) ) H0 (by omega) jk7.1 rfl rfl (Nat.le_of_ble_eq_true rfl) (Nat.le_of_ble_eq_true rfl) ⟨Nat.le_refl _, Nat.le_refl _⟩ ?_
      exact J_iret dX7_two_23 rfl ⟨Nat.le_refl _, Nat.le_refl _⟩ (by rw [hPP]; exact ⟨rfl, rfl, rfl⟩)

set_option maxHeartbeats 1000000 in
set_option maxRecDepth 100000 in
theorem ctX7_two_n {E : jE} {h : Nat → va_E} {n : Nat} (s : Nat) (t : Nat) (k : Nat) (an : Nat) (td : Nat) (gr : Nat) (K : Nat → Nat) (M : Nat → Nat) (ka : Nat) (ab : Nat) (be : Nat) (bd : Nat) (no : Nat) (fu : Nat) (F1 : Nat → Int32) (F2 : Nat → Int32) (H0 : h 0 = .inr (6, [.ref (E.1 + 1), .ref (E.1 + 12), .ref (E.1 + 23), .ref (E.1 + 24), .ref (E.1 + 30), .ref (E.1 + 34), .ref (E.1 + 37), .int (nI ab), .int (nI be), .int (nI bd), .int (nI no), .int (nI fu)])) (H1 : h 34 = .inr (0, [.ref (E.1 + 35), .ref (E.1 + 36), .int (nI ka)])) (H2 : h 35 = cI E 4 F1) (H3 : h 36 = cI E 4 F2) (H4 : h 1 = .inr (5, [.ref (E.1 + 2), .ref (E.1 + 3), .ref (E.1 + 4), .ref (E.1 + 6), .ref (E.1 + 8), .int (nI an), .int (nI td), .int (nI gr)])) (H5 : h 2 = cI E 4 (nF K)) (H6 : h 3 = cI E 16 (nF M)) (hn : 38 ≤ n) (hK : ∀ zz, K zz ≤ 5) (hM : ∀ zz, M zz ≤ 20) (hg : gr ≤ 9) (hn4 : an ≤ 4) (hs : s < 4) (ht : t < 4) (hk : k = 4294967295) : jC E mX7_two (5, 0, 0) [.ref (E.1 + 0), .int (nI s), .int (nI t), .int (nI k)] h n (jR (some (.int (nI ((allT (fun x1 x2 => rstP (gF K M gr s an F1) (gF K M gr t an F2) x1 x2 an) k an an).1)))) (hset (hset (hset h 34 (.inr (0, [.ref (E.1 + 35), .ref (E.1 + 36), .int (nI an)]))) 35 (cI E 4 (gF K M gr s an F1))) 36 (cI E 4 (gF K M gr t an F2))) n) := by
  refine J.of (L := [(0, .ref (E.1 + 0)), (1, .int (nI s)), (2, .int (nI t)), (3, .int (nI k))]) rfl (by decide +kernel) (Nat.le_of_ble_eq_true rfl) ?_
  obtain ⟨PP, hPP⟩ : ∃ PP : jPost, PP = (jR (some (.int (nI ((allT (fun x1 x2 => rstP (gF K M gr s an F1) (gF K M gr t an F2) x1 x2 an) k an an).1)))) (hset (hset (hset h 34 (.inr (0, [.ref (E.1 + 35), .ref (E.1 + 36), .int (nI an)]))) 35 (cI E 4 (gF K M gr s an F1))) 36 (cI E 4 (gF K M gr t an F2))) n) := ⟨_, rfl⟩
  rw [← hPP]
  refine J_iload_n dX7_two_0 rfl ?_
  refine J_callSr (M' := mX7_isTemper) (d' := (2, 0, 0)) (rest := []) dX7_two_1 jmX7_isTemper jlRX7_163 (ctX7_isTemper s   (by first | assumption | omega)) rfl rfl (Nat.le_of_ble_eq_true rfl) (Nat.le_of_ble_eq_true rfl) ⟨Nat.le_refl _, Nat.le_refl _⟩ ?_
  refine J_if_eqB (tgt := 19) dX7_two_4 (by decide) (fun c1 => (by exfalso; omega)) (fun c1 => ?_)
  refine J_iload_n dX7_two_7 rfl ?_
  refine J_callSr (M' := mX7_isTemper) (d' := (2, 0, 0)) (rest := []) dX7_two_8 jmX7_isTemper jlRX7_163 (ctX7_isTemper t   (by first | assumption | omega)) rfl rfl (Nat.le_of_ble_eq_true rfl) (Nat.le_of_ble_eq_true rfl) ⟨Nat.le_refl _, Nat.le_refl _⟩ ?_
  refine J_if_eqB (tgt := 19) dX7_two_11 (by decide) (fun c2 => (by exfalso; omega)) (fun c2 => ?_)
  refine J_iload_n dX7_two_14 rfl ?_
  refine J_iconst (v := (-1)) dX7_two_15 (by decide +kernel) ?_
  refine J_icmp_geV (tgt := 24) dX7_two_16 (by decide) (by omega) (fun c3 => ?_) (fun c3 => (by exfalso; omega))
  refine J_aload_n dX7_two_24 rfl ?_
  refine J_get 5 dX7_two_25 jk7 (Nat.le_of_ble_eq_true rfl) jfRX7_40 H0 (by omega) rfl ?_
  refine J_aload_n dX7_two_28 rfl ?_
  refine J_get 0 dX7_two_29 jk7 (Nat.le_of_ble_eq_true rfl) jfRX7_10 H0 (by omega) rfl ?_
  refine J_iload_n dX7_two_32 rfl ?_
  refine J_iload_n dX7_two_33 rfl ?_
  refine J_callVn (M' := mX1_open) (d' := (4, 0, 0)) (rest := []) dX7_two_34 jmX1_open jlRX7_209 (ctX1_open s t an td gr K M ka F1 F2 H1 H2 H3 H4 H5 H6 (by omega) (by first | assumption | omega) (by first | assumption | omega) (by first | assumption | omega) (by first | assumption | omega) (by first | assumption | omega) (by first | assumption | omega)) H1 (by omega) jk1.1 rfl rfl (Nat.le_of_ble_eq_true rfl) (Nat.le_of_ble_eq_true rfl) ⟨Nat.le_refl _, Nat.le_refl _⟩ ?_
  refine J_iconst (v := nI 0) dX7_two_37 (by decide +kernel) ?_
  refine J_istore dX7_two_38 (Nat.le_of_ble_eq_true rfl) (L' := [(4, .int (nI 0)), (0, .ref (E.1 + 0)), (1, .int (nI s)), (2, .int (nI t)), (3, .int (nI k))]) rfl ?_
  refine J_iconst (v := nI 0) dX7_two_40 (by decide +kernel) ?_
  refine J_istore dX7_two_41 (Nat.le_of_ble_eq_true rfl) (L' := [(5, .int (nI 0)), (4, .int (nI 0)), (0, .ref (E.1 + 0)), (1, .int (nI s)), (2, .int (nI t)), (3, .int (nI k))]) rfl ?_
  have CUT43 : ∀ (f43 : Nat) (i : Nat) (hm43 : an - i < f43) (hi : i ≤ an), J E mX7_two (5, 0, 0) jS0 PP (hset (hset (hset h 34 (.inr (0, [.ref (E.1 + 35), .ref (E.1 + 36), .int (nI an)]))) 35 (cI E 4 (gF K M gr s an F1))) 36 (cI E 4 (gF K M gr t an F2))) n (0, 0) 43 [(5, .int (nI i)), (4, .int (nI ((allT (fun x1 x2 => rstP (gF K M gr s an F1) (gF K M gr t an F2) x1 x2 an) k an i).1))), (0, .ref (E.1 + 0)), (1, .int (nI s)), (2, .int (nI t)), (3, .int (nI k))] [] := by
    intro f43
    induction f43 with
    | zero => intro i hm43; exact absurd hm43 (Nat.not_lt_zero _)
    | succ f43 ih43 =>
      intro i hm43 hi
      have al := allT_le (P := (fun x1 x2 => rstP (gF K M gr s an F1) (gF K M gr t an F2) x1 x2 an)) (k := k) hn4 i
      refine J_iload dX7_two_43 rfl ?_
      refine J_aload_n dX7_two_45 rfl ?_
      refine J_get 0 dX7_two_46 jk7 (Nat.le_of_ble_eq_true rfl) jfRX7_10 ((hset_ne (by omega)).trans ((hset_ne (by omega)).trans ((hset_ne (by omega)).trans H0))) (by omega) rfl ?_
      refine J_get 5 dX7_two_49 jk6 (Nat.le_of_ble_eq_true rfl) jfRX7_63 ((hset_ne (by omega)).trans ((hset_ne (by omega)).trans ((hset_ne (by omega)).trans H4))) (by omega) rfl ?_
      refine J_icmp_geN (tgt := 113) dX7_two_52 (by decide) (by omega) (by omega) (fun c4 => ?_) (fun c4 => ?_)
      · skip
        refine J_iload_n dX7_two_113 rfl ?_
        refine J_iconst (v := (-1)) dX7_two_114 (by decide +kernel) ?_
        refine J_icmp_neV (tgt := 123) dX7_two_115 (by decide) (by omega) (fun c5 => (by exfalso; omega)) (fun c5 => ?_)
        refine J_iload dX7_two_118 rfl ?_
        refine J_goto (tgt := 125) dX7_two_120 (by decide) ?_
        exact J_iret dX7_two_125 rfl ⟨Nat.le_refl _, Nat.le_refl _⟩ (by rw [hPP]; exact ⟨(congrArg some (jv_N (by rw [show i = an by omega]))), rfl, rfl⟩)
      · skip
        refine J_iconst (v := nI 0) dX7_two_55 (by decide +kernel) ?_
        refine J_istore dX7_two_56 (Nat.le_of_ble_eq_true rfl) (L' := [(6, .int (nI 0)), (5, .int (nI i)), (4, .int (nI ((allT (fun x1 x2 => rstP (gF K M gr s an F1) (gF K M gr t an F2) x1 x2 an) k an i).1))), (0, .ref (E.1 + 0)), (1, .int (nI s)), (2, .int (nI t)), (3, .int (nI k))]) rfl ?_
        have CUT58 : ∀ (f58 : Nat) (j : Nat) (hm58 : an - j < f58) (hj : j ≤ an), J E mX7_two (5, 0, 0) jS0 PP (hset (hset (hset h 34 (.inr (0, [.ref (E.1 + 35), .ref (E.1 + 36), .int (nI an)]))) 35 (cI E 4 (gF K M gr s an F1))) 36 (cI E 4 (gF K M gr t an F2))) n (0, 0) 58 [(6, .int (nI j)), (5, .int (nI i)), (4, .int (nI ((rowT (fun x1 x2 => rstP (gF K M gr s an F1) (gF K M gr t an F2) x1 x2 an) k i (allT (fun x1 x2 => rstP (gF K M gr s an F1) (gF K M gr t an F2) x1 x2 an) k an i) j).1))), (0, .ref (E.1 + 0)), (1, .int (nI s)), (2, .int (nI t)), (3, .int (nI k))] [] := by
          intro f58
          induction f58 with
          | zero => intro j hm58; exact absurd hm58 (Nat.not_lt_zero _)
          | succ f58 ih58 =>
            intro j hm58 hj
            have al := allT_le (P := (fun x1 x2 => rstP (gF K M gr s an F1) (gF K M gr t an F2) x1 x2 an)) (k := k) hn4 i
            have rl := rowT_le (P := (fun x1 x2 => rstP (gF K M gr s an F1) (gF K M gr t an F2) x1 x2 an)) (k := k) (i := i) (s := allT (fun x1 x2 => rstP (gF K M gr s an F1) (gF K M gr t an F2) x1 x2 an) k an i) j
            refine J_iload dX7_two_58 rfl ?_
            refine J_aload_n dX7_two_60 rfl ?_
            refine J_get 0 dX7_two_61 jk7 (Nat.le_of_ble_eq_true rfl) jfRX7_10 ((hset_ne (by omega)).trans ((hset_ne (by omega)).trans ((hset_ne (by omega)).trans H0))) (by omega) rfl ?_
            refine J_get 5 dX7_two_64 jk6 (Nat.le_of_ble_eq_true rfl) jfRX7_63 ((hset_ne (by omega)).trans ((hset_ne (by omega)).trans ((hset_ne (by omega)).trans H4))) (by omega) rfl ?_
            refine J_icmp_geN (tgt := 107) dX7_two_67 (by decide) (by omega) (by omega) (fun c6 => ?_) (fun c6 => ?_)
            · skip
              refine J_iincN (q := 1) (a := i) (m := 1) dX7_two_107 rfl (by decide +kernel) (Nat.le_of_ble_eq_true rfl) (L' := [(5, .int (nI (i + 1))), (6, .int (nI j)), (4, .int (nI ((rowT (fun x1 x2 => rstP (gF K M gr s an F1) (gF K M gr t an F2) x1 x2 an) k i (allT (fun x1 x2 => rstP (gF K M gr s an F1) (gF K M gr t an F2) x1 x2 an) k an i) j).1))), (0, .ref (E.1 + 0)), (1, .int (nI s)), (2, .int (nI t)), (3, .int (nI k))]) rfl ?_
              refine J_goto (tgt := 43) dX7_two_110 (by decide) ?_
              refine J.sub [0, 2, 3, 4, 5, 6] (L' := [(5, .int (nI (i + 1))), (4, .int (nI ((rowT (fun x1 x2 => rstP (gF K M gr s an F1) (gF K M gr t an F2) x1 x2 an) k i (allT (fun x1 x2 => rstP (gF K M gr s an F1) (gF K M gr t an F2) x1 x2 an) k an i) j).1))), (0, .ref (E.1 + 0)), (1, .int (nI s)), (2, .int (nI t)), (3, .int (nI k))]) rfl ?_
              refine J.eqs (h' := (hset (hset (hset h 34 (.inr (0, [.ref (E.1 + 35), .ref (E.1 + 36), .int (nI an)]))) 35 (cI E 4 (gF K M gr s an F1))) 36 (cI E 4 (gF K M gr t an F2)))) (L' := [(5, .int (nI (i + 1))), (4, .int (nI ((allT (fun x1 x2 => rstP (gF K M gr s an F1) (gF K M gr t an F2) x1 x2 an) k an (i + 1)).1))), (0, .ref (E.1 + 0)), (1, .int (nI s)), (2, .int (nI t)), (3, .int (nI k))]) (st' := []) rfl (jL_c rfl (jL_c (jv_N (by first | (rw [show j = an by omega]; rfl) | rfl)) (jL_c rfl (jL_c rfl (jL_c rfl (jL_c rfl rfl)))))) rfl ?_
              exact ih43 (i + 1) (by omega) (by first | assumption | omega)
            · skip
              refine J_aload_n dX7_two_70 rfl ?_
              refine J_get 5 dX7_two_71 jk7 (Nat.le_of_ble_eq_true rfl) jfRX7_40 ((hset_ne (by omega)).trans ((hset_ne (by omega)).trans ((hset_ne (by omega)).trans H0))) (by omega) rfl ?_
              refine J_iload dX7_two_74 rfl ?_
              refine J_iload dX7_two_76 rfl ?_
              refine J_callVr (M' := mX1_rests) (d' := (3, 0, 0)) (rest := []) dX7_two_78 jmX1_rests jlRX7_213 (ctX1_rests i j an (gF K M gr s an F1) (gF K M gr t an F2) ((hset_ne (by omega)).trans ((hset_ne (by omega)).trans hset_eq)) ((hset_ne (by omega)).trans hset_eq) hset_eq (by omega) (by first | assumption | omega) (by first | assumption | omega) (by first | assumption | omega)) ((hset_ne (by omega)).trans ((hset_ne (by omega)).trans hset_eq)) (by omega) jk1.1 rfl rfl (Nat.le_of_ble_eq_true rfl) (Nat.le_of_ble_eq_true rfl) ⟨Nat.le_refl _, Nat.le_refl _⟩ ?_
              refine J_if_eqB (tgt := 101) dX7_two_81 (by decide) (fun c7 => ?_) (fun c7 => ?_)
              · skip
                refine J_iincN (q := 0) (a := j) (m := 1) dX7_two_101 rfl (by decide +kernel) (Nat.le_of_ble_eq_true rfl) (L' := [(6, .int (nI (j + 1))), (5, .int (nI i)), (4, .int (nI ((rowT (fun x1 x2 => rstP (gF K M gr s an F1) (gF K M gr t an F2) x1 x2 an) k i (allT (fun x1 x2 => rstP (gF K M gr s an F1) (gF K M gr t an F2) x1 x2 an) k an i) j).1))), (0, .ref (E.1 + 0)), (1, .int (nI s)), (2, .int (nI t)), (3, .int (nI k))]) rfl ?_
                refine J_goto (tgt := 58) dX7_two_104 (by decide) ?_
                refine J.eqs (h' := (hset (hset (hset h 34 (.inr (0, [.ref (E.1 + 35), .ref (E.1 + 36), .int (nI an)]))) 35 (cI E 4 (gF K M gr s an F1))) 36 (cI E 4 (gF K M gr t an F2)))) (L' := [(6, .int (nI (j + 1))), (5, .int (nI i)), (4, .int (nI ((rowT (fun x1 x2 => rstP (gF K M gr s an F1) (gF K M gr t an F2) x1 x2 an) k i (allT (fun x1 x2 => rstP (gF K M gr s an F1) (gF K M gr t an F2) x1 x2 an) k an i) (j + 1)).1))), (0, .ref (E.1 + 0)), (1, .int (nI s)), (2, .int (nI t)), (3, .int (nI k))]) (st' := []) rfl (jL_c rfl (jL_c rfl (jL_c (jv_N (by first | exact rT_n (by assumption) | exact rT_f1 (by assumption) | rfl)) (jL_c rfl (jL_c rfl (jL_c rfl (jL_c rfl rfl))))))) rfl ?_
                exact ih58 (j + 1) (by omega) (by first | assumption | omega)
              · skip
                refine J_iload dX7_two_84 rfl ?_
                refine J_iload_n dX7_two_86 rfl ?_
                refine J_icmp_neW (tgt := 98) dX7_two_87 (by decide) (by omega) (by omega) (fun c8 => ?_) (fun c8 => (by exfalso; omega))
                refine J_iincN (q := 2) (a := (rowT (fun x1 x2 => rstP (gF K M gr s an F1) (gF K M gr t an F2) x1 x2 an) k i (allT (fun x1 x2 => rstP (gF K M gr s an F1) (gF K M gr t an F2) x1 x2 an) k an i) j).1) (m := 1) dX7_two_98 rfl (by decide +kernel) (Nat.le_of_ble_eq_true rfl) (L' := [(4, .int (nI ((rowT (fun x1 x2 => rstP (gF K M gr s an F1) (gF K M gr t an F2) x1 x2 an) k i (allT (fun x1 x2 => rstP (gF K M gr s an F1) (gF K M gr t an F2) x1 x2 an) k an i) j).1 + 1))), (6, .int (nI j)), (5, .int (nI i)), (0, .ref (E.1 + 0)), (1, .int (nI s)), (2, .int (nI t)), (3, .int (nI k))]) rfl ?_
                refine J_iincN (q := 1) (a := j) (m := 1) dX7_two_101 rfl (by decide +kernel) (Nat.le_of_ble_eq_true rfl) (L' := [(6, .int (nI (j + 1))), (4, .int (nI ((rowT (fun x1 x2 => rstP (gF K M gr s an F1) (gF K M gr t an F2) x1 x2 an) k i (allT (fun x1 x2 => rstP (gF K M gr s an F1) (gF K M gr t an F2) x1 x2 an) k an i) j).1 + 1))), (5, .int (nI i)), (0, .ref (E.1 + 0)), (1, .int (nI s)), (2, .int (nI t)), (3, .int (nI k))]) rfl ?_
                refine J_goto (tgt := 58) dX7_two_104 (by decide) ?_
                refine J.sub [0, 2, 1, 3, 4, 5, 6] (L' := [(6, .int (nI (j + 1))), (5, .int (nI i)), (4, .int (nI ((rowT (fun x1 x2 => rstP (gF K M gr s an F1) (gF K M gr t an F2) x1 x2 an) k i (allT (fun x1 x2 => rstP (gF K M gr s an F1) (gF K M gr t an F2) x1 x2 an) k an i) j).1 + 1))), (0, .ref (E.1 + 0)), (1, .int (nI s)), (2, .int (nI t)), (3, .int (nI k))]) rfl ?_
                refine J.eqs (h' := (hset (hset (hset h 34 (.inr (0, [.ref (E.1 + 35), .ref (E.1 + 36), .int (nI an)]))) 35 (cI E 4 (gF K M gr s an F1))) 36 (cI E 4 (gF K M gr t an F2)))) (L' := [(6, .int (nI (j + 1))), (5, .int (nI i)), (4, .int (nI ((rowT (fun x1 x2 => rstP (gF K M gr s an F1) (gF K M gr t an F2) x1 x2 an) k i (allT (fun x1 x2 => rstP (gF K M gr s an F1) (gF K M gr t an F2) x1 x2 an) k an i) (j + 1)).1))), (0, .ref (E.1 + 0)), (1, .int (nI s)), (2, .int (nI t)), (3, .int (nI k))]) (st' := []) rfl (jL_c rfl (jL_c rfl (jL_c (jv_N (by first | exact rT_n (by assumption) | exact rT_f1 (by assumption) | rfl)) (jL_c rfl (jL_c rfl (jL_c rfl (jL_c rfl rfl))))))) rfl ?_
                exact ih58 (j + 1) (by omega) (by first | assumption | omega)
        refine J.eqs (h' := (hset (hset (hset h 34 (.inr (0, [.ref (E.1 + 35), .ref (E.1 + 36), .int (nI an)]))) 35 (cI E 4 (gF K M gr s an F1))) 36 (cI E 4 (gF K M gr t an F2)))) (L' := [(6, .int (nI 0)), (5, .int (nI i)), (4, .int (nI ((rowT (fun x1 x2 => rstP (gF K M gr s an F1) (gF K M gr t an F2) x1 x2 an) k i (allT (fun x1 x2 => rstP (gF K M gr s an F1) (gF K M gr t an F2) x1 x2 an) k an i) 0).1))), (0, .ref (E.1 + 0)), (1, .int (nI s)), (2, .int (nI t)), (3, .int (nI k))]) (st' := []) rfl (jL_c rfl (jL_c rfl (jL_c (jv_N (by first | exact rT_n (by assumption) | exact rT_f1 (by assumption) | rfl)) (jL_c rfl (jL_c rfl (jL_c rfl (jL_c rfl rfl))))))) rfl ?_
        exact CUT58 (an - 0 + 1) 0 (Nat.lt_succ_self _) (by first | assumption | omega)
  refine J.eqs (h' := (hset (hset (hset h 34 (.inr (0, [.ref (E.1 + 35), .ref (E.1 + 36), .int (nI an)]))) 35 (cI E 4 (gF K M gr s an F1))) 36 (cI E 4 (gF K M gr t an F2)))) (L' := [(5, .int (nI 0)), (4, .int (nI ((allT (fun x1 x2 => rstP (gF K M gr s an F1) (gF K M gr t an F2) x1 x2 an) k an 0).1))), (0, .ref (E.1 + 0)), (1, .int (nI s)), (2, .int (nI t)), (3, .int (nI k))]) (st' := []) rfl (jL_c rfl (jL_c (jv_N (by first | (rw [show j = an by omega]; rfl) | rfl)) (jL_c rfl (jL_c rfl (jL_c rfl (jL_c rfl rfl)))))) rfl ?_
  exact CUT43 (an - 0 + 1) 0 (Nat.lt_succ_self _) (by first | assumption | omega)

set_option maxHeartbeats 1000000 in
set_option maxRecDepth 100000 in
theorem ctX7_two_k {E : jE} {h : Nat → va_E} {n : Nat} (s : Nat) (t : Nat) (k : Nat) (an : Nat) (td : Nat) (gr : Nat) (K : Nat → Nat) (M : Nat → Nat) (ka : Nat) (ab : Nat) (be : Nat) (bd : Nat) (no : Nat) (fu : Nat) (F1 : Nat → Int32) (F2 : Nat → Int32) (H0 : h 0 = .inr (6, [.ref (E.1 + 1), .ref (E.1 + 12), .ref (E.1 + 23), .ref (E.1 + 24), .ref (E.1 + 30), .ref (E.1 + 34), .ref (E.1 + 37), .int (nI ab), .int (nI be), .int (nI bd), .int (nI no), .int (nI fu)])) (H1 : h 34 = .inr (0, [.ref (E.1 + 35), .ref (E.1 + 36), .int (nI ka)])) (H2 : h 35 = cI E 4 F1) (H3 : h 36 = cI E 4 F2) (H4 : h 1 = .inr (5, [.ref (E.1 + 2), .ref (E.1 + 3), .ref (E.1 + 4), .ref (E.1 + 6), .ref (E.1 + 8), .int (nI an), .int (nI td), .int (nI gr)])) (H5 : h 2 = cI E 4 (nF K)) (H6 : h 3 = cI E 16 (nF M)) (hn : 38 ≤ n) (hK : ∀ zz, K zz ≤ 5) (hM : ∀ zz, M zz ≤ 20) (hg : gr ≤ 9) (hn4 : an ≤ 4) (hs : s < 4) (ht : t < 4) (hk : k < 2 ^ 31) : jC E mX7_two (5, 0, 0) [.ref (E.1 + 0), .int (nI s), .int (nI t), .int (nI k)] h n (jR (some (.int (oF (allT (fun x1 x2 => rstP (gF K M gr s an F1) (gF K M gr t an F2) x1 x2 an) k an an).2))) (hset (hset (hset h 34 (.inr (0, [.ref (E.1 + 35), .ref (E.1 + 36), .int (nI an)]))) 35 (cI E 4 (gF K M gr s an F1))) 36 (cI E 4 (gF K M gr t an F2))) n) := by
  refine J.of (L := [(0, .ref (E.1 + 0)), (1, .int (nI s)), (2, .int (nI t)), (3, .int (nI k))]) rfl (by decide +kernel) (Nat.le_of_ble_eq_true rfl) ?_
  obtain ⟨PP, hPP⟩ : ∃ PP : jPost, PP = (jR (some (.int (oF (allT (fun x1 x2 => rstP (gF K M gr s an F1) (gF K M gr t an F2) x1 x2 an) k an an).2))) (hset (hset (hset h 34 (.inr (0, [.ref (E.1 + 35), .ref (E.1 + 36), .int (nI an)]))) 35 (cI E 4 (gF K M gr s an F1))) 36 (cI E 4 (gF K M gr t an F2))) n) := ⟨_, rfl⟩
  rw [← hPP]
  refine J_iload_n dX7_two_0 rfl ?_
  refine J_callSr (M' := mX7_isTemper) (d' := (2, 0, 0)) (rest := []) dX7_two_1 jmX7_isTemper jlRX7_163 (ctX7_isTemper s   (by first | assumption | omega)) rfl rfl (Nat.le_of_ble_eq_true rfl) (Nat.le_of_ble_eq_true rfl) ⟨Nat.le_refl _, Nat.le_refl _⟩ ?_
  refine J_if_eqB (tgt := 19) dX7_two_4 (by decide) (fun c1 => (by exfalso; omega)) (fun c1 => ?_)
  refine J_iload_n dX7_two_7 rfl ?_
  refine J_callSr (M' := mX7_isTemper) (d' := (2, 0, 0)) (rest := []) dX7_two_8 jmX7_isTemper jlRX7_163 (ctX7_isTemper t   (by first | assumption | omega)) rfl rfl (Nat.le_of_ble_eq_true rfl) (Nat.le_of_ble_eq_true rfl) ⟨Nat.le_refl _, Nat.le_refl _⟩ ?_
  refine J_if_eqB (tgt := 19) dX7_two_11 (by decide) (fun c2 => (by exfalso; omega)) (fun c2 => ?_)
  refine J_iload_n dX7_two_14 rfl ?_
  refine J_iconst (v := (-1)) dX7_two_15 (by decide +kernel) ?_
  refine J_icmp_geV (tgt := 24) dX7_two_16 (by decide) (by omega) (fun c3 => ?_) (fun c3 => (by exfalso; omega))
  refine J_aload_n dX7_two_24 rfl ?_
  refine J_get 5 dX7_two_25 jk7 (Nat.le_of_ble_eq_true rfl) jfRX7_40 H0 (by omega) rfl ?_
  refine J_aload_n dX7_two_28 rfl ?_
  refine J_get 0 dX7_two_29 jk7 (Nat.le_of_ble_eq_true rfl) jfRX7_10 H0 (by omega) rfl ?_
  refine J_iload_n dX7_two_32 rfl ?_
  refine J_iload_n dX7_two_33 rfl ?_
  refine J_callVn (M' := mX1_open) (d' := (4, 0, 0)) (rest := []) dX7_two_34 jmX1_open jlRX7_209 (ctX1_open s t an td gr K M ka F1 F2 H1 H2 H3 H4 H5 H6 (by omega) (by first | assumption | omega) (by first | assumption | omega) (by first | assumption | omega) (by first | assumption | omega) (by first | assumption | omega) (by first | assumption | omega)) H1 (by omega) jk1.1 rfl rfl (Nat.le_of_ble_eq_true rfl) (Nat.le_of_ble_eq_true rfl) ⟨Nat.le_refl _, Nat.le_refl _⟩ ?_
  refine J_iconst (v := nI 0) dX7_two_37 (by decide +kernel) ?_
  refine J_istore dX7_two_38 (Nat.le_of_ble_eq_true rfl) (L' := [(4, .int (nI 0)), (0, .ref (E.1 + 0)), (1, .int (nI s)), (2, .int (nI t)), (3, .int (nI k))]) rfl ?_
  refine J_iconst (v := nI 0) dX7_two_40 (by decide +kernel) ?_
  refine J_istore dX7_two_41 (Nat.le_of_ble_eq_true rfl) (L' := [(5, .int (nI 0)), (4, .int (nI 0)), (0, .ref (E.1 + 0)), (1, .int (nI s)), (2, .int (nI t)), (3, .int (nI k))]) rfl ?_
  have CUT43 : ∀ (f43 : Nat) (i : Nat) (hm43 : an - i < f43) (hi : i ≤ an) (hq : (allT (fun x1 x2 => rstP (gF K M gr s an F1) (gF K M gr t an F2) x1 x2 an) k an i).2 = none), J E mX7_two (5, 0, 0) jS0 PP (hset (hset (hset h 34 (.inr (0, [.ref (E.1 + 35), .ref (E.1 + 36), .int (nI an)]))) 35 (cI E 4 (gF K M gr s an F1))) 36 (cI E 4 (gF K M gr t an F2))) n (0, 0) 43 [(5, .int (nI i)), (4, .int (nI ((allT (fun x1 x2 => rstP (gF K M gr s an F1) (gF K M gr t an F2) x1 x2 an) k an i).1))), (0, .ref (E.1 + 0)), (1, .int (nI s)), (2, .int (nI t)), (3, .int (nI k))] [] := by
    intro f43
    induction f43 with
    | zero => intro i hm43; exact absurd hm43 (Nat.not_lt_zero _)
    | succ f43 ih43 =>
      intro i hm43 hi hq
      have al := allT_le (P := (fun x1 x2 => rstP (gF K M gr s an F1) (gF K M gr t an F2) x1 x2 an)) (k := k) hn4 i
      refine J_iload dX7_two_43 rfl ?_
      refine J_aload_n dX7_two_45 rfl ?_
      refine J_get 0 dX7_two_46 jk7 (Nat.le_of_ble_eq_true rfl) jfRX7_10 ((hset_ne (by omega)).trans ((hset_ne (by omega)).trans ((hset_ne (by omega)).trans H0))) (by omega) rfl ?_
      refine J_get 5 dX7_two_49 jk6 (Nat.le_of_ble_eq_true rfl) jfRX7_63 ((hset_ne (by omega)).trans ((hset_ne (by omega)).trans ((hset_ne (by omega)).trans H4))) (by omega) rfl ?_
      refine J_icmp_geN (tgt := 113) dX7_two_52 (by decide) (by omega) (by omega) (fun c4 => ?_) (fun c4 => ?_)
      · skip
        refine J_iload_n dX7_two_113 rfl ?_
        refine J_iconst (v := (-1)) dX7_two_114 (by decide +kernel) ?_
        refine J_icmp_neV (tgt := 123) dX7_two_115 (by decide) (by omega) (fun c5 => ?_) (fun c5 => (by exfalso; omega))
        refine J_bipush (v := (-5)) dX7_two_123 (by decide +kernel) ?_
        exact J_iret dX7_two_125 rfl ⟨Nat.le_refl _, Nat.le_refl _⟩ (by rw [hPP]; exact ⟨(congrArg some (jv_I (by first | exact allT_ret (by assumption) (by assumption) (by assumption) (by assumption) | (rw [show i = an by omega] at hq; rw [hq]; rfl)))), rfl, rfl⟩)
      · skip
        refine J_iconst (v := nI 0) dX7_two_55 (by decide +kernel) ?_
        refine J_istore dX7_two_56 (Nat.le_of_ble_eq_true rfl) (L' := [(6, .int (nI 0)), (5, .int (nI i)), (4, .int (nI ((allT (fun x1 x2 => rstP (gF K M gr s an F1) (gF K M gr t an F2) x1 x2 an) k an i).1))), (0, .ref (E.1 + 0)), (1, .int (nI s)), (2, .int (nI t)), (3, .int (nI k))]) rfl ?_
        have CUT58 : ∀ (f58 : Nat) (j : Nat) (hm58 : an - j < f58) (hj : j ≤ an) (hq2 : (rowT (fun x1 x2 => rstP (gF K M gr s an F1) (gF K M gr t an F2) x1 x2 an) k i (allT (fun x1 x2 => rstP (gF K M gr s an F1) (gF K M gr t an F2) x1 x2 an) k an i) j).2 = none), J E mX7_two (5, 0, 0) jS0 PP (hset (hset (hset h 34 (.inr (0, [.ref (E.1 + 35), .ref (E.1 + 36), .int (nI an)]))) 35 (cI E 4 (gF K M gr s an F1))) 36 (cI E 4 (gF K M gr t an F2))) n (0, 0) 58 [(6, .int (nI j)), (5, .int (nI i)), (4, .int (nI ((rowT (fun x1 x2 => rstP (gF K M gr s an F1) (gF K M gr t an F2) x1 x2 an) k i (allT (fun x1 x2 => rstP (gF K M gr s an F1) (gF K M gr t an F2) x1 x2 an) k an i) j).1))), (0, .ref (E.1 + 0)), (1, .int (nI s)), (2, .int (nI t)), (3, .int (nI k))] [] := by
          intro f58
          induction f58 with
          | zero => intro j hm58; exact absurd hm58 (Nat.not_lt_zero _)
          | succ f58 ih58 =>
            intro j hm58 hj hq2
            have al := allT_le (P := (fun x1 x2 => rstP (gF K M gr s an F1) (gF K M gr t an F2) x1 x2 an)) (k := k) hn4 i
            have rl := rowT_le (P := (fun x1 x2 => rstP (gF K M gr s an F1) (gF K M gr t an F2) x1 x2 an)) (k := k) (i := i) (s := allT (fun x1 x2 => rstP (gF K M gr s an F1) (gF K M gr t an F2) x1 x2 an) k an i) j
            refine J_iload dX7_two_58 rfl ?_
            refine J_aload_n dX7_two_60 rfl ?_
            refine J_get 0 dX7_two_61 jk7 (Nat.le_of_ble_eq_true rfl) jfRX7_10 ((hset_ne (by omega)).trans ((hset_ne (by omega)).trans ((hset_ne (by omega)).trans H0))) (by omega) rfl ?_
            refine J_get 5 dX7_two_64 jk6 (Nat.le_of_ble_eq_true rfl) jfRX7_63 ((hset_ne (by omega)).trans ((hset_ne (by omega)).trans ((hset_ne (by omega)).trans H4))) (by omega) rfl ?_
            refine J_icmp_geN (tgt := 107) dX7_two_67 (by decide) (by omega) (by omega) (fun c6 => ?_) (fun c6 => ?_)
            · skip
              refine J_iincN (q := 1) (a := i) (m := 1) dX7_two_107 rfl (by decide +kernel) (Nat.le_of_ble_eq_true rfl) (L' := [(5, .int (nI (i + 1))), (6, .int (nI j)), (4, .int (nI ((rowT (fun x1 x2 => rstP (gF K M gr s an F1) (gF K M gr t an F2) x1 x2 an) k i (allT (fun x1 x2 => rstP (gF K M gr s an F1) (gF K M gr t an F2) x1 x2 an) k an i) j).1))), (0, .ref (E.1 + 0)), (1, .int (nI s)), (2, .int (nI t)), (3, .int (nI k))]) rfl ?_
              refine J_goto (tgt := 43) dX7_two_110 (by decide) ?_
              refine J.sub [0, 2, 3, 4, 5, 6] (L' := [(5, .int (nI (i + 1))), (4, .int (nI ((rowT (fun x1 x2 => rstP (gF K M gr s an F1) (gF K M gr t an F2) x1 x2 an) k i (allT (fun x1 x2 => rstP (gF K M gr s an F1) (gF K M gr t an F2) x1 x2 an) k an i) j).1))), (0, .ref (E.1 + 0)), (1, .int (nI s)), (2, .int (nI t)), (3, .int (nI k))]) rfl ?_
              refine J.eqs (h' := (hset (hset (hset h 34 (.inr (0, [.ref (E.1 + 35), .ref (E.1 + 36), .int (nI an)]))) 35 (cI E 4 (gF K M gr s an F1))) 36 (cI E 4 (gF K M gr t an F2)))) (L' := [(5, .int (nI (i + 1))), (4, .int (nI ((allT (fun x1 x2 => rstP (gF K M gr s an F1) (gF K M gr t an F2) x1 x2 an) k an (i + 1)).1))), (0, .ref (E.1 + 0)), (1, .int (nI s)), (2, .int (nI t)), (3, .int (nI k))]) (st' := []) rfl (jL_c rfl (jL_c (jv_N (by first | (rw [show j = an by omega]; rfl) | rfl)) (jL_c rfl (jL_c rfl (jL_c rfl (jL_c rfl rfl)))))) rfl ?_
              exact ih43 (i + 1) (by omega) (by first | assumption | omega) (by first | (rw [show j = an by omega] at hq2; exact hq2) | rfl)
            · skip
              refine J_aload_n dX7_two_70 rfl ?_
              refine J_get 5 dX7_two_71 jk7 (Nat.le_of_ble_eq_true rfl) jfRX7_40 ((hset_ne (by omega)).trans ((hset_ne (by omega)).trans ((hset_ne (by omega)).trans H0))) (by omega) rfl ?_
              refine J_iload dX7_two_74 rfl ?_
              refine J_iload dX7_two_76 rfl ?_
              refine J_callVr (M' := mX1_rests) (d' := (3, 0, 0)) (rest := []) dX7_two_78 jmX1_rests jlRX7_213 (ctX1_rests i j an (gF K M gr s an F1) (gF K M gr t an F2) ((hset_ne (by omega)).trans ((hset_ne (by omega)).trans hset_eq)) ((hset_ne (by omega)).trans hset_eq) hset_eq (by omega) (by first | assumption | omega) (by first | assumption | omega) (by first | assumption | omega)) ((hset_ne (by omega)).trans ((hset_ne (by omega)).trans hset_eq)) (by omega) jk1.1 rfl rfl (Nat.le_of_ble_eq_true rfl) (Nat.le_of_ble_eq_true rfl) ⟨Nat.le_refl _, Nat.le_refl _⟩ ?_
              refine J_if_eqB (tgt := 101) dX7_two_81 (by decide) (fun c7 => ?_) (fun c7 => ?_)
              · skip
                refine J_iincN (q := 0) (a := j) (m := 1) dX7_two_101 rfl (by decide +kernel) (Nat.le_of_ble_eq_true rfl) (L' := [(6, .int (nI (j + 1))), (5, .int (nI i)), (4, .int (nI ((rowT (fun x1 x2 => rstP (gF K M gr s an F1) (gF K M gr t an F2) x1 x2 an) k i (allT (fun x1 x2 => rstP (gF K M gr s an F1) (gF K M gr t an F2) x1 x2 an) k an i) j).1))), (0, .ref (E.1 + 0)), (1, .int (nI s)), (2, .int (nI t)), (3, .int (nI k))]) rfl ?_
                refine J_goto (tgt := 58) dX7_two_104 (by decide) ?_
                refine J.eqs (h' := (hset (hset (hset h 34 (.inr (0, [.ref (E.1 + 35), .ref (E.1 + 36), .int (nI an)]))) 35 (cI E 4 (gF K M gr s an F1))) 36 (cI E 4 (gF K M gr t an F2)))) (L' := [(6, .int (nI (j + 1))), (5, .int (nI i)), (4, .int (nI ((rowT (fun x1 x2 => rstP (gF K M gr s an F1) (gF K M gr t an F2) x1 x2 an) k i (allT (fun x1 x2 => rstP (gF K M gr s an F1) (gF K M gr t an F2) x1 x2 an) k an i) (j + 1)).1))), (0, .ref (E.1 + 0)), (1, .int (nI s)), (2, .int (nI t)), (3, .int (nI k))]) (st' := []) rfl (jL_c rfl (jL_c rfl (jL_c (jv_N (by first | exact rT_n (by assumption) | exact rT_f1 (by assumption) | rfl)) (jL_c rfl (jL_c rfl (jL_c rfl (jL_c rfl rfl))))))) rfl ?_
                exact ih58 (j + 1) (by omega) (by first | assumption | omega) (by first | exact hq | (rw [rowT_f (by assumption)]; exact hq2) | (rw [rowT_t (by assumption), if_neg (by assumption)]; exact hq2))
              · skip
                refine J_iload dX7_two_84 rfl ?_
                refine J_iload_n dX7_two_86 rfl ?_
                refine J_icmp_neW (tgt := 98) dX7_two_87 (by decide) (by omega) (by omega) (fun c8 => ?_) (fun c8 => ?_)
                · skip
                  refine J_iincN (q := 2) (a := (rowT (fun x1 x2 => rstP (gF K M gr s an F1) (gF K M gr t an F2) x1 x2 an) k i (allT (fun x1 x2 => rstP (gF K M gr s an F1) (gF K M gr t an F2) x1 x2 an) k an i) j).1) (m := 1) dX7_two_98 rfl (by decide +kernel) (Nat.le_of_ble_eq_true rfl) (L' := [(4, .int (nI ((rowT (fun x1 x2 => rstP (gF K M gr s an F1) (gF K M gr t an F2) x1 x2 an) k i (allT (fun x1 x2 => rstP (gF K M gr s an F1) (gF K M gr t an F2) x1 x2 an) k an i) j).1 + 1))), (6, .int (nI j)), (5, .int (nI i)), (0, .ref (E.1 + 0)), (1, .int (nI s)), (2, .int (nI t)), (3, .int (nI k))]) rfl ?_
                  refine J_iincN (q := 1) (a := j) (m := 1) dX7_two_101 rfl (by decide +kernel) (Nat.le_of_ble_eq_true rfl) (L' := [(6, .int (nI (j + 1))), (4, .int (nI ((rowT (fun x1 x2 => rstP (gF K M gr s an F1) (gF K M gr t an F2) x1 x2 an) k i (allT (fun x1 x2 => rstP (gF K M gr s an F1) (gF K M gr t an F2) x1 x2 an) k an i) j).1 + 1))), (5, .int (nI i)), (0, .ref (E.1 + 0)), (1, .int (nI s)), (2, .int (nI t)), (3, .int (nI k))]) rfl ?_
                  refine J_goto (tgt := 58) dX7_two_104 (by decide) ?_
                  refine J.sub [0, 2, 1, 3, 4, 5, 6] (L' := [(6, .int (nI (j + 1))), (5, .int (nI i)), (4, .int (nI ((rowT (fun x1 x2 => rstP (gF K M gr s an F1) (gF K M gr t an F2) x1 x2 an) k i (allT (fun x1 x2 => rstP (gF K M gr s an F1) (gF K M gr t an F2) x1 x2 an) k an i) j).1 + 1))), (0, .ref (E.1 + 0)), (1, .int (nI s)), (2, .int (nI t)), (3, .int (nI k))]) rfl ?_
                  refine J.eqs (h' := (hset (hset (hset h 34 (.inr (0, [.ref (E.1 + 35), .ref (E.1 + 36), .int (nI an)]))) 35 (cI E 4 (gF K M gr s an F1))) 36 (cI E 4 (gF K M gr t an F2)))) (L' := [(6, .int (nI (j + 1))), (5, .int (nI i)), (4, .int (nI ((rowT (fun x1 x2 => rstP (gF K M gr s an F1) (gF K M gr t an F2) x1 x2 an) k i (allT (fun x1 x2 => rstP (gF K M gr s an F1) (gF K M gr t an F2) x1 x2 an) k an i) (j + 1)).1))), (0, .ref (E.1 + 0)), (1, .int (nI s)), (2, .int (nI t)), (3, .int (nI k))]) (st' := []) rfl (jL_c rfl (jL_c rfl (jL_c (jv_N (by first | exact rT_n (by assumption) | exact rT_f1 (by assumption) | rfl)) (jL_c rfl (jL_c rfl (jL_c rfl (jL_c rfl rfl))))))) rfl ?_
                  exact ih58 (j + 1) (by omega) (by first | assumption | omega) (by first | exact hq | (rw [rowT_f (by assumption)]; exact hq2) | (rw [rowT_t (by assumption), if_neg (by assumption)]; exact hq2))
                · skip
                  refine J_iconst (v := nI 4) dX7_two_90 (by decide +kernel) ?_
                  refine J_iload dX7_two_91 rfl ?_
                  refine J_imulN dX7_two_93 ?_
                  refine J_iload dX7_two_94 rfl ?_
                  refine J_iaddN dX7_two_96 ?_
                  exact J_iret dX7_two_97 rfl ⟨Nat.le_refl _, Nat.le_refl _⟩ (by rw [hPP]; exact ⟨(congrArg some (jv_I (a := nI ((4 * i) + j)) (by first | exact allT_ret (by assumption) (by assumption) (by assumption) (by assumption) | (rw [show i = an by omega] at hq; rw [hq]; rfl)))), rfl, rfl⟩)
        refine J.eqs (h' := (hset (hset (hset h 34 (.inr (0, [.ref (E.1 + 35), .ref (E.1 + 36), .int (nI an)]))) 35 (cI E 4 (gF K M gr s an F1))) 36 (cI E 4 (gF K M gr t an F2)))) (L' := [(6, .int (nI 0)), (5, .int (nI i)), (4, .int (nI ((rowT (fun x1 x2 => rstP (gF K M gr s an F1) (gF K M gr t an F2) x1 x2 an) k i (allT (fun x1 x2 => rstP (gF K M gr s an F1) (gF K M gr t an F2) x1 x2 an) k an i) 0).1))), (0, .ref (E.1 + 0)), (1, .int (nI s)), (2, .int (nI t)), (3, .int (nI k))]) (st' := []) rfl (jL_c rfl (jL_c rfl (jL_c (jv_N (by first | exact rT_n (by assumption) | exact rT_f1 (by assumption) | rfl)) (jL_c rfl (jL_c rfl (jL_c rfl (jL_c rfl rfl))))))) rfl ?_
        exact CUT58 (an - 0 + 1) 0 (Nat.lt_succ_self _) (by first | assumption | omega) (by first | exact hq | (rw [rowT_f (by assumption)]; exact hq2) | (rw [rowT_t (by assumption), if_neg (by assumption)]; exact hq2))
  refine J.eqs (h' := (hset (hset (hset h 34 (.inr (0, [.ref (E.1 + 35), .ref (E.1 + 36), .int (nI an)]))) 35 (cI E 4 (gF K M gr s an F1))) 36 (cI E 4 (gF K M gr t an F2)))) (L' := [(5, .int (nI 0)), (4, .int (nI ((allT (fun x1 x2 => rstP (gF K M gr s an F1) (gF K M gr t an F2) x1 x2 an) k an 0).1))), (0, .ref (E.1 + 0)), (1, .int (nI s)), (2, .int (nI t)), (3, .int (nI k))]) (st' := []) rfl (jL_c rfl (jL_c (jv_N (by first | (rw [show j = an by omega]; rfl) | rfl)) (jL_c rfl (jL_c rfl (jL_c rfl (jL_c rfl rfl)))))) rfl ?_
  exact CUT43 (an - 0 + 1) 0 (Nat.lt_succ_self _) (by first | assumption | omega) (by first | (rw [show j = an by omega] at hq2; exact hq2) | rfl)
