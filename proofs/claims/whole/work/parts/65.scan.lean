set_option maxHeartbeats 1000000 in
set_option maxRecDepth 100000 in
theorem ctX5_familyOf {E : jE} {h : Nat → va_E} {n : Nat} (c : Nat) (hc : c ≤ 127) : jC E mX5_familyOf (1, 0, 0) [.int (nI c)] h n (jR (some (.int (nI (fam c)))) h n) := by
  refine J.of (L := [(0, .int (nI c))]) rfl (by decide +kernel) (Nat.le_of_ble_eq_true rfl) ?_
  obtain ⟨PP, hPP⟩ : ∃ PP : jPost, PP = (jR (some (.int (nI (fam c)))) h n) := ⟨_, rfl⟩
  rw [← hPP]
  refine J_iload_n dX5_familyOf_0 rfl ?_
  refine J_bipush (v := nI 48) dX5_familyOf_1 (by decide +kernel) ?_
  refine J_icmp_ltN (tgt := 14) dX5_familyOf_3 (by decide) (by omega) (by omega) (fun c1 => ?_) (fun c1 => ?_)
  · skip
    refine J_iload_n dX5_familyOf_14 rfl ?_
    refine J_bipush (v := nI 97) dX5_familyOf_15 (by decide +kernel) ?_
    refine J_icmp_ltN (tgt := 30) dX5_familyOf_17 (by decide) (by omega) (by omega) (fun c2 => ?_) (fun c2 => ?_)
    · skip
      refine J_iconst (v := nI 0) dX5_familyOf_30 (by decide +kernel) ?_
      exact J_iret dX5_familyOf_31 rfl ⟨Nat.le_refl _, Nat.le_refl _⟩ (by rw [hPP]; exact ⟨(congrArg some (jv_N (by unfold fam; (repeat' split) <;> omega))), rfl, rfl⟩)
    · skip
      refine J_iload_n dX5_familyOf_20 rfl ?_
      refine J_bipush (v := nI 122) dX5_familyOf_21 (by decide +kernel) ?_
      refine J_icmp_gtN (tgt := 30) dX5_familyOf_23 (by decide) (by omega) (by omega) (fun c3 => ?_) (fun c3 => ?_)
      · skip
        refine J_iconst (v := nI 0) dX5_familyOf_30 (by decide +kernel) ?_
        exact J_iret dX5_familyOf_31 rfl ⟨Nat.le_refl _, Nat.le_refl _⟩ (by rw [hPP]; exact ⟨(congrArg some (jv_N (by unfold fam; (repeat' split) <;> omega))), rfl, rfl⟩)
      · skip
        refine J_iconst (v := nI 2) dX5_familyOf_26 (by decide +kernel) ?_
        refine J_goto (tgt := 31) dX5_familyOf_27 (by decide) ?_
        exact J_iret dX5_familyOf_31 rfl ⟨Nat.le_refl _, Nat.le_refl _⟩ (by rw [hPP]; exact ⟨(congrArg some (jv_N (by unfold fam; (repeat' split) <;> omega))), rfl, rfl⟩)
  · skip
    refine J_iload_n dX5_familyOf_6 rfl ?_
    refine J_bipush (v := nI 57) dX5_familyOf_7 (by decide +kernel) ?_
    refine J_icmp_gtN (tgt := 14) dX5_familyOf_9 (by decide) (by omega) (by omega) (fun c4 => ?_) (fun c4 => ?_)
    · skip
      refine J_iload_n dX5_familyOf_14 rfl ?_
      refine J_bipush (v := nI 97) dX5_familyOf_15 (by decide +kernel) ?_
      refine J_icmp_ltN (tgt := 30) dX5_familyOf_17 (by decide) (by omega) (by omega) (fun c5 => ?_) (fun c5 => ?_)
      · skip
        refine J_iconst (v := nI 0) dX5_familyOf_30 (by decide +kernel) ?_
        exact J_iret dX5_familyOf_31 rfl ⟨Nat.le_refl _, Nat.le_refl _⟩ (by rw [hPP]; exact ⟨(congrArg some (jv_N (by unfold fam; (repeat' split) <;> omega))), rfl, rfl⟩)
      · skip
        refine J_iload_n dX5_familyOf_20 rfl ?_
        refine J_bipush (v := nI 122) dX5_familyOf_21 (by decide +kernel) ?_
        refine J_icmp_gtN (tgt := 30) dX5_familyOf_23 (by decide) (by omega) (by omega) (fun c6 => ?_) (fun c6 => ?_)
        · skip
          refine J_iconst (v := nI 0) dX5_familyOf_30 (by decide +kernel) ?_
          exact J_iret dX5_familyOf_31 rfl ⟨Nat.le_refl _, Nat.le_refl _⟩ (by rw [hPP]; exact ⟨(congrArg some (jv_N (by unfold fam; (repeat' split) <;> omega))), rfl, rfl⟩)
        · skip
          refine J_iconst (v := nI 2) dX5_familyOf_26 (by decide +kernel) ?_
          refine J_goto (tgt := 31) dX5_familyOf_27 (by decide) ?_
          exact J_iret dX5_familyOf_31 rfl ⟨Nat.le_refl _, Nat.le_refl _⟩ (by rw [hPP]; exact ⟨(congrArg some (jv_N (by unfold fam; (repeat' split) <;> omega))), rfl, rfl⟩)
    · skip
      refine J_iconst (v := nI 1) dX5_familyOf_12 (by decide +kernel) ?_
      exact J_iret dX5_familyOf_13 rfl ⟨Nat.le_refl _, Nat.le_refl _⟩ (by rw [hPP]; exact ⟨(congrArg some (jv_N (by unfold fam; (repeat' split) <;> omega))), rfl, rfl⟩)

set_option maxHeartbeats 1000000 in
set_option maxRecDepth 100000 in
theorem ctX5_endOfRun {E : jE} {h : Nat → va_E} {n : Nat} (q : Nat) (sz : Nat) (tk : Nat) (cu : Nat) (TX : Nat → Nat) (F : Nat → Nat) (H0 : h 24 = .inr (4, [.ref (E.1 + 25), .ref (E.1 + 26), .ref (E.1 + 27), .ref (E.1 + 28), .ref (E.1 + 29), .int (nI sz), .int (nI tk), .int (nI cu)])) (H1 : h 25 = cB E 150 (nF TX)) (hn : 38 ≤ n) (hTX : ∀ zz, zz < sz → TX zz = F zz ∧ F zz ≤ 127) (hsz : sz ≤ 150) (hq : q < sz) : jC E mX5_endOfRun (2, 0, 0) [.ref (E.1 + 24), .int (nI q)] h n (jR (some (.int (nI (endF F sz q)))) h n) := by
  refine J.of (L := [(0, .ref (E.1 + 24)), (1, .int (nI q))]) rfl (by decide +kernel) (Nat.le_of_ble_eq_true rfl) ?_
  obtain ⟨PP, hPP⟩ : ∃ PP : jPost, PP = (jR (some (.int (nI (endF F sz q)))) h n) := ⟨_, rfl⟩
  rw [← hPP]
  have hx := hTX q hq
  refine J_aload_n dX5_endOfRun_0 rfl ?_
  refine J_get 0 dX5_endOfRun_1 jk5 (Nat.le_of_ble_eq_true rfl) jfRX5_11 H0 (by omega) rfl ?_
  refine J_iload_n dX5_endOfRun_4 rfl ?_
  refine J_baldN (i := q) dX5_endOfRun_5 H1 (by omega) (by omega) (by omega) ?_
  refine J_callSr (M' := mX5_familyOf) (d' := (1, 0, 0)) (rest := []) dX5_endOfRun_6 jmX5_familyOf jlRX5_55 (ctX5_familyOf (TX q)   (by first | assumption | omega)) rfl rfl (Nat.le_of_ble_eq_true rfl) (Nat.le_of_ble_eq_true rfl) ⟨Nat.le_refl _, Nat.le_refl _⟩ ?_
  have fc1 : fam (TX q) ≤ 2 := (by unfold fam; (repeat' split) <;> omega)
  have fm : fam (TX q) = fam (F q) := by rw [hx.1]
  refine J_istore_n dX5_endOfRun_9 (Nat.le_of_ble_eq_true rfl) (L' := [(2, .int (nI (fam (TX q)))), (0, .ref (E.1 + 24)), (1, .int (nI q))]) rfl ?_
  refine J_iload_n dX5_endOfRun_10 rfl ?_
  refine J_iconst (v := nI 1) dX5_endOfRun_11 (by decide +kernel) ?_
  refine J_iaddN dX5_endOfRun_12 ?_
  refine J_istore_n dX5_endOfRun_13 (Nat.le_of_ble_eq_true rfl) (L' := [(3, .int (nI (q + 1))), (2, .int (nI (fam (TX q)))), (0, .ref (E.1 + 24)), (1, .int (nI q))]) rfl ?_
  have CUT14 : ∀ (f14 : Nat) (e : Nat) (hm14 : sz - e < f14) (he : q + 1 ≤ e) (he2 : e ≤ sz) (hr : runG F (fam (F q)) (sz - (q + 1)) (q + 1) = runG F (fam (F q)) (sz - e) e) (hr0 : fam (F q) = 0 → e = q + 1), J E mX5_endOfRun (2, 0, 0) jS0 PP h n (0, 0) 14 [(3, .int (nI e)), (2, .int (nI (fam (TX q)))), (0, .ref (E.1 + 24)), (1, .int (nI q))] [] := by
    intro f14
    induction f14 with
    | zero => intro e hm14; exact absurd hm14 (Nat.not_lt_zero _)
    | succ f14 ih14 =>
      intro e hm14 he he2 hr hr0
      have fl : fam (F q) ≤ 2 := by unfold fam; (repeat' split) <;> omega
      refine J_iload_n dX5_endOfRun_14 rfl ?_
      refine J_if_eqN (tgt := 45) dX5_endOfRun_15 (by decide) (by omega) (fun c2 => ?_) (fun c2 => ?_)
      · skip
        refine J_iload_n dX5_endOfRun_45 rfl ?_
        exact J_iret dX5_endOfRun_46 rfl ⟨Nat.le_refl _, Nat.le_refl _⟩ (by rw [hPP]; exact ⟨(congrArg some (jv_N (by first | (unfold endF; rw [if_pos (by omega)]; omega) | (unfold endF; rw [if_neg (by omega), hr, runG_e (by omega)]) | (unfold endF; rw [if_neg (by omega), hr, runG_n (by omega)])))), rfl, rfl⟩)
      · skip
        refine J_iload_n dX5_endOfRun_18 rfl ?_
        refine J_aload_n dX5_endOfRun_19 rfl ?_
        refine J_get 5 dX5_endOfRun_20 jk5 (Nat.le_of_ble_eq_true rfl) jfRX5_28 H0 (by omega) rfl ?_
        refine J_icmp_geN (tgt := 45) dX5_endOfRun_23 (by decide) (by omega) (by omega) (fun c3 => ?_) (fun c3 => ?_)
        · skip
          refine J_iload_n dX5_endOfRun_45 rfl ?_
          exact J_iret dX5_endOfRun_46 rfl ⟨Nat.le_refl _, Nat.le_refl _⟩ (by rw [hPP]; exact ⟨(congrArg some (jv_N (by first | (unfold endF; rw [if_pos (by omega)]; omega) | (unfold endF; rw [if_neg (by omega), hr, runG_e (by omega)]) | (unfold endF; rw [if_neg (by omega), hr, runG_n (by omega)])))), rfl, rfl⟩)
        · skip
          refine J_aload_n dX5_endOfRun_26 rfl ?_
          refine J_get 0 dX5_endOfRun_27 jk5 (Nat.le_of_ble_eq_true rfl) jfRX5_11 H0 (by omega) rfl ?_
          refine J_iload_n dX5_endOfRun_30 rfl ?_
          refine J_baldN (i := e) dX5_endOfRun_31 H1 (by omega) (by omega) (by omega) ?_
          have hy := hTX e (by omega)
          have fe : fam (TX e) = fam (F e) := by rw [hy.1]
          refine J_callSr (M' := mX5_familyOf) (d' := (1, 0, 0)) (rest := []) dX5_endOfRun_32 jmX5_familyOf jlRX5_55 (ctX5_familyOf (TX e)   (by first | assumption | omega)) rfl rfl (Nat.le_of_ble_eq_true rfl) (Nat.le_of_ble_eq_true rfl) ⟨Nat.le_refl _, Nat.le_refl _⟩ ?_
          have fc4 : fam (TX e) ≤ 2 := (by unfold fam; (repeat' split) <;> omega)
          refine J_iload_n dX5_endOfRun_35 rfl ?_
          refine J_icmp_neN (tgt := 45) dX5_endOfRun_36 (by decide) (by omega) (by omega) (fun c5 => ?_) (fun c5 => ?_)
          · skip
            refine J_iload_n dX5_endOfRun_45 rfl ?_
            exact J_iret dX5_endOfRun_46 rfl ⟨Nat.le_refl _, Nat.le_refl _⟩ (by rw [hPP]; exact ⟨(congrArg some (jv_N (by first | (unfold endF; rw [if_pos (by omega)]; omega) | (unfold endF; rw [if_neg (by omega), hr, runG_e (by omega)]) | (unfold endF; rw [if_neg (by omega), hr, runG_n (by omega)])))), rfl, rfl⟩)
          · skip
            refine J_iincN (q := 0) (a := e) (m := 1) dX5_endOfRun_39 rfl (by decide +kernel) (Nat.le_of_ble_eq_true rfl) (L' := [(3, .int (nI (e + 1))), (2, .int (nI (fam (TX q)))), (0, .ref (E.1 + 24)), (1, .int (nI q))]) rfl ?_
            refine J_goto (tgt := 14) dX5_endOfRun_42 (by decide) ?_
            exact ih14 (e + 1) (by omega) (by first | assumption | omega) (by first | assumption | omega) (by first | rfl | (rw [hr]; exact runG_s (by omega) (by omega))) (by first | assumption | omega)
  exact CUT14 (sz - (q + 1) + 1) (q + 1) (Nat.lt_succ_self _) (by first | assumption | omega) (by first | assumption | omega) (by first | rfl | (rw [hr]; exact runG_s (by omega) (by omega))) (by first | assumption | omega)

set_option maxHeartbeats 1000000 in
set_option maxRecDepth 100000 in
theorem ctX5_isWord {E : jE} {h : Nat → va_E} {n : Nat} (w : Nat) (q : Nat) (e : Nat) (sz : Nat) (tk : Nat) (cu : Nat) (TX : Nat → Nat) (F : Nat → Nat) (H0 : h 24 = .inr (4, [.ref (E.1 + 25), .ref (E.1 + 26), .ref (E.1 + 27), .ref (E.1 + 28), .ref (E.1 + 29), .int (nI sz), .int (nI tk), .int (nI cu)])) (H1 : h 25 = cB E 150 (nF TX)) (hn : 38 ≤ n) (hw : w < 4) (hTX : ∀ zz, zz < sz → TX zz = F zz ∧ F zz ≤ 127) (hsz : sz ≤ 150) (hqe : q < e) (he : e ≤ sz) : jC E mX5_isWord (5, 0, 0) [.ref (E.1 + 24), .ref (E.2.2.2.1 w), .int (nI q), .int (nI e)] h n (jR (some (.int (jb (isWP F w q e)))) h n) := by
  refine J.of (L := [(0, .ref (E.1 + 24)), (1, .ref (E.2.2.2.1 w)), (2, .int (nI q)), (3, .int (nI e))]) rfl (by decide +kernel) (Nat.le_of_ble_eq_true rfl) ?_
  obtain ⟨PP, hPP⟩ : ∃ PP : jPost, PP = (jR (some (.int (jb (isWP F w q e)))) h n) := ⟨_, rfl⟩
  rw [← hPP]
  have wl := jst_len w hw
  refine J_iload_n dX5_isWord_0 rfl ?_
  refine J_iload_n dX5_isWord_1 rfl ?_
  refine J_isubN dX5_isWord_2 (by omega) ?_
  refine J_aload_n dX5_isWord_3 rfl ?_
  refine J_callVS (M' := mJ0_length_8abf5) (d' := (2, 0, 0)) (rest := [.int (nI (e - q))]) (by omega) dX5_isWord_4 jmJ0_length_8abf5 rfl jlRX5_73 (ctS_length w   (by first | assumption | omega)) rfl rfl (Nat.le_of_ble_eq_true rfl) (Nat.le_of_ble_eq_true rfl) ⟨Nat.le_refl _, Nat.le_refl _⟩ ?_
  refine J_icmp_eqN (tgt := 12) dX5_isWord_7 (by decide) (by omega) (by omega) (fun c1 => ?_) (fun c1 => ?_)
  · skip
    refine J_iconst (v := nI 0) dX5_isWord_12 (by decide +kernel) ?_
    refine J_istore dX5_isWord_13 (Nat.le_of_ble_eq_true rfl) (L' := [(4, .int (nI 0)), (0, .ref (E.1 + 24)), (1, .ref (E.2.2.2.1 w)), (2, .int (nI q)), (3, .int (nI e))]) rfl ?_
    have CUT15 : ∀ (f15 : Nat) (j : Nat) (hm15 : jlen.getD w 0 - j < f15) (hj : j ≤ jlen.getD w 0) (hlen : e - q = jlen.getD w 0) (hall : ∀ zz, zz < j → F (q + zz) = wch w zz), J E mX5_isWord (5, 0, 0) jS0 PP h n (0, 0) 15 [(4, .int (nI j)), (0, .ref (E.1 + 24)), (1, .ref (E.2.2.2.1 w)), (2, .int (nI q)), (3, .int (nI e))] [] := by
      intro f15
      induction f15 with
      | zero => intro j hm15; exact absurd hm15 (Nat.not_lt_zero _)
      | succ f15 ih15 =>
        intro j hm15 hj hlen hall
        refine J_iload dX5_isWord_15 rfl ?_
        refine J_aload_n dX5_isWord_17 rfl ?_
        refine J_callVS (M' := mJ0_length_8abf5) (d' := (2, 0, 0)) (rest := [.int (nI j)]) (by omega) dX5_isWord_18 jmJ0_length_8abf5 rfl jlRX5_73 (ctS_length w   (by first | assumption | omega)) rfl rfl (Nat.le_of_ble_eq_true rfl) (Nat.le_of_ble_eq_true rfl) ⟨Nat.le_refl _, Nat.le_refl _⟩ ?_
        refine J_icmp_geN (tgt := 50) dX5_isWord_21 (by decide) (by omega) (by omega) (fun c2 => ?_) (fun c2 => ?_)
        · skip
          refine J_iconst (v := nI 1) dX5_isWord_50 (by decide +kernel) ?_
          exact J_zret dX5_isWord_51 rfl rfl ⟨Nat.le_refl _, Nat.le_refl _⟩ (by rw [hPP]; exact ⟨(congrArg some (Option.some.inj (jret_B1 (by first | exact (fun z => by omega) | exact (fun z => absurd (z.2 j (by omega)) (by omega)) | (refine ⟨hlen, fun zz hz => hall zz (by omega)⟩))))), rfl, rfl⟩)
        · skip
          refine J_aload_n dX5_isWord_24 rfl ?_
          refine J_get 0 dX5_isWord_25 jk5 (Nat.le_of_ble_eq_true rfl) jfRX5_11 H0 (by omega) rfl ?_
          refine J_iload_n dX5_isWord_28 rfl ?_
          refine J_iload dX5_isWord_29 rfl ?_
          refine J_iaddN dX5_isWord_31 ?_
          refine J_baldN (i := q + j) dX5_isWord_32 H1 (by omega) (by omega) (by omega) ?_
          have hy := hTX (q + j) (by omega)
          refine J_aload_n dX5_isWord_33 rfl ?_
          refine J_iload dX5_isWord_34 rfl ?_
          refine J_callVS (M' := mJ0_charAt_5068e) (d' := (4, 0, 0)) (rest := [.int (nI (TX (q + j)))]) (by omega) dX5_isWord_36 jmJ0_charAt_5068e rfl jlRX5_79 (ctS_charAt w j   (by first | assumption | omega) (by first | assumption | omega)) rfl rfl (Nat.le_of_ble_eq_true rfl) (Nat.le_of_ble_eq_true rfl) ⟨Nat.le_refl _, Nat.le_refl _⟩ ?_
          have hch := (jst_ch w hw j (by omega)).2.1
          refine J_icmp_eqN (tgt := 44) dX5_isWord_39 (by decide) (by omega) (by omega) (fun c3 => ?_) (fun c3 => ?_)
          · skip
            refine J_iincN (q := 0) (a := j) (m := 1) dX5_isWord_44 rfl (by decide +kernel) (Nat.le_of_ble_eq_true rfl) (L' := [(4, .int (nI (j + 1))), (0, .ref (E.1 + 24)), (1, .ref (E.2.2.2.1 w)), (2, .int (nI q)), (3, .int (nI e))]) rfl ?_
            refine J_goto (tgt := 15) dX5_isWord_47 (by decide) ?_
            exact ih15 (j + 1) (by omega) (by first | assumption | omega) (by first | assumption | omega) (by first | exact (fun zz hz => absurd hz (Nat.not_lt_zero zz)) | exact lt_step (p := fun zz => F (q + zz) = wch w zz) hall (by omega))
          · skip
            refine J_iconst (v := nI 0) dX5_isWord_42 (by decide +kernel) ?_
            exact J_zret dX5_isWord_43 rfl rfl ⟨Nat.le_refl _, Nat.le_refl _⟩ (by rw [hPP]; exact ⟨(congrArg some (Option.some.inj (jret_B0 (by first | exact (fun z => by omega) | exact (fun z => absurd (z.2 j (by omega)) (by omega)) | (refine ⟨hlen, fun zz hz => hall zz (by omega)⟩))))), rfl, rfl⟩)
    exact CUT15 (jlen.getD w 0 - 0 + 1) 0 (Nat.lt_succ_self _) (by first | assumption | omega) (by first | assumption | omega) (by first | exact (fun zz hz => absurd hz (Nat.not_lt_zero zz)) | exact lt_step (p := fun zz => F (q + zz) = wch w zz) hall (by omega))
  · skip
    refine J_iconst (v := nI 0) dX5_isWord_10 (by decide +kernel) ?_
    exact J_zret dX5_isWord_11 rfl rfl ⟨Nat.le_refl _, Nat.le_refl _⟩ (by rw [hPP]; exact ⟨(congrArg some (Option.some.inj (jret_B0 (by first | exact (fun z => by omega) | exact (fun z => absurd (z.2 j (by omega)) (by omega)) | (refine ⟨hlen, fun zz hz => hall zz (by omega)⟩))))), rfl, rfl⟩)

set_option maxHeartbeats 1000000 in
set_option maxRecDepth 100000 in
theorem ctX5_sortOfWord {E : jE} {h : Nat → va_E} {n : Nat} (q : Nat) (e : Nat) (sz : Nat) (tk : Nat) (cu : Nat) (TX : Nat → Nat) (F : Nat → Nat) (H0 : h 24 = .inr (4, [.ref (E.1 + 25), .ref (E.1 + 26), .ref (E.1 + 27), .ref (E.1 + 28), .ref (E.1 + 29), .int (nI sz), .int (nI tk), .int (nI cu)])) (H1 : h 25 = cB E 150 (nF TX)) (hn : 38 ≤ n) (hTX : ∀ zz, zz < sz → TX zz = F zz ∧ F zz ≤ 127) (hsz : sz ≤ 150) (hqe : q < e) (he : e ≤ sz) : jC E mX5_sortOfWord (6, 0, 0) [.ref (E.1 + 24), .int (nI q), .int (nI e)] h n (jR (some (.int (nI (wordN F q e)))) h n) := by
  refine J.of (L := [(0, .ref (E.1 + 24)), (1, .int (nI q)), (2, .int (nI e))]) rfl (by decide +kernel) (Nat.le_of_ble_eq_true rfl) ?_
  obtain ⟨PP, hPP⟩ : ∃ PP : jPost, PP = (jR (some (.int (nI (wordN F q e)))) h n) := ⟨_, rfl⟩
  rw [← hPP]
  refine J_aload_n dX5_sortOfWord_0 rfl ?_
  refine J_ldcS (i := 0) (tx := "street") dX5_sortOfWord_1 (fun s q => q.2.2.2.2.1.1) ?_
  refine J_iload_n dX5_sortOfWord_3 rfl ?_
  refine J_iload_n dX5_sortOfWord_4 rfl ?_
  refine J_callVr (M' := mX5_isWord) (d' := (5, 0, 0)) (rest := []) dX5_sortOfWord_5 jmX5_isWord jlRX5_63 (ctX5_isWord 0 q e sz tk cu TX F H0 H1 (by omega) (by first | assumption | omega) (by first | assumption | omega) (by first | assumption | omega) (by first | assumption | omega) (by first | assumption | omega)) H0 (by omega) jk5.1 rfl rfl (Nat.le_of_ble_eq_true rfl) (Nat.le_of_ble_eq_true rfl) ⟨Nat.le_refl _, Nat.le_refl _⟩ ?_
  refine J_if_eqB (tgt := 13) dX5_sortOfWord_8 (by decide) (fun c1 => ?_) (fun c1 => ?_)
  · skip
    refine J_aload_n dX5_sortOfWord_13 rfl ?_
    refine J_ldcS (i := 1) (tx := "anvil") dX5_sortOfWord_14 (fun s q => q.2.2.2.2.1.2.1) ?_
    refine J_iload_n dX5_sortOfWord_16 rfl ?_
    refine J_iload_n dX5_sortOfWord_17 rfl ?_
    refine J_callVr (M' := mX5_isWord) (d' := (5, 0, 0)) (rest := []) dX5_sortOfWord_18 jmX5_isWord jlRX5_63 (ctX5_isWord 1 q e sz tk cu TX F H0 H1 (by omega) (by first | assumption | omega) (by first | assumption | omega) (by first | assumption | omega) (by first | assumption | omega) (by first | assumption | omega)) H0 (by omega) jk5.1 rfl rfl (Nat.le_of_ble_eq_true rfl) (Nat.le_of_ble_eq_true rfl) ⟨Nat.le_refl _, Nat.le_refl _⟩ ?_
    refine J_if_eqB (tgt := 26) dX5_sortOfWord_21 (by decide) (fun c2 => ?_) (fun c2 => ?_)
    · skip
      refine J_aload_n dX5_sortOfWord_26 rfl ?_
      refine J_ldcS (i := 2) (tx := "work") dX5_sortOfWord_27 (fun s q => q.2.2.2.2.1.2.2.1) ?_
      refine J_iload_n dX5_sortOfWord_29 rfl ?_
      refine J_iload_n dX5_sortOfWord_30 rfl ?_
      refine J_callVr (M' := mX5_isWord) (d' := (5, 0, 0)) (rest := []) dX5_sortOfWord_31 jmX5_isWord jlRX5_63 (ctX5_isWord 2 q e sz tk cu TX F H0 H1 (by omega) (by first | assumption | omega) (by first | assumption | omega) (by first | assumption | omega) (by first | assumption | omega) (by first | assumption | omega)) H0 (by omega) jk5.1 rfl rfl (Nat.le_of_ble_eq_true rfl) (Nat.le_of_ble_eq_true rfl) ⟨Nat.le_refl _, Nat.le_refl _⟩ ?_
      refine J_if_eqB (tgt := 39) dX5_sortOfWord_34 (by decide) (fun c3 => ?_) (fun c3 => ?_)
      · skip
        refine J_aload_n dX5_sortOfWord_39 rfl ?_
        refine J_ldcS (i := 3) (tx := "day") dX5_sortOfWord_40 (fun s q => q.2.2.2.2.1.2.2.2) ?_
        refine J_iload_n dX5_sortOfWord_42 rfl ?_
        refine J_iload_n dX5_sortOfWord_43 rfl ?_
        refine J_callVr (M' := mX5_isWord) (d' := (5, 0, 0)) (rest := []) dX5_sortOfWord_44 jmX5_isWord jlRX5_63 (ctX5_isWord 3 q e sz tk cu TX F H0 H1 (by omega) (by first | assumption | omega) (by first | assumption | omega) (by first | assumption | omega) (by first | assumption | omega) (by first | assumption | omega)) H0 (by omega) jk5.1 rfl rfl (Nat.le_of_ble_eq_true rfl) (Nat.le_of_ble_eq_true rfl) ⟨Nat.le_refl _, Nat.le_refl _⟩ ?_
        refine J_if_eqB (tgt := 54) dX5_sortOfWord_47 (by decide) (fun c4 => ?_) (fun c4 => ?_)
        · skip
          refine J_bipush (v := nI 7) dX5_sortOfWord_54 (by decide +kernel) ?_
          exact J_iret dX5_sortOfWord_56 rfl ⟨Nat.le_refl _, Nat.le_refl _⟩ (by rw [hPP]; exact ⟨(congrArg some (jv_N (by unfold wordN; first | (rw [if_pos (by assumption)]; done) | (rw [if_neg (by assumption), if_pos (by assumption)]; done) | (rw [if_neg (by assumption), if_neg (by assumption), if_pos (by assumption)]; done) | (rw [if_neg (by assumption), if_neg (by assumption), if_neg (by assumption), if_pos (by assumption)]; done) | (rw [if_neg (by assumption), if_neg (by assumption), if_neg (by assumption), if_neg (by assumption)]; done)))), rfl, rfl⟩)
        · skip
          refine J_iconst (v := nI 4) dX5_sortOfWord_50 (by decide +kernel) ?_
          refine J_goto (tgt := 56) dX5_sortOfWord_51 (by decide) ?_
          exact J_iret dX5_sortOfWord_56 rfl ⟨Nat.le_refl _, Nat.le_refl _⟩ (by rw [hPP]; exact ⟨(congrArg some (jv_N (by unfold wordN; first | (rw [if_pos (by assumption)]; done) | (rw [if_neg (by assumption), if_pos (by assumption)]; done) | (rw [if_neg (by assumption), if_neg (by assumption), if_pos (by assumption)]; done) | (rw [if_neg (by assumption), if_neg (by assumption), if_neg (by assumption), if_pos (by assumption)]; done) | (rw [if_neg (by assumption), if_neg (by assumption), if_neg (by assumption), if_neg (by assumption)]; done)))), rfl, rfl⟩)
      · skip
        refine J_iconst (v := nI 3) dX5_sortOfWord_37 (by decide +kernel) ?_
        exact J_iret dX5_sortOfWord_38 rfl ⟨Nat.le_refl _, Nat.le_refl _⟩ (by rw [hPP]; exact ⟨(congrArg some (jv_N (by unfold wordN; first | (rw [if_pos (by assumption)]; done) | (rw [if_neg (by assumption), if_pos (by assumption)]; done) | (rw [if_neg (by assumption), if_neg (by assumption), if_pos (by assumption)]; done) | (rw [if_neg (by assumption), if_neg (by assumption), if_neg (by assumption), if_pos (by assumption)]; done) | (rw [if_neg (by assumption), if_neg (by assumption), if_neg (by assumption), if_neg (by assumption)]; done)))), rfl, rfl⟩)
    · skip
      refine J_iconst (v := nI 2) dX5_sortOfWord_24 (by decide +kernel) ?_
      exact J_iret dX5_sortOfWord_25 rfl ⟨Nat.le_refl _, Nat.le_refl _⟩ (by rw [hPP]; exact ⟨(congrArg some (jv_N (by unfold wordN; first | (rw [if_pos (by assumption)]; done) | (rw [if_neg (by assumption), if_pos (by assumption)]; done) | (rw [if_neg (by assumption), if_neg (by assumption), if_pos (by assumption)]; done) | (rw [if_neg (by assumption), if_neg (by assumption), if_neg (by assumption), if_pos (by assumption)]; done) | (rw [if_neg (by assumption), if_neg (by assumption), if_neg (by assumption), if_neg (by assumption)]; done)))), rfl, rfl⟩)
  · skip
    refine J_iconst (v := nI 1) dX5_sortOfWord_11 (by decide +kernel) ?_
    exact J_iret dX5_sortOfWord_12 rfl ⟨Nat.le_refl _, Nat.le_refl _⟩ (by rw [hPP]; exact ⟨(congrArg some (jv_N (by unfold wordN; first | (rw [if_pos (by assumption)]; done) | (rw [if_neg (by assumption), if_pos (by assumption)]; done) | (rw [if_neg (by assumption), if_neg (by assumption), if_pos (by assumption)]; done) | (rw [if_neg (by assumption), if_neg (by assumption), if_neg (by assumption), if_pos (by assumption)]; done) | (rw [if_neg (by assumption), if_neg (by assumption), if_neg (by assumption), if_neg (by assumption)]; done)))), rfl, rfl⟩)

set_option maxHeartbeats 1000000 in
set_option maxRecDepth 100000 in
theorem ctX5_sortOf {E : jE} {h : Nat → va_E} {n : Nat} (q : Nat) (e : Nat) (sz : Nat) (tk : Nat) (cu : Nat) (TX : Nat → Nat) (F : Nat → Nat) (H0 : h 24 = .inr (4, [.ref (E.1 + 25), .ref (E.1 + 26), .ref (E.1 + 27), .ref (E.1 + 28), .ref (E.1 + 29), .int (nI sz), .int (nI tk), .int (nI cu)])) (H1 : h 25 = cB E 150 (nF TX)) (hn : 38 ≤ n) (hTX : ∀ zz, zz < sz → TX zz = F zz ∧ F zz ≤ 127) (hsz : sz ≤ 150) (hqe : q < e) (he : e ≤ sz) : jC E mX5_sortOf (7, 0, 0) [.ref (E.1 + 24), .int (nI q), .int (nI e)] h n (jR (some (.int (nI (sortN F q e)))) h n) := by
  refine J.of (L := [(0, .ref (E.1 + 24)), (1, .int (nI q)), (2, .int (nI e))]) rfl (by decide +kernel) (Nat.le_of_ble_eq_true rfl) ?_
  obtain ⟨PP, hPP⟩ : ∃ PP : jPost, PP = (jR (some (.int (nI (sortN F q e)))) h n) := ⟨_, rfl⟩
  rw [← hPP]
  have hx := hTX q (by omega)
  have fm : fam (TX q) = fam (F q) := by rw [hx.1]
  refine J_aload_n dX5_sortOf_0 rfl ?_
  refine J_get 0 dX5_sortOf_1 jk5 (Nat.le_of_ble_eq_true rfl) jfRX5_11 H0 (by omega) rfl ?_
  refine J_iload_n dX5_sortOf_4 rfl ?_
  refine J_baldN (i := q) dX5_sortOf_5 H1 (by omega) (by omega) (by omega) ?_
  refine J_callSr (M' := mX5_familyOf) (d' := (1, 0, 0)) (rest := []) dX5_sortOf_6 jmX5_familyOf jlRX5_55 (ctX5_familyOf (TX q)   (by first | assumption | omega)) rfl rfl (Nat.le_of_ble_eq_true rfl) (Nat.le_of_ble_eq_true rfl) ⟨Nat.le_refl _, Nat.le_refl _⟩ ?_
  have fc1 : fam (TX q) ≤ 2 := (by unfold fam; (repeat' split) <;> omega)
  have sw2 : (fam (TX q)) = 0 ∨ (fam (TX q)) = 1 ∨ (fam (TX q)) = 2 := by omega
  rcases sw2 with sw2 | sw2 | sw2
  · skip
    refine J_lookupN (tgt := 57) (v := 0) sw2 dX5_sortOf_9 (by decide +kernel) (off := 48) (by decide +kernel) (by decide) ?_
    refine J_aload_n dX5_sortOf_57 rfl ?_
    refine J_get 0 dX5_sortOf_58 jk5 (Nat.le_of_ble_eq_true rfl) jfRX5_11 H0 (by omega) rfl ?_
    refine J_iload_n dX5_sortOf_61 rfl ?_
    refine J_baldN (i := q) dX5_sortOf_62 H1 (by omega) (by omega) (by omega) ?_
    refine J_bipush (v := nI 59) dX5_sortOf_63 (by decide +kernel) ?_
    refine J_icmp_neN (tgt := 73) dX5_sortOf_65 (by decide) (by omega) (by omega) (fun c3 => ?_) (fun c3 => ?_)
    · skip
      refine J_bipush (v := nI 7) dX5_sortOf_73 (by decide +kernel) ?_
      exact J_iret dX5_sortOf_75 rfl ⟨Nat.le_refl _, Nat.le_refl _⟩ (by rw [hPP]; exact ⟨(congrArg some (jv_N (by first | (unfold sortN; rw [if_pos (by omega), if_pos (by omega)]; done) | (unfold sortN; rw [if_pos (by omega), if_neg (by omega)]; done) | (unfold sortN; rw [if_neg (by omega), if_pos (by omega)]; done) | (unfold sortN; rw [if_neg (by omega), if_neg (by omega), if_pos (by omega)]; done) | (unfold sortN; rw [if_neg (by omega), if_neg (by omega), if_neg (by omega)]; done)))), rfl, rfl⟩)
    · skip
      refine J_bipush (v := nI 6) dX5_sortOf_68 (by decide +kernel) ?_
      refine J_goto (tgt := 75) dX5_sortOf_70 (by decide) ?_
      exact J_iret dX5_sortOf_75 rfl ⟨Nat.le_refl _, Nat.le_refl _⟩ (by rw [hPP]; exact ⟨(congrArg some (jv_N (by first | (unfold sortN; rw [if_pos (by omega), if_pos (by omega)]; done) | (unfold sortN; rw [if_pos (by omega), if_neg (by omega)]; done) | (unfold sortN; rw [if_neg (by omega), if_pos (by omega)]; done) | (unfold sortN; rw [if_neg (by omega), if_neg (by omega), if_pos (by omega)]; done) | (unfold sortN; rw [if_neg (by omega), if_neg (by omega), if_neg (by omega)]; done)))), rfl, rfl⟩)
  · skip
    refine J_lookupN (tgt := 36) (v := 1) sw2 dX5_sortOf_9 (by decide +kernel) (off := 27) (by decide +kernel) (by decide) ?_
    refine J_iload_n dX5_sortOf_36 rfl ?_
    refine J_iload_n dX5_sortOf_37 rfl ?_
    refine J_isubN dX5_sortOf_38 (by omega) ?_
    refine J_iconst (v := nI 2) dX5_sortOf_39 (by decide +kernel) ?_
    refine J_icmp_gtN (tgt := 47) dX5_sortOf_40 (by decide) (by omega) (by omega) (fun c4 => ?_) (fun c4 => ?_)
    · skip
      refine J_bipush (v := nI 7) dX5_sortOf_47 (by decide +kernel) ?_
      exact J_iret dX5_sortOf_49 rfl ⟨Nat.le_refl _, Nat.le_refl _⟩ (by rw [hPP]; exact ⟨(congrArg some (jv_N (by first | (unfold sortN; rw [if_pos (by omega), if_pos (by omega)]; done) | (unfold sortN; rw [if_pos (by omega), if_neg (by omega)]; done) | (unfold sortN; rw [if_neg (by omega), if_pos (by omega)]; done) | (unfold sortN; rw [if_neg (by omega), if_neg (by omega), if_pos (by omega)]; done) | (unfold sortN; rw [if_neg (by omega), if_neg (by omega), if_neg (by omega)]; done)))), rfl, rfl⟩)
    · skip
      refine J_iconst (v := nI 5) dX5_sortOf_43 (by decide +kernel) ?_
      refine J_goto (tgt := 49) dX5_sortOf_44 (by decide) ?_
      exact J_iret dX5_sortOf_49 rfl ⟨Nat.le_refl _, Nat.le_refl _⟩ (by rw [hPP]; exact ⟨(congrArg some (jv_N (by first | (unfold sortN; rw [if_pos (by omega), if_pos (by omega)]; done) | (unfold sortN; rw [if_pos (by omega), if_neg (by omega)]; done) | (unfold sortN; rw [if_neg (by omega), if_pos (by omega)]; done) | (unfold sortN; rw [if_neg (by omega), if_neg (by omega), if_pos (by omega)]; done) | (unfold sortN; rw [if_neg (by omega), if_neg (by omega), if_neg (by omega)]; done)))), rfl, rfl⟩)
  · skip
    refine J_lookupN (tgt := 50) (v := 2) sw2 dX5_sortOf_9 (by decide +kernel) (off := 41) (by decide +kernel) (by decide) ?_
    refine J_aload_n dX5_sortOf_50 rfl ?_
    refine J_iload_n dX5_sortOf_51 rfl ?_
    refine J_iload_n dX5_sortOf_52 rfl ?_
    refine J_callVr (M' := mX5_sortOfWord) (d' := (6, 0, 0)) (rest := []) dX5_sortOf_53 jmX5_sortOfWord jlRX5_58 (ctX5_sortOfWord q e sz tk cu TX F H0 H1 (by omega) (by first | assumption | omega) (by first | assumption | omega) (by first | assumption | omega) (by first | assumption | omega)) H0 (by omega) jk5.1 rfl rfl (Nat.le_of_ble_eq_true rfl) (Nat.le_of_ble_eq_true rfl) ⟨Nat.le_refl _, Nat.le_refl _⟩ ?_
    exact J_iret dX5_sortOf_56 rfl ⟨Nat.le_refl _, Nat.le_refl _⟩ (by rw [hPP]; exact ⟨(congrArg some (jv_N (by first | (unfold sortN; rw [if_pos (by omega), if_pos (by omega)]; done) | (unfold sortN; rw [if_pos (by omega), if_neg (by omega)]; done) | (unfold sortN; rw [if_neg (by omega), if_pos (by omega)]; done) | (unfold sortN; rw [if_neg (by omega), if_neg (by omega), if_pos (by omega)]; done) | (unfold sortN; rw [if_neg (by omega), if_neg (by omega), if_neg (by omega)]; done)))), rfl, rfl⟩)

set_option maxHeartbeats 1000000 in
set_option maxRecDepth 100000 in
theorem ctX5_valueOf {E : jE} {h : Nat → va_E} {n : Nat} (q : Nat) (e : Nat) (sz : Nat) (tk : Nat) (cu : Nat) (TX : Nat → Nat) (F : Nat → Nat) (H0 : h 24 = .inr (4, [.ref (E.1 + 25), .ref (E.1 + 26), .ref (E.1 + 27), .ref (E.1 + 28), .ref (E.1 + 29), .int (nI sz), .int (nI tk), .int (nI cu)])) (H1 : h 25 = cB E 150 (nF TX)) (hn : 38 ≤ n) (hTX : ∀ zz, zz < sz → TX zz = F zz ∧ F zz ≤ 127) (hsz : sz ≤ 150) (hqe : q < e) (he : e ≤ sz) : jC E mX5_valueOf (1, 0, 0) [.ref (E.1 + 24), .int (nI q), .int (nI e)] h n (jR (some (.int (valI F q e))) h n) := by
  refine J.of (L := [(0, .ref (E.1 + 24)), (1, .int (nI q)), (2, .int (nI e))]) rfl (by decide +kernel) (Nat.le_of_ble_eq_true rfl) ?_
  obtain ⟨PP, hPP⟩ : ∃ PP : jPost, PP = (jR (some (.int (valI F q e))) h n) := ⟨_, rfl⟩
  rw [← hPP]
  have hx := hTX q (by omega)
  have hy := hTX (e - 1) (by omega)
  refine J_aload_n dX5_valueOf_0 rfl ?_
  refine J_get 0 dX5_valueOf_1 jk5 (Nat.le_of_ble_eq_true rfl) jfRX5_11 H0 (by omega) rfl ?_
  refine J_iload_n dX5_valueOf_4 rfl ?_
  refine J_iconst (v := nI 1) dX5_valueOf_5 (by decide +kernel) ?_
  refine J_isubN dX5_valueOf_6 (by omega) ?_
  refine J_baldN (i := e - 1) dX5_valueOf_7 H1 (by omega) (by omega) (by omega) ?_
  refine J_bipush (v := nI 48) dX5_valueOf_8 (by decide +kernel) ?_
  refine J_isub dX5_valueOf_10 ?_
  refine J_istore_n dX5_valueOf_11 (Nat.le_of_ble_eq_true rfl) (L' := [(3, .int ((nI (TX (e - 1))) - (nI 48))), (0, .ref (E.1 + 24)), (1, .int (nI q)), (2, .int (nI e))]) rfl ?_
  refine J_iload_n dX5_valueOf_12 rfl ?_
  refine J_iload_n dX5_valueOf_13 rfl ?_
  refine J_isubN dX5_valueOf_14 (by omega) ?_
  refine J_iconst (v := nI 2) dX5_valueOf_15 (by decide +kernel) ?_
  refine J_icmp_neN (tgt := 36) dX5_valueOf_16 (by decide) (by omega) (by omega) (fun c1 => ?_) (fun c1 => ?_)
  · skip
    refine J_iload_n dX5_valueOf_36 rfl ?_
    exact J_iret dX5_valueOf_37 rfl ⟨Nat.le_refl _, Nat.le_refl _⟩ (by rw [hPP]; exact ⟨(congrArg some (jv_I (by unfold valI; first | (rw [if_pos (by omega), hx.1, hy.1]; done) | (rw [if_neg (by omega), hy.1]; done)))), rfl, rfl⟩)
  · skip
    refine J_bipush (v := nI 10) dX5_valueOf_19 (by decide +kernel) ?_
    refine J_aload_n dX5_valueOf_21 rfl ?_
    refine J_get 0 dX5_valueOf_22 jk5 (Nat.le_of_ble_eq_true rfl) jfRX5_11 H0 (by omega) rfl ?_
    refine J_iload_n dX5_valueOf_25 rfl ?_
    refine J_baldN (i := q) dX5_valueOf_26 H1 (by omega) (by omega) (by omega) ?_
    refine J_bipush (v := nI 48) dX5_valueOf_27 (by decide +kernel) ?_
    refine J_isub dX5_valueOf_29 ?_
    refine J_imul dX5_valueOf_30 ?_
    refine J_iload_n dX5_valueOf_31 rfl ?_
    refine J_iadd dX5_valueOf_32 ?_
    refine J_goto (tgt := 37) dX5_valueOf_33 (by decide) ?_
    exact J_iret dX5_valueOf_37 rfl ⟨Nat.le_refl _, Nat.le_refl _⟩ (by rw [hPP]; exact ⟨(congrArg some (jv_I (by unfold valI; first | (rw [if_pos (by omega), hx.1, hy.1]; done) | (rw [if_neg (by omega), hy.1]; done)))), rfl, rfl⟩)

set_option maxHeartbeats 1000000 in
set_option maxRecDepth 100000 in
theorem ctX5_addToken {E : jE} {h : Nat → va_E} {n : Nat} (so : Nat) (st : Nat) (sz : Nat) (tk : Nat) (cu : Nat) (SO : Nat → Nat) (ST : Nat → Nat) (x : Int32) (VL : Nat → Int32) (H0 : h 24 = .inr (4, [.ref (E.1 + 25), .ref (E.1 + 26), .ref (E.1 + 27), .ref (E.1 + 28), .ref (E.1 + 29), .int (nI sz), .int (nI tk), .int (nI cu)])) (H1 : h 26 = cI E 151 (nF SO)) (H2 : h 27 = cI E 151 (nF ST)) (H3 : h 28 = cI E 151 VL) (hn : 38 ≤ n) (htk : tk ≤ 150) : jC E mX5_addToken (1, 0, 0) [.ref (E.1 + 24), .int (nI so), .int (nI st), .int x] h n (jR none (hset (hset (hset (hset h 26 (cI E 151 (nF (updN SO tk so)))) 27 (cI E 151 (nF (updN ST tk st)))) 28 (cI E 151 (upd VL tk x))) 24 (.inr (4, [.ref (E.1 + 25), .ref (E.1 + 26), .ref (E.1 + 27), .ref (E.1 + 28), .ref (E.1 + 29), .int (nI sz), .int (nI (tk + 1)), .int (nI cu)]))) n) := by
  refine J.of (L := [(0, .ref (E.1 + 24)), (1, .int (nI so)), (2, .int (nI st)), (3, .int x)]) rfl (by decide +kernel) (Nat.le_of_ble_eq_true rfl) ?_
  obtain ⟨PP, hPP⟩ : ∃ PP : jPost, PP = (jR none (hset (hset (hset (hset h 26 (cI E 151 (nF (updN SO tk so)))) 27 (cI E 151 (nF (updN ST tk st)))) 28 (cI E 151 (upd VL tk x))) 24 (.inr (4, [.ref (E.1 + 25), .ref (E.1 + 26), .ref (E.1 + 27), .ref (E.1 + 28), .ref (E.1 + 29), .int (nI sz), .int (nI (tk + 1)), .int (nI cu)]))) n) := ⟨_, rfl⟩
  rw [← hPP]
  refine J_aload_n dX5_addToken_0 rfl ?_
  refine J_get 6 dX5_addToken_1 jk5 (Nat.le_of_ble_eq_true rfl) jfRX5_32 H0 (by omega) rfl ?_
  refine J_sipush (v := nI 150) dX5_addToken_4 (by decide +kernel) ?_
  refine J_icmp_gtN (tgt := 50) dX5_addToken_7 (by decide) (by omega) (by omega) (fun c1 => (by exfalso; omega)) (fun c1 => ?_)
  refine J_aload_n dX5_addToken_10 rfl ?_
  refine J_get 1 dX5_addToken_11 jk5 (Nat.le_of_ble_eq_true rfl) jfRX5_15 H0 (by omega) rfl ?_
  refine J_aload_n dX5_addToken_14 rfl ?_
  refine J_get 6 dX5_addToken_15 jk5 (Nat.le_of_ble_eq_true rfl) jfRX5_32 H0 (by omega) rfl ?_
  refine J_iload_n dX5_addToken_18 rfl ?_
  refine J_iastN (i := tk) (v := so) dX5_addToken_19 H1 (by omega) (by omega) (by omega) ?_
  refine J_aload_n dX5_addToken_20 rfl ?_
  refine J_get 2 dX5_addToken_21 jk5 (Nat.le_of_ble_eq_true rfl) jfRX5_19 ((hset_ne (by omega)).trans H0) (by omega) rfl ?_
  refine J_aload_n dX5_addToken_24 rfl ?_
  refine J_get 6 dX5_addToken_25 jk5 (Nat.le_of_ble_eq_true rfl) jfRX5_32 ((hset_ne (by omega)).trans H0) (by omega) rfl ?_
  refine J_iload_n dX5_addToken_28 rfl ?_
  refine J_iastN (i := tk) (v := st) dX5_addToken_29 ((hset_ne (by omega)).trans H2) (by omega) (by omega) (by omega) ?_
  refine J_aload_n dX5_addToken_30 rfl ?_
  refine J_get 3 dX5_addToken_31 jk5 (Nat.le_of_ble_eq_true rfl) jfRX5_22 ((hset_ne (by omega)).trans ((hset_ne (by omega)).trans H0)) (by omega) rfl ?_
  refine J_aload_n dX5_addToken_34 rfl ?_
  refine J_get 6 dX5_addToken_35 jk5 (Nat.le_of_ble_eq_true rfl) jfRX5_32 ((hset_ne (by omega)).trans ((hset_ne (by omega)).trans H0)) (by omega) rfl ?_
  refine J_iload_n dX5_addToken_38 rfl ?_
  refine J_iastF dX5_addToken_39 ((hset_ne (by omega)).trans ((hset_ne (by omega)).trans H3)) (by omega) (by omega) (by omega) ?_
  refine J_aload_n dX5_addToken_40 rfl ?_
  refine J_dup dX5_addToken_41 rfl ?_
  refine J_get 6 dX5_addToken_42 jk5 (Nat.le_of_ble_eq_true rfl) jfRX5_32 ((hset_ne (by omega)).trans ((hset_ne (by omega)).trans ((hset_ne (by omega)).trans H0))) (by omega) rfl ?_
  refine J_iconst (v := nI 1) dX5_addToken_45 (by decide +kernel) ?_
  refine J_iaddN dX5_addToken_46 ?_
  refine J_put 6 dX5_addToken_47 jk5 (Nat.le_of_ble_eq_true rfl) jfRX5_32 ((hset_ne (by omega)).trans ((hset_ne (by omega)).trans ((hset_ne (by omega)).trans H0))) (by omega) rfl rfl rfl (Nat.le_of_ble_eq_true rfl) ?_
  refine J.cast (h' := (hset (hset (hset (hset h 26 (cI E 151 (nF (updN SO tk so)))) 27 (cI E 151 (nF (updN ST tk st)))) 28 (cI E 151 (upd VL tk x))) 24 (.inr (4, [.ref (E.1 + 25), .ref (E.1 + 26), .ref (E.1 + 27), .ref (E.1 + 28), .ref (E.1 + 29), .int (nI sz), .int (nI (tk + 1)), .int (nI cu)])))) rfl ?_
  exact J_vret dX5_addToken_50 rfl ⟨Nat.le_refl _, Nat.le_refl _⟩ (by rw [hPP]; exact ⟨rfl, rfl, rfl⟩)

set_option maxHeartbeats 1000000 in
set_option maxRecDepth 100000 in
theorem ctX5_scan {E : jE} {h : Nat → va_E} {n : Nat} (sz : Nat) (tk : Nat) (cu : Nat) (TX : Nat → Nat) (F : Nat → Nat) (SO : Nat → Nat) (ST : Nat → Nat) (VL : Nat → Int32) (H0 : h 24 = .inr (4, [.ref (E.1 + 25), .ref (E.1 + 26), .ref (E.1 + 27), .ref (E.1 + 28), .ref (E.1 + 29), .int (nI sz), .int (nI tk), .int (nI cu)])) (H1 : h 25 = cB E 150 (nF TX)) (H2 : h 26 = cI E 151 (nF SO)) (H3 : h 27 = cI E 151 (nF ST)) (H4 : h 28 = cI E 151 VL) (hn : 38 ≤ n) (hTX : ∀ zz, zz < sz → TX zz = F zz ∧ F zz ≤ 127) (hsz : sz ≤ 150) : jC E mX5_scan (8, 0, 0) [.ref (E.1 + 24)] h n (fun v h' n' => v = none ∧ n' = n ∧ ∃ (t : Nat) (SO1 : Nat → Nat) (ST1 : Nat → Nat) (VL1 : Nat → Int32), h' = (hset (hset (hset (hset h 24 (.inr (4, [.ref (E.1 + 25), .ref (E.1 + 26), .ref (E.1 + 27), .ref (E.1 + 28), .ref (E.1 + 29), .int (nI sz), .int (nI (t + 1)), .int (nI cu)]))) 26 (cI E 151 (nF SO1))) 27 (cI E 151 (nF ST1))) 28 (cI E 151 VL1)) ∧ (tokB F sz t SO1 ST1 VL1)) := by
  refine J.of (L := [(0, .ref (E.1 + 24))]) rfl (by decide +kernel) (Nat.le_of_ble_eq_true rfl) ?_
  obtain ⟨PP, hPP⟩ : ∃ PP : jPost, PP = (fun v h' n' => v = none ∧ n' = n ∧ ∃ (t : Nat) (SO1 : Nat → Nat) (ST1 : Nat → Nat) (VL1 : Nat → Int32), h' = (hset (hset (hset (hset h 24 (.inr (4, [.ref (E.1 + 25), .ref (E.1 + 26), .ref (E.1 + 27), .ref (E.1 + 28), .ref (E.1 + 29), .int (nI sz), .int (nI (t + 1)), .int (nI cu)]))) 26 (cI E 151 (nF SO1))) 27 (cI E 151 (nF ST1))) 28 (cI E 151 VL1)) ∧ (tokB F sz t SO1 ST1 VL1)) := ⟨_, rfl⟩
  rw [← hPP]
  refine J_aload_n dX5_scan_0 rfl ?_
  refine J_iconst (v := nI 0) dX5_scan_1 (by decide +kernel) ?_
  refine J_put 6 dX5_scan_2 jk5 (Nat.le_of_ble_eq_true rfl) jfRX5_32 H0 (by omega) rfl rfl rfl (Nat.le_of_ble_eq_true rfl) ?_
  refine J.cast (h' := (hset h 24 (.inr (4, [.ref (E.1 + 25), .ref (E.1 + 26), .ref (E.1 + 27), .ref (E.1 + 28), .ref (E.1 + 29), .int (nI sz), .int (nI 0), .int (nI cu)])))) rfl ?_
  refine J_iconst (v := nI 0) dX5_scan_5 (by decide +kernel) ?_
  refine J_istore_n dX5_scan_6 (Nat.le_of_ble_eq_true rfl) (L' := [(1, .int (nI 0)), (0, .ref (E.1 + 24))]) rfl ?_
  have CUT7 : ∀ (f7 : Nat) (p : Nat) (t : Nat) (SO1 : Nat → Nat) (ST1 : Nat → Nat) (VL1 : Nat → Int32) (hm7 : sz - p < f7) (hat : p ≤ sz) (ht : t ≤ p) (hsk : skipF F sz p = posT F sz t) (htok : tokA F sz t SO1 ST1 VL1), J E mX5_scan (8, 0, 0) jS0 PP (hset (hset (hset (hset h 24 (.inr (4, [.ref (E.1 + 25), .ref (E.1 + 26), .ref (E.1 + 27), .ref (E.1 + 28), .ref (E.1 + 29), .int (nI sz), .int (nI t), .int (nI cu)]))) 26 (cI E 151 (nF SO1))) 27 (cI E 151 (nF ST1))) 28 (cI E 151 VL1)) n (0, 0) 7 [(1, .int (nI p)), (0, .ref (E.1 + 24))] [] := by
    intro f7
    induction f7 with
    | zero => intro p t SO1 ST1 VL1 hm7; exact absurd hm7 (Nat.not_lt_zero _)
    | succ f7 ih7 =>
      intro p t SO1 ST1 VL1 hm7 hat ht hsk htok
      refine J_iload_n dX5_scan_7 rfl ?_
      refine J_aload_n dX5_scan_8 rfl ?_
      refine J_get 5 dX5_scan_9 jk5 (Nat.le_of_ble_eq_true rfl) jfRX5_28 ((hset_ne (by omega)).trans ((hset_ne (by omega)).trans ((hset_ne (by omega)).trans hset_eq))) (by omega) rfl ?_
      refine J_icmp_geN (tgt := 60) dX5_scan_12 (by decide) (by omega) (by omega) (fun c1 => ?_) (fun c1 => ?_)
      · skip
        refine J_aload_n dX5_scan_60 rfl ?_
        refine J_iconst (v := nI 0) dX5_scan_61 (by decide +kernel) ?_
        refine J_aload_n dX5_scan_62 rfl ?_
        refine J_get 5 dX5_scan_63 jk5 (Nat.le_of_ble_eq_true rfl) jfRX5_28 ((hset_ne (by omega)).trans ((hset_ne (by omega)).trans ((hset_ne (by omega)).trans hset_eq))) (by omega) rfl ?_
        refine J_iconst (v := nI 0) dX5_scan_66 (by decide +kernel) ?_
        refine J_callVn (M' := mX5_addToken) (d' := (1, 0, 0)) (rest := []) dX5_scan_67 jmX5_addToken jlRX5_46 (ctX5_addToken 0 sz sz t cu SO1 ST1 (nI 0) VL1 ((hset_ne (by omega)).trans ((hset_ne (by omega)).trans ((hset_ne (by omega)).trans hset_eq))) ((hset_ne (by omega)).trans ((hset_ne (by omega)).trans hset_eq)) ((hset_ne (by omega)).trans hset_eq) hset_eq (by omega) (by first | assumption | omega)) ((hset_ne (by omega)).trans ((hset_ne (by omega)).trans ((hset_ne (by omega)).trans hset_eq))) (by omega) jk5.1 rfl rfl (Nat.le_of_ble_eq_true rfl) (Nat.le_of_ble_eq_true rfl) ⟨Nat.le_refl _, Nat.le_refl _⟩ ?_
        refine J.cast ((hset_cg ((hset_cg ((hset_cg ((hset_comm (by omega)).trans (hset_cg ((hset_comm (by omega)).trans (hset_cg hset_hset rfl)) rfl)) rfl).trans ((hset_comm (by omega)).trans (hset_cg hset_hset rfl))) rfl).trans hset_hset) rfl).trans ((hset_comm (by omega)).trans (hset_cg ((hset_comm (by omega)).trans (hset_cg ((hset_comm (by omega)).trans (hset_cg hset_hset rfl)) rfl)) rfl))) ?_
        exact J_vret dX5_scan_70 rfl ⟨Nat.le_refl _, Nat.le_refl _⟩ (by rw [hPP]; exact ⟨rfl, rfl, t, (updN SO1 t 0), (updN ST1 t sz), (upd VL1 t (nI 0)), rfl, (by (rw [show p = sz by omega] at hsk; exact tokB_of htok (by rw [← hsk]; exact skipF_end (Nat.le_refl _)) (by omega)))⟩)
      · skip
        refine J_aload_n dX5_scan_15 rfl ?_
        refine J_iload_n dX5_scan_16 rfl ?_
        refine J_callVr (M' := mX5_endOfRun) (d' := (2, 0, 0)) (rest := []) dX5_scan_17 jmX5_endOfRun jlRX5_35 (ctX5_endOfRun p sz t cu TX F ((hset_ne (by omega)).trans ((hset_ne (by omega)).trans ((hset_ne (by omega)).trans hset_eq))) ((hset_ne (by omega)).trans ((hset_ne (by omega)).trans ((hset_ne (by omega)).trans ((hset_ne (by omega)).trans H1)))) (by omega) (by first | assumption | omega) (by first | assumption | omega) (by first | assumption | omega)) ((hset_ne (by omega)).trans ((hset_ne (by omega)).trans ((hset_ne (by omega)).trans hset_eq))) (by omega) jk5.1 rfl rfl (Nat.le_of_ble_eq_true rfl) (Nat.le_of_ble_eq_true rfl) ⟨Nat.le_refl _, Nat.le_refl _⟩ ?_
        have fc2 : p < endF F sz p ∧ endF F sz p ≤ sz := (⟨(endF_le (show p < sz from by first | assumption | omega)).1, (endF_le (show p < sz from by first | assumption | omega)).2.1⟩)
        refine J_istore_n dX5_scan_20 (Nat.le_of_ble_eq_true rfl) (L' := [(2, .int (nI (endF F sz p))), (1, .int (nI p)), (0, .ref (E.1 + 24))]) rfl ?_
        have hx := hTX p (by omega)
        have hends : F p = 32 → endF F sz p = p + 1 := fun q => by unfold endF; rw [if_pos (by rw [q]; decide)]
        refine J_aload_n dX5_scan_21 rfl ?_
        refine J_get 0 dX5_scan_22 jk5 (Nat.le_of_ble_eq_true rfl) jfRX5_11 ((hset_ne (by omega)).trans ((hset_ne (by omega)).trans ((hset_ne (by omega)).trans hset_eq))) (by omega) rfl ?_
        refine J_iload_n dX5_scan_25 rfl ?_
        refine J_baldN (i := p) dX5_scan_26 ((hset_ne (by omega)).trans ((hset_ne (by omega)).trans ((hset_ne (by omega)).trans ((hset_ne (by omega)).trans H1)))) (by omega) (by omega) (by omega) ?_
        refine J_bipush (v := nI 32) dX5_scan_27 (by decide +kernel) ?_
        refine J_icmp_eqN (tgt := 49) dX5_scan_29 (by decide) (by omega) (by omega) (fun c3 => ?_) (fun c3 => ?_)
        · skip
          refine J_iload_n dX5_scan_49 rfl ?_
          refine J_iload_n dX5_scan_50 rfl ?_
          refine J_iconst (v := nI 1) dX5_scan_51 (by decide +kernel) ?_
          refine J_iaddN dX5_scan_52 ?_
          refine J_mmaxN (a := endF F sz p) (b := p + 1) dX5_scan_53 jlRX5_50 (jmJ9_max_7cf53).2 (jmJ9_max_7cf53).1.2.1 (jmJ9_max_7cf53).1.1 (by omega) (by omega) (Nat.le_of_ble_eq_true rfl) (Nat.le_of_ble_eq_true rfl) ⟨Nat.le_refl _, Nat.le_refl _⟩ ?_
          refine J_istore_n dX5_scan_56 (Nat.le_of_ble_eq_true rfl) (L' := [(1, .int (nI (max (endF F sz p) (p + 1)))), (2, .int (nI (endF F sz p))), (0, .ref (E.1 + 24))]) rfl ?_
          refine J_goto (tgt := 7) dX5_scan_57 (by decide) ?_
          refine J.sub [0, 2] (L' := [(1, .int (nI (max (endF F sz p) (p + 1)))), (0, .ref (E.1 + 24))]) rfl ?_
          exact ih7 (max (endF F sz p) (p + 1)) t SO1 ST1 VL1 (by omega) (by first | assumption | omega) (by first | assumption | omega) (by first | rfl | (rw [Nat.max_eq_left (by omega)]; rw [← hsk, skipF_sp (F := F) (n := sz) (p := p) (by omega) (by omega)]; rw [hends (by omega)]) | (rw [Nat.max_eq_left (by omega)]; exact (posT_n (by omega) hsk (by omega)).symm)) (by first | exact tokA_0 | exact htok | exact tokA_s htok (by omega) (by rw [← hsk]; exact skipF_no (by omega)))
        · skip
          refine J_aload_n dX5_scan_32 rfl ?_
          refine J_aload_n dX5_scan_33 rfl ?_
          refine J_iload_n dX5_scan_34 rfl ?_
          refine J_iload_n dX5_scan_35 rfl ?_
          refine J_callVr (M' := mX5_sortOf) (d' := (7, 0, 0)) (rest := [.ref (E.1 + 24)]) dX5_scan_36 jmX5_sortOf jlRX5_39 (ctX5_sortOf p (endF F sz p) sz t cu TX F ((hset_ne (by omega)).trans ((hset_ne (by omega)).trans ((hset_ne (by omega)).trans hset_eq))) ((hset_ne (by omega)).trans ((hset_ne (by omega)).trans ((hset_ne (by omega)).trans ((hset_ne (by omega)).trans H1)))) (by omega) (by first | assumption | omega) (by first | assumption | omega) (by first | assumption | omega) (by first | assumption | omega)) ((hset_ne (by omega)).trans ((hset_ne (by omega)).trans ((hset_ne (by omega)).trans hset_eq))) (by omega) jk5.1 rfl rfl (Nat.le_of_ble_eq_true rfl) (Nat.le_of_ble_eq_true rfl) ⟨Nat.le_refl _, Nat.le_refl _⟩ ?_
          refine J_iload_n dX5_scan_39 rfl ?_
          refine J_aload_n dX5_scan_40 rfl ?_
          refine J_iload_n dX5_scan_41 rfl ?_
          refine J_iload_n dX5_scan_42 rfl ?_
          refine J_callVr (M' := mX5_valueOf) (d' := (1, 0, 0)) (rest := [.int (nI p), .int (nI (sortN F p (endF F sz p))), .ref (E.1 + 24)]) dX5_scan_43 jmX5_valueOf jlRX5_43 (ctX5_valueOf p (endF F sz p) sz t cu TX F ((hset_ne (by omega)).trans ((hset_ne (by omega)).trans ((hset_ne (by omega)).trans hset_eq))) ((hset_ne (by omega)).trans ((hset_ne (by omega)).trans ((hset_ne (by omega)).trans ((hset_ne (by omega)).trans H1)))) (by omega) (by first | assumption | omega) (by first | assumption | omega) (by first | assumption | omega) (by first | assumption | omega)) ((hset_ne (by omega)).trans ((hset_ne (by omega)).trans ((hset_ne (by omega)).trans hset_eq))) (by omega) jk5.1 rfl rfl (Nat.le_of_ble_eq_true rfl) (Nat.le_of_ble_eq_true rfl) ⟨Nat.le_refl _, Nat.le_refl _⟩ ?_
          refine J_callVn (M' := mX5_addToken) (d' := (1, 0, 0)) (rest := []) dX5_scan_46 jmX5_addToken jlRX5_46 (ctX5_addToken (sortN F p (endF F sz p)) p sz t cu SO1 ST1 (valI F p (endF F sz p)) VL1 ((hset_ne (by omega)).trans ((hset_ne (by omega)).trans ((hset_ne (by omega)).trans hset_eq))) ((hset_ne (by omega)).trans ((hset_ne (by omega)).trans hset_eq)) ((hset_ne (by omega)).trans hset_eq) hset_eq (by omega) (by first | assumption | omega)) ((hset_ne (by omega)).trans ((hset_ne (by omega)).trans ((hset_ne (by omega)).trans hset_eq))) (by omega) jk5.1 rfl rfl (Nat.le_of_ble_eq_true rfl) (Nat.le_of_ble_eq_true rfl) ⟨Nat.le_refl _, Nat.le_refl _⟩ ?_
          refine J.cast ((hset_cg ((hset_cg ((hset_cg ((hset_comm (by omega)).trans (hset_cg ((hset_comm (by omega)).trans (hset_cg hset_hset rfl)) rfl)) rfl).trans ((hset_comm (by omega)).trans (hset_cg hset_hset rfl))) rfl).trans hset_hset) rfl).trans ((hset_comm (by omega)).trans (hset_cg ((hset_comm (by omega)).trans (hset_cg ((hset_comm (by omega)).trans (hset_cg hset_hset rfl)) rfl)) rfl))) ?_
          refine J_iload_n dX5_scan_49 rfl ?_
          refine J_iload_n dX5_scan_50 rfl ?_
          refine J_iconst (v := nI 1) dX5_scan_51 (by decide +kernel) ?_
          refine J_iaddN dX5_scan_52 ?_
          refine J_mmaxN (a := endF F sz p) (b := p + 1) dX5_scan_53 jlRX5_50 (jmJ9_max_7cf53).2 (jmJ9_max_7cf53).1.2.1 (jmJ9_max_7cf53).1.1 (by omega) (by omega) (Nat.le_of_ble_eq_true rfl) (Nat.le_of_ble_eq_true rfl) ⟨Nat.le_refl _, Nat.le_refl _⟩ ?_
          refine J_istore_n dX5_scan_56 (Nat.le_of_ble_eq_true rfl) (L' := [(1, .int (nI (max (endF F sz p) (p + 1)))), (2, .int (nI (endF F sz p))), (0, .ref (E.1 + 24))]) rfl ?_
          refine J_goto (tgt := 7) dX5_scan_57 (by decide) ?_
          refine J.sub [0, 2] (L' := [(1, .int (nI (max (endF F sz p) (p + 1)))), (0, .ref (E.1 + 24))]) rfl ?_
          exact ih7 (max (endF F sz p) (p + 1)) (t + 1) (updN SO1 t (sortN F p (endF F sz p))) (updN ST1 t p) (upd VL1 t (valI F p (endF F sz p))) (by omega) (by first | assumption | omega) (by first | assumption | omega) (by first | rfl | (rw [Nat.max_eq_left (by omega)]; rw [← hsk, skipF_sp (F := F) (n := sz) (p := p) (by omega) (by omega)]; rw [hends (by omega)]) | (rw [Nat.max_eq_left (by omega)]; exact (posT_n (by omega) hsk (by omega)).symm)) (by first | exact tokA_0 | exact htok | exact tokA_s htok (by omega) (by rw [← hsk]; exact skipF_no (by omega)))
  refine J.eqs (h' := (hset (hset (hset (hset h 24 (.inr (4, [.ref (E.1 + 25), .ref (E.1 + 26), .ref (E.1 + 27), .ref (E.1 + 28), .ref (E.1 + 29), .int (nI sz), .int (nI 0), .int (nI cu)]))) 26 (cI E 151 (nF SO))) 27 (cI E 151 (nF ST))) 28 (cI E 151 VL))) (L' := [(1, .int (nI 0)), (0, .ref (E.1 + 24))]) (st' := []) ((show (hset h 24 (.inr (4, [.ref (E.1 + 25), .ref (E.1 + 26), .ref (E.1 + 27), .ref (E.1 + 28), .ref (E.1 + 29), .int (nI sz), .int (nI 0), .int (nI cu)]))) = (hset (hset (hset (hset h 24 (.inr (4, [.ref (E.1 + 25), .ref (E.1 + 26), .ref (E.1 + 27), .ref (E.1 + 28), .ref (E.1 + 29), .int (nI sz), .int (nI 0), .int (nI cu)]))) 26 (cI E 151 (nF SO))) 27 (cI E 151 (nF ST))) 28 (cI E 151 VL)) by funext z; simp only [hset]; (repeat' split) <;> first | rfl | (exfalso; omega) | (subst_vars; first | exact H2 | exact H3 | exact H4)).trans (hset_cg (hset_cg (hset_cg (hset_cg rfl rfl) rfl) rfl) rfl)) rfl rfl ?_
  exact CUT7 (sz - 0 + 1) 0 0 SO ST VL (Nat.lt_succ_self _) (by first | assumption | omega) (by first | assumption | omega) (by first | rfl | (rw [Nat.max_eq_left (by omega)]; rw [← hsk, skipF_sp (F := F) (n := sz) (p := p) (by omega) (by omega)]; rw [hends (by omega)]) | (rw [Nat.max_eq_left (by omega)]; exact (posT_n (by omega) hsk (by omega)).symm)) (by first | exact tokA_0 | exact htok | exact tokA_s htok (by omega) (by rw [← hsk]; exact skipF_no (by omega)))
