set_option maxHeartbeats 1000000 in
set_option maxRecDepth 100000 in
theorem ctX7_leavingAlike {E : jE} {h : Nat → va_E} {n : Nat} (v : Int32) (ab : Nat) (be : Nat) (bd : Nat) (no : Nat) (fu : Nat) (LV : Nat → Int32) (H0 : h 0 = .inr (6, [.ref (E.1 + 1), .ref (E.1 + 12), .ref (E.1 + 23), .ref (E.1 + 24), .ref (E.1 + 30), .ref (E.1 + 34), .ref (E.1 + 37), .int (nI ab), .int (nI be), .int (nI bd), .int (nI no), .int (nI fu)])) (H1 : h 37 = cI E 6 LV) (hn : 38 ≤ n) : jC E mX7_leavingAlike (1, 0, 0) [.ref (E.1 + 0), .int v] h n (jR (some (.int (nI (cntF LV v 6)))) h n) := by
  refine J.of (L := [(0, .ref (E.1 + 0)), (1, .int v)]) rfl (by decide +kernel) (Nat.le_of_ble_eq_true rfl) ?_
  obtain ⟨PP, hPP⟩ : ∃ PP : jPost, PP = (jR (some (.int (nI (cntF LV v 6)))) h n) := ⟨_, rfl⟩
  rw [← hPP]
  refine J_iconst (v := nI 0) dX7_leavingAlike_0 (by decide +kernel) ?_
  refine J_istore_n dX7_leavingAlike_1 (Nat.le_of_ble_eq_true rfl) (L' := [(2, .int (nI 0)), (0, .ref (E.1 + 0)), (1, .int v)]) rfl ?_
  refine J_iconst (v := nI 0) dX7_leavingAlike_2 (by decide +kernel) ?_
  refine J_istore_n dX7_leavingAlike_3 (Nat.le_of_ble_eq_true rfl) (L' := [(3, .int (nI 0)), (2, .int (nI 0)), (0, .ref (E.1 + 0)), (1, .int v)]) rfl ?_
  have CUT4 : ∀ (f4 : Nat) (i : Nat) (hm4 : 6 - i < f4) (hi : i ≤ 6), J E mX7_leavingAlike (1, 0, 0) jS0 PP h n (0, 0) 4 [(3, .int (nI i)), (2, .int (nI (cntF LV v i))), (0, .ref (E.1 + 0)), (1, .int v)] [] := by
    intro f4
    induction f4 with
    | zero => intro i hm4; exact absurd hm4 (Nat.not_lt_zero _)
    | succ f4 ih4 =>
      intro i hm4 hi
      have cl := cntF_le (L := LV) (v := v) i
      refine J_iload_n dX7_leavingAlike_4 rfl ?_
      refine J_bipush (v := nI 6) dX7_leavingAlike_5 (by decide +kernel) ?_
      refine J_icmp_geN (tgt := 29) dX7_leavingAlike_7 (by decide) (by omega) (by omega) (fun c1 => ?_) (fun c1 => ?_)
      · skip
        refine J_iload_n dX7_leavingAlike_29 rfl ?_
        exact J_iret dX7_leavingAlike_30 rfl ⟨Nat.le_refl _, Nat.le_refl _⟩ (by rw [hPP]; exact ⟨(congrArg some (jv_N (by rw [show i = 6 by omega]))), rfl, rfl⟩)
      · skip
        refine J_aload_n dX7_leavingAlike_10 rfl ?_
        refine J_get 6 dX7_leavingAlike_11 jk7 (Nat.le_of_ble_eq_true rfl) jfRX7_44 H0 (by omega) rfl ?_
        refine J_iload_n dX7_leavingAlike_14 rfl ?_
        refine J_ialdF (i := i) dX7_leavingAlike_15 H1 (by omega) (by omega) (by omega) ?_
        refine J_iload_n dX7_leavingAlike_16 rfl ?_
        refine J_icmp_ne (tgt := 23) dX7_leavingAlike_17 (by decide) (fun c2 => ?_) (fun c2 => ?_)
        · skip
          refine J_iincN (q := 0) (a := i) (m := 1) dX7_leavingAlike_23 rfl (by decide +kernel) (Nat.le_of_ble_eq_true rfl) (L' := [(3, .int (nI (i + 1))), (2, .int (nI (cntF LV v i))), (0, .ref (E.1 + 0)), (1, .int v)]) rfl ?_
          refine J_goto (tgt := 4) dX7_leavingAlike_26 (by decide) ?_
          refine J.eqs (h' := h) (L' := [(3, .int (nI (i + 1))), (2, .int (nI (cntF LV v (i + 1)))), (0, .ref (E.1 + 0)), (1, .int v)]) (st' := []) rfl (jL_c rfl (jL_c (jv_N (by first | rfl | exact cntF_t (by assumption) | exact cntF_f (by assumption))) (jL_c rfl (jL_c rfl rfl)))) rfl ?_
          exact ih4 (i + 1) (by omega) (by first | assumption | omega)
        · skip
          refine J_iincN (q := 1) (a := cntF LV v i) (m := 1) dX7_leavingAlike_20 rfl (by decide +kernel) (Nat.le_of_ble_eq_true rfl) (L' := [(2, .int (nI (cntF LV v i + 1))), (3, .int (nI i)), (0, .ref (E.1 + 0)), (1, .int v)]) rfl ?_
          refine J_iincN (q := 1) (a := i) (m := 1) dX7_leavingAlike_23 rfl (by decide +kernel) (Nat.le_of_ble_eq_true rfl) (L' := [(3, .int (nI (i + 1))), (2, .int (nI (cntF LV v i + 1))), (0, .ref (E.1 + 0)), (1, .int v)]) rfl ?_
          refine J_goto (tgt := 4) dX7_leavingAlike_26 (by decide) ?_
          refine J.eqs (h' := h) (L' := [(3, .int (nI (i + 1))), (2, .int (nI (cntF LV v (i + 1)))), (0, .ref (E.1 + 0)), (1, .int v)]) (st' := []) rfl (jL_c rfl (jL_c (jv_N (by first | rfl | exact cntF_t (by assumption) | exact cntF_f (by assumption))) (jL_c rfl (jL_c rfl rfl)))) rfl ?_
          exact ih4 (i + 1) (by omega) (by first | assumption | omega)
  refine J.eqs (h' := h) (L' := [(3, .int (nI 0)), (2, .int (nI (cntF LV v 0))), (0, .ref (E.1 + 0)), (1, .int v)]) (st' := []) rfl (jL_c rfl (jL_c (jv_N (by first | rfl | exact cntF_t (by assumption) | exact cntF_f (by assumption))) (jL_c rfl (jL_c rfl rfl)))) rfl ?_
  exact CUT4 (6 - 0 + 1) 0 (Nat.lt_succ_self _) (by first | assumption | omega)

set_option maxHeartbeats 1000000 in
set_option maxRecDepth 100000 in
theorem ctX7_mostAlike {E : jE} {h : Nat → va_E} {n : Nat} (fit : Nat) (m : Nat) (d : Nat) (ab : Nat) (be : Nat) (bd : Nat) (no : Nat) (fu : Nat) (LV : Nat → Int32) (H0 : h 0 = .inr (6, [.ref (E.1 + 1), .ref (E.1 + 12), .ref (E.1 + 23), .ref (E.1 + 24), .ref (E.1 + 30), .ref (E.1 + 34), .ref (E.1 + 37), .int (nI ab), .int (nI be), .int (nI bd), .int (nI no), .int (nI fu)])) (H1 : h 37 = cI E 6 LV) (hn : 38 ≤ n) (hfit : fit < 64) (hm : m ≤ 20) (hd : d ≤ 2) : jC E mX7_mostAlike (2, 0, 0) [.ref (E.1 + 0), .int (nI fit), .int (nI m), .int (nI d)] h n (jR (some (.int (nI (mostA fit m d 6)))) (hset h 37 (cI E 6 (mlF fit m d LV 6))) n) := by
  refine J.of (L := [(0, .ref (E.1 + 0)), (1, .int (nI fit)), (2, .int (nI m)), (3, .int (nI d))]) rfl (by decide +kernel) (Nat.le_of_ble_eq_true rfl) ?_
  obtain ⟨PP, hPP⟩ : ∃ PP : jPost, PP = (jR (some (.int (nI (mostA fit m d 6)))) (hset h 37 (cI E 6 (mlF fit m d LV 6))) n) := ⟨_, rfl⟩
  rw [← hPP]
  refine J_iconst (v := nI 0) dX7_mostAlike_0 (by decide +kernel) ?_
  refine J_istore dX7_mostAlike_1 (Nat.le_of_ble_eq_true rfl) (L' := [(4, .int (nI 0)), (0, .ref (E.1 + 0)), (1, .int (nI fit)), (2, .int (nI m)), (3, .int (nI d))]) rfl ?_
  refine J_iconst (v := nI 0) dX7_mostAlike_3 (by decide +kernel) ?_
  refine J_istore dX7_mostAlike_4 (Nat.le_of_ble_eq_true rfl) (L' := [(5, .int (nI 0)), (4, .int (nI 0)), (0, .ref (E.1 + 0)), (1, .int (nI fit)), (2, .int (nI m)), (3, .int (nI d))]) rfl ?_
  have CUT6 : ∀ (f6 : Nat) (i : Nat) (hm6 : 6 - i < f6) (hi : i ≤ 6), J E mX7_mostAlike (2, 0, 0) jS0 PP (hset h 37 (cI E 6 (mlF fit m d LV i))) n (0, 0) 6 [(5, .int (nI i)), (4, .int (nI 0)), (0, .ref (E.1 + 0)), (1, .int (nI fit)), (2, .int (nI m)), (3, .int (nI d))] [] := by
    intro f6
    induction f6 with
    | zero => intro i hm6; exact absurd hm6 (Nat.not_lt_zero _)
    | succ f6 ih6 =>
      intro i hm6 hi
      have fd : fit / 2 ^ i ≤ 63 := Nat.le_trans (Nat.div_le_self _ _) (by omega)
      refine J_iload dX7_mostAlike_6 rfl ?_
      refine J_bipush (v := nI 6) dX7_mostAlike_8 (by decide +kernel) ?_
      refine J_icmp_geN (tgt := 47) dX7_mostAlike_10 (by decide) (by omega) (by omega) (fun c1 => ?_) (fun c1 => ?_)
      · skip
        have i6 : i = 6 := by omega
        subst i6
        refine J_iconst (v := nI 0) dX7_mostAlike_47 (by decide +kernel) ?_
        refine J_istore dX7_mostAlike_48 (Nat.le_of_ble_eq_true rfl) (L' := [(5, .int (nI 0)), (4, .int (nI 0)), (0, .ref (E.1 + 0)), (1, .int (nI fit)), (2, .int (nI m)), (3, .int (nI d))]) rfl ?_
        have CUT50 : ∀ (f50 : Nat) (i : Nat) (hm50 : 6 - i < f50) (hi : i ≤ 6), J E mX7_mostAlike (2, 0, 0) jS0 PP (hset h 37 (cI E 6 (mlF fit m d LV 6))) n (0, 0) 50 [(5, .int (nI i)), (4, .int (nI (mostA fit m d i))), (0, .ref (E.1 + 0)), (1, .int (nI fit)), (2, .int (nI m)), (3, .int (nI d))] [] := by
          intro f50
          induction f50 with
          | zero => intro i hm50; exact absurd hm50 (Nat.not_lt_zero _)
          | succ f50 ih50 =>
            intro i hm50 hi
            have ml := mostA_le (fit := fit) (m := m) (d := d) i
            refine J_iload dX7_mostAlike_50 rfl ?_
            refine J_bipush (v := nI 6) dX7_mostAlike_52 (by decide +kernel) ?_
            refine J_icmp_geN (tgt := 92) dX7_mostAlike_54 (by decide) (by omega) (by omega) (fun c2 => ?_) (fun c2 => ?_)
            · skip
              refine J_iload dX7_mostAlike_92 rfl ?_
              exact J_iret dX7_mostAlike_94 rfl ⟨Nat.le_refl _, Nat.le_refl _⟩ (by rw [hPP]; exact ⟨(congrArg some (jv_N (by rw [show i = 6 by omega]))), rfl, rfl⟩)
            · skip
              refine J_aload_n dX7_mostAlike_57 rfl ?_
              refine J_get 6 dX7_mostAlike_58 jk7 (Nat.le_of_ble_eq_true rfl) jfRX7_44 ((hset_ne (by omega)).trans H0) (by omega) rfl ?_
              refine J_iload dX7_mostAlike_61 rfl ?_
              refine J_ialdF (i := i) dX7_mostAlike_63 hset_eq (by omega) (by omega) (by omega) ?_
              refine J_iconst (v := (-1)) dX7_mostAlike_64 (by decide +kernel) ?_
              refine J_icmp_eq (tgt := 86) dX7_mostAlike_65 (by decide) (fun c3 => ?_) (fun c3 => ?_)
              · skip
                rw [mlF_m1 (by omega) (by omega)] at c3
                refine J_iincN (q := 0) (a := i) (m := 1) dX7_mostAlike_86 rfl (by decide +kernel) (Nat.le_of_ble_eq_true rfl) (L' := [(5, .int (nI (i + 1))), (4, .int (nI (mostA fit m d i))), (0, .ref (E.1 + 0)), (1, .int (nI fit)), (2, .int (nI m)), (3, .int (nI d))]) rfl ?_
                refine J_goto (tgt := 50) dX7_mostAlike_89 (by decide) ?_
                refine J.eqs (h' := (hset h 37 (cI E 6 (mlF fit m d LV 6)))) (L' := [(5, .int (nI (i + 1))), (4, .int (nI (mostA fit m d (i + 1)))), (0, .ref (E.1 + 0)), (1, .int (nI fit)), (2, .int (nI m)), (3, .int (nI d))]) (st' := []) rfl (jL_c rfl (jL_c (jv_N (by first | rfl | exact mostA_t hm (by omega) (Classical.not_not.mp (by assumption)) | exact mostA_t hm (by omega) (by assumption) | exact mostA_f (by assumption))) (jL_c rfl (jL_c rfl (jL_c rfl (jL_c rfl rfl)))))) rfl ?_
                exact ih50 (i + 1) (by omega) (by first | assumption | omega)
              · skip
                rw [mlF_m1 (by omega) (by omega)] at c3
                refine J_iload dX7_mostAlike_68 rfl ?_
                refine J_aload_n dX7_mostAlike_70 rfl ?_
                refine J_aload_n dX7_mostAlike_71 rfl ?_
                refine J_get 6 dX7_mostAlike_72 jk7 (Nat.le_of_ble_eq_true rfl) jfRX7_44 ((hset_ne (by omega)).trans H0) (by omega) rfl ?_
                refine J_iload dX7_mostAlike_75 rfl ?_
                refine J_ialdF (i := i) dX7_mostAlike_77 hset_eq (by omega) (by omega) (by omega) ?_
                refine J_callVr (M' := mX7_leavingAlike) (d' := (1, 0, 0)) (rest := [.int (nI (mostA fit m d i))]) dX7_mostAlike_78 jmX7_leavingAlike jlRX7_282 (ctX7_leavingAlike ((mlF fit m d LV 6) i) ab be bd no fu (mlF fit m d LV 6) ((hset_ne (by omega)).trans H0) hset_eq (by omega) ) ((hset_ne (by omega)).trans H0) (by omega) jk7.1 rfl rfl (Nat.le_of_ble_eq_true rfl) (Nat.le_of_ble_eq_true rfl) ⟨Nat.le_refl _, Nat.le_refl _⟩ ?_
                have fc4 : cntF (mlF fit m d LV 6) ((mlF fit m d LV 6) i) 6 ≤ 6 := cntF_le 6
                refine J_mmaxN (a := mostA fit m d i) (b := cntF (mlF fit m d LV 6) ((mlF fit m d LV 6) i) 6) dX7_mostAlike_81 jlRX7_285 (jmJ9_max_7cf53).2 (jmJ9_max_7cf53).1.2.1 (jmJ9_max_7cf53).1.1 (by omega) (by omega) (Nat.le_of_ble_eq_true rfl) (Nat.le_of_ble_eq_true rfl) ⟨Nat.le_refl _, Nat.le_refl _⟩ ?_
                refine J_istore dX7_mostAlike_84 (Nat.le_of_ble_eq_true rfl) (L' := [(4, .int (nI (max (mostA fit m d i) (cntF (mlF fit m d LV 6) ((mlF fit m d LV 6) i) 6)))), (5, .int (nI i)), (0, .ref (E.1 + 0)), (1, .int (nI fit)), (2, .int (nI m)), (3, .int (nI d))]) rfl ?_
                refine J_iincN (q := 1) (a := i) (m := 1) dX7_mostAlike_86 rfl (by decide +kernel) (Nat.le_of_ble_eq_true rfl) (L' := [(5, .int (nI (i + 1))), (4, .int (nI (max (mostA fit m d i) (cntF (mlF fit m d LV 6) ((mlF fit m d LV 6) i) 6)))), (0, .ref (E.1 + 0)), (1, .int (nI fit)), (2, .int (nI m)), (3, .int (nI d))]) rfl ?_
                refine J_goto (tgt := 50) dX7_mostAlike_89 (by decide) ?_
                refine J.eqs (h' := (hset h 37 (cI E 6 (mlF fit m d LV 6)))) (L' := [(5, .int (nI (i + 1))), (4, .int (nI (mostA fit m d (i + 1)))), (0, .ref (E.1 + 0)), (1, .int (nI fit)), (2, .int (nI m)), (3, .int (nI d))]) (st' := []) rfl (jL_c rfl (jL_c (jv_N (by first | rfl | exact mostA_t hm (by omega) (Classical.not_not.mp (by assumption)) | exact mostA_t hm (by omega) (by assumption) | exact mostA_f (by assumption))) (jL_c rfl (jL_c rfl (jL_c rfl (jL_c rfl rfl)))))) rfl ?_
                exact ih50 (i + 1) (by omega) (by first | assumption | omega)
        refine J.eqs (h' := (hset h 37 (cI E 6 (mlF fit m d LV 6)))) (L' := [(5, .int (nI 0)), (4, .int (nI (mostA fit m d 0))), (0, .ref (E.1 + 0)), (1, .int (nI fit)), (2, .int (nI m)), (3, .int (nI d))]) (st' := []) (hset_cg rfl (by first | rfl | exact mostA_t hm (by omega) (Classical.not_not.mp (by assumption)) | exact mostA_t hm (by omega) (by assumption) | exact mostA_f (by assumption))) (jL_c rfl (jL_c (jv_N (by first | rfl | exact mostA_t hm (by omega) (Classical.not_not.mp (by assumption)) | exact mostA_t hm (by omega) (by assumption) | exact mostA_f (by assumption))) (jL_c rfl (jL_c rfl (jL_c rfl (jL_c rfl rfl)))))) rfl ?_
        exact CUT50 (6 - 0 + 1) 0 (Nat.lt_succ_self _) (by first | assumption | omega)
      · skip
        refine J_aload_n dX7_mostAlike_13 rfl ?_
        refine J_get 6 dX7_mostAlike_14 jk7 (Nat.le_of_ble_eq_true rfl) jfRX7_44 ((hset_ne (by omega)).trans H0) (by omega) rfl ?_
        refine J_iload dX7_mostAlike_17 rfl ?_
        refine J_iload_n dX7_mostAlike_19 rfl ?_
        refine J_iload dX7_mostAlike_20 rfl ?_
        refine J_ishrN dX7_mostAlike_22 (by omega) (by omega) ?_
        refine J_iconst (v := nI 1) dX7_mostAlike_23 (by decide +kernel) ?_
        refine J_iandN 1 dX7_mostAlike_24 (by omega) (by decide +kernel) ?_
        refine J_iconst (v := nI 1) dX7_mostAlike_25 (by decide +kernel) ?_
        refine J_icmp_neN (tgt := 39) dX7_mostAlike_26 (by decide) (by omega) (by omega) (fun c5 => ?_) (fun c5 => ?_)
        · skip
          refine J_iconst (v := (-1)) dX7_mostAlike_39 (by decide +kernel) ?_
          refine J_iastF dX7_mostAlike_40 hset_eq (by omega) (by omega) (by omega) ?_
          refine J.cast hset_hset ?_
          refine J_iincN (q := 0) (a := i) (m := 1) dX7_mostAlike_41 rfl (by decide +kernel) (Nat.le_of_ble_eq_true rfl) (L' := [(5, .int (nI (i + 1))), (4, .int (nI 0)), (0, .ref (E.1 + 0)), (1, .int (nI fit)), (2, .int (nI m)), (3, .int (nI d))]) rfl ?_
          refine J_goto (tgt := 6) dX7_mostAlike_44 (by decide) ?_
          refine J.eqs (h' := (hset h 37 (cI E 6 (mlF fit m d LV (i + 1))))) (L' := [(5, .int (nI (i + 1))), (4, .int (nI 0)), (0, .ref (E.1 + 0)), (1, .int (nI fit)), (2, .int (nI m)), (3, .int (nI d))]) (st' := []) (hset_cg rfl (by first | exact congrArg (cI E 6) mlF_0.symm | exact congrArg (cI E 6) (mlF_t (by assumption)) | exact congrArg (cI E 6) (mlF_f (by assumption)))) rfl rfl ?_
          exact ih6 (i + 1) (by omega) (by first | assumption | omega)
        · skip
          refine J_iload dX7_mostAlike_29 rfl ?_
          refine J_iload_n dX7_mostAlike_31 rfl ?_
          refine J_iload_n dX7_mostAlike_32 rfl ?_
          refine J_callSr (M' := mX0_left) (d' := (1, 0, 0)) (rest := [.int (nI i), .ref (E.1 + 37)]) dX7_mostAlike_33 jmX0_left jlRX7_145 (ctX0_left i m d   (by first | assumption | omega) (by first | assumption | omega) (by first | assumption | omega)) rfl rfl (Nat.le_of_ble_eq_true rfl) (Nat.le_of_ble_eq_true rfl) ⟨Nat.le_refl _, Nat.le_refl _⟩ ?_
          refine J_goto (tgt := 40) dX7_mostAlike_36 (by decide) ?_
          refine J_iastF dX7_mostAlike_40 hset_eq (by omega) (by omega) (by omega) ?_
          refine J.cast hset_hset ?_
          refine J_iincN (q := 0) (a := i) (m := 1) dX7_mostAlike_41 rfl (by decide +kernel) (Nat.le_of_ble_eq_true rfl) (L' := [(5, .int (nI (i + 1))), (4, .int (nI 0)), (0, .ref (E.1 + 0)), (1, .int (nI fit)), (2, .int (nI m)), (3, .int (nI d))]) rfl ?_
          refine J_goto (tgt := 6) dX7_mostAlike_44 (by decide) ?_
          refine J.eqs (h' := (hset h 37 (cI E 6 (mlF fit m d LV (i + 1))))) (L' := [(5, .int (nI (i + 1))), (4, .int (nI 0)), (0, .ref (E.1 + 0)), (1, .int (nI fit)), (2, .int (nI m)), (3, .int (nI d))]) (st' := []) (hset_cg rfl (by first | exact congrArg (cI E 6) mlF_0.symm | exact congrArg (cI E 6) (mlF_t (by assumption)) | exact congrArg (cI E 6) (mlF_f (by assumption)))) rfl rfl ?_
          exact ih6 (i + 1) (by omega) (by first | assumption | omega)
  refine J.eqs (h' := (hset h 37 (cI E 6 (mlF fit m d LV 0)))) (L' := [(5, .int (nI 0)), (4, .int (nI 0)), (0, .ref (E.1 + 0)), (1, .int (nI fit)), (2, .int (nI m)), (3, .int (nI d))]) (st' := []) ((show h = (hset h 37 (cI E 6 LV)) by funext z; simp only [hset]; (repeat' split) <;> first | rfl | (exfalso; omega) | (subst_vars; first | exact H1)).trans (hset_cg rfl (by first | exact congrArg (cI E 6) mlF_0.symm | exact congrArg (cI E 6) (mlF_t (by assumption)) | exact congrArg (cI E 6) (mlF_f (by assumption))))) rfl rfl ?_
  exact CUT6 (6 - 0 + 1) 0 (Nat.lt_succ_self _) (by first | assumption | omega)
