set_option maxHeartbeats 1000000 in
set_option maxRecDepth 100000 in
theorem ctX8_fraction {E : jE} {h : Nat → va_E} {n : Nat} (a : Nat) (b : Nat) (xa : Nat) (xb : Nat) (dt : Nat) (mo : Nat) (bn : Nat) (ta : Nat) (tl : Nat) (tk : Nat) (va : Nat) (H0 : h 38 = .inr (7, [.ref (E.1 + 39), .ref (E.1 + 40), .ref (E.1 + 41), .ref (E.1 + 42), .long (lN xa), .long (lN xb), .ref (E.1 + 43), .int (nI dt), .ref (E.1 + 44), .ref (E.1 + 45), .int (nI mo), .ref (E.1 + 46), .ref (E.1 + 47), .int (nI bn), .int (nI ta), .int (nI tl), .int (nI tk), .int (nI va), .ref (E.1 + 48), .ref (E.1 + 49)])) (hn : 50 ≤ n) (ha : a < 2 ^ 31) (hb : b < 2 ^ 31) (hb0 : 0 < b) : jC E mX8_fraction (1, 0, 0) [.ref (E.1 + 38), .long (lN a), .long (lN b)] h n (jR none (hset h 38 (.inr (7, [.ref (E.1 + 39), .ref (E.1 + 40), .ref (E.1 + 41), .ref (E.1 + 42), .long (lN (a / Nat.gcd a b)), .long (lN (b / Nat.gcd a b)), .ref (E.1 + 43), .int (nI dt), .ref (E.1 + 44), .ref (E.1 + 45), .int (nI mo), .ref (E.1 + 46), .ref (E.1 + 47), .int (nI bn), .int (nI ta), .int (nI tl), .int (nI tk), .int (nI va), .ref (E.1 + 48), .ref (E.1 + 49)]))) n) := by
  refine J.of (L := [(0, .ref (E.1 + 38)), (1, .long (lN a)), (3, .long (lN b))]) rfl (by decide +kernel) (Nat.le_of_ble_eq_true rfl) ?_
  obtain ⟨PP, hPP⟩ : ∃ PP : jPost, PP = (jR none (hset h 38 (.inr (7, [.ref (E.1 + 39), .ref (E.1 + 40), .ref (E.1 + 41), .ref (E.1 + 42), .long (lN (a / Nat.gcd a b)), .long (lN (b / Nat.gcd a b)), .ref (E.1 + 43), .int (nI dt), .ref (E.1 + 44), .ref (E.1 + 45), .int (nI mo), .ref (E.1 + 46), .ref (E.1 + 47), .int (nI bn), .int (nI ta), .int (nI tl), .int (nI tk), .int (nI va), .ref (E.1 + 48), .ref (E.1 + 49)]))) n) := ⟨_, rfl⟩
  rw [← hPP]
  refine J_lload_n dX8_fraction_0 rfl ?_
  refine J_lstore dX8_fraction_1 (Nat.le_of_ble_eq_true rfl) (L' := [(5, .long (lN a)), (0, .ref (E.1 + 38)), (1, .long (lN a)), (3, .long (lN b))]) rfl ?_
  refine J_lload_n dX8_fraction_3 rfl ?_
  refine J_lstore dX8_fraction_4 (Nat.le_of_ble_eq_true rfl) (L' := [(7, .long (lN b)), (5, .long (lN a)), (0, .ref (E.1 + 38)), (1, .long (lN a)), (3, .long (lN b))]) rfl ?_
  have CUT6 : ∀ (f6 : Nat) (x : Nat) (y : Nat) (hm6 : y < f6) (hx : x < 2 ^ 31) (hy : y < 2 ^ 31) (hg : Nat.gcd x y = Nat.gcd a b), J E mX8_fraction (1, 0, 0) jS0 PP h n (0, 0) 6 [(7, .long (lN y)), (5, .long (lN x)), (0, .ref (E.1 + 38)), (1, .long (lN a)), (3, .long (lN b))] [] := by
    intro f6
    induction f6 with
    | zero => intro x y hm6; exact absurd hm6 (Nat.not_lt_zero _)
    | succ f6 ih6 =>
      intro x y hm6 hx hy hg
      refine J_lload dX8_fraction_6 rfl ?_
      refine J_lconst (v := lN 0) dX8_fraction_8 (by decide +kernel) ?_
      refine J_lcmp dX8_fraction_9 ?_
      refine J_if_eq (tgt := 31) dX8_fraction_10 (by decide) (fun c1 => ?_) (fun c1 => ?_)
      · skip
        rw [jx_Meq (by omega) (by omega)] at c1
        have hxg : x = Nat.gcd a b := by rw [← hg, c1, Nat.gcd_zero_right]
        have g0 := Nat.gcd_pos_of_pos_right a hb0
        refine J_aload_n dX8_fraction_31 rfl ?_
        refine J_lload_n dX8_fraction_32 rfl ?_
        refine J_lload dX8_fraction_33 rfl ?_
        refine J_ldivN dX8_fraction_35 (by omega) (by omega) (by omega) ?_
        refine J_put 4 dX8_fraction_36 jk8 (Nat.le_of_ble_eq_true rfl) jfRX8_169 H0 (by omega) rfl rfl rfl (Nat.le_of_ble_eq_true rfl) ?_
        refine J.cast (h' := (hset h 38 (.inr (7, [.ref (E.1 + 39), .ref (E.1 + 40), .ref (E.1 + 41), .ref (E.1 + 42), .long (lN (a / x)), .long (lN xb), .ref (E.1 + 43), .int (nI dt), .ref (E.1 + 44), .ref (E.1 + 45), .int (nI mo), .ref (E.1 + 46), .ref (E.1 + 47), .int (nI bn), .int (nI ta), .int (nI tl), .int (nI tk), .int (nI va), .ref (E.1 + 48), .ref (E.1 + 49)])))) rfl ?_
        refine J_aload_n dX8_fraction_39 rfl ?_
        refine J_lload_n dX8_fraction_40 rfl ?_
        refine J_lload dX8_fraction_41 rfl ?_
        refine J_ldivN dX8_fraction_43 (by omega) (by omega) (by omega) ?_
        refine J_put 5 dX8_fraction_44 jk8 (Nat.le_of_ble_eq_true rfl) jfRX8_23 hset_eq (by omega) rfl rfl rfl (Nat.le_of_ble_eq_true rfl) ?_
        refine J.cast (h' := (hset (hset h 38 (.inr (7, [.ref (E.1 + 39), .ref (E.1 + 40), .ref (E.1 + 41), .ref (E.1 + 42), .long (lN (a / x)), .long (lN xb), .ref (E.1 + 43), .int (nI dt), .ref (E.1 + 44), .ref (E.1 + 45), .int (nI mo), .ref (E.1 + 46), .ref (E.1 + 47), .int (nI bn), .int (nI ta), .int (nI tl), .int (nI tk), .int (nI va), .ref (E.1 + 48), .ref (E.1 + 49)]))) 38 (.inr (7, [.ref (E.1 + 39), .ref (E.1 + 40), .ref (E.1 + 41), .ref (E.1 + 42), .long (lN (a / x)), .long (lN (b / x)), .ref (E.1 + 43), .int (nI dt), .ref (E.1 + 44), .ref (E.1 + 45), .int (nI mo), .ref (E.1 + 46), .ref (E.1 + 47), .int (nI bn), .int (nI ta), .int (nI tl), .int (nI tk), .int (nI va), .ref (E.1 + 48), .ref (E.1 + 49)])))) rfl ?_
        refine J.cast hset_hset ?_
        exact J_vret dX8_fraction_47 rfl ⟨Nat.le_refl _, Nat.le_refl _⟩ (by rw [hPP]; exact ⟨rfl, (hset_cg rfl (congrArg (fun z => (Sum.inr (7, z) : va_E)) (jS_c rfl (jS_c rfl (jS_c rfl (jS_c rfl (jS_c (jv_M (by rw [hxg])) (jS_c (jv_M (by rw [hxg])) (jS_c rfl (jS_c rfl (jS_c rfl (jS_c rfl (jS_c rfl (jS_c rfl (jS_c rfl (jS_c rfl (jS_c rfl (jS_c rfl (jS_c rfl (jS_c rfl (jS_c rfl (jS_c rfl rfl)))))))))))))))))))))), rfl⟩)
      · skip
        rw [jx_Meq (by omega) (by omega)] at c1
        refine J_lload dX8_fraction_13 rfl ?_
        refine J_lload dX8_fraction_15 rfl ?_
        refine J_lremN dX8_fraction_17 (by omega) (by omega) (by omega) ?_
        refine J_lstore dX8_fraction_18 (Nat.le_of_ble_eq_true rfl) (L' := [(9, .long (lN (x % y))), (7, .long (lN y)), (5, .long (lN x)), (0, .ref (E.1 + 38)), (1, .long (lN a)), (3, .long (lN b))]) rfl ?_
        refine J_lload dX8_fraction_20 rfl ?_
        refine J_lstore dX8_fraction_22 (Nat.le_of_ble_eq_true rfl) (L' := [(5, .long (lN y)), (9, .long (lN (x % y))), (7, .long (lN y)), (0, .ref (E.1 + 38)), (1, .long (lN a)), (3, .long (lN b))]) rfl ?_
        refine J_lload dX8_fraction_24 rfl ?_
        refine J_lstore dX8_fraction_26 (Nat.le_of_ble_eq_true rfl) (L' := [(7, .long (lN (x % y))), (5, .long (lN y)), (9, .long (lN (x % y))), (0, .ref (E.1 + 38)), (1, .long (lN a)), (3, .long (lN b))]) rfl ?_
        refine J_goto (tgt := 6) dX8_fraction_28 (by decide) ?_
        refine J.sub [0, 1, 3, 4, 5] (L' := [(7, .long (lN (x % y))), (5, .long (lN y)), (0, .ref (E.1 + 38)), (1, .long (lN a)), (3, .long (lN b))]) rfl ?_
        exact ih6 y (x % y) (by exact Nat.lt_of_lt_of_le (Nat.mod_lt x (by omega)) (by omega)) (by first | assumption | omega) (by first | assumption | omega | exact Nat.lt_of_le_of_lt (Nat.mod_le _ _) (by omega)) (by first | rfl | exact gcd_st hg)
  exact CUT6 (b + 1) a b (Nat.lt_succ_self _) (by first | assumption | omega) (by first | assumption | omega | exact Nat.lt_of_le_of_lt (Nat.mod_le _ _) (by omega)) (by first | rfl | exact gcd_st hg)

set_option maxHeartbeats 1000000 in
set_option maxRecDepth 100000 in
theorem ctX8_frost_bad {E : jE} {h : Nat → va_E} {n : Nat} (a : Nat) (x : Nat) (xa : Nat) (xb : Nat) (dt : Nat) (mo : Nat) (bn : Nat) (ta : Nat) (tl : Nat) (tk : Nat) (va : Nat) (RF : Nat → Nat) (Q : Nat → Nat) (H0 : h 38 = .inr (7, [.ref (E.1 + 39), .ref (E.1 + 40), .ref (E.1 + 41), .ref (E.1 + 42), .long (lN xa), .long (lN xb), .ref (E.1 + 43), .int (nI dt), .ref (E.1 + 44), .ref (E.1 + 45), .int (nI mo), .ref (E.1 + 46), .ref (E.1 + 47), .int (nI bn), .int (nI ta), .int (nI tl), .int (nI tk), .int (nI va), .ref (E.1 + 48), .ref (E.1 + 49)])) (H1 : h 42 = cI E 3 (nF RF)) (H2 : h 39 = cI E 218 (nF Q)) (hn : 50 ≤ n) (h32a : a < 2 ^ 32) (h32x : x < 2 ^ 32) (hn4 : Q 0 ≤ 4) (hbad : ¬ (a < Q 0 ∧ x ≤ 10)) : jC E mX8_frost (3, 0, 0) [.ref (E.1 + 38), .int (nI a), .int (nI x)] h n (jR (some (.int (-2))) (hset h 42 (cI E 3 (nF (updN RF 0 (RF 0 + 1))))) n) := by
  refine J.of (L := [(0, .ref (E.1 + 38)), (1, .int (nI a)), (2, .int (nI x))]) rfl (by decide +kernel) (Nat.le_of_ble_eq_true rfl) ?_
  obtain ⟨PP, hPP⟩ : ∃ PP : jPost, PP = (jR (some (.int (-2))) (hset h 42 (cI E 3 (nF (updN RF 0 (RF 0 + 1))))) n) := ⟨_, rfl⟩
  rw [← hPP]
  refine J_aload_n dX8_frost_0 rfl ?_
  refine J_iload_n dX8_frost_1 rfl ?_
  refine J_callVr (M' := mX8_isAnvil) (d' := (2, 0, 0)) (rest := []) dX8_frost_2 jmX8_isAnvil jlRX8_107 (ctX8_isAnvil a xa xb dt mo bn ta tl tk va Q H0 H2 (by omega) (by first | assumption | omega) (by first | assumption | omega)) H0 (by omega) jk8.1 rfl rfl (Nat.le_of_ble_eq_true rfl) (Nat.le_of_ble_eq_true rfl) ⟨Nat.le_refl _, Nat.le_refl _⟩ ?_
  refine J_if_eqB (tgt := 20) dX8_frost_5 (by decide) (fun c1 => ?_) (fun c1 => ?_)
  · skip
    refine J_aload_n dX8_frost_20 rfl ?_
    refine J_bipush (v := (-2)) dX8_frost_21 (by decide +kernel) ?_
    refine J_callVr (M' := mX8_bad) (d' := (1, 0, 0)) (rest := []) dX8_frost_23 jmX8_bad jlRX8_66 (ctX8_bad (-2) xa xb dt mo bn ta tl tk va RF H0 H1 (by omega) ) H0 (by omega) jk8.1 rfl rfl (Nat.le_of_ble_eq_true rfl) (Nat.le_of_ble_eq_true rfl) ⟨Nat.le_refl _, Nat.le_refl _⟩ ?_
    exact J_iret dX8_frost_26 rfl ⟨Nat.le_refl _, Nat.le_refl _⟩ (by rw [hPP]; exact ⟨rfl, rfl, rfl⟩)
  · skip
    refine J_iload_n dX8_frost_8 rfl ?_
    refine J_i2l (v := (nI x).toInt64) dX8_frost_9 rfl ?_
    refine J_lconst (v := lN 0) dX8_frost_10 (by decide +kernel) ?_
    refine J_ldc2 dX8_frost_11 jqRX8_172 ?_
    refine J.stk (st' := .long (lN 10) :: [.long (lN 0), .long (nI x).toInt64]) rfl ?_
    refine J_callSr (M' := mX8_in) (d' := (1, 0, 0)) (rest := []) dX8_frost_14 jmX8_in jlRX8_56 (ctX8_in x 0 10   (by first | assumption | omega) (by first | assumption | omega) (by first | assumption | omega)) rfl rfl (Nat.le_of_ble_eq_true rfl) (Nat.le_of_ble_eq_true rfl) ⟨Nat.le_refl _, Nat.le_refl _⟩ ?_
    refine J_if_neB (tgt := 27) dX8_frost_17 (by decide) (fun c2 => (by exfalso; omega)) (fun c2 => ?_)
    refine J_aload_n dX8_frost_20 rfl ?_
    refine J_bipush (v := (-2)) dX8_frost_21 (by decide +kernel) ?_
    refine J_callVr (M' := mX8_bad) (d' := (1, 0, 0)) (rest := []) dX8_frost_23 jmX8_bad jlRX8_66 (ctX8_bad (-2) xa xb dt mo bn ta tl tk va RF H0 H1 (by omega) ) H0 (by omega) jk8.1 rfl rfl (Nat.le_of_ble_eq_true rfl) (Nat.le_of_ble_eq_true rfl) ⟨Nat.le_refl _, Nat.le_refl _⟩ ?_
    exact J_iret dX8_frost_26 rfl ⟨Nat.le_refl _, Nat.le_refl _⟩ (by rw [hPP]; exact ⟨rfl, rfl, rfl⟩)

set_option maxHeartbeats 1000000 in
set_option maxRecDepth 100000 in
theorem ctX8_frost {E : jE} {h : Nat → va_E} {n : Nat} (a : Nat) (x : Nat) (xa : Nat) (xb : Nat) (dt : Nat) (mo : Nat) (bn : Nat) (ta : Nat) (tl : Nat) (tk : Nat) (va : Nat) (Q : Nat → Nat) (MM : Nat → Nat) (H0 : h 38 = .inr (7, [.ref (E.1 + 39), .ref (E.1 + 40), .ref (E.1 + 41), .ref (E.1 + 42), .long (lN xa), .long (lN xb), .ref (E.1 + 43), .int (nI dt), .ref (E.1 + 44), .ref (E.1 + 45), .int (nI mo), .ref (E.1 + 46), .ref (E.1 + 47), .int (nI bn), .int (nI ta), .int (nI tl), .int (nI tk), .int (nI va), .ref (E.1 + 48), .ref (E.1 + 49)])) (H1 : h 39 = cI E 218 (nF Q)) (H2 : h 43 = cI E 16 (nF MM)) (hn : 50 ≤ n) (hn4 : Q 0 ≤ 4) (hK : ∀ zz, zz < 4 → KQ Q zz ≤ 5) (hM4 : ∀ zz, zz < 16 → Q (4 + zz) ≤ 20) (hg : Q 21 ≤ 9) (hM : ∀ zz, MM zz ≤ 20) (ha : a < Q 0) (hx : x ≤ 10) : jC E mX8_frost (3, 0, 0) [.ref (E.1 + 38), .int (nI a), .int (nI x)] h n (jR (some (.int (nI 1))) (hset (hset h 43 (cI E 16 (nF (handM Q MM 16)))) 38 (.inr (7, [.ref (E.1 + 39), .ref (E.1 + 40), .ref (E.1 + 41), .ref (E.1 + 42), .long (lN ((sumM (handM Q MM 16) a * (10 - x)) / Nat.gcd (sumM (handM Q MM 16) a * (10 - x)) 10)), .long (lN (10 / Nat.gcd (sumM (handM Q MM 16) a * (10 - x)) 10)), .ref (E.1 + 43), .int (nI (Q 20)), .ref (E.1 + 44), .ref (E.1 + 45), .int (nI mo), .ref (E.1 + 46), .ref (E.1 + 47), .int (nI bn), .int (nI ta), .int (nI tl), .int (nI tk), .int (nI va), .ref (E.1 + 48), .ref (E.1 + 49)]))) n) := by
  refine J.of (L := [(0, .ref (E.1 + 38)), (1, .int (nI a)), (2, .int (nI x))]) rfl (by decide +kernel) (Nat.le_of_ble_eq_true rfl) ?_
  obtain ⟨PP, hPP⟩ : ∃ PP : jPost, PP = (jR (some (.int (nI 1))) (hset (hset h 43 (cI E 16 (nF (handM Q MM 16)))) 38 (.inr (7, [.ref (E.1 + 39), .ref (E.1 + 40), .ref (E.1 + 41), .ref (E.1 + 42), .long (lN ((sumM (handM Q MM 16) a * (10 - x)) / Nat.gcd (sumM (handM Q MM 16) a * (10 - x)) 10)), .long (lN (10 / Nat.gcd (sumM (handM Q MM 16) a * (10 - x)) 10)), .ref (E.1 + 43), .int (nI (Q 20)), .ref (E.1 + 44), .ref (E.1 + 45), .int (nI mo), .ref (E.1 + 46), .ref (E.1 + 47), .int (nI bn), .int (nI ta), .int (nI tl), .int (nI tk), .int (nI va), .ref (E.1 + 48), .ref (E.1 + 49)]))) n) := ⟨_, rfl⟩
  rw [← hPP]
  refine J_aload_n dX8_frost_0 rfl ?_
  refine J_iload_n dX8_frost_1 rfl ?_
  refine J_callVr (M' := mX8_isAnvil) (d' := (2, 0, 0)) (rest := []) dX8_frost_2 jmX8_isAnvil jlRX8_107 (ctX8_isAnvil a xa xb dt mo bn ta tl tk va Q H0 H1 (by omega) (by first | assumption | omega) (by first | assumption | omega)) H0 (by omega) jk8.1 rfl rfl (Nat.le_of_ble_eq_true rfl) (Nat.le_of_ble_eq_true rfl) ⟨Nat.le_refl _, Nat.le_refl _⟩ ?_
  refine J_if_eqB (tgt := 20) dX8_frost_5 (by decide) (fun c1 => (by exfalso; omega)) (fun c1 => ?_)
  refine J_iload_n dX8_frost_8 rfl ?_
  refine J_i2lN dX8_frost_9 (by omega) ?_
  refine J_lconst (v := lN 0) dX8_frost_10 (by decide +kernel) ?_
  refine J_ldc2 dX8_frost_11 jqRX8_172 ?_
  refine J.stk (st' := .long (lN 10) :: [.long (lN 0), .long (lN x)]) rfl ?_
  refine J_callSr (M' := mX8_in) (d' := (1, 0, 0)) (rest := []) dX8_frost_14 jmX8_in jlRX8_56 (ctX8_inM x 0 10   (by first | assumption | omega) (by first | assumption | omega) (by first | assumption | omega)) rfl rfl (Nat.le_of_ble_eq_true rfl) (Nat.le_of_ble_eq_true rfl) ⟨Nat.le_refl _, Nat.le_refl _⟩ ?_
  refine J_if_neB (tgt := 27) dX8_frost_17 (by decide) (fun c2 => ?_) (fun c2 => (by exfalso; omega))
  refine J_aload_n dX8_frost_27 rfl ?_
  refine J_callVn (M' := mX8_layHand) (d' := (1, 0, 0)) (rest := []) dX8_frost_28 jmX8_layHand jlRX8_116 (ctX8_layHand xa xb dt mo bn ta tl tk va Q MM H0 H1 H2 (by omega) ) H0 (by omega) jk8.1 rfl rfl (Nat.le_of_ble_eq_true rfl) (Nat.le_of_ble_eq_true rfl) ⟨Nat.le_refl _, Nat.le_refl _⟩ ?_
  refine J_aload_n dX8_frost_31 rfl ?_
  refine J_aload_n dX8_frost_32 rfl ?_
  refine J_iload_n dX8_frost_33 rfl ?_
  refine J_callVr (M' := mX8_sumOf) (d' := (1, 0, 0)) (rest := [.ref (E.1 + 38)]) dX8_frost_34 jmX8_sumOf jlRX8_137 (ctX8_sumOf a xa xb (Q 20) mo bn ta tl tk va (handM Q MM 16) hset_eq ((hset_ne (by omega)).trans hset_eq) (by omega) (by first | assumption | omega) (by exact handM_le hM4 hM)) hset_eq (by omega) jk8.1 rfl rfl (Nat.le_of_ble_eq_true rfl) (Nat.le_of_ble_eq_true rfl) ⟨Nat.le_refl _, Nat.le_refl _⟩ ?_
  have fc3 : sumM (handM Q MM 16) a ≤ 80 := sumM_le (show ∀ zz, (handM Q MM 16) zz ≤ 20 from by exact handM_le hM4 hM)
  refine J_i2lN dX8_frost_37 (by omega) ?_
  refine J_bipush (v := nI 10) dX8_frost_38 (by decide +kernel) ?_
  refine J_iload_n dX8_frost_40 rfl ?_
  refine J_isubN dX8_frost_41 (by omega) ?_
  refine J_i2lN dX8_frost_42 (by omega) ?_
  refine J_lmulN dX8_frost_43 ?_
  refine J_ldc2 dX8_frost_44 jqRX8_172 ?_
  refine J.stk (st' := .long (lN 10) :: [.long (lN ((sumM (handM Q MM 16) a) * (10 - x))), .ref (E.1 + 38)]) rfl ?_
  refine J_callVn (M' := mX8_fraction) (d' := (1, 0, 0)) (rest := []) dX8_frost_47 jmX8_fraction jlRX8_174 (ctX8_fraction ((sumM (handM Q MM 16) a) * (10 - x)) 10 xa xb (Q 20) mo bn ta tl tk va hset_eq (by omega) (by exact Nat.lt_of_le_of_lt (Nat.mul_le_mul (sumM_le (handM_le hM4 hM)) (show 10 - x ≤ 10 by omega)) (by omega)) (by first | assumption | omega) (by first | assumption | omega)) hset_eq (by omega) jk8.1 rfl rfl (Nat.le_of_ble_eq_true rfl) (Nat.le_of_ble_eq_true rfl) ⟨Nat.le_refl _, Nat.le_refl _⟩ ?_
  refine J.cast hset_hset ?_
  refine J_iconst (v := nI 1) dX8_frost_50 (by decide +kernel) ?_
  exact J_iret dX8_frost_51 rfl ⟨Nat.le_refl _, Nat.le_refl _⟩ (by rw [hPP]; exact ⟨rfl, (hset_cg (hset_cg rfl rfl) (congrArg (fun z => (Sum.inr (7, z) : va_E)) (jS_c rfl (jS_c rfl (jS_c rfl (jS_c rfl (jS_c (jv_M (by omega)) (jS_c (jv_M (by omega)) (jS_c rfl (jS_c rfl (jS_c rfl (jS_c rfl (jS_c rfl (jS_c rfl (jS_c rfl (jS_c rfl (jS_c rfl (jS_c rfl (jS_c rfl (jS_c rfl (jS_c rfl (jS_c rfl rfl)))))))))))))))))))))), rfl⟩)

set_option maxHeartbeats 1000000 in
set_option maxRecDepth 100000 in
theorem ctX8_streets_bad {E : jE} {h : Nat → va_E} {n : Nat} (x : Nat) (y : Nat) (xa : Nat) (xb : Nat) (dt : Nat) (mo : Nat) (bn : Nat) (ta : Nat) (tl : Nat) (tk : Nat) (va : Nat) (RF : Nat → Nat) (H0 : h 38 = .inr (7, [.ref (E.1 + 39), .ref (E.1 + 40), .ref (E.1 + 41), .ref (E.1 + 42), .long (lN xa), .long (lN xb), .ref (E.1 + 43), .int (nI dt), .ref (E.1 + 44), .ref (E.1 + 45), .int (nI mo), .ref (E.1 + 46), .ref (E.1 + 47), .int (nI bn), .int (nI ta), .int (nI tl), .int (nI tk), .int (nI va), .ref (E.1 + 48), .ref (E.1 + 49)])) (H1 : h 42 = cI E 3 (nF RF)) (hn : 50 ≤ n) (h32x : x < 2 ^ 32) (h32y : y < 2 ^ 32) (hbad : ¬ (x ≤ 999999 ∧ y ≤ 60)) : jC E mX8_streets (5, 0, 0) [.ref (E.1 + 38), .int (nI x), .int (nI y)] h n (jR (some (.int (-2))) (hset h 42 (cI E 3 (nF (updN RF 0 (RF 0 + 1))))) n) := by
  refine J.of (L := [(0, .ref (E.1 + 38)), (1, .int (nI x)), (2, .int (nI y))]) rfl (by decide +kernel) (Nat.le_of_ble_eq_true rfl) ?_
  obtain ⟨PP, hPP⟩ : ∃ PP : jPost, PP = (jR (some (.int (-2))) (hset h 42 (cI E 3 (nF (updN RF 0 (RF 0 + 1))))) n) := ⟨_, rfl⟩
  rw [← hPP]
  refine J_iload_n dX8_streets_0 rfl ?_
  refine J_i2l (v := (nI x).toInt64) dX8_streets_1 rfl ?_
  refine J_lconst (v := lN 0) dX8_streets_2 (by decide +kernel) ?_
  refine J_ldc2 dX8_streets_3 jqRX8_178 ?_
  refine J.stk (st' := .long (lN 999999) :: [.long (lN 0), .long (nI x).toInt64]) rfl ?_
  refine J_callSr (M' := mX8_in) (d' := (1, 0, 0)) (rest := []) dX8_streets_6 jmX8_in jlRX8_56 (ctX8_in x 0 999999   (by first | assumption | omega) (by first | assumption | omega) (by first | assumption | omega)) rfl rfl (Nat.le_of_ble_eq_true rfl) (Nat.le_of_ble_eq_true rfl) ⟨Nat.le_refl _, Nat.le_refl _⟩ ?_
  refine J_if_eqB (tgt := 24) dX8_streets_9 (by decide) (fun c1 => ?_) (fun c1 => ?_)
  · skip
    refine J_aload_n dX8_streets_24 rfl ?_
    refine J_bipush (v := (-2)) dX8_streets_25 (by decide +kernel) ?_
    refine J_callVr (M' := mX8_bad) (d' := (1, 0, 0)) (rest := []) dX8_streets_27 jmX8_bad jlRX8_66 (ctX8_bad (-2) xa xb dt mo bn ta tl tk va RF H0 H1 (by omega) ) H0 (by omega) jk8.1 rfl rfl (Nat.le_of_ble_eq_true rfl) (Nat.le_of_ble_eq_true rfl) ⟨Nat.le_refl _, Nat.le_refl _⟩ ?_
    exact J_iret dX8_streets_30 rfl ⟨Nat.le_refl _, Nat.le_refl _⟩ (by rw [hPP]; exact ⟨rfl, rfl, rfl⟩)
  · skip
    refine J_iload_n dX8_streets_12 rfl ?_
    refine J_i2l (v := (nI y).toInt64) dX8_streets_13 rfl ?_
    refine J_lconst (v := lN 0) dX8_streets_14 (by decide +kernel) ?_
    refine J_ldc2 dX8_streets_15 jqRX8_125 ?_
    refine J.stk (st' := .long (lN 60) :: [.long (lN 0), .long (nI y).toInt64]) rfl ?_
    refine J_callSr (M' := mX8_in) (d' := (1, 0, 0)) (rest := []) dX8_streets_18 jmX8_in jlRX8_56 (ctX8_in y 0 60   (by first | assumption | omega) (by first | assumption | omega) (by first | assumption | omega)) rfl rfl (Nat.le_of_ble_eq_true rfl) (Nat.le_of_ble_eq_true rfl) ⟨Nat.le_refl _, Nat.le_refl _⟩ ?_
    refine J_if_neB (tgt := 31) dX8_streets_21 (by decide) (fun c2 => (by exfalso; omega)) (fun c2 => ?_)
    refine J_aload_n dX8_streets_24 rfl ?_
    refine J_bipush (v := (-2)) dX8_streets_25 (by decide +kernel) ?_
    refine J_callVr (M' := mX8_bad) (d' := (1, 0, 0)) (rest := []) dX8_streets_27 jmX8_bad jlRX8_66 (ctX8_bad (-2) xa xb dt mo bn ta tl tk va RF H0 H1 (by omega) ) H0 (by omega) jk8.1 rfl rfl (Nat.le_of_ble_eq_true rfl) (Nat.le_of_ble_eq_true rfl) ⟨Nat.le_refl _, Nat.le_refl _⟩ ?_
    exact J_iret dX8_streets_30 rfl ⟨Nat.le_refl _, Nat.le_refl _⟩ (by rw [hPP]; exact ⟨rfl, rfl, rfl⟩)

set_option maxHeartbeats 1000000 in
set_option maxRecDepth 100000 in
theorem ctX8_streets {E : jE} {h : Nat → va_E} {n : Nat} (x : Nat) (y : Nat) (xa : Nat) (xb : Nat) (dt : Nat) (mo : Nat) (bn : Nat) (ta : Nat) (tl : Nat) (tk : Nat) (va : Nat) (Q : Nat → Nat) (MM : Nat → Nat) (H0 : h 38 = .inr (7, [.ref (E.1 + 39), .ref (E.1 + 40), .ref (E.1 + 41), .ref (E.1 + 42), .long (lN xa), .long (lN xb), .ref (E.1 + 43), .int (nI dt), .ref (E.1 + 44), .ref (E.1 + 45), .int (nI mo), .ref (E.1 + 46), .ref (E.1 + 47), .int (nI bn), .int (nI ta), .int (nI tl), .int (nI tk), .int (nI va), .ref (E.1 + 48), .ref (E.1 + 49)])) (H1 : h 39 = cI E 218 (nF Q)) (H2 : h 43 = cI E 16 (nF MM)) (hn : 50 ≤ n) (hn4 : Q 0 ≤ 4) (hK : ∀ zz, zz < 4 → KQ Q zz ≤ 5) (hM4 : ∀ zz, zz < 16 → Q (4 + zz) ≤ 20) (hg : Q 21 ≤ 9) (hM : ∀ zz, MM zz ≤ 20) (hd9 : Q 20 ≤ 999) (hx : x ≤ 999999) (hy : y ≤ 60) : jC E mX8_streets (5, 0, 0) [.ref (E.1 + 38), .int (nI x), .int (nI y)] h n (jR (some (.int (nI (strS (KQ Q) (handM Q MM 16) (Q 21) (Q 0) (Q 20) x y)))) (hset (hset h 43 (cI E 16 (nF (strM (KQ Q) (handM Q MM 16) (Q 0) (Q 20) x y)))) 38 (.inr (7, [.ref (E.1 + 39), .ref (E.1 + 40), .ref (E.1 + 41), .ref (E.1 + 42), .long (lN xa), .long (lN xb), .ref (E.1 + 43), .int (nI (Q 20 + y)), .ref (E.1 + 44), .ref (E.1 + 45), .int (nI mo), .ref (E.1 + 46), .ref (E.1 + 47), .int (nI bn), .int (nI ta), .int (nI tl), .int (nI tk), .int (nI va), .ref (E.1 + 48), .ref (E.1 + 49)]))) n) := by
  refine J.of (L := [(0, .ref (E.1 + 38)), (1, .int (nI x)), (2, .int (nI y))]) rfl (by decide +kernel) (Nat.le_of_ble_eq_true rfl) ?_
  obtain ⟨PP, hPP⟩ : ∃ PP : jPost, PP = (jR (some (.int (nI (strS (KQ Q) (handM Q MM 16) (Q 21) (Q 0) (Q 20) x y)))) (hset (hset h 43 (cI E 16 (nF (strM (KQ Q) (handM Q MM 16) (Q 0) (Q 20) x y)))) 38 (.inr (7, [.ref (E.1 + 39), .ref (E.1 + 40), .ref (E.1 + 41), .ref (E.1 + 42), .long (lN xa), .long (lN xb), .ref (E.1 + 43), .int (nI (Q 20 + y)), .ref (E.1 + 44), .ref (E.1 + 45), .int (nI mo), .ref (E.1 + 46), .ref (E.1 + 47), .int (nI bn), .int (nI ta), .int (nI tl), .int (nI tk), .int (nI va), .ref (E.1 + 48), .ref (E.1 + 49)]))) n) := ⟨_, rfl⟩
  rw [← hPP]
  refine J_iload_n dX8_streets_0 rfl ?_
  refine J_i2lN dX8_streets_1 (by omega) ?_
  refine J_lconst (v := lN 0) dX8_streets_2 (by decide +kernel) ?_
  refine J_ldc2 dX8_streets_3 jqRX8_178 ?_
  refine J.stk (st' := .long (lN 999999) :: [.long (lN 0), .long (lN x)]) rfl ?_
  refine J_callSr (M' := mX8_in) (d' := (1, 0, 0)) (rest := []) dX8_streets_6 jmX8_in jlRX8_56 (ctX8_inM x 0 999999   (by first | assumption | omega) (by first | assumption | omega) (by first | assumption | omega)) rfl rfl (Nat.le_of_ble_eq_true rfl) (Nat.le_of_ble_eq_true rfl) ⟨Nat.le_refl _, Nat.le_refl _⟩ ?_
  refine J_if_eqB (tgt := 24) dX8_streets_9 (by decide) (fun c1 => (by exfalso; omega)) (fun c1 => ?_)
  refine J_iload_n dX8_streets_12 rfl ?_
  refine J_i2lN dX8_streets_13 (by omega) ?_
  refine J_lconst (v := lN 0) dX8_streets_14 (by decide +kernel) ?_
  refine J_ldc2 dX8_streets_15 jqRX8_125 ?_
  refine J.stk (st' := .long (lN 60) :: [.long (lN 0), .long (lN y)]) rfl ?_
  refine J_callSr (M' := mX8_in) (d' := (1, 0, 0)) (rest := []) dX8_streets_18 jmX8_in jlRX8_56 (ctX8_inM y 0 60   (by first | assumption | omega) (by first | assumption | omega) (by first | assumption | omega)) rfl rfl (Nat.le_of_ble_eq_true rfl) (Nat.le_of_ble_eq_true rfl) ⟨Nat.le_refl _, Nat.le_refl _⟩ ?_
  refine J_if_neB (tgt := 31) dX8_streets_21 (by decide) (fun c2 => ?_) (fun c2 => (by exfalso; omega))
  refine J_iload_n dX8_streets_31 rfl ?_
  refine J_i2lN dX8_streets_32 (by omega) ?_
  refine J_lstore_n dX8_streets_33 (Nat.le_of_ble_eq_true rfl) (L' := [(3, .long (lN x)), (0, .ref (E.1 + 38)), (1, .int (nI x)), (2, .int (nI y))]) rfl ?_
  refine J_iconst (v := nI 0) dX8_streets_34 (by decide +kernel) ?_
  refine J_istore dX8_streets_35 (Nat.le_of_ble_eq_true rfl) (L' := [(5, .int (nI 0)), (3, .long (lN x)), (0, .ref (E.1 + 38)), (1, .int (nI x)), (2, .int (nI y))]) rfl ?_
  refine J_aload_n dX8_streets_37 rfl ?_
  refine J_callVn (M' := mX8_layHand) (d' := (1, 0, 0)) (rest := []) dX8_streets_38 jmX8_layHand jlRX8_116 (ctX8_layHand xa xb dt mo bn ta tl tk va Q MM H0 H1 H2 (by omega) ) H0 (by omega) jk8.1 rfl rfl (Nat.le_of_ble_eq_true rfl) (Nat.le_of_ble_eq_true rfl) ⟨Nat.le_refl _, Nat.le_refl _⟩ ?_
  refine J_iconst (v := nI 0) dX8_streets_41 (by decide +kernel) ?_
  refine J_istore dX8_streets_42 (Nat.le_of_ble_eq_true rfl) (L' := [(6, .int (nI 0)), (5, .int (nI 0)), (3, .long (lN x)), (0, .ref (E.1 + 38)), (1, .int (nI x)), (2, .int (nI y))]) rfl ?_
  have CUT44 : ∀ (f44 : Nat) (i : Nat) (hm44 : y - i < f44) (hi : i ≤ y), J E mX8_streets (5, 0, 0) jS0 PP (hset (hset h 43 (cI E 16 (nF (strM (KQ Q) (handM Q MM 16) (Q 0) (Q 20) x i)))) 38 (.inr (7, [.ref (E.1 + 39), .ref (E.1 + 40), .ref (E.1 + 41), .ref (E.1 + 42), .long (lN xa), .long (lN xb), .ref (E.1 + 43), .int (nI (Q 20 + i)), .ref (E.1 + 44), .ref (E.1 + 45), .int (nI mo), .ref (E.1 + 46), .ref (E.1 + 47), .int (nI bn), .int (nI ta), .int (nI tl), .int (nI tk), .int (nI va), .ref (E.1 + 48), .ref (E.1 + 49)]))) n (0, 0) 44 [(6, .int (nI i)), (5, .int (nI (strS (KQ Q) (handM Q MM 16) (Q 21) (Q 0) (Q 20) x i))), (3, .long (lN (strX x i))), (0, .ref (E.1 + 38)), (1, .int (nI x)), (2, .int (nI y))] [] := by
    intro f44
    induction f44 with
    | zero => intro i hm44; exact absurd hm44 (Nat.not_lt_zero _)
    | succ f44 ih44 =>
      intro i hm44 hi
      have sx := strX_lt (seed := x) (by omega) i
      have ss := strS_le (K := KQ Q) (g := Q 21) (an := Q 0) (d := Q 20) (seed := x) (handM_le hM4 hM) i
      refine J_iload dX8_streets_44 rfl ?_
      refine J_iload_n dX8_streets_46 rfl ?_
      refine J_icmp_geN (tgt := 140) dX8_streets_47 (by decide) (by omega) (by omega) (fun c3 => ?_) (fun c3 => ?_)
      · skip
        have iy : i = y := by omega
        subst iy
        refine J_iload dX8_streets_140 rfl ?_
        exact J_iret dX8_streets_142 rfl ⟨Nat.le_refl _, Nat.le_refl _⟩ (by rw [hPP]; exact ⟨(congrArg some (jv_N (by rfl))), (hset_cg (hset_cg rfl (cI_cg (by intro z; rfl))) (congrArg (fun z => (Sum.inr (7, z) : va_E)) (jS_c rfl (jS_c rfl (jS_c rfl (jS_c rfl (jS_c rfl (jS_c rfl (jS_c rfl (jS_c (jv_N (by rfl)) (jS_c rfl (jS_c rfl (jS_c rfl (jS_c rfl (jS_c rfl (jS_c rfl (jS_c rfl (jS_c rfl (jS_c rfl (jS_c rfl (jS_c rfl (jS_c rfl rfl)))))))))))))))))))))), rfl⟩)
      · skip
        refine J_lload_n dX8_streets_50 rfl ?_
        refine J_ldc2 dX8_streets_51 jqRX8_180 ?_
        refine J.stk (st' := .long (lN 1103515245) :: [.long (lN (strX x i))]) rfl ?_
        refine J_lmulN dX8_streets_54 ?_
        refine J_ldc2 dX8_streets_55 jqRX8_182 ?_
        refine J.stk (st' := .long (lN 12345) :: [.long (lN ((strX x i) * 1103515245))]) rfl ?_
        refine J_laddN dX8_streets_58 ?_
        refine J_ldc2 dX8_streets_59 jqRX8_184 ?_
        refine J.stk (st' := .long (lN 2147483648) :: [.long (lN (((strX x i) * 1103515245) + 12345))]) rfl ?_
        refine J_lremN dX8_streets_62 (by omega) (by omega) (by omega) ?_
        refine J_lstore_n dX8_streets_63 (Nat.le_of_ble_eq_true rfl) (L' := [(3, .long (lN ((((strX x i) * 1103515245) + 12345) % 2147483648))), (6, .int (nI i)), (5, .int (nI (strS (KQ Q) (handM Q MM 16) (Q 21) (Q 0) (Q 20) x i))), (0, .ref (E.1 + 38)), (1, .int (nI x)), (2, .int (nI y))]) rfl ?_
        refine J_lload_n dX8_streets_64 rfl ?_
        refine J_ldc2 dX8_streets_65 jqRX8_186 ?_
        refine J.stk (st' := .long (lN 65536) :: [.long (lN ((((strX x i) * 1103515245) + 12345) % 2147483648))]) rfl ?_
        refine J_ldivN dX8_streets_68 (by omega) (by omega) (by omega) ?_
        refine J_ldc2 dX8_streets_69 jqRX8_133 ?_
        refine J.stk (st' := .long (lN 4) :: [.long (lN (((((strX x i) * 1103515245) + 12345) % 2147483648) / 65536))]) rfl ?_
        refine J_lremN dX8_streets_72 (by omega) (by omega) (by omega) ?_
        refine J_l2iN dX8_streets_73 ?_
        refine J_istore dX8_streets_74 (Nat.le_of_ble_eq_true rfl) (L' := [(7, .int (nI ((((((strX x i) * 1103515245) + 12345) % 2147483648) / 65536) % 4))), (3, .long (lN ((((strX x i) * 1103515245) + 12345) % 2147483648))), (6, .int (nI i)), (5, .int (nI (strS (KQ Q) (handM Q MM 16) (Q 21) (Q 0) (Q 20) x i))), (0, .ref (E.1 + 38)), (1, .int (nI x)), (2, .int (nI y))]) rfl ?_
        refine J_lload_n dX8_streets_76 rfl ?_
        refine J_ldc2 dX8_streets_77 jqRX8_188 ?_
        refine J.stk (st' := .long (lN 1048576) :: [.long (lN ((((strX x i) * 1103515245) + 12345) % 2147483648))]) rfl ?_
        refine J_ldivN dX8_streets_80 (by omega) (by omega) (by omega) ?_
        refine J_ldc2 dX8_streets_81 jqRX8_133 ?_
        refine J.stk (st' := .long (lN 4) :: [.long (lN (((((strX x i) * 1103515245) + 12345) % 2147483648) / 1048576))]) rfl ?_
        refine J_lremN dX8_streets_84 (by omega) (by omega) (by omega) ?_
        refine J_l2iN dX8_streets_85 ?_
        refine J_istore dX8_streets_86 (Nat.le_of_ble_eq_true rfl) (L' := [(8, .int (nI ((((((strX x i) * 1103515245) + 12345) % 2147483648) / 1048576) % 4))), (7, .int (nI ((((((strX x i) * 1103515245) + 12345) % 2147483648) / 65536) % 4))), (3, .long (lN ((((strX x i) * 1103515245) + 12345) % 2147483648))), (6, .int (nI i)), (5, .int (nI (strS (KQ Q) (handM Q MM 16) (Q 21) (Q 0) (Q 20) x i))), (0, .ref (E.1 + 38)), (1, .int (nI x)), (2, .int (nI y))]) rfl ?_
        refine J_lload_n dX8_streets_88 rfl ?_
        refine J_ldc2 dX8_streets_89 jqRX8_190 ?_
        refine J.stk (st' := .long (lN 16777216) :: [.long (lN ((((strX x i) * 1103515245) + 12345) % 2147483648))]) rfl ?_
        refine J_ldivN dX8_streets_92 (by omega) (by omega) (by omega) ?_
        refine J_ldc2 dX8_streets_93 jqRX8_70 ?_
        refine J.stk (st' := .long (lN 5) :: [.long (lN (((((strX x i) * 1103515245) + 12345) % 2147483648) / 16777216))]) rfl ?_
        refine J_lremN dX8_streets_96 (by omega) (by omega) (by omega) ?_
        refine J_l2iN dX8_streets_97 ?_
        refine J_iconst (v := nI 1) dX8_streets_98 (by decide +kernel) ?_
        refine J_iaddN dX8_streets_99 ?_
        refine J_istore dX8_streets_100 (Nat.le_of_ble_eq_true rfl) (L' := [(9, .int (nI (((((((strX x i) * 1103515245) + 12345) % 2147483648) / 16777216) % 5) + 1))), (8, .int (nI ((((((strX x i) * 1103515245) + 12345) % 2147483648) / 1048576) % 4))), (7, .int (nI ((((((strX x i) * 1103515245) + 12345) % 2147483648) / 65536) % 4))), (3, .long (lN ((((strX x i) * 1103515245) + 12345) % 2147483648))), (6, .int (nI i)), (5, .int (nI (strS (KQ Q) (handM Q MM 16) (Q 21) (Q 0) (Q 20) x i))), (0, .ref (E.1 + 38)), (1, .int (nI x)), (2, .int (nI y))]) rfl ?_
        refine J_iload dX8_streets_102 rfl ?_
        refine J_iload dX8_streets_104 rfl ?_
        refine J_aload_n dX8_streets_106 rfl ?_
        refine J_callVr (M' := mX8_many) (d' := (1, 0, 0)) (rest := [.int (nI ((((((strX x i) * 1103515245) + 12345) % 2147483648) / 65536) % 4)), .int (nI (strS (KQ Q) (handM Q MM 16) (Q 21) (Q 0) (Q 20) x i))]) dX8_streets_107 jmX8_many jlRX8_52 (ctX8_many xa xb (Q 20 + i) mo bn ta tl tk va Q hset_eq ((hset_ne (by omega)).trans ((hset_ne (by omega)).trans H1)) (by omega) ) hset_eq (by omega) jk8.1 rfl rfl (Nat.le_of_ble_eq_true rfl) (Nat.le_of_ble_eq_true rfl) ⟨Nat.le_refl _, Nat.le_refl _⟩ ?_
        refine J_icmp_geN (tgt := 126) dX8_streets_110 (by decide) (by omega) (by omega) (fun c4 => ?_) (fun c4 => ?_)
        · skip
          refine J_iconst (v := nI 0) dX8_streets_126 (by decide +kernel) ?_
          refine J_iaddN dX8_streets_127 ?_
          refine J_istore dX8_streets_128 (Nat.le_of_ble_eq_true rfl) (L' := [(5, .int (nI ((strS (KQ Q) (handM Q MM 16) (Q 21) (Q 0) (Q 20) x i) + 0))), (9, .int (nI (((((((strX x i) * 1103515245) + 12345) % 2147483648) / 16777216) % 5) + 1))), (8, .int (nI ((((((strX x i) * 1103515245) + 12345) % 2147483648) / 1048576) % 4))), (7, .int (nI ((((((strX x i) * 1103515245) + 12345) % 2147483648) / 65536) % 4))), (3, .long (lN ((((strX x i) * 1103515245) + 12345) % 2147483648))), (6, .int (nI i)), (0, .ref (E.1 + 38)), (1, .int (nI x)), (2, .int (nI y))]) rfl ?_
          refine J_aload_n dX8_streets_130 rfl ?_
          refine J_callVn (M' := mX8_goDay) (d' := (2, 0, 0)) (rest := []) dX8_streets_131 jmX8_goDay jlRX8_127 (ctX8_goDay xa xb (Q 20 + i) mo bn ta tl tk va Q (strM (KQ Q) (handM Q MM 16) (Q 0) (Q 20) x i) hset_eq ((hset_ne (by omega)).trans ((hset_ne (by omega)).trans H1)) ((hset_ne (by omega)).trans hset_eq) (by omega) (by first | assumption | omega) (by first | assumption | omega) (by first | exact addMN_le (strM_le (handM_le hM4 hM) i) | exact strM_le (handM_le hM4 hM) i) (by first | assumption | omega)) hset_eq (by omega) jk8.1 rfl rfl (Nat.le_of_ble_eq_true rfl) (Nat.le_of_ble_eq_true rfl) ⟨Nat.le_refl _, Nat.le_refl _⟩ ?_
          refine J.cast ((hset_cg ((hset_comm (by omega)).trans (hset_cg hset_hset rfl)) rfl).trans hset_hset) ?_
          refine J_iincN (q := 5) (a := i) (m := 1) dX8_streets_134 rfl (by decide +kernel) (Nat.le_of_ble_eq_true rfl) (L' := [(6, .int (nI (i + 1))), (5, .int (nI ((strS (KQ Q) (handM Q MM 16) (Q 21) (Q 0) (Q 20) x i) + 0))), (9, .int (nI (((((((strX x i) * 1103515245) + 12345) % 2147483648) / 16777216) % 5) + 1))), (8, .int (nI ((((((strX x i) * 1103515245) + 12345) % 2147483648) / 1048576) % 4))), (7, .int (nI ((((((strX x i) * 1103515245) + 12345) % 2147483648) / 65536) % 4))), (3, .long (lN ((((strX x i) * 1103515245) + 12345) % 2147483648))), (0, .ref (E.1 + 38)), (1, .int (nI x)), (2, .int (nI y))]) rfl ?_
          refine J_goto (tgt := 44) dX8_streets_137 (by decide) ?_
          refine J.sub [0, 1, 5, 6, 7, 8] (L' := [(6, .int (nI (i + 1))), (5, .int (nI ((strS (KQ Q) (handM Q MM 16) (Q 21) (Q 0) (Q 20) x i) + 0))), (3, .long (lN ((((strX x i) * 1103515245) + 12345) % 2147483648))), (0, .ref (E.1 + 38)), (1, .int (nI x)), (2, .int (nI y))]) rfl ?_
          refine J.eqs (h' := (hset (hset h 43 (cI E 16 (nF (strM (KQ Q) (handM Q MM 16) (Q 0) (Q 20) x (i + 1))))) 38 (.inr (7, [.ref (E.1 + 39), .ref (E.1 + 40), .ref (E.1 + 41), .ref (E.1 + 42), .long (lN xa), .long (lN xb), .ref (E.1 + 43), .int (nI (Q 20 + (i + 1))), .ref (E.1 + 44), .ref (E.1 + 45), .int (nI mo), .ref (E.1 + 46), .ref (E.1 + 47), .int (nI bn), .int (nI ta), .int (nI tl), .int (nI tk), .int (nI va), .ref (E.1 + 48), .ref (E.1 + 49)])))) (L' := [(6, .int (nI (i + 1))), (5, .int (nI (strS (KQ Q) (handM Q MM 16) (Q 21) (Q 0) (Q 20) x (i + 1)))), (3, .long (lN (strX x (i + 1)))), (0, .ref (E.1 + 38)), (1, .int (nI x)), (2, .int (nI y))]) (st' := []) (hset_cg (hset_cg rfl (cI_cg (by intro z; first | rfl | omega | exact (congrFun (strM_t (by assumption)) z).symm | exact (congrFun (strM_f (Nat.not_lt.mpr (by assumption))) z).symm | exact (strS_t (by assumption)).symm | exact (strS_f (Nat.not_lt.mpr (by assumption))).symm))) (congrArg (fun z => (Sum.inr (7, z) : va_E)) (jS_c rfl (jS_c rfl (jS_c rfl (jS_c rfl (jS_c rfl (jS_c rfl (jS_c rfl (jS_c (jv_N (by first | rfl | omega | exact (congrFun (strM_t (by assumption)) z).symm | exact (congrFun (strM_f (Nat.not_lt.mpr (by assumption))) z).symm | exact (strS_t (by assumption)).symm | exact (strS_f (Nat.not_lt.mpr (by assumption))).symm)) (jS_c rfl (jS_c rfl (jS_c rfl (jS_c rfl (jS_c rfl (jS_c rfl (jS_c rfl (jS_c rfl (jS_c rfl (jS_c rfl (jS_c rfl (jS_c rfl rfl)))))))))))))))))))))) (jL_c rfl (jL_c (jv_N (by first | rfl | omega | exact (congrFun (strM_t (by assumption)) z).symm | exact (congrFun (strM_f (Nat.not_lt.mpr (by assumption))) z).symm | exact (strS_t (by assumption)).symm | exact (strS_f (Nat.not_lt.mpr (by assumption))).symm)) (jL_c (jv_M (by first | rfl | omega | exact (congrFun (strM_t (by assumption)) z).symm | exact (congrFun (strM_f (Nat.not_lt.mpr (by assumption))) z).symm | exact (strS_t (by assumption)).symm | exact (strS_f (Nat.not_lt.mpr (by assumption))).symm)) (jL_c rfl (jL_c rfl (jL_c rfl rfl)))))) rfl ?_
          exact ih44 (i + 1) (by omega) (by first | assumption | omega)
        · skip
          refine J_aload_n dX8_streets_113 rfl ?_
          refine J_iload dX8_streets_114 rfl ?_
          refine J_iload dX8_streets_116 rfl ?_
          refine J_iload dX8_streets_118 rfl ?_
          refine J_callVr (M' := mX8_goWork) (d' := (4, 0, 0)) (rest := [.int (nI (strS (KQ Q) (handM Q MM 16) (Q 21) (Q 0) (Q 20) x i))]) dX8_streets_120 jmX8_goWork jlRX8_119 (ctX8_goWork ((((((strX x i) * 1103515245) + 12345) % 2147483648) / 65536) % 4) ((((((strX x i) * 1103515245) + 12345) % 2147483648) / 1048576) % 4) (((((((strX x i) * 1103515245) + 12345) % 2147483648) / 16777216) % 5) + 1) xa xb (Q 20 + i) mo bn ta tl tk va Q (strM (KQ Q) (handM Q MM 16) (Q 0) (Q 20) x i) hset_eq ((hset_ne (by omega)).trans ((hset_ne (by omega)).trans H1)) ((hset_ne (by omega)).trans hset_eq) (by omega) (by first | assumption | omega) (by first | assumption | omega) (by first | assumption | omega) (by first | exact addMN_le (strM_le (handM_le hM4 hM) i) | exact strM_le (handM_le hM4 hM) i) (by first | assumption | omega) (by first | assumption | omega)) hset_eq (by omega) jk8.1 rfl rfl (Nat.le_of_ble_eq_true rfl) (Nat.le_of_ble_eq_true rfl) ⟨Nat.le_refl _, Nat.le_refl _⟩ ?_
          refine J.cast ((hset_comm (by omega)).trans (hset_cg hset_hset rfl)) ?_
          have fc5 : fgnN (KQ Q) (strM (KQ Q) (handM Q MM 16) (Q 0) (Q 20) x i) (Q 21) ((((((strX x i) * 1103515245) + 12345) % 2147483648) / 65536) % 4) ((((((strX x i) * 1103515245) + 12345) % 2147483648) / 1048576) % 4) 4 ≤ 42 * 4 := fgnN_le (show ∀ zz, (strM (KQ Q) (handM Q MM 16) (Q 0) (Q 20) x i) zz ≤ 20 from by first | exact addMN_le (strM_le (handM_le hM4 hM) i) | exact strM_le (handM_le hM4 hM) i) 4
          refine J_goto (tgt := 127) dX8_streets_123 (by decide) ?_
          refine J_iaddN dX8_streets_127 ?_
          refine J_istore dX8_streets_128 (Nat.le_of_ble_eq_true rfl) (L' := [(5, .int (nI ((strS (KQ Q) (handM Q MM 16) (Q 21) (Q 0) (Q 20) x i) + (fgnN (KQ Q) (strM (KQ Q) (handM Q MM 16) (Q 0) (Q 20) x i) (Q 21) ((((((strX x i) * 1103515245) + 12345) % 2147483648) / 65536) % 4) ((((((strX x i) * 1103515245) + 12345) % 2147483648) / 1048576) % 4) 4)))), (9, .int (nI (((((((strX x i) * 1103515245) + 12345) % 2147483648) / 16777216) % 5) + 1))), (8, .int (nI ((((((strX x i) * 1103515245) + 12345) % 2147483648) / 1048576) % 4))), (7, .int (nI ((((((strX x i) * 1103515245) + 12345) % 2147483648) / 65536) % 4))), (3, .long (lN ((((strX x i) * 1103515245) + 12345) % 2147483648))), (6, .int (nI i)), (0, .ref (E.1 + 38)), (1, .int (nI x)), (2, .int (nI y))]) rfl ?_
          refine J_aload_n dX8_streets_130 rfl ?_
          refine J_callVn (M' := mX8_goDay) (d' := (2, 0, 0)) (rest := []) dX8_streets_131 jmX8_goDay jlRX8_127 (ctX8_goDay xa xb (Q 20 + i) mo bn ta tl tk va Q (addMN (KQ Q) (strM (KQ Q) (handM Q MM 16) (Q 0) (Q 20) x i) ((((((strX x i) * 1103515245) + 12345) % 2147483648) / 65536) % 4) ((((((strX x i) * 1103515245) + 12345) % 2147483648) / 1048576) % 4) (((((((strX x i) * 1103515245) + 12345) % 2147483648) / 16777216) % 5) + 1)) hset_eq ((hset_ne (by omega)).trans ((hset_ne (by omega)).trans H1)) ((hset_ne (by omega)).trans hset_eq) (by omega) (by first | assumption | omega) (by first | assumption | omega) (by first | exact addMN_le (strM_le (handM_le hM4 hM) i) | exact strM_le (handM_le hM4 hM) i) (by first | assumption | omega)) hset_eq (by omega) jk8.1 rfl rfl (Nat.le_of_ble_eq_true rfl) (Nat.le_of_ble_eq_true rfl) ⟨Nat.le_refl _, Nat.le_refl _⟩ ?_
          refine J.cast ((hset_cg ((hset_comm (by omega)).trans (hset_cg hset_hset rfl)) rfl).trans hset_hset) ?_
          refine J_iincN (q := 5) (a := i) (m := 1) dX8_streets_134 rfl (by decide +kernel) (Nat.le_of_ble_eq_true rfl) (L' := [(6, .int (nI (i + 1))), (5, .int (nI ((strS (KQ Q) (handM Q MM 16) (Q 21) (Q 0) (Q 20) x i) + (fgnN (KQ Q) (strM (KQ Q) (handM Q MM 16) (Q 0) (Q 20) x i) (Q 21) ((((((strX x i) * 1103515245) + 12345) % 2147483648) / 65536) % 4) ((((((strX x i) * 1103515245) + 12345) % 2147483648) / 1048576) % 4) 4)))), (9, .int (nI (((((((strX x i) * 1103515245) + 12345) % 2147483648) / 16777216) % 5) + 1))), (8, .int (nI ((((((strX x i) * 1103515245) + 12345) % 2147483648) / 1048576) % 4))), (7, .int (nI ((((((strX x i) * 1103515245) + 12345) % 2147483648) / 65536) % 4))), (3, .long (lN ((((strX x i) * 1103515245) + 12345) % 2147483648))), (0, .ref (E.1 + 38)), (1, .int (nI x)), (2, .int (nI y))]) rfl ?_
          refine J_goto (tgt := 44) dX8_streets_137 (by decide) ?_
          refine J.sub [0, 1, 5, 6, 7, 8] (L' := [(6, .int (nI (i + 1))), (5, .int (nI ((strS (KQ Q) (handM Q MM 16) (Q 21) (Q 0) (Q 20) x i) + (fgnN (KQ Q) (strM (KQ Q) (handM Q MM 16) (Q 0) (Q 20) x i) (Q 21) ((((((strX x i) * 1103515245) + 12345) % 2147483648) / 65536) % 4) ((((((strX x i) * 1103515245) + 12345) % 2147483648) / 1048576) % 4) 4)))), (3, .long (lN ((((strX x i) * 1103515245) + 12345) % 2147483648))), (0, .ref (E.1 + 38)), (1, .int (nI x)), (2, .int (nI y))]) rfl ?_
          refine J.eqs (h' := (hset (hset h 43 (cI E 16 (nF (strM (KQ Q) (handM Q MM 16) (Q 0) (Q 20) x (i + 1))))) 38 (.inr (7, [.ref (E.1 + 39), .ref (E.1 + 40), .ref (E.1 + 41), .ref (E.1 + 42), .long (lN xa), .long (lN xb), .ref (E.1 + 43), .int (nI (Q 20 + (i + 1))), .ref (E.1 + 44), .ref (E.1 + 45), .int (nI mo), .ref (E.1 + 46), .ref (E.1 + 47), .int (nI bn), .int (nI ta), .int (nI tl), .int (nI tk), .int (nI va), .ref (E.1 + 48), .ref (E.1 + 49)])))) (L' := [(6, .int (nI (i + 1))), (5, .int (nI (strS (KQ Q) (handM Q MM 16) (Q 21) (Q 0) (Q 20) x (i + 1)))), (3, .long (lN (strX x (i + 1)))), (0, .ref (E.1 + 38)), (1, .int (nI x)), (2, .int (nI y))]) (st' := []) (hset_cg (hset_cg rfl (cI_cg (by intro z; first | rfl | omega | exact (congrFun (strM_t (by assumption)) z).symm | exact (congrFun (strM_f (Nat.not_lt.mpr (by assumption))) z).symm | exact (strS_t (by assumption)).symm | exact (strS_f (Nat.not_lt.mpr (by assumption))).symm))) (congrArg (fun z => (Sum.inr (7, z) : va_E)) (jS_c rfl (jS_c rfl (jS_c rfl (jS_c rfl (jS_c rfl (jS_c rfl (jS_c rfl (jS_c (jv_N (by first | rfl | omega | exact (congrFun (strM_t (by assumption)) z).symm | exact (congrFun (strM_f (Nat.not_lt.mpr (by assumption))) z).symm | exact (strS_t (by assumption)).symm | exact (strS_f (Nat.not_lt.mpr (by assumption))).symm)) (jS_c rfl (jS_c rfl (jS_c rfl (jS_c rfl (jS_c rfl (jS_c rfl (jS_c rfl (jS_c rfl (jS_c rfl (jS_c rfl (jS_c rfl (jS_c rfl rfl)))))))))))))))))))))) (jL_c rfl (jL_c (jv_N (by first | rfl | omega | exact (congrFun (strM_t (by assumption)) z).symm | exact (congrFun (strM_f (Nat.not_lt.mpr (by assumption))) z).symm | exact (strS_t (by assumption)).symm | exact (strS_f (Nat.not_lt.mpr (by assumption))).symm)) (jL_c (jv_M (by first | rfl | omega | exact (congrFun (strM_t (by assumption)) z).symm | exact (congrFun (strM_f (Nat.not_lt.mpr (by assumption))) z).symm | exact (strS_t (by assumption)).symm | exact (strS_f (Nat.not_lt.mpr (by assumption))).symm)) (jL_c rfl (jL_c rfl (jL_c rfl rfl)))))) rfl ?_
          exact ih44 (i + 1) (by omega) (by first | assumption | omega)
  refine J.eqs (h' := (hset (hset h 43 (cI E 16 (nF (strM (KQ Q) (handM Q MM 16) (Q 0) (Q 20) x 0)))) 38 (.inr (7, [.ref (E.1 + 39), .ref (E.1 + 40), .ref (E.1 + 41), .ref (E.1 + 42), .long (lN xa), .long (lN xb), .ref (E.1 + 43), .int (nI (Q 20 + 0)), .ref (E.1 + 44), .ref (E.1 + 45), .int (nI mo), .ref (E.1 + 46), .ref (E.1 + 47), .int (nI bn), .int (nI ta), .int (nI tl), .int (nI tk), .int (nI va), .ref (E.1 + 48), .ref (E.1 + 49)])))) (L' := [(6, .int (nI 0)), (5, .int (nI (strS (KQ Q) (handM Q MM 16) (Q 21) (Q 0) (Q 20) x 0))), (3, .long (lN (strX x 0))), (0, .ref (E.1 + 38)), (1, .int (nI x)), (2, .int (nI y))]) (st' := []) (hset_cg (hset_cg rfl (cI_cg (by intro z; first | rfl | omega | exact (congrFun (strM_t (by assumption)) z).symm | exact (congrFun (strM_f (Nat.not_lt.mpr (by assumption))) z).symm | exact (strS_t (by assumption)).symm | exact (strS_f (Nat.not_lt.mpr (by assumption))).symm))) (congrArg (fun z => (Sum.inr (7, z) : va_E)) (jS_c rfl (jS_c rfl (jS_c rfl (jS_c rfl (jS_c rfl (jS_c rfl (jS_c rfl (jS_c (jv_N (by first | rfl | omega | exact (congrFun (strM_t (by assumption)) z).symm | exact (congrFun (strM_f (Nat.not_lt.mpr (by assumption))) z).symm | exact (strS_t (by assumption)).symm | exact (strS_f (Nat.not_lt.mpr (by assumption))).symm)) (jS_c rfl (jS_c rfl (jS_c rfl (jS_c rfl (jS_c rfl (jS_c rfl (jS_c rfl (jS_c rfl (jS_c rfl (jS_c rfl (jS_c rfl (jS_c rfl rfl)))))))))))))))))))))) (jL_c rfl (jL_c (jv_N (by first | rfl | omega | exact (congrFun (strM_t (by assumption)) z).symm | exact (congrFun (strM_f (Nat.not_lt.mpr (by assumption))) z).symm | exact (strS_t (by assumption)).symm | exact (strS_f (Nat.not_lt.mpr (by assumption))).symm)) (jL_c (jv_M (by first | rfl | omega | exact (congrFun (strM_t (by assumption)) z).symm | exact (congrFun (strM_f (Nat.not_lt.mpr (by assumption))) z).symm | exact (strS_t (by assumption)).symm | exact (strS_f (Nat.not_lt.mpr (by assumption))).symm)) (jL_c rfl (jL_c rfl (jL_c rfl rfl)))))) rfl ?_
  exact CUT44 (y - 0 + 1) 0 (Nat.lt_succ_self _) (by first | assumption | omega)

set_option maxHeartbeats 1000000 in
set_option maxRecDepth 100000 in
theorem ctX8_type_bad {E : jE} {h : Nat → va_E} {n : Nat} (x : Nat) (xa : Nat) (xb : Nat) (dt : Nat) (mo : Nat) (bn : Nat) (ta : Nat) (tl : Nat) (tk : Nat) (va : Nat) (RF : Nat → Nat) (H0 : h 38 = .inr (7, [.ref (E.1 + 39), .ref (E.1 + 40), .ref (E.1 + 41), .ref (E.1 + 42), .long (lN xa), .long (lN xb), .ref (E.1 + 43), .int (nI dt), .ref (E.1 + 44), .ref (E.1 + 45), .int (nI mo), .ref (E.1 + 46), .ref (E.1 + 47), .int (nI bn), .int (nI ta), .int (nI tl), .int (nI tk), .int (nI va), .ref (E.1 + 48), .ref (E.1 + 49)])) (H1 : h 42 = cI E 3 (nF RF)) (hn : 50 ≤ n) (h32x : x < 2 ^ 32) (hbad : ¬ x ≤ 127) : jC E mX8_type (2, 0, 0) [.ref (E.1 + 38), .int (nI x)] h n (jR (some (.int (-2))) (hset h 42 (cI E 3 (nF (updN RF 0 (RF 0 + 1))))) n) := by
  refine J.of (L := [(0, .ref (E.1 + 38)), (1, .int (nI x))]) rfl (by decide +kernel) (Nat.le_of_ble_eq_true rfl) ?_
  obtain ⟨PP, hPP⟩ : ∃ PP : jPost, PP = (jR (some (.int (-2))) (hset h 42 (cI E 3 (nF (updN RF 0 (RF 0 + 1))))) n) := ⟨_, rfl⟩
  rw [← hPP]
  refine J_iload_n dX8_type_0 rfl ?_
  refine J_i2l (v := (nI x).toInt64) dX8_type_1 rfl ?_
  refine J_lconst (v := lN 0) dX8_type_2 (by decide +kernel) ?_
  refine J_ldc2 dX8_type_3 jqRX8_192 ?_
  refine J.stk (st' := .long (lN 127) :: [.long (lN 0), .long (nI x).toInt64]) rfl ?_
  refine J_callSr (M' := mX8_in) (d' := (1, 0, 0)) (rest := []) dX8_type_6 jmX8_in jlRX8_56 (ctX8_in x 0 127   (by first | assumption | omega) (by first | assumption | omega) (by first | assumption | omega)) rfl rfl (Nat.le_of_ble_eq_true rfl) (Nat.le_of_ble_eq_true rfl) ⟨Nat.le_refl _, Nat.le_refl _⟩ ?_
  refine J_if_neB (tgt := 19) dX8_type_9 (by decide) (fun c1 => (by exfalso; omega)) (fun c1 => ?_)
  refine J_aload_n dX8_type_12 rfl ?_
  refine J_bipush (v := (-2)) dX8_type_13 (by decide +kernel) ?_
  refine J_callVr (M' := mX8_bad) (d' := (1, 0, 0)) (rest := []) dX8_type_15 jmX8_bad jlRX8_66 (ctX8_bad (-2) xa xb dt mo bn ta tl tk va RF H0 H1 (by omega) ) H0 (by omega) jk8.1 rfl rfl (Nat.le_of_ble_eq_true rfl) (Nat.le_of_ble_eq_true rfl) ⟨Nat.le_refl _, Nat.le_refl _⟩ ?_
  exact J_iret dX8_type_18 rfl ⟨Nat.le_refl _, Nat.le_refl _⟩ (by rw [hPP]; exact ⟨rfl, rfl, rfl⟩)

set_option maxHeartbeats 1000000 in
set_option maxRecDepth 100000 in
theorem ctX8_type_full {E : jE} {h : Nat → va_E} {n : Nat} (x : Nat) (xa : Nat) (xb : Nat) (dt : Nat) (mo : Nat) (bn : Nat) (ta : Nat) (tl : Nat) (tk : Nat) (va : Nat) (RF : Nat → Nat) (BY : Nat → Nat) (H0 : h 38 = .inr (7, [.ref (E.1 + 39), .ref (E.1 + 40), .ref (E.1 + 41), .ref (E.1 + 42), .long (lN xa), .long (lN xb), .ref (E.1 + 43), .int (nI dt), .ref (E.1 + 44), .ref (E.1 + 45), .int (nI mo), .ref (E.1 + 46), .ref (E.1 + 47), .int (nI bn), .int (nI ta), .int (nI tl), .int (nI tk), .int (nI va), .ref (E.1 + 48), .ref (E.1 + 49)])) (H1 : h 42 = cI E 3 (nF RF)) (H2 : h 47 = cI E 150 (nF BY)) (hn : 50 ≤ n) (hs : bn = 150) (hx : x ≤ 127) : jC E mX8_type (2, 0, 0) [.ref (E.1 + 38), .int (nI x)] h n (jR (some (.int (-4))) (hset h 42 (cI E 3 (nF (updN RF 2 (RF 2 + 1))))) n) := by
  refine J.of (L := [(0, .ref (E.1 + 38)), (1, .int (nI x))]) rfl (by decide +kernel) (Nat.le_of_ble_eq_true rfl) ?_
  obtain ⟨PP, hPP⟩ : ∃ PP : jPost, PP = (jR (some (.int (-4))) (hset h 42 (cI E 3 (nF (updN RF 2 (RF 2 + 1))))) n) := ⟨_, rfl⟩
  rw [← hPP]
  refine J_iload_n dX8_type_0 rfl ?_
  refine J_i2l (v := (nI x).toInt64) dX8_type_1 rfl ?_
  refine J_lconst (v := lN 0) dX8_type_2 (by decide +kernel) ?_
  refine J_ldc2 dX8_type_3 jqRX8_192 ?_
  refine J.stk (st' := .long (lN 127) :: [.long (lN 0), .long (nI x).toInt64]) rfl ?_
  refine J_callSr (M' := mX8_in) (d' := (1, 0, 0)) (rest := []) dX8_type_6 jmX8_in jlRX8_56 (ctX8_in x 0 127   (by first | assumption | omega) (by first | assumption | omega) (by first | assumption | omega)) rfl rfl (Nat.le_of_ble_eq_true rfl) (Nat.le_of_ble_eq_true rfl) ⟨Nat.le_refl _, Nat.le_refl _⟩ ?_
  refine J_if_neB (tgt := 19) dX8_type_9 (by decide) (fun c1 => ?_) (fun c1 => (by exfalso; omega))
  refine J_aload_n dX8_type_19 rfl ?_
  refine J_get 13 dX8_type_20 jk8 (Nat.le_of_ble_eq_true rfl) jfRX8_194 H0 (by omega) rfl ?_
  refine J_sipush (v := nI 150) dX8_type_23 (by decide +kernel) ?_
  refine J_icmp_neN (tgt := 34) dX8_type_26 (by decide) (by omega) (by omega) (fun c2 => (by exfalso; omega)) (fun c2 => ?_)
  refine J_aload_n dX8_type_29 rfl ?_
  refine J_callVr (M' := mX8_full) (d' := (1, 0, 0)) (rest := []) dX8_type_30 jmX8_full jlRX8_76 (ctX8_full xa xb dt mo bn ta tl tk va RF H0 H1 (by omega) ) H0 (by omega) jk8.1 rfl rfl (Nat.le_of_ble_eq_true rfl) (Nat.le_of_ble_eq_true rfl) ⟨Nat.le_refl _, Nat.le_refl _⟩ ?_
  exact J_iret dX8_type_33 rfl ⟨Nat.le_refl _, Nat.le_refl _⟩ (by rw [hPP]; exact ⟨rfl, rfl, rfl⟩)

set_option maxHeartbeats 1000000 in
set_option maxRecDepth 100000 in
theorem ctX8_type {E : jE} {h : Nat → va_E} {n : Nat} (x : Nat) (xa : Nat) (xb : Nat) (dt : Nat) (mo : Nat) (bn : Nat) (ta : Nat) (tl : Nat) (tk : Nat) (va : Nat) (RF : Nat → Nat) (BY : Nat → Nat) (H0 : h 38 = .inr (7, [.ref (E.1 + 39), .ref (E.1 + 40), .ref (E.1 + 41), .ref (E.1 + 42), .long (lN xa), .long (lN xb), .ref (E.1 + 43), .int (nI dt), .ref (E.1 + 44), .ref (E.1 + 45), .int (nI mo), .ref (E.1 + 46), .ref (E.1 + 47), .int (nI bn), .int (nI ta), .int (nI tl), .int (nI tk), .int (nI va), .ref (E.1 + 48), .ref (E.1 + 49)])) (H1 : h 42 = cI E 3 (nF RF)) (H2 : h 47 = cI E 150 (nF BY)) (hn : 50 ≤ n) (hs : bn < 150) (hx : x ≤ 127) : jC E mX8_type (2, 0, 0) [.ref (E.1 + 38), .int (nI x)] h n (jR (some (.int (nI (bn + 1)))) (hset (hset h 47 (cI E 150 (nF (updN BY bn x)))) 38 (.inr (7, [.ref (E.1 + 39), .ref (E.1 + 40), .ref (E.1 + 41), .ref (E.1 + 42), .long (lN xa), .long (lN xb), .ref (E.1 + 43), .int (nI dt), .ref (E.1 + 44), .ref (E.1 + 45), .int (nI mo), .ref (E.1 + 46), .ref (E.1 + 47), .int (nI (bn + 1)), .int (nI ta), .int (nI tl), .int (nI tk), .int (nI va), .ref (E.1 + 48), .ref (E.1 + 49)]))) n) := by
  refine J.of (L := [(0, .ref (E.1 + 38)), (1, .int (nI x))]) rfl (by decide +kernel) (Nat.le_of_ble_eq_true rfl) ?_
  obtain ⟨PP, hPP⟩ : ∃ PP : jPost, PP = (jR (some (.int (nI (bn + 1)))) (hset (hset h 47 (cI E 150 (nF (updN BY bn x)))) 38 (.inr (7, [.ref (E.1 + 39), .ref (E.1 + 40), .ref (E.1 + 41), .ref (E.1 + 42), .long (lN xa), .long (lN xb), .ref (E.1 + 43), .int (nI dt), .ref (E.1 + 44), .ref (E.1 + 45), .int (nI mo), .ref (E.1 + 46), .ref (E.1 + 47), .int (nI (bn + 1)), .int (nI ta), .int (nI tl), .int (nI tk), .int (nI va), .ref (E.1 + 48), .ref (E.1 + 49)]))) n) := ⟨_, rfl⟩
  rw [← hPP]
  refine J_iload_n dX8_type_0 rfl ?_
  refine J_i2l (v := (nI x).toInt64) dX8_type_1 rfl ?_
  refine J_lconst (v := lN 0) dX8_type_2 (by decide +kernel) ?_
  refine J_ldc2 dX8_type_3 jqRX8_192 ?_
  refine J.stk (st' := .long (lN 127) :: [.long (lN 0), .long (nI x).toInt64]) rfl ?_
  refine J_callSr (M' := mX8_in) (d' := (1, 0, 0)) (rest := []) dX8_type_6 jmX8_in jlRX8_56 (ctX8_in x 0 127   (by first | assumption | omega) (by first | assumption | omega) (by first | assumption | omega)) rfl rfl (Nat.le_of_ble_eq_true rfl) (Nat.le_of_ble_eq_true rfl) ⟨Nat.le_refl _, Nat.le_refl _⟩ ?_
  refine J_if_neB (tgt := 19) dX8_type_9 (by decide) (fun c1 => ?_) (fun c1 => (by exfalso; omega))
  refine J_aload_n dX8_type_19 rfl ?_
  refine J_get 13 dX8_type_20 jk8 (Nat.le_of_ble_eq_true rfl) jfRX8_194 H0 (by omega) rfl ?_
  refine J_sipush (v := nI 150) dX8_type_23 (by decide +kernel) ?_
  refine J_icmp_neN (tgt := 34) dX8_type_26 (by decide) (by omega) (by omega) (fun c2 => ?_) (fun c2 => (by exfalso; omega))
  refine J_aload_n dX8_type_34 rfl ?_
  refine J_get 12 dX8_type_35 jk8 (Nat.le_of_ble_eq_true rfl) jfRX8_39 H0 (by omega) rfl ?_
  refine J_aload_n dX8_type_38 rfl ?_
  refine J_get 13 dX8_type_39 jk8 (Nat.le_of_ble_eq_true rfl) jfRX8_194 H0 (by omega) rfl ?_
  refine J_iload_n dX8_type_42 rfl ?_
  refine J_iastN (i := bn) (v := x) dX8_type_43 H2 (by omega) (by omega) (by omega) ?_
  refine J_aload_n dX8_type_44 rfl ?_
  refine J_dup dX8_type_45 rfl ?_
  refine J_get 13 dX8_type_46 jk8 (Nat.le_of_ble_eq_true rfl) jfRX8_194 ((hset_ne (by omega)).trans H0) (by omega) rfl ?_
  refine J_iconst (v := nI 1) dX8_type_49 (by decide +kernel) ?_
  refine J_iaddN dX8_type_50 ?_
  refine J_put 13 dX8_type_51 jk8 (Nat.le_of_ble_eq_true rfl) jfRX8_194 ((hset_ne (by omega)).trans H0) (by omega) rfl rfl rfl (Nat.le_of_ble_eq_true rfl) ?_
  refine J.cast (h' := (hset (hset h 47 (cI E 150 (nF (updN BY bn x)))) 38 (.inr (7, [.ref (E.1 + 39), .ref (E.1 + 40), .ref (E.1 + 41), .ref (E.1 + 42), .long (lN xa), .long (lN xb), .ref (E.1 + 43), .int (nI dt), .ref (E.1 + 44), .ref (E.1 + 45), .int (nI mo), .ref (E.1 + 46), .ref (E.1 + 47), .int (nI (bn + 1)), .int (nI ta), .int (nI tl), .int (nI tk), .int (nI va), .ref (E.1 + 48), .ref (E.1 + 49)])))) rfl ?_
  refine J_aload_n dX8_type_54 rfl ?_
  refine J_get 13 dX8_type_55 jk8 (Nat.le_of_ble_eq_true rfl) jfRX8_194 hset_eq (by omega) rfl ?_
  exact J_iret dX8_type_58 rfl ⟨Nat.le_refl _, Nat.le_refl _⟩ (by rw [hPP]; exact ⟨rfl, rfl, rfl⟩)

set_option maxHeartbeats 1000000 in
set_option maxRecDepth 100000 in
theorem ctX8_clear {E : jE} {h : Nat → va_E} {n : Nat} (xa : Nat) (xb : Nat) (dt : Nat) (mo : Nat) (bn : Nat) (ta : Nat) (tl : Nat) (tk : Nat) (va : Nat) (H0 : h 38 = .inr (7, [.ref (E.1 + 39), .ref (E.1 + 40), .ref (E.1 + 41), .ref (E.1 + 42), .long (lN xa), .long (lN xb), .ref (E.1 + 43), .int (nI dt), .ref (E.1 + 44), .ref (E.1 + 45), .int (nI mo), .ref (E.1 + 46), .ref (E.1 + 47), .int (nI bn), .int (nI ta), .int (nI tl), .int (nI tk), .int (nI va), .ref (E.1 + 48), .ref (E.1 + 49)])) (hn : 50 ≤ n) : jC E mX8_clear (1, 0, 0) [.ref (E.1 + 38)] h n (jR (some (.int (nI bn))) (hset h 38 (.inr (7, [.ref (E.1 + 39), .ref (E.1 + 40), .ref (E.1 + 41), .ref (E.1 + 42), .long (lN xa), .long (lN xb), .ref (E.1 + 43), .int (nI dt), .ref (E.1 + 44), .ref (E.1 + 45), .int (nI mo), .ref (E.1 + 46), .ref (E.1 + 47), .int (nI 0), .int (nI ta), .int (nI tl), .int (nI tk), .int (nI va), .ref (E.1 + 48), .ref (E.1 + 49)]))) n) := by
  refine J.of (L := [(0, .ref (E.1 + 38))]) rfl (by decide +kernel) (Nat.le_of_ble_eq_true rfl) ?_
  obtain ⟨PP, hPP⟩ : ∃ PP : jPost, PP = (jR (some (.int (nI bn))) (hset h 38 (.inr (7, [.ref (E.1 + 39), .ref (E.1 + 40), .ref (E.1 + 41), .ref (E.1 + 42), .long (lN xa), .long (lN xb), .ref (E.1 + 43), .int (nI dt), .ref (E.1 + 44), .ref (E.1 + 45), .int (nI mo), .ref (E.1 + 46), .ref (E.1 + 47), .int (nI 0), .int (nI ta), .int (nI tl), .int (nI tk), .int (nI va), .ref (E.1 + 48), .ref (E.1 + 49)]))) n) := ⟨_, rfl⟩
  rw [← hPP]
  refine J_aload_n dX8_clear_0 rfl ?_
  refine J_get 13 dX8_clear_1 jk8 (Nat.le_of_ble_eq_true rfl) jfRX8_194 H0 (by omega) rfl ?_
  refine J_istore_n dX8_clear_4 (Nat.le_of_ble_eq_true rfl) (L' := [(1, .int (nI bn)), (0, .ref (E.1 + 38))]) rfl ?_
  refine J_aload_n dX8_clear_5 rfl ?_
  refine J_iconst (v := nI 0) dX8_clear_6 (by decide +kernel) ?_
  refine J_put 13 dX8_clear_7 jk8 (Nat.le_of_ble_eq_true rfl) jfRX8_194 H0 (by omega) rfl rfl rfl (Nat.le_of_ble_eq_true rfl) ?_
  refine J.cast (h' := (hset h 38 (.inr (7, [.ref (E.1 + 39), .ref (E.1 + 40), .ref (E.1 + 41), .ref (E.1 + 42), .long (lN xa), .long (lN xb), .ref (E.1 + 43), .int (nI dt), .ref (E.1 + 44), .ref (E.1 + 45), .int (nI mo), .ref (E.1 + 46), .ref (E.1 + 47), .int (nI 0), .int (nI ta), .int (nI tl), .int (nI tk), .int (nI va), .ref (E.1 + 48), .ref (E.1 + 49)])))) rfl ?_
  refine J_iload_n dX8_clear_10 rfl ?_
  exact J_iret dX8_clear_11 rfl ⟨Nat.le_refl _, Nat.le_refl _⟩ (by rw [hPP]; exact ⟨rfl, rfl, rfl⟩)

set_option maxHeartbeats 1000000 in
set_option maxRecDepth 100000 in
theorem ctX8_part_0 {E : jE} {h : Nat → va_E} {n : Nat} (xa : Nat) (xb : Nat) (dt : Nat) (mo : Nat) (bn : Nat) (ta : Nat) (tl : Nat) (tk : Nat) (va : Nat) (H0 : h 38 = .inr (7, [.ref (E.1 + 39), .ref (E.1 + 40), .ref (E.1 + 41), .ref (E.1 + 42), .long (lN xa), .long (lN xb), .ref (E.1 + 43), .int (nI dt), .ref (E.1 + 44), .ref (E.1 + 45), .int (nI mo), .ref (E.1 + 46), .ref (E.1 + 47), .int (nI bn), .int (nI ta), .int (nI tl), .int (nI tk), .int (nI va), .ref (E.1 + 48), .ref (E.1 + 49)])) (hn : 50 ≤ n) : jC E mX8_part (2, 0, 0) [.ref (E.1 + 38), .int (nI 0)] h n (jR (some (.long (lN xa))) h n) := by
  refine J.of (L := [(0, .ref (E.1 + 38)), (1, .int (nI 0))]) rfl (by decide +kernel) (Nat.le_of_ble_eq_true rfl) ?_
  obtain ⟨PP, hPP⟩ : ∃ PP : jPost, PP = (jR (some (.long (lN xa))) h n) := ⟨_, rfl⟩
  rw [← hPP]
  refine J_iload_n dX8_part_0 rfl ?_
  refine J_if_neN (tgt := 11) dX8_part_1 (by decide) (by omega) (fun z => absurd z (by decide)) (fun _ => ?_)
  refine J_aload_n dX8_part_4 rfl ?_
  refine J_get 4 dX8_part_5 jk8 (Nat.le_of_ble_eq_true rfl) jfRX8_169 H0 (by omega) rfl ?_
  refine J_goto (tgt := 30) dX8_part_8 (by decide) ?_
  exact J_lret dX8_part_30 rfl ⟨Nat.le_refl _, Nat.le_refl _⟩ (by rw [hPP]; exact ⟨rfl, rfl, rfl⟩)

set_option maxHeartbeats 1000000 in
set_option maxRecDepth 100000 in
theorem ctX8_part_1 {E : jE} {h : Nat → va_E} {n : Nat} (xa : Nat) (xb : Nat) (dt : Nat) (mo : Nat) (bn : Nat) (ta : Nat) (tl : Nat) (tk : Nat) (va : Nat) (H0 : h 38 = .inr (7, [.ref (E.1 + 39), .ref (E.1 + 40), .ref (E.1 + 41), .ref (E.1 + 42), .long (lN xa), .long (lN xb), .ref (E.1 + 43), .int (nI dt), .ref (E.1 + 44), .ref (E.1 + 45), .int (nI mo), .ref (E.1 + 46), .ref (E.1 + 47), .int (nI bn), .int (nI ta), .int (nI tl), .int (nI tk), .int (nI va), .ref (E.1 + 48), .ref (E.1 + 49)])) (hn : 50 ≤ n) : jC E mX8_part (2, 0, 0) [.ref (E.1 + 38), .int (nI 1)] h n (jR (some (.long (lN xb))) h n) := by
  refine J.of (L := [(0, .ref (E.1 + 38)), (1, .int (nI 1))]) rfl (by decide +kernel) (Nat.le_of_ble_eq_true rfl) ?_
  obtain ⟨PP, hPP⟩ : ∃ PP : jPost, PP = (jR (some (.long (lN xb))) h n) := ⟨_, rfl⟩
  rw [← hPP]
  refine J_iload_n dX8_part_0 rfl ?_
  refine J_if_neN (tgt := 11) dX8_part_1 (by decide) (by omega) (fun _ => ?_) (fun z => absurd z (by decide))
  refine J_iload_n dX8_part_11 rfl ?_
  refine J_iconst (v := nI 1) dX8_part_12 (by decide +kernel) ?_
  refine J_icmp_neN (tgt := 23) dX8_part_13 (by decide) (by omega) (by omega) (fun z => absurd z (by decide)) (fun _ => ?_)
  refine J_aload_n dX8_part_16 rfl ?_
  refine J_get 5 dX8_part_17 jk8 (Nat.le_of_ble_eq_true rfl) jfRX8_23 H0 (by omega) rfl ?_
  refine J_goto (tgt := 30) dX8_part_20 (by decide) ?_
  exact J_lret dX8_part_30 rfl ⟨Nat.le_refl _, Nat.le_refl _⟩ (by rw [hPP]; exact ⟨rfl, rfl, rfl⟩)

set_option maxHeartbeats 1000000 in
set_option maxRecDepth 100000 in
theorem ctX8_part_bad {E : jE} {h : Nat → va_E} {n : Nat} (x : Nat) (xa : Nat) (xb : Nat) (dt : Nat) (mo : Nat) (bn : Nat) (ta : Nat) (tl : Nat) (tk : Nat) (va : Nat) (RF : Nat → Nat) (H0 : h 38 = .inr (7, [.ref (E.1 + 39), .ref (E.1 + 40), .ref (E.1 + 41), .ref (E.1 + 42), .long (lN xa), .long (lN xb), .ref (E.1 + 43), .int (nI dt), .ref (E.1 + 44), .ref (E.1 + 45), .int (nI mo), .ref (E.1 + 46), .ref (E.1 + 47), .int (nI bn), .int (nI ta), .int (nI tl), .int (nI tk), .int (nI va), .ref (E.1 + 48), .ref (E.1 + 49)])) (H1 : h 42 = cI E 3 (nF RF)) (hn : 50 ≤ n) (h32x : x < 2 ^ 32) (hbad : ¬ x ≤ 1) : jC E mX8_part (2, 0, 0) [.ref (E.1 + 38), .int (nI x)] h n (jR (some (.long (Int32.toInt64 (-2)))) (hset h 42 (cI E 3 (nF (updN RF 0 (RF 0 + 1))))) n) := by
  refine J.of (L := [(0, .ref (E.1 + 38)), (1, .int (nI x))]) rfl (by decide +kernel) (Nat.le_of_ble_eq_true rfl) ?_
  obtain ⟨PP, hPP⟩ : ∃ PP : jPost, PP = (jR (some (.long (Int32.toInt64 (-2)))) (hset h 42 (cI E 3 (nF (updN RF 0 (RF 0 + 1))))) n) := ⟨_, rfl⟩
  rw [← hPP]
  refine J_iload_n dX8_part_0 rfl ?_
  refine J_if_neW (tgt := 11) dX8_part_1 (by decide) (by omega) (fun c1 => ?_) (fun c1 => (by exfalso; omega))
  refine J_iload_n dX8_part_11 rfl ?_
  refine J_iconst (v := nI 1) dX8_part_12 (by decide +kernel) ?_
  refine J_icmp_neW (tgt := 23) dX8_part_13 (by decide) (by omega) (by omega) (fun c2 => ?_) (fun c2 => (by exfalso; omega))
  refine J_aload_n dX8_part_23 rfl ?_
  refine J_bipush (v := (-2)) dX8_part_24 (by decide +kernel) ?_
  refine J_callVr (M' := mX8_bad) (d' := (1, 0, 0)) (rest := []) dX8_part_26 jmX8_bad jlRX8_66 (ctX8_bad (-2) xa xb dt mo bn ta tl tk va RF H0 H1 (by omega) ) H0 (by omega) jk8.1 rfl rfl (Nat.le_of_ble_eq_true rfl) (Nat.le_of_ble_eq_true rfl) ⟨Nat.le_refl _, Nat.le_refl _⟩ ?_
  refine J_i2l (v := Int32.toInt64 (-2)) dX8_part_29 rfl ?_
  exact J_lret dX8_part_30 rfl ⟨Nat.le_refl _, Nat.le_refl _⟩ (by rw [hPP]; exact ⟨rfl, rfl, rfl⟩)

set_option maxHeartbeats 1000000 in
set_option maxRecDepth 100000 in
theorem ctX8_image_bad {E : jE} {h : Nat → va_E} {n : Nat} (x : Nat) (xa : Nat) (xb : Nat) (dt : Nat) (mo : Nat) (bn : Nat) (ta : Nat) (tl : Nat) (tk : Nat) (va : Nat) (RF : Nat → Nat) (H0 : h 38 = .inr (7, [.ref (E.1 + 39), .ref (E.1 + 40), .ref (E.1 + 41), .ref (E.1 + 42), .long (lN xa), .long (lN xb), .ref (E.1 + 43), .int (nI dt), .ref (E.1 + 44), .ref (E.1 + 45), .int (nI mo), .ref (E.1 + 46), .ref (E.1 + 47), .int (nI bn), .int (nI ta), .int (nI tl), .int (nI tk), .int (nI va), .ref (E.1 + 48), .ref (E.1 + 49)])) (H1 : h 42 = cI E 3 (nF RF)) (hn : 50 ≤ n) (h32x : x < 2 ^ 32) (hbad : ¬ x ≤ 1) : jC E mX8_image (2, 0, 0) [.ref (E.1 + 38), .int (nI x)] h n (jR (some (.int (-2))) (hset h 42 (cI E 3 (nF (updN RF 0 (RF 0 + 1))))) n) := by
  refine J.of (L := [(0, .ref (E.1 + 38)), (1, .int (nI x))]) rfl (by decide +kernel) (Nat.le_of_ble_eq_true rfl) ?_
  obtain ⟨PP, hPP⟩ : ∃ PP : jPost, PP = (jR (some (.int (-2))) (hset h 42 (cI E 3 (nF (updN RF 0 (RF 0 + 1))))) n) := ⟨_, rfl⟩
  rw [← hPP]
  refine J_iload_n dX8_image_0 rfl ?_
  refine J_i2l (v := (nI x).toInt64) dX8_image_1 rfl ?_
  refine J_lconst (v := lN 0) dX8_image_2 (by decide +kernel) ?_
  refine J_lconst (v := lN 1) dX8_image_3 (by decide +kernel) ?_
  refine J_callSr (M' := mX8_in) (d' := (1, 0, 0)) (rest := []) dX8_image_4 jmX8_in jlRX8_56 (ctX8_in x 0 1   (by first | assumption | omega) (by first | assumption | omega) (by first | assumption | omega)) rfl rfl (Nat.le_of_ble_eq_true rfl) (Nat.le_of_ble_eq_true rfl) ⟨Nat.le_refl _, Nat.le_refl _⟩ ?_
  refine J_if_neB (tgt := 17) dX8_image_7 (by decide) (fun c1 => (by exfalso; omega)) (fun c1 => ?_)
  refine J_aload_n dX8_image_10 rfl ?_
  refine J_bipush (v := (-2)) dX8_image_11 (by decide +kernel) ?_
  refine J_callVr (M' := mX8_bad) (d' := (1, 0, 0)) (rest := []) dX8_image_13 jmX8_bad jlRX8_66 (ctX8_bad (-2) xa xb dt mo bn ta tl tk va RF H0 H1 (by omega) ) H0 (by omega) jk8.1 rfl rfl (Nat.le_of_ble_eq_true rfl) (Nat.le_of_ble_eq_true rfl) ⟨Nat.le_refl _, Nat.le_refl _⟩ ?_
  exact J_iret dX8_image_16 rfl ⟨Nat.le_refl _, Nat.le_refl _⟩ (by rw [hPP]; exact ⟨rfl, rfl, rfl⟩)

set_option maxHeartbeats 1000000 in
set_option maxRecDepth 100000 in
theorem ctX8_from_bad {E : jE} {h : Nat → va_E} {n : Nat} (x : Nat) (xa : Nat) (xb : Nat) (dt : Nat) (mo : Nat) (bn : Nat) (ta : Nat) (tl : Nat) (tk : Nat) (va : Nat) (RF : Nat → Nat) (H0 : h 38 = .inr (7, [.ref (E.1 + 39), .ref (E.1 + 40), .ref (E.1 + 41), .ref (E.1 + 42), .long (lN xa), .long (lN xb), .ref (E.1 + 43), .int (nI dt), .ref (E.1 + 44), .ref (E.1 + 45), .int (nI mo), .ref (E.1 + 46), .ref (E.1 + 47), .int (nI bn), .int (nI ta), .int (nI tl), .int (nI tk), .int (nI va), .ref (E.1 + 48), .ref (E.1 + 49)])) (H1 : h 42 = cI E 3 (nF RF)) (hn : 50 ≤ n) (h32x : x < 2 ^ 32) (hbad : ¬ x ≤ 1) : jC E mX8_from (2, 0, 0) [.ref (E.1 + 38), .int (nI x)] h n (jR (some (.int (-2))) (hset h 42 (cI E 3 (nF (updN RF 0 (RF 0 + 1))))) n) := by
  refine J.of (L := [(0, .ref (E.1 + 38)), (1, .int (nI x))]) rfl (by decide +kernel) (Nat.le_of_ble_eq_true rfl) ?_
  obtain ⟨PP, hPP⟩ : ∃ PP : jPost, PP = (jR (some (.int (-2))) (hset h 42 (cI E 3 (nF (updN RF 0 (RF 0 + 1))))) n) := ⟨_, rfl⟩
  rw [← hPP]
  refine J_iload_n dX8_from_0 rfl ?_
  refine J_i2l (v := (nI x).toInt64) dX8_from_1 rfl ?_
  refine J_lconst (v := lN 0) dX8_from_2 (by decide +kernel) ?_
  refine J_lconst (v := lN 1) dX8_from_3 (by decide +kernel) ?_
  refine J_callSr (M' := mX8_in) (d' := (1, 0, 0)) (rest := []) dX8_from_4 jmX8_in jlRX8_56 (ctX8_in x 0 1   (by first | assumption | omega) (by first | assumption | omega) (by first | assumption | omega)) rfl rfl (Nat.le_of_ble_eq_true rfl) (Nat.le_of_ble_eq_true rfl) ⟨Nat.le_refl _, Nat.le_refl _⟩ ?_
  refine J_if_neB (tgt := 17) dX8_from_7 (by decide) (fun c1 => (by exfalso; omega)) (fun c1 => ?_)
  refine J_aload_n dX8_from_10 rfl ?_
  refine J_bipush (v := (-2)) dX8_from_11 (by decide +kernel) ?_
  refine J_callVr (M' := mX8_bad) (d' := (1, 0, 0)) (rest := []) dX8_from_13 jmX8_bad jlRX8_66 (ctX8_bad (-2) xa xb dt mo bn ta tl tk va RF H0 H1 (by omega) ) H0 (by omega) jk8.1 rfl rfl (Nat.le_of_ble_eq_true rfl) (Nat.le_of_ble_eq_true rfl) ⟨Nat.le_refl _, Nat.le_refl _⟩ ?_
  exact J_iret dX8_from_16 rfl ⟨Nat.le_refl _, Nat.le_refl _⟩ (by rw [hPP]; exact ⟨rfl, rfl, rfl⟩)

set_option maxHeartbeats 1000000 in
set_option maxRecDepth 100000 in
theorem ctX8_image_0 {E : jE} {h : Nat → va_E} {n : Nat} (xa : Nat) (xb : Nat) (dt : Nat) (mo : Nat) (bn : Nat) (ta : Nat) (tl : Nat) (tk : Nat) (va : Nat) (Q : Nat → Nat) (KP : Nat → Nat) (IK : Nat → Nat) (H0 : h 38 = .inr (7, [.ref (E.1 + 39), .ref (E.1 + 40), .ref (E.1 + 41), .ref (E.1 + 42), .long (lN xa), .long (lN xb), .ref (E.1 + 43), .int (nI dt), .ref (E.1 + 44), .ref (E.1 + 45), .int (nI mo), .ref (E.1 + 46), .ref (E.1 + 47), .int (nI bn), .int (nI ta), .int (nI tl), .int (nI tk), .int (nI va), .ref (E.1 + 48), .ref (E.1 + 49)])) (H1 : h 39 = cI E 218 (nF Q)) (H2 : h 40 = cI E 436 (nF KP)) (H3 : h 41 = cZ E 2 (nF IK)) (hn : 50 ≤ n) : jC E mX8_image (2, 0, 0) [.ref (E.1 + 38), .int (nI 0)] h n (jR (some (.int (nI 1))) (hset (hset h 40 (cI E 436 (nF (imgK KP Q 0 218)))) 41 (cZ E 2 (nF (updN IK 0 1)))) n) := by
  refine J.of (L := [(0, .ref (E.1 + 38)), (1, .int (nI 0))]) rfl (by decide +kernel) (Nat.le_of_ble_eq_true rfl) ?_
  obtain ⟨PP, hPP⟩ : ∃ PP : jPost, PP = (jR (some (.int (nI 1))) (hset (hset h 40 (cI E 436 (nF (imgK KP Q 0 218)))) 41 (cZ E 2 (nF (updN IK 0 1)))) n) := ⟨_, rfl⟩
  rw [← hPP]
  refine J_iload_n dX8_image_0 rfl ?_
  refine J_i2lN dX8_image_1 (by omega) ?_
  refine J_lconst (v := lN 0) dX8_image_2 (by decide +kernel) ?_
  refine J_lconst (v := lN 1) dX8_image_3 (by decide +kernel) ?_
  refine J_callSr (M' := mX8_in) (d' := (1, 0, 0)) (rest := []) dX8_image_4 jmX8_in jlRX8_56 (ctX8_inM 0 0 1   (by first | assumption | omega) (by first | assumption | omega) (by first | assumption | omega)) rfl rfl (Nat.le_of_ble_eq_true rfl) (Nat.le_of_ble_eq_true rfl) ⟨Nat.le_refl _, Nat.le_refl _⟩ ?_
  refine J_if_neB (tgt := 17) dX8_image_7 (by decide) (fun c1 => ?_) (fun c1 => (by exfalso; omega))
  refine J_iconst (v := nI 0) dX8_image_17 (by decide +kernel) ?_
  refine J_istore_n dX8_image_18 (Nat.le_of_ble_eq_true rfl) (L' := [(2, .int (nI 0)), (0, .ref (E.1 + 38)), (1, .int (nI 0))]) rfl ?_
  have CUT19 : ∀ (f19 : Nat) (i : Nat) (hm19 : 218 - i < f19) (hi : i ≤ 218), J E mX8_image (2, 0, 0) jS0 PP (hset h 40 (cI E 436 (nF (imgK KP Q 0 i)))) n (0, 0) 19 [(2, .int (nI i)), (0, .ref (E.1 + 38)), (1, .int (nI 0))] [] := by
    intro f19
    induction f19 with
    | zero => intro i hm19; exact absurd hm19 (Nat.not_lt_zero _)
    | succ f19 ih19 =>
      intro i hm19 hi
      refine J_iload_n dX8_image_19 rfl ?_
      refine J_sipush (v := nI 218) dX8_image_20 (by decide +kernel) ?_
      refine J_icmp_geN (tgt := 50) dX8_image_23 (by decide) (by omega) (by omega) (fun c2 => ?_) (fun c2 => ?_)
      · skip
        have i218 : i = 218 := by omega
        subst i218
        refine J_aload_n dX8_image_50 rfl ?_
        refine J_get 2 dX8_image_51 jk8 (Nat.le_of_ble_eq_true rfl) jfRX8_16 ((hset_ne (by omega)).trans H0) (by omega) rfl ?_
        refine J_iload_n dX8_image_54 rfl ?_
        refine J_iconst (v := nI 1) dX8_image_55 (by decide +kernel) ?_
        refine J_zastN (i := 0) (v := 1) dX8_image_56 ((hset_ne (by omega)).trans H3) (by omega) (by omega) (by omega) (by decide +kernel) ?_
        refine J_iconst (v := nI 1) dX8_image_57 (by decide +kernel) ?_
        exact J_iret dX8_image_58 rfl ⟨Nat.le_refl _, Nat.le_refl _⟩ (by rw [hPP]; exact ⟨rfl, (hset_cg (hset_cg rfl (cI_cg (by intro z; omega))) rfl), rfl⟩)
      · skip
        refine J_aload_n dX8_image_26 rfl ?_
        refine J_get 1 dX8_image_27 jk8 (Nat.le_of_ble_eq_true rfl) jfRX8_13 ((hset_ne (by omega)).trans H0) (by omega) rfl ?_
        refine J_sipush (v := nI 218) dX8_image_30 (by decide +kernel) ?_
        refine J_iload_n dX8_image_33 rfl ?_
        refine J_imulN dX8_image_34 ?_
        refine J.stk (st' := [.int (nI 0), .ref (E.1 + 40)]) rfl ?_
        refine J_iload_n dX8_image_35 rfl ?_
        refine J_iaddN dX8_image_36 ?_
        refine J_aload_n dX8_image_37 rfl ?_
        refine J_get 0 dX8_image_38 jk8 (Nat.le_of_ble_eq_true rfl) jfRX8_7 ((hset_ne (by omega)).trans H0) (by omega) rfl ?_
        refine J_iload_n dX8_image_41 rfl ?_
        refine J_ialdN (i := i) dX8_image_42 ((hset_ne (by omega)).trans H1) (by omega) (by omega) (by omega) ?_
        refine J_iastN (i := 0 + i) (v := Q i) dX8_image_43 hset_eq (by omega) (by omega) (by omega) ?_
        refine J.cast hset_hset ?_
        refine J_iincN (q := 0) (a := i) (m := 1) dX8_image_44 rfl (by decide +kernel) (Nat.le_of_ble_eq_true rfl) (L' := [(2, .int (nI (i + 1))), (0, .ref (E.1 + 38)), (1, .int (nI 0))]) rfl ?_
        refine J_goto (tgt := 19) dX8_image_47 (by decide) ?_
        refine J.eqs (h' := (hset h 40 (cI E 436 (nF (imgK KP Q 0 (i + 1)))))) (L' := [(2, .int (nI (i + 1))), (0, .ref (E.1 + 38)), (1, .int (nI 0))]) (st' := []) (hset_cg rfl (cI_cg (by intro z; first | exact imgK_0 z | exact imgK_s z))) rfl rfl ?_
        exact ih19 (i + 1) (by omega) (by first | assumption | omega)
  refine J.eqs (h' := (hset h 40 (cI E 436 (nF (imgK KP Q 0 0))))) (L' := [(2, .int (nI 0)), (0, .ref (E.1 + 38)), (1, .int (nI 0))]) (st' := []) ((show h = (hset h 40 (cI E 436 (nF KP))) by funext z; simp only [hset]; (repeat' split) <;> first | rfl | (exfalso; omega) | (subst_vars; first | exact H2)).trans (hset_cg rfl (cI_cg (by intro z; first | exact imgK_0 z | exact imgK_s z)))) rfl rfl ?_
  exact CUT19 (218 - 0 + 1) 0 (Nat.lt_succ_self _) (by first | assumption | omega)

set_option maxHeartbeats 1000000 in
set_option maxRecDepth 100000 in
theorem ctX8_from_0_no {E : jE} {h : Nat → va_E} {n : Nat} (xa : Nat) (xb : Nat) (dt : Nat) (mo : Nat) (bn : Nat) (ta : Nat) (tl : Nat) (tk : Nat) (va : Nat) (RF : Nat → Nat) (IK : Nat → Nat) (H0 : h 38 = .inr (7, [.ref (E.1 + 39), .ref (E.1 + 40), .ref (E.1 + 41), .ref (E.1 + 42), .long (lN xa), .long (lN xb), .ref (E.1 + 43), .int (nI dt), .ref (E.1 + 44), .ref (E.1 + 45), .int (nI mo), .ref (E.1 + 46), .ref (E.1 + 47), .int (nI bn), .int (nI ta), .int (nI tl), .int (nI tk), .int (nI va), .ref (E.1 + 48), .ref (E.1 + 49)])) (H1 : h 42 = cI E 3 (nF RF)) (H2 : h 41 = cZ E 2 (nF IK)) (hn : 50 ≤ n) (hik : IK 0 = 0) : jC E mX8_from (2, 0, 0) [.ref (E.1 + 38), .int (nI 0)] h n (jR (some (.int (-3))) (hset h 42 (cI E 3 (nF (updN RF 1 (RF 1 + 1))))) n) := by
  refine J.of (L := [(0, .ref (E.1 + 38)), (1, .int (nI 0))]) rfl (by decide +kernel) (Nat.le_of_ble_eq_true rfl) ?_
  obtain ⟨PP, hPP⟩ : ∃ PP : jPost, PP = (jR (some (.int (-3))) (hset h 42 (cI E 3 (nF (updN RF 1 (RF 1 + 1))))) n) := ⟨_, rfl⟩
  rw [← hPP]
  refine J_iload_n dX8_from_0 rfl ?_
  refine J_i2lN dX8_from_1 (by omega) ?_
  refine J_lconst (v := lN 0) dX8_from_2 (by decide +kernel) ?_
  refine J_lconst (v := lN 1) dX8_from_3 (by decide +kernel) ?_
  refine J_callSr (M' := mX8_in) (d' := (1, 0, 0)) (rest := []) dX8_from_4 jmX8_in jlRX8_56 (ctX8_inM 0 0 1   (by first | assumption | omega) (by first | assumption | omega) (by first | assumption | omega)) rfl rfl (Nat.le_of_ble_eq_true rfl) (Nat.le_of_ble_eq_true rfl) ⟨Nat.le_refl _, Nat.le_refl _⟩ ?_
  refine J_if_neB (tgt := 17) dX8_from_7 (by decide) (fun c1 => ?_) (fun c1 => (by exfalso; omega))
  refine J_aload_n dX8_from_17 rfl ?_
  refine J_get 2 dX8_from_18 jk8 (Nat.le_of_ble_eq_true rfl) jfRX8_16 H0 (by omega) rfl ?_
  refine J_iload_n dX8_from_21 rfl ?_
  refine J_zaldN (i := 0) dX8_from_22 H2 (by omega) (by omega) (by omega) ?_
  refine J_if_neN (tgt := 31) dX8_from_23 (by decide) (by omega) (fun c2 => (by exfalso; omega)) (fun c2 => ?_)
  refine J_aload_n dX8_from_26 rfl ?_
  refine J_callVr (M' := mX8_no) (d' := (1, 0, 0)) (rest := []) dX8_from_27 jmX8_no jlRX8_130 (ctX8_no xa xb dt mo bn ta tl tk va RF H0 H1 (by omega) ) H0 (by omega) jk8.1 rfl rfl (Nat.le_of_ble_eq_true rfl) (Nat.le_of_ble_eq_true rfl) ⟨Nat.le_refl _, Nat.le_refl _⟩ ?_
  exact J_iret dX8_from_30 rfl ⟨Nat.le_refl _, Nat.le_refl _⟩ (by rw [hPP]; exact ⟨rfl, rfl, rfl⟩)

set_option maxHeartbeats 1000000 in
set_option maxRecDepth 100000 in
theorem ctX8_from_0 {E : jE} {h : Nat → va_E} {n : Nat} (xa : Nat) (xb : Nat) (dt : Nat) (mo : Nat) (bn : Nat) (ta : Nat) (tl : Nat) (tk : Nat) (va : Nat) (Q : Nat → Nat) (KP : Nat → Nat) (IK : Nat → Nat) (H0 : h 38 = .inr (7, [.ref (E.1 + 39), .ref (E.1 + 40), .ref (E.1 + 41), .ref (E.1 + 42), .long (lN xa), .long (lN xb), .ref (E.1 + 43), .int (nI dt), .ref (E.1 + 44), .ref (E.1 + 45), .int (nI mo), .ref (E.1 + 46), .ref (E.1 + 47), .int (nI bn), .int (nI ta), .int (nI tl), .int (nI tk), .int (nI va), .ref (E.1 + 48), .ref (E.1 + 49)])) (H1 : h 39 = cI E 218 (nF Q)) (H2 : h 40 = cI E 436 (nF KP)) (H3 : h 41 = cZ E 2 (nF IK)) (hn : 50 ≤ n) (hik : IK 0 = 1) : jC E mX8_from (2, 0, 0) [.ref (E.1 + 38), .int (nI 0)] h n (jR (some (.int (nI 1))) (hset h 39 (cI E 218 (nF (frQ KP Q 0 218)))) n) := by
  refine J.of (L := [(0, .ref (E.1 + 38)), (1, .int (nI 0))]) rfl (by decide +kernel) (Nat.le_of_ble_eq_true rfl) ?_
  obtain ⟨PP, hPP⟩ : ∃ PP : jPost, PP = (jR (some (.int (nI 1))) (hset h 39 (cI E 218 (nF (frQ KP Q 0 218)))) n) := ⟨_, rfl⟩
  rw [← hPP]
  refine J_iload_n dX8_from_0 rfl ?_
  refine J_i2lN dX8_from_1 (by omega) ?_
  refine J_lconst (v := lN 0) dX8_from_2 (by decide +kernel) ?_
  refine J_lconst (v := lN 1) dX8_from_3 (by decide +kernel) ?_
  refine J_callSr (M' := mX8_in) (d' := (1, 0, 0)) (rest := []) dX8_from_4 jmX8_in jlRX8_56 (ctX8_inM 0 0 1   (by first | assumption | omega) (by first | assumption | omega) (by first | assumption | omega)) rfl rfl (Nat.le_of_ble_eq_true rfl) (Nat.le_of_ble_eq_true rfl) ⟨Nat.le_refl _, Nat.le_refl _⟩ ?_
  refine J_if_neB (tgt := 17) dX8_from_7 (by decide) (fun c1 => ?_) (fun c1 => (by exfalso; omega))
  refine J_aload_n dX8_from_17 rfl ?_
  refine J_get 2 dX8_from_18 jk8 (Nat.le_of_ble_eq_true rfl) jfRX8_16 H0 (by omega) rfl ?_
  refine J_iload_n dX8_from_21 rfl ?_
  refine J_zaldN (i := 0) dX8_from_22 H3 (by omega) (by omega) (by omega) ?_
  refine J_if_neN (tgt := 31) dX8_from_23 (by decide) (by omega) (fun c2 => ?_) (fun c2 => (by exfalso; omega))
  refine J_iconst (v := nI 0) dX8_from_31 (by decide +kernel) ?_
  refine J_istore_n dX8_from_32 (Nat.le_of_ble_eq_true rfl) (L' := [(2, .int (nI 0)), (0, .ref (E.1 + 38)), (1, .int (nI 0))]) rfl ?_
  have CUT33 : ∀ (f33 : Nat) (i : Nat) (hm33 : 218 - i < f33) (hi : i ≤ 218), J E mX8_from (2, 0, 0) jS0 PP (hset h 39 (cI E 218 (nF (frQ KP Q 0 i)))) n (0, 0) 33 [(2, .int (nI i)), (0, .ref (E.1 + 38)), (1, .int (nI 0))] [] := by
    intro f33
    induction f33 with
    | zero => intro i hm33; exact absurd hm33 (Nat.not_lt_zero _)
    | succ f33 ih33 =>
      intro i hm33 hi
      refine J_iload_n dX8_from_33 rfl ?_
      refine J_sipush (v := nI 218) dX8_from_34 (by decide +kernel) ?_
      refine J_icmp_geN (tgt := 64) dX8_from_37 (by decide) (by omega) (by omega) (fun c3 => ?_) (fun c3 => ?_)
      · skip
        have i218 : i = 218 := by omega
        subst i218
        refine J_iconst (v := nI 1) dX8_from_64 (by decide +kernel) ?_
        exact J_iret dX8_from_65 rfl ⟨Nat.le_refl _, Nat.le_refl _⟩ (by rw [hPP]; exact ⟨rfl, (hset_cg rfl (cI_cg (by intro z; omega))), rfl⟩)
      · skip
        refine J_aload_n dX8_from_40 rfl ?_
        refine J_get 0 dX8_from_41 jk8 (Nat.le_of_ble_eq_true rfl) jfRX8_7 ((hset_ne (by omega)).trans H0) (by omega) rfl ?_
        refine J_iload_n dX8_from_44 rfl ?_
        refine J_aload_n dX8_from_45 rfl ?_
        refine J_get 1 dX8_from_46 jk8 (Nat.le_of_ble_eq_true rfl) jfRX8_13 ((hset_ne (by omega)).trans H0) (by omega) rfl ?_
        refine J_sipush (v := nI 218) dX8_from_49 (by decide +kernel) ?_
        refine J_iload_n dX8_from_52 rfl ?_
        refine J_imulN dX8_from_53 ?_
        refine J.stk (st' := [.int (nI 0), .ref (E.1 + 40), .int (nI i), .ref (E.1 + 39)]) rfl ?_
        refine J_iload_n dX8_from_54 rfl ?_
        refine J_iaddN dX8_from_55 ?_
        refine J_ialdN (i := 0 + i) dX8_from_56 ((hset_ne (by omega)).trans H2) (by omega) (by omega) (by omega) ?_
        refine J_iastN (i := i) (v := KP (0 + i)) dX8_from_57 hset_eq (by omega) (by omega) (by omega) ?_
        refine J.cast hset_hset ?_
        refine J_iincN (q := 0) (a := i) (m := 1) dX8_from_58 rfl (by decide +kernel) (Nat.le_of_ble_eq_true rfl) (L' := [(2, .int (nI (i + 1))), (0, .ref (E.1 + 38)), (1, .int (nI 0))]) rfl ?_
        refine J_goto (tgt := 33) dX8_from_61 (by decide) ?_
        refine J.eqs (h' := (hset h 39 (cI E 218 (nF (frQ KP Q 0 (i + 1)))))) (L' := [(2, .int (nI (i + 1))), (0, .ref (E.1 + 38)), (1, .int (nI 0))]) (st' := []) (hset_cg rfl (cI_cg (by intro z; first | exact frQ_0 z | exact frQ_s z))) rfl rfl ?_
        exact ih33 (i + 1) (by omega) (by first | assumption | omega)
  refine J.eqs (h' := (hset h 39 (cI E 218 (nF (frQ KP Q 0 0))))) (L' := [(2, .int (nI 0)), (0, .ref (E.1 + 38)), (1, .int (nI 0))]) (st' := []) ((show h = (hset h 39 (cI E 218 (nF Q))) by funext z; simp only [hset]; (repeat' split) <;> first | rfl | (exfalso; omega) | (subst_vars; first | exact H1)).trans (hset_cg rfl (cI_cg (by intro z; first | exact frQ_0 z | exact frQ_s z)))) rfl rfl ?_
  exact CUT33 (218 - 0 + 1) 0 (Nat.lt_succ_self _) (by first | assumption | omega)

set_option maxHeartbeats 1000000 in
set_option maxRecDepth 100000 in
theorem ctX8_image_1 {E : jE} {h : Nat → va_E} {n : Nat} (xa : Nat) (xb : Nat) (dt : Nat) (mo : Nat) (bn : Nat) (ta : Nat) (tl : Nat) (tk : Nat) (va : Nat) (Q : Nat → Nat) (KP : Nat → Nat) (IK : Nat → Nat) (H0 : h 38 = .inr (7, [.ref (E.1 + 39), .ref (E.1 + 40), .ref (E.1 + 41), .ref (E.1 + 42), .long (lN xa), .long (lN xb), .ref (E.1 + 43), .int (nI dt), .ref (E.1 + 44), .ref (E.1 + 45), .int (nI mo), .ref (E.1 + 46), .ref (E.1 + 47), .int (nI bn), .int (nI ta), .int (nI tl), .int (nI tk), .int (nI va), .ref (E.1 + 48), .ref (E.1 + 49)])) (H1 : h 39 = cI E 218 (nF Q)) (H2 : h 40 = cI E 436 (nF KP)) (H3 : h 41 = cZ E 2 (nF IK)) (hn : 50 ≤ n) : jC E mX8_image (2, 0, 0) [.ref (E.1 + 38), .int (nI 1)] h n (jR (some (.int (nI 1))) (hset (hset h 40 (cI E 436 (nF (imgK KP Q 218 218)))) 41 (cZ E 2 (nF (updN IK 1 1)))) n) := by
  refine J.of (L := [(0, .ref (E.1 + 38)), (1, .int (nI 1))]) rfl (by decide +kernel) (Nat.le_of_ble_eq_true rfl) ?_
  obtain ⟨PP, hPP⟩ : ∃ PP : jPost, PP = (jR (some (.int (nI 1))) (hset (hset h 40 (cI E 436 (nF (imgK KP Q 218 218)))) 41 (cZ E 2 (nF (updN IK 1 1)))) n) := ⟨_, rfl⟩
  rw [← hPP]
  refine J_iload_n dX8_image_0 rfl ?_
  refine J_i2lN dX8_image_1 (by omega) ?_
  refine J_lconst (v := lN 0) dX8_image_2 (by decide +kernel) ?_
  refine J_lconst (v := lN 1) dX8_image_3 (by decide +kernel) ?_
  refine J_callSr (M' := mX8_in) (d' := (1, 0, 0)) (rest := []) dX8_image_4 jmX8_in jlRX8_56 (ctX8_inM 1 0 1   (by first | assumption | omega) (by first | assumption | omega) (by first | assumption | omega)) rfl rfl (Nat.le_of_ble_eq_true rfl) (Nat.le_of_ble_eq_true rfl) ⟨Nat.le_refl _, Nat.le_refl _⟩ ?_
  refine J_if_neB (tgt := 17) dX8_image_7 (by decide) (fun c1 => ?_) (fun c1 => (by exfalso; omega))
  refine J_iconst (v := nI 0) dX8_image_17 (by decide +kernel) ?_
  refine J_istore_n dX8_image_18 (Nat.le_of_ble_eq_true rfl) (L' := [(2, .int (nI 0)), (0, .ref (E.1 + 38)), (1, .int (nI 1))]) rfl ?_
  have CUT19 : ∀ (f19 : Nat) (i : Nat) (hm19 : 218 - i < f19) (hi : i ≤ 218), J E mX8_image (2, 0, 0) jS0 PP (hset h 40 (cI E 436 (nF (imgK KP Q 218 i)))) n (0, 0) 19 [(2, .int (nI i)), (0, .ref (E.1 + 38)), (1, .int (nI 1))] [] := by
    intro f19
    induction f19 with
    | zero => intro i hm19; exact absurd hm19 (Nat.not_lt_zero _)
    | succ f19 ih19 =>
      intro i hm19 hi
      refine J_iload_n dX8_image_19 rfl ?_
      refine J_sipush (v := nI 218) dX8_image_20 (by decide +kernel) ?_
      refine J_icmp_geN (tgt := 50) dX8_image_23 (by decide) (by omega) (by omega) (fun c2 => ?_) (fun c2 => ?_)
      · skip
        have i218 : i = 218 := by omega
        subst i218
        refine J_aload_n dX8_image_50 rfl ?_
        refine J_get 2 dX8_image_51 jk8 (Nat.le_of_ble_eq_true rfl) jfRX8_16 ((hset_ne (by omega)).trans H0) (by omega) rfl ?_
        refine J_iload_n dX8_image_54 rfl ?_
        refine J_iconst (v := nI 1) dX8_image_55 (by decide +kernel) ?_
        refine J_zastN (i := 1) (v := 1) dX8_image_56 ((hset_ne (by omega)).trans H3) (by omega) (by omega) (by omega) (by decide +kernel) ?_
        refine J_iconst (v := nI 1) dX8_image_57 (by decide +kernel) ?_
        exact J_iret dX8_image_58 rfl ⟨Nat.le_refl _, Nat.le_refl _⟩ (by rw [hPP]; exact ⟨rfl, (hset_cg (hset_cg rfl (cI_cg (by intro z; omega))) rfl), rfl⟩)
      · skip
        refine J_aload_n dX8_image_26 rfl ?_
        refine J_get 1 dX8_image_27 jk8 (Nat.le_of_ble_eq_true rfl) jfRX8_13 ((hset_ne (by omega)).trans H0) (by omega) rfl ?_
        refine J_sipush (v := nI 218) dX8_image_30 (by decide +kernel) ?_
        refine J_iload_n dX8_image_33 rfl ?_
        refine J_imulN dX8_image_34 ?_
        refine J.stk (st' := [.int (nI 218), .ref (E.1 + 40)]) rfl ?_
        refine J_iload_n dX8_image_35 rfl ?_
        refine J_iaddN dX8_image_36 ?_
        refine J_aload_n dX8_image_37 rfl ?_
        refine J_get 0 dX8_image_38 jk8 (Nat.le_of_ble_eq_true rfl) jfRX8_7 ((hset_ne (by omega)).trans H0) (by omega) rfl ?_
        refine J_iload_n dX8_image_41 rfl ?_
        refine J_ialdN (i := i) dX8_image_42 ((hset_ne (by omega)).trans H1) (by omega) (by omega) (by omega) ?_
        refine J_iastN (i := 218 + i) (v := Q i) dX8_image_43 hset_eq (by omega) (by omega) (by omega) ?_
        refine J.cast hset_hset ?_
        refine J_iincN (q := 0) (a := i) (m := 1) dX8_image_44 rfl (by decide +kernel) (Nat.le_of_ble_eq_true rfl) (L' := [(2, .int (nI (i + 1))), (0, .ref (E.1 + 38)), (1, .int (nI 1))]) rfl ?_
        refine J_goto (tgt := 19) dX8_image_47 (by decide) ?_
        refine J.eqs (h' := (hset h 40 (cI E 436 (nF (imgK KP Q 218 (i + 1)))))) (L' := [(2, .int (nI (i + 1))), (0, .ref (E.1 + 38)), (1, .int (nI 1))]) (st' := []) (hset_cg rfl (cI_cg (by intro z; first | exact imgK_0 z | exact imgK_s z))) rfl rfl ?_
        exact ih19 (i + 1) (by omega) (by first | assumption | omega)
  refine J.eqs (h' := (hset h 40 (cI E 436 (nF (imgK KP Q 218 0))))) (L' := [(2, .int (nI 0)), (0, .ref (E.1 + 38)), (1, .int (nI 1))]) (st' := []) ((show h = (hset h 40 (cI E 436 (nF KP))) by funext z; simp only [hset]; (repeat' split) <;> first | rfl | (exfalso; omega) | (subst_vars; first | exact H2)).trans (hset_cg rfl (cI_cg (by intro z; first | exact imgK_0 z | exact imgK_s z)))) rfl rfl ?_
  exact CUT19 (218 - 0 + 1) 0 (Nat.lt_succ_self _) (by first | assumption | omega)

set_option maxHeartbeats 1000000 in
set_option maxRecDepth 100000 in
theorem ctX8_from_1_no {E : jE} {h : Nat → va_E} {n : Nat} (xa : Nat) (xb : Nat) (dt : Nat) (mo : Nat) (bn : Nat) (ta : Nat) (tl : Nat) (tk : Nat) (va : Nat) (RF : Nat → Nat) (IK : Nat → Nat) (H0 : h 38 = .inr (7, [.ref (E.1 + 39), .ref (E.1 + 40), .ref (E.1 + 41), .ref (E.1 + 42), .long (lN xa), .long (lN xb), .ref (E.1 + 43), .int (nI dt), .ref (E.1 + 44), .ref (E.1 + 45), .int (nI mo), .ref (E.1 + 46), .ref (E.1 + 47), .int (nI bn), .int (nI ta), .int (nI tl), .int (nI tk), .int (nI va), .ref (E.1 + 48), .ref (E.1 + 49)])) (H1 : h 42 = cI E 3 (nF RF)) (H2 : h 41 = cZ E 2 (nF IK)) (hn : 50 ≤ n) (hik : IK 1 = 0) : jC E mX8_from (2, 0, 0) [.ref (E.1 + 38), .int (nI 1)] h n (jR (some (.int (-3))) (hset h 42 (cI E 3 (nF (updN RF 1 (RF 1 + 1))))) n) := by
  refine J.of (L := [(0, .ref (E.1 + 38)), (1, .int (nI 1))]) rfl (by decide +kernel) (Nat.le_of_ble_eq_true rfl) ?_
  obtain ⟨PP, hPP⟩ : ∃ PP : jPost, PP = (jR (some (.int (-3))) (hset h 42 (cI E 3 (nF (updN RF 1 (RF 1 + 1))))) n) := ⟨_, rfl⟩
  rw [← hPP]
  refine J_iload_n dX8_from_0 rfl ?_
  refine J_i2lN dX8_from_1 (by omega) ?_
  refine J_lconst (v := lN 0) dX8_from_2 (by decide +kernel) ?_
  refine J_lconst (v := lN 1) dX8_from_3 (by decide +kernel) ?_
  refine J_callSr (M' := mX8_in) (d' := (1, 0, 0)) (rest := []) dX8_from_4 jmX8_in jlRX8_56 (ctX8_inM 1 0 1   (by first | assumption | omega) (by first | assumption | omega) (by first | assumption | omega)) rfl rfl (Nat.le_of_ble_eq_true rfl) (Nat.le_of_ble_eq_true rfl) ⟨Nat.le_refl _, Nat.le_refl _⟩ ?_
  refine J_if_neB (tgt := 17) dX8_from_7 (by decide) (fun c1 => ?_) (fun c1 => (by exfalso; omega))
  refine J_aload_n dX8_from_17 rfl ?_
  refine J_get 2 dX8_from_18 jk8 (Nat.le_of_ble_eq_true rfl) jfRX8_16 H0 (by omega) rfl ?_
  refine J_iload_n dX8_from_21 rfl ?_
  refine J_zaldN (i := 1) dX8_from_22 H2 (by omega) (by omega) (by omega) ?_
  refine J_if_neN (tgt := 31) dX8_from_23 (by decide) (by omega) (fun c2 => (by exfalso; omega)) (fun c2 => ?_)
  refine J_aload_n dX8_from_26 rfl ?_
  refine J_callVr (M' := mX8_no) (d' := (1, 0, 0)) (rest := []) dX8_from_27 jmX8_no jlRX8_130 (ctX8_no xa xb dt mo bn ta tl tk va RF H0 H1 (by omega) ) H0 (by omega) jk8.1 rfl rfl (Nat.le_of_ble_eq_true rfl) (Nat.le_of_ble_eq_true rfl) ⟨Nat.le_refl _, Nat.le_refl _⟩ ?_
  exact J_iret dX8_from_30 rfl ⟨Nat.le_refl _, Nat.le_refl _⟩ (by rw [hPP]; exact ⟨rfl, rfl, rfl⟩)

set_option maxHeartbeats 1000000 in
set_option maxRecDepth 100000 in
theorem ctX8_from_1 {E : jE} {h : Nat → va_E} {n : Nat} (xa : Nat) (xb : Nat) (dt : Nat) (mo : Nat) (bn : Nat) (ta : Nat) (tl : Nat) (tk : Nat) (va : Nat) (Q : Nat → Nat) (KP : Nat → Nat) (IK : Nat → Nat) (H0 : h 38 = .inr (7, [.ref (E.1 + 39), .ref (E.1 + 40), .ref (E.1 + 41), .ref (E.1 + 42), .long (lN xa), .long (lN xb), .ref (E.1 + 43), .int (nI dt), .ref (E.1 + 44), .ref (E.1 + 45), .int (nI mo), .ref (E.1 + 46), .ref (E.1 + 47), .int (nI bn), .int (nI ta), .int (nI tl), .int (nI tk), .int (nI va), .ref (E.1 + 48), .ref (E.1 + 49)])) (H1 : h 39 = cI E 218 (nF Q)) (H2 : h 40 = cI E 436 (nF KP)) (H3 : h 41 = cZ E 2 (nF IK)) (hn : 50 ≤ n) (hik : IK 1 = 1) : jC E mX8_from (2, 0, 0) [.ref (E.1 + 38), .int (nI 1)] h n (jR (some (.int (nI 1))) (hset h 39 (cI E 218 (nF (frQ KP Q 218 218)))) n) := by
  refine J.of (L := [(0, .ref (E.1 + 38)), (1, .int (nI 1))]) rfl (by decide +kernel) (Nat.le_of_ble_eq_true rfl) ?_
  obtain ⟨PP, hPP⟩ : ∃ PP : jPost, PP = (jR (some (.int (nI 1))) (hset h 39 (cI E 218 (nF (frQ KP Q 218 218)))) n) := ⟨_, rfl⟩
  rw [← hPP]
  refine J_iload_n dX8_from_0 rfl ?_
  refine J_i2lN dX8_from_1 (by omega) ?_
  refine J_lconst (v := lN 0) dX8_from_2 (by decide +kernel) ?_
  refine J_lconst (v := lN 1) dX8_from_3 (by decide +kernel) ?_
  refine J_callSr (M' := mX8_in) (d' := (1, 0, 0)) (rest := []) dX8_from_4 jmX8_in jlRX8_56 (ctX8_inM 1 0 1   (by first | assumption | omega) (by first | assumption | omega) (by first | assumption | omega)) rfl rfl (Nat.le_of_ble_eq_true rfl) (Nat.le_of_ble_eq_true rfl) ⟨Nat.le_refl _, Nat.le_refl _⟩ ?_
  refine J_if_neB (tgt := 17) dX8_from_7 (by decide) (fun c1 => ?_) (fun c1 => (by exfalso; omega))
  refine J_aload_n dX8_from_17 rfl ?_
  refine J_get 2 dX8_from_18 jk8 (Nat.le_of_ble_eq_true rfl) jfRX8_16 H0 (by omega) rfl ?_
  refine J_iload_n dX8_from_21 rfl ?_
  refine J_zaldN (i := 1) dX8_from_22 H3 (by omega) (by omega) (by omega) ?_
  refine J_if_neN (tgt := 31) dX8_from_23 (by decide) (by omega) (fun c2 => ?_) (fun c2 => (by exfalso; omega))
  refine J_iconst (v := nI 0) dX8_from_31 (by decide +kernel) ?_
  refine J_istore_n dX8_from_32 (Nat.le_of_ble_eq_true rfl) (L' := [(2, .int (nI 0)), (0, .ref (E.1 + 38)), (1, .int (nI 1))]) rfl ?_
  have CUT33 : ∀ (f33 : Nat) (i : Nat) (hm33 : 218 - i < f33) (hi : i ≤ 218), J E mX8_from (2, 0, 0) jS0 PP (hset h 39 (cI E 218 (nF (frQ KP Q 218 i)))) n (0, 0) 33 [(2, .int (nI i)), (0, .ref (E.1 + 38)), (1, .int (nI 1))] [] := by
    intro f33
    induction f33 with
    | zero => intro i hm33; exact absurd hm33 (Nat.not_lt_zero _)
    | succ f33 ih33 =>
      intro i hm33 hi
      refine J_iload_n dX8_from_33 rfl ?_
      refine J_sipush (v := nI 218) dX8_from_34 (by decide +kernel) ?_
      refine J_icmp_geN (tgt := 64) dX8_from_37 (by decide) (by omega) (by omega) (fun c3 => ?_) (fun c3 => ?_)
      · skip
        have i218 : i = 218 := by omega
        subst i218
        refine J_iconst (v := nI 1) dX8_from_64 (by decide +kernel) ?_
        exact J_iret dX8_from_65 rfl ⟨Nat.le_refl _, Nat.le_refl _⟩ (by rw [hPP]; exact ⟨rfl, (hset_cg rfl (cI_cg (by intro z; omega))), rfl⟩)
      · skip
        refine J_aload_n dX8_from_40 rfl ?_
        refine J_get 0 dX8_from_41 jk8 (Nat.le_of_ble_eq_true rfl) jfRX8_7 ((hset_ne (by omega)).trans H0) (by omega) rfl ?_
        refine J_iload_n dX8_from_44 rfl ?_
        refine J_aload_n dX8_from_45 rfl ?_
        refine J_get 1 dX8_from_46 jk8 (Nat.le_of_ble_eq_true rfl) jfRX8_13 ((hset_ne (by omega)).trans H0) (by omega) rfl ?_
        refine J_sipush (v := nI 218) dX8_from_49 (by decide +kernel) ?_
        refine J_iload_n dX8_from_52 rfl ?_
        refine J_imulN dX8_from_53 ?_
        refine J.stk (st' := [.int (nI 218), .ref (E.1 + 40), .int (nI i), .ref (E.1 + 39)]) rfl ?_
        refine J_iload_n dX8_from_54 rfl ?_
        refine J_iaddN dX8_from_55 ?_
        refine J_ialdN (i := 218 + i) dX8_from_56 ((hset_ne (by omega)).trans H2) (by omega) (by omega) (by omega) ?_
        refine J_iastN (i := i) (v := KP (218 + i)) dX8_from_57 hset_eq (by omega) (by omega) (by omega) ?_
        refine J.cast hset_hset ?_
        refine J_iincN (q := 0) (a := i) (m := 1) dX8_from_58 rfl (by decide +kernel) (Nat.le_of_ble_eq_true rfl) (L' := [(2, .int (nI (i + 1))), (0, .ref (E.1 + 38)), (1, .int (nI 1))]) rfl ?_
        refine J_goto (tgt := 33) dX8_from_61 (by decide) ?_
        refine J.eqs (h' := (hset h 39 (cI E 218 (nF (frQ KP Q 218 (i + 1)))))) (L' := [(2, .int (nI (i + 1))), (0, .ref (E.1 + 38)), (1, .int (nI 1))]) (st' := []) (hset_cg rfl (cI_cg (by intro z; first | exact frQ_0 z | exact frQ_s z))) rfl rfl ?_
        exact ih33 (i + 1) (by omega) (by first | assumption | omega)
  refine J.eqs (h' := (hset h 39 (cI E 218 (nF (frQ KP Q 218 0))))) (L' := [(2, .int (nI 0)), (0, .ref (E.1 + 38)), (1, .int (nI 1))]) (st' := []) ((show h = (hset h 39 (cI E 218 (nF Q))) by funext z; simp only [hset]; (repeat' split) <;> first | rfl | (exfalso; omega) | (subst_vars; first | exact H1)).trans (hset_cg rfl (cI_cg (by intro z; first | exact frQ_0 z | exact frQ_s z)))) rfl rfl ?_
  exact CUT33 (218 - 0 + 1) 0 (Nat.lt_succ_self _) (by first | assumption | omega)

set_option maxHeartbeats 1000000 in
set_option maxRecDepth 100000 in
theorem ctX8_status {E : jE} {h : Nat → va_E} {n : Nat} (x : Nat) (xa : Nat) (xb : Nat) (dt : Nat) (mo : Nat) (bn : Nat) (ta : Nat) (tl : Nat) (tk : Nat) (va : Nat) (RF : Nat → Nat) (H0 : h 38 = .inr (7, [.ref (E.1 + 39), .ref (E.1 + 40), .ref (E.1 + 41), .ref (E.1 + 42), .long (lN xa), .long (lN xb), .ref (E.1 + 43), .int (nI dt), .ref (E.1 + 44), .ref (E.1 + 45), .int (nI mo), .ref (E.1 + 46), .ref (E.1 + 47), .int (nI bn), .int (nI ta), .int (nI tl), .int (nI tk), .int (nI va), .ref (E.1 + 48), .ref (E.1 + 49)])) (H1 : h 42 = cI E 3 (nF RF)) (hn : 50 ≤ n) (hx : x ≤ 2) : jC E mX8_status (2, 0, 0) [.ref (E.1 + 38), .int (nI x)] h n (jR (some (.int (nI (RF x)))) h n) := by
  refine J.of (L := [(0, .ref (E.1 + 38)), (1, .int (nI x))]) rfl (by decide +kernel) (Nat.le_of_ble_eq_true rfl) ?_
  obtain ⟨PP, hPP⟩ : ∃ PP : jPost, PP = (jR (some (.int (nI (RF x)))) h n) := ⟨_, rfl⟩
  rw [← hPP]
  refine J_iload_n dX8_status_0 rfl ?_
  refine J_i2l (v := (nI x).toInt64) dX8_status_1 rfl ?_
  refine J_lconst (v := lN 0) dX8_status_2 (by decide +kernel) ?_
  refine J_ldc2 dX8_status_3 jqRX8_254 ?_
  refine J.stk (st' := .long (lN 2) :: [.long (lN 0), .long (nI x).toInt64]) rfl ?_
  refine J_callSr (M' := mX8_in) (d' := (1, 0, 0)) (rest := []) dX8_status_6 jmX8_in jlRX8_56 (ctX8_in x 0 2   (by first | assumption | omega) (by first | assumption | omega) (by first | assumption | omega)) rfl rfl (Nat.le_of_ble_eq_true rfl) (Nat.le_of_ble_eq_true rfl) ⟨Nat.le_refl _, Nat.le_refl _⟩ ?_
  refine J_if_eqB (tgt := 21) dX8_status_9 (by decide) (fun c1 => (by exfalso; omega)) (fun c1 => ?_)
  refine J_aload_n dX8_status_12 rfl ?_
  refine J_get 3 dX8_status_13 jk8 (Nat.le_of_ble_eq_true rfl) jfRX8_20 H0 (by omega) rfl ?_
  refine J_iload_n dX8_status_16 rfl ?_
  refine J_ialdN (i := x) dX8_status_17 H1 (by omega) (by omega) (by omega) ?_
  refine J_goto (tgt := 26) dX8_status_18 (by decide) ?_
  exact J_iret dX8_status_26 rfl ⟨Nat.le_refl _, Nat.le_refl _⟩ (by rw [hPP]; exact ⟨rfl, rfl, rfl⟩)

set_option maxHeartbeats 1000000 in
set_option maxRecDepth 100000 in
theorem ctX8_status_bad {E : jE} {h : Nat → va_E} {n : Nat} (x : Nat) (xa : Nat) (xb : Nat) (dt : Nat) (mo : Nat) (bn : Nat) (ta : Nat) (tl : Nat) (tk : Nat) (va : Nat) (RF : Nat → Nat) (H0 : h 38 = .inr (7, [.ref (E.1 + 39), .ref (E.1 + 40), .ref (E.1 + 41), .ref (E.1 + 42), .long (lN xa), .long (lN xb), .ref (E.1 + 43), .int (nI dt), .ref (E.1 + 44), .ref (E.1 + 45), .int (nI mo), .ref (E.1 + 46), .ref (E.1 + 47), .int (nI bn), .int (nI ta), .int (nI tl), .int (nI tk), .int (nI va), .ref (E.1 + 48), .ref (E.1 + 49)])) (H1 : h 42 = cI E 3 (nF RF)) (hn : 50 ≤ n) (h32x : x < 2 ^ 32) (hbad : ¬ x ≤ 2) : jC E mX8_status (2, 0, 0) [.ref (E.1 + 38), .int (nI x)] h n (jR (some (.int (-1))) (hset h 42 (cI E 3 (nF (updN RF 0 (RF 0 + 1))))) n) := by
  refine J.of (L := [(0, .ref (E.1 + 38)), (1, .int (nI x))]) rfl (by decide +kernel) (Nat.le_of_ble_eq_true rfl) ?_
  obtain ⟨PP, hPP⟩ : ∃ PP : jPost, PP = (jR (some (.int (-1))) (hset h 42 (cI E 3 (nF (updN RF 0 (RF 0 + 1))))) n) := ⟨_, rfl⟩
  rw [← hPP]
  refine J_iload_n dX8_status_0 rfl ?_
  refine J_i2l (v := (nI x).toInt64) dX8_status_1 rfl ?_
  refine J_lconst (v := lN 0) dX8_status_2 (by decide +kernel) ?_
  refine J_ldc2 dX8_status_3 jqRX8_254 ?_
  refine J.stk (st' := .long (lN 2) :: [.long (lN 0), .long (nI x).toInt64]) rfl ?_
  refine J_callSr (M' := mX8_in) (d' := (1, 0, 0)) (rest := []) dX8_status_6 jmX8_in jlRX8_56 (ctX8_in x 0 2   (by first | assumption | omega) (by first | assumption | omega) (by first | assumption | omega)) rfl rfl (Nat.le_of_ble_eq_true rfl) (Nat.le_of_ble_eq_true rfl) ⟨Nat.le_refl _, Nat.le_refl _⟩ ?_
  refine J_if_eqB (tgt := 21) dX8_status_9 (by decide) (fun c1 => ?_) (fun c1 => (by exfalso; omega))
  refine J_aload_n dX8_status_21 rfl ?_
  refine J_iconst (v := (-1)) dX8_status_22 (by decide +kernel) ?_
  refine J_callVr (M' := mX8_bad) (d' := (1, 0, 0)) (rest := []) dX8_status_23 jmX8_bad jlRX8_66 (ctX8_bad (-1) xa xb dt mo bn ta tl tk va RF H0 H1 (by omega) ) H0 (by omega) jk8.1 rfl rfl (Nat.le_of_ble_eq_true rfl) (Nat.le_of_ble_eq_true rfl) ⟨Nat.le_refl _, Nat.le_refl _⟩ ?_
  exact J_iret dX8_status_26 rfl ⟨Nat.le_refl _, Nat.le_refl _⟩ (by rw [hPP]; exact ⟨rfl, rfl, rfl⟩)

set_option maxHeartbeats 1000000 in
set_option maxRecDepth 100000 in
theorem ctX8_counted_0 {E : jE} {h : Nat → va_E} {n : Nat} (xa : Nat) (xb : Nat) (dt : Nat) (mo : Nat) (bn : Nat) (ta : Nat) (tl : Nat) (tk : Nat) (va : Nat) (Q : Nat → Nat) (H0 : h 38 = .inr (7, [.ref (E.1 + 39), .ref (E.1 + 40), .ref (E.1 + 41), .ref (E.1 + 42), .long (lN xa), .long (lN xb), .ref (E.1 + 43), .int (nI dt), .ref (E.1 + 44), .ref (E.1 + 45), .int (nI mo), .ref (E.1 + 46), .ref (E.1 + 47), .int (nI bn), .int (nI ta), .int (nI tl), .int (nI tk), .int (nI va), .ref (E.1 + 48), .ref (E.1 + 49)])) (H1 : h 39 = cI E 218 (nF Q)) (hn : 50 ≤ n) : jC E mX8_counted (2, 0, 0) [.ref (E.1 + 38), .int (nI 0)] h n (jR (some (.int (nI (Q 0)))) h n) := by
  refine J.of (L := [(0, .ref (E.1 + 38)), (1, .int (nI 0))]) rfl (by decide +kernel) (Nat.le_of_ble_eq_true rfl) ?_
  obtain ⟨PP, hPP⟩ : ∃ PP : jPost, PP = (jR (some (.int (nI (Q 0)))) h n) := ⟨_, rfl⟩
  rw [← hPP]
  refine J_iload_n dX8_counted_0 rfl ?_
  refine J_tableInN (tgt := 40) (v := 0) rfl dX8_counted_1 (by decide +kernel) (by decide +kernel) rfl (by decide) ?_
  refine J_aload_n dX8_counted_40 rfl ?_
  refine J_callVr (M' := mX8_many) (d' := (1, 0, 0)) (rest := []) dX8_counted_41 jmX8_many jlRX8_52 (ctX8_many xa xb dt mo bn ta tl tk va Q H0 H1 (by omega) ) H0 (by omega) jk8.1 rfl rfl (Nat.le_of_ble_eq_true rfl) (Nat.le_of_ble_eq_true rfl) ⟨Nat.le_refl _, Nat.le_refl _⟩ ?_
  exact J_iret dX8_counted_44 rfl ⟨Nat.le_refl _, Nat.le_refl _⟩ (by rw [hPP]; exact ⟨rfl, rfl, rfl⟩)

set_option maxHeartbeats 1000000 in
set_option maxRecDepth 100000 in
theorem ctX8_counted_1 {E : jE} {h : Nat → va_E} {n : Nat} (xa : Nat) (xb : Nat) (dt : Nat) (mo : Nat) (bn : Nat) (ta : Nat) (tl : Nat) (tk : Nat) (va : Nat) (Q : Nat → Nat) (H0 : h 38 = .inr (7, [.ref (E.1 + 39), .ref (E.1 + 40), .ref (E.1 + 41), .ref (E.1 + 42), .long (lN xa), .long (lN xb), .ref (E.1 + 43), .int (nI dt), .ref (E.1 + 44), .ref (E.1 + 45), .int (nI mo), .ref (E.1 + 46), .ref (E.1 + 47), .int (nI bn), .int (nI ta), .int (nI tl), .int (nI tk), .int (nI va), .ref (E.1 + 48), .ref (E.1 + 49)])) (H1 : h 39 = cI E 218 (nF Q)) (hn : 50 ≤ n) : jC E mX8_counted (2, 0, 0) [.ref (E.1 + 38), .int (nI 1)] h n (jR (some (.int (nI (Q 20)))) h n) := by
  refine J.of (L := [(0, .ref (E.1 + 38)), (1, .int (nI 1))]) rfl (by decide +kernel) (Nat.le_of_ble_eq_true rfl) ?_
  obtain ⟨PP, hPP⟩ : ∃ PP : jPost, PP = (jR (some (.int (nI (Q 20)))) h n) := ⟨_, rfl⟩
  rw [← hPP]
  refine J_iload_n dX8_counted_0 rfl ?_
  refine J_tableInN (tgt := 45) (v := 1) rfl dX8_counted_1 (by decide +kernel) (by decide +kernel) rfl (by decide) ?_
  refine J_aload_n dX8_counted_45 rfl ?_
  refine J_get 0 dX8_counted_46 jk8 (Nat.le_of_ble_eq_true rfl) jfRX8_7 H0 (by omega) rfl ?_
  refine J_bipush (v := nI 20) dX8_counted_49 (by decide +kernel) ?_
  refine J_ialdN (i := 20) dX8_counted_51 H1 (by omega) (by omega) (by omega) ?_
  exact J_iret dX8_counted_52 rfl ⟨Nat.le_refl _, Nat.le_refl _⟩ (by rw [hPP]; exact ⟨rfl, rfl, rfl⟩)

set_option maxHeartbeats 1000000 in
set_option maxRecDepth 100000 in
theorem ctX8_counted_2 {E : jE} {h : Nat → va_E} {n : Nat} (xa : Nat) (xb : Nat) (dt : Nat) (mo : Nat) (bn : Nat) (ta : Nat) (tl : Nat) (tk : Nat) (va : Nat) (Q : Nat → Nat) (H0 : h 38 = .inr (7, [.ref (E.1 + 39), .ref (E.1 + 40), .ref (E.1 + 41), .ref (E.1 + 42), .long (lN xa), .long (lN xb), .ref (E.1 + 43), .int (nI dt), .ref (E.1 + 44), .ref (E.1 + 45), .int (nI mo), .ref (E.1 + 46), .ref (E.1 + 47), .int (nI bn), .int (nI ta), .int (nI tl), .int (nI tk), .int (nI va), .ref (E.1 + 48), .ref (E.1 + 49)])) (H1 : h 39 = cI E 218 (nF Q)) (hn : 50 ≤ n) : jC E mX8_counted (2, 0, 0) [.ref (E.1 + 38), .int (nI 2)] h n (jR (some (.int (nI (Q 21)))) h n) := by
  refine J.of (L := [(0, .ref (E.1 + 38)), (1, .int (nI 2))]) rfl (by decide +kernel) (Nat.le_of_ble_eq_true rfl) ?_
  obtain ⟨PP, hPP⟩ : ∃ PP : jPost, PP = (jR (some (.int (nI (Q 21)))) h n) := ⟨_, rfl⟩
  rw [← hPP]
  refine J_iload_n dX8_counted_0 rfl ?_
  refine J_tableInN (tgt := 53) (v := 2) rfl dX8_counted_1 (by decide +kernel) (by decide +kernel) rfl (by decide) ?_
  refine J_aload_n dX8_counted_53 rfl ?_
  refine J_get 0 dX8_counted_54 jk8 (Nat.le_of_ble_eq_true rfl) jfRX8_7 H0 (by omega) rfl ?_
  refine J_bipush (v := nI 21) dX8_counted_57 (by decide +kernel) ?_
  refine J_ialdN (i := 21) dX8_counted_59 H1 (by omega) (by omega) (by omega) ?_
  exact J_iret dX8_counted_60 rfl ⟨Nat.le_refl _, Nat.le_refl _⟩ (by rw [hPP]; exact ⟨rfl, rfl, rfl⟩)

set_option maxHeartbeats 1000000 in
set_option maxRecDepth 100000 in
theorem ctX8_counted_3 {E : jE} {h : Nat → va_E} {n : Nat} (xa : Nat) (xb : Nat) (dt : Nat) (mo : Nat) (bn : Nat) (ta : Nat) (tl : Nat) (tk : Nat) (va : Nat) (Q : Nat → Nat) (H0 : h 38 = .inr (7, [.ref (E.1 + 39), .ref (E.1 + 40), .ref (E.1 + 41), .ref (E.1 + 42), .long (lN xa), .long (lN xb), .ref (E.1 + 43), .int (nI dt), .ref (E.1 + 44), .ref (E.1 + 45), .int (nI mo), .ref (E.1 + 46), .ref (E.1 + 47), .int (nI bn), .int (nI ta), .int (nI tl), .int (nI tk), .int (nI va), .ref (E.1 + 48), .ref (E.1 + 49)])) (H1 : h 39 = cI E 218 (nF Q)) (hn : 50 ≤ n) : jC E mX8_counted (2, 0, 0) [.ref (E.1 + 38), .int (nI 3)] h n (jR (some (.int (nI (Q 1)))) h n) := by
  refine J.of (L := [(0, .ref (E.1 + 38)), (1, .int (nI 3))]) rfl (by decide +kernel) (Nat.le_of_ble_eq_true rfl) ?_
  obtain ⟨PP, hPP⟩ : ∃ PP : jPost, PP = (jR (some (.int (nI (Q 1)))) h n) := ⟨_, rfl⟩
  rw [← hPP]
  refine J_iload_n dX8_counted_0 rfl ?_
  refine J_tableInN (tgt := 61) (v := 3) rfl dX8_counted_1 (by decide +kernel) (by decide +kernel) rfl (by decide) ?_
  refine J_aload_n dX8_counted_61 rfl ?_
  refine J_get 0 dX8_counted_62 jk8 (Nat.le_of_ble_eq_true rfl) jfRX8_7 H0 (by omega) rfl ?_
  refine J_iconst (v := nI 1) dX8_counted_65 (by decide +kernel) ?_
  refine J_ialdN (i := 1) dX8_counted_66 H1 (by omega) (by omega) (by omega) ?_
  exact J_iret dX8_counted_67 rfl ⟨Nat.le_refl _, Nat.le_refl _⟩ (by rw [hPP]; exact ⟨rfl, rfl, rfl⟩)

set_option maxHeartbeats 1000000 in
set_option maxRecDepth 100000 in
theorem ctX8_counted_4 {E : jE} {h : Nat → va_E} {n : Nat} (xa : Nat) (xb : Nat) (dt : Nat) (mo : Nat) (bn : Nat) (ta : Nat) (tl : Nat) (tk : Nat) (va : Nat) (Q : Nat → Nat) (H0 : h 38 = .inr (7, [.ref (E.1 + 39), .ref (E.1 + 40), .ref (E.1 + 41), .ref (E.1 + 42), .long (lN xa), .long (lN xb), .ref (E.1 + 43), .int (nI dt), .ref (E.1 + 44), .ref (E.1 + 45), .int (nI mo), .ref (E.1 + 46), .ref (E.1 + 47), .int (nI bn), .int (nI ta), .int (nI tl), .int (nI tk), .int (nI va), .ref (E.1 + 48), .ref (E.1 + 49)])) (H1 : h 39 = cI E 218 (nF Q)) (hn : 50 ≤ n) : jC E mX8_counted (2, 0, 0) [.ref (E.1 + 38), .int (nI 4)] h n (jR (some (.int (nI (Q 2)))) h n) := by
  refine J.of (L := [(0, .ref (E.1 + 38)), (1, .int (nI 4))]) rfl (by decide +kernel) (Nat.le_of_ble_eq_true rfl) ?_
  obtain ⟨PP, hPP⟩ : ∃ PP : jPost, PP = (jR (some (.int (nI (Q 2)))) h n) := ⟨_, rfl⟩
  rw [← hPP]
  refine J_iload_n dX8_counted_0 rfl ?_
  refine J_tableInN (tgt := 68) (v := 4) rfl dX8_counted_1 (by decide +kernel) (by decide +kernel) rfl (by decide) ?_
  refine J_aload_n dX8_counted_68 rfl ?_
  refine J_get 0 dX8_counted_69 jk8 (Nat.le_of_ble_eq_true rfl) jfRX8_7 H0 (by omega) rfl ?_
  refine J_iconst (v := nI 2) dX8_counted_72 (by decide +kernel) ?_
  refine J_ialdN (i := 2) dX8_counted_73 H1 (by omega) (by omega) (by omega) ?_
  exact J_iret dX8_counted_74 rfl ⟨Nat.le_refl _, Nat.le_refl _⟩ (by rw [hPP]; exact ⟨rfl, rfl, rfl⟩)

set_option maxHeartbeats 1000000 in
set_option maxRecDepth 100000 in
theorem ctX8_counted_5 {E : jE} {h : Nat → va_E} {n : Nat} (xa : Nat) (xb : Nat) (dt : Nat) (mo : Nat) (bn : Nat) (ta : Nat) (tl : Nat) (tk : Nat) (va : Nat) (Q : Nat → Nat) (H0 : h 38 = .inr (7, [.ref (E.1 + 39), .ref (E.1 + 40), .ref (E.1 + 41), .ref (E.1 + 42), .long (lN xa), .long (lN xb), .ref (E.1 + 43), .int (nI dt), .ref (E.1 + 44), .ref (E.1 + 45), .int (nI mo), .ref (E.1 + 46), .ref (E.1 + 47), .int (nI bn), .int (nI ta), .int (nI tl), .int (nI tk), .int (nI va), .ref (E.1 + 48), .ref (E.1 + 49)])) (H1 : h 39 = cI E 218 (nF Q)) (hn : 50 ≤ n) : jC E mX8_counted (2, 0, 0) [.ref (E.1 + 38), .int (nI 5)] h n (jR (some (.int (nI (Q 3)))) h n) := by
  refine J.of (L := [(0, .ref (E.1 + 38)), (1, .int (nI 5))]) rfl (by decide +kernel) (Nat.le_of_ble_eq_true rfl) ?_
  obtain ⟨PP, hPP⟩ : ∃ PP : jPost, PP = (jR (some (.int (nI (Q 3)))) h n) := ⟨_, rfl⟩
  rw [← hPP]
  refine J_iload_n dX8_counted_0 rfl ?_
  refine J_tableInN (tgt := 75) (v := 5) rfl dX8_counted_1 (by decide +kernel) (by decide +kernel) rfl (by decide) ?_
  refine J_aload_n dX8_counted_75 rfl ?_
  refine J_get 0 dX8_counted_76 jk8 (Nat.le_of_ble_eq_true rfl) jfRX8_7 H0 (by omega) rfl ?_
  refine J_iconst (v := nI 3) dX8_counted_79 (by decide +kernel) ?_
  refine J_ialdN (i := 3) dX8_counted_80 H1 (by omega) (by omega) (by omega) ?_
  exact J_iret dX8_counted_81 rfl ⟨Nat.le_refl _, Nat.le_refl _⟩ (by rw [hPP]; exact ⟨rfl, rfl, rfl⟩)

set_option maxHeartbeats 1000000 in
set_option maxRecDepth 100000 in
theorem ctX8_counted_6 {E : jE} {h : Nat → va_E} {n : Nat} (xa : Nat) (xb : Nat) (dt : Nat) (mo : Nat) (bn : Nat) (ta : Nat) (tl : Nat) (tk : Nat) (va : Nat) (Q : Nat → Nat) (H0 : h 38 = .inr (7, [.ref (E.1 + 39), .ref (E.1 + 40), .ref (E.1 + 41), .ref (E.1 + 42), .long (lN xa), .long (lN xb), .ref (E.1 + 43), .int (nI dt), .ref (E.1 + 44), .ref (E.1 + 45), .int (nI mo), .ref (E.1 + 46), .ref (E.1 + 47), .int (nI bn), .int (nI ta), .int (nI tl), .int (nI tk), .int (nI va), .ref (E.1 + 48), .ref (E.1 + 49)])) (H1 : h 39 = cI E 218 (nF Q)) (hn : 50 ≤ n) : jC E mX8_counted (2, 0, 0) [.ref (E.1 + 38), .int (nI 6)] h n (jR (some (.int (nI bn))) h n) := by
  refine J.of (L := [(0, .ref (E.1 + 38)), (1, .int (nI 6))]) rfl (by decide +kernel) (Nat.le_of_ble_eq_true rfl) ?_
  obtain ⟨PP, hPP⟩ : ∃ PP : jPost, PP = (jR (some (.int (nI bn))) h n) := ⟨_, rfl⟩
  rw [← hPP]
  refine J_iload_n dX8_counted_0 rfl ?_
  refine J_tableOutN (tgt := 82) (v := 6) rfl dX8_counted_1 (by decide +kernel) (by decide) ?_
  refine J_aload_n dX8_counted_82 rfl ?_
  refine J_get 13 dX8_counted_83 jk8 (Nat.le_of_ble_eq_true rfl) jfRX8_194 H0 (by omega) rfl ?_
  exact J_iret dX8_counted_86 rfl ⟨Nat.le_refl _, Nat.le_refl _⟩ (by rw [hPP]; exact ⟨rfl, rfl, rfl⟩)

set_option maxHeartbeats 1000000 in
set_option maxRecDepth 100000 in
theorem ctX8_count_0 {E : jE} {h : Nat → va_E} {n : Nat} (xa : Nat) (xb : Nat) (dt : Nat) (mo : Nat) (bn : Nat) (ta : Nat) (tl : Nat) (tk : Nat) (va : Nat) (Q : Nat → Nat) (H0 : h 38 = .inr (7, [.ref (E.1 + 39), .ref (E.1 + 40), .ref (E.1 + 41), .ref (E.1 + 42), .long (lN xa), .long (lN xb), .ref (E.1 + 43), .int (nI dt), .ref (E.1 + 44), .ref (E.1 + 45), .int (nI mo), .ref (E.1 + 46), .ref (E.1 + 47), .int (nI bn), .int (nI ta), .int (nI tl), .int (nI tk), .int (nI va), .ref (E.1 + 48), .ref (E.1 + 49)])) (H1 : h 39 = cI E 218 (nF Q)) (hn : 50 ≤ n) : jC E mX8_count (3, 0, 0) [.ref (E.1 + 38), .int (nI 0)] h n (jR (some (.int (nI (Q 0)))) h n) := by
  refine J.of (L := [(0, .ref (E.1 + 38)), (1, .int (nI 0))]) rfl (by decide +kernel) (Nat.le_of_ble_eq_true rfl) ?_
  obtain ⟨PP, hPP⟩ : ∃ PP : jPost, PP = (jR (some (.int (nI (Q 0)))) h n) := ⟨_, rfl⟩
  rw [← hPP]
  refine J_iload_n dX8_count_0 rfl ?_
  refine J_i2lN dX8_count_1 (by omega) ?_
  refine J_lconst (v := lN 0) dX8_count_2 (by decide +kernel) ?_
  refine J_ldc2 dX8_count_3 jqRX8_256 ?_
  refine J.stk (st' := .long (lN 6) :: [.long (lN 0), .long (lN 0)]) rfl ?_
  refine J_callSr (M' := mX8_in) (d' := (1, 0, 0)) (rest := []) dX8_count_6 jmX8_in jlRX8_56 (ctX8_inM 0 0 6   (by first | assumption | omega) (by first | assumption | omega) (by first | assumption | omega)) rfl rfl (Nat.le_of_ble_eq_true rfl) (Nat.le_of_ble_eq_true rfl) ⟨Nat.le_refl _, Nat.le_refl _⟩ ?_
  refine J_if_eqB (tgt := 20) dX8_count_9 (by decide) (fun c1 => (by exfalso; omega)) (fun c1 => ?_)
  refine J_aload_n dX8_count_12 rfl ?_
  refine J_iload_n dX8_count_13 rfl ?_
  refine J_callVr (M' := mX8_counted) (d' := (2, 0, 0)) (rest := []) dX8_count_14 jmX8_counted jlRX8_258 (ctX8_counted_0 xa xb dt mo bn ta tl tk va Q H0 H1 (by omega) ) H0 (by omega) jk8.1 rfl rfl (Nat.le_of_ble_eq_true rfl) (Nat.le_of_ble_eq_true rfl) ⟨Nat.le_refl _, Nat.le_refl _⟩ ?_
  refine J_goto (tgt := 26) dX8_count_17 (by decide) ?_
  exact J_iret dX8_count_26 rfl ⟨Nat.le_refl _, Nat.le_refl _⟩ (by rw [hPP]; exact ⟨rfl, rfl, rfl⟩)

set_option maxHeartbeats 1000000 in
set_option maxRecDepth 100000 in
theorem ctX8_count_1 {E : jE} {h : Nat → va_E} {n : Nat} (xa : Nat) (xb : Nat) (dt : Nat) (mo : Nat) (bn : Nat) (ta : Nat) (tl : Nat) (tk : Nat) (va : Nat) (Q : Nat → Nat) (H0 : h 38 = .inr (7, [.ref (E.1 + 39), .ref (E.1 + 40), .ref (E.1 + 41), .ref (E.1 + 42), .long (lN xa), .long (lN xb), .ref (E.1 + 43), .int (nI dt), .ref (E.1 + 44), .ref (E.1 + 45), .int (nI mo), .ref (E.1 + 46), .ref (E.1 + 47), .int (nI bn), .int (nI ta), .int (nI tl), .int (nI tk), .int (nI va), .ref (E.1 + 48), .ref (E.1 + 49)])) (H1 : h 39 = cI E 218 (nF Q)) (hn : 50 ≤ n) : jC E mX8_count (3, 0, 0) [.ref (E.1 + 38), .int (nI 1)] h n (jR (some (.int (nI (Q 20)))) h n) := by
  refine J.of (L := [(0, .ref (E.1 + 38)), (1, .int (nI 1))]) rfl (by decide +kernel) (Nat.le_of_ble_eq_true rfl) ?_
  obtain ⟨PP, hPP⟩ : ∃ PP : jPost, PP = (jR (some (.int (nI (Q 20)))) h n) := ⟨_, rfl⟩
  rw [← hPP]
  refine J_iload_n dX8_count_0 rfl ?_
  refine J_i2lN dX8_count_1 (by omega) ?_
  refine J_lconst (v := lN 0) dX8_count_2 (by decide +kernel) ?_
  refine J_ldc2 dX8_count_3 jqRX8_256 ?_
  refine J.stk (st' := .long (lN 6) :: [.long (lN 0), .long (lN 1)]) rfl ?_
  refine J_callSr (M' := mX8_in) (d' := (1, 0, 0)) (rest := []) dX8_count_6 jmX8_in jlRX8_56 (ctX8_inM 1 0 6   (by first | assumption | omega) (by first | assumption | omega) (by first | assumption | omega)) rfl rfl (Nat.le_of_ble_eq_true rfl) (Nat.le_of_ble_eq_true rfl) ⟨Nat.le_refl _, Nat.le_refl _⟩ ?_
  refine J_if_eqB (tgt := 20) dX8_count_9 (by decide) (fun c1 => (by exfalso; omega)) (fun c1 => ?_)
  refine J_aload_n dX8_count_12 rfl ?_
  refine J_iload_n dX8_count_13 rfl ?_
  refine J_callVr (M' := mX8_counted) (d' := (2, 0, 0)) (rest := []) dX8_count_14 jmX8_counted jlRX8_258 (ctX8_counted_1 xa xb dt mo bn ta tl tk va Q H0 H1 (by omega) ) H0 (by omega) jk8.1 rfl rfl (Nat.le_of_ble_eq_true rfl) (Nat.le_of_ble_eq_true rfl) ⟨Nat.le_refl _, Nat.le_refl _⟩ ?_
  refine J_goto (tgt := 26) dX8_count_17 (by decide) ?_
  exact J_iret dX8_count_26 rfl ⟨Nat.le_refl _, Nat.le_refl _⟩ (by rw [hPP]; exact ⟨rfl, rfl, rfl⟩)

set_option maxHeartbeats 1000000 in
set_option maxRecDepth 100000 in
theorem ctX8_count_2 {E : jE} {h : Nat → va_E} {n : Nat} (xa : Nat) (xb : Nat) (dt : Nat) (mo : Nat) (bn : Nat) (ta : Nat) (tl : Nat) (tk : Nat) (va : Nat) (Q : Nat → Nat) (H0 : h 38 = .inr (7, [.ref (E.1 + 39), .ref (E.1 + 40), .ref (E.1 + 41), .ref (E.1 + 42), .long (lN xa), .long (lN xb), .ref (E.1 + 43), .int (nI dt), .ref (E.1 + 44), .ref (E.1 + 45), .int (nI mo), .ref (E.1 + 46), .ref (E.1 + 47), .int (nI bn), .int (nI ta), .int (nI tl), .int (nI tk), .int (nI va), .ref (E.1 + 48), .ref (E.1 + 49)])) (H1 : h 39 = cI E 218 (nF Q)) (hn : 50 ≤ n) : jC E mX8_count (3, 0, 0) [.ref (E.1 + 38), .int (nI 2)] h n (jR (some (.int (nI (Q 21)))) h n) := by
  refine J.of (L := [(0, .ref (E.1 + 38)), (1, .int (nI 2))]) rfl (by decide +kernel) (Nat.le_of_ble_eq_true rfl) ?_
  obtain ⟨PP, hPP⟩ : ∃ PP : jPost, PP = (jR (some (.int (nI (Q 21)))) h n) := ⟨_, rfl⟩
  rw [← hPP]
  refine J_iload_n dX8_count_0 rfl ?_
  refine J_i2lN dX8_count_1 (by omega) ?_
  refine J_lconst (v := lN 0) dX8_count_2 (by decide +kernel) ?_
  refine J_ldc2 dX8_count_3 jqRX8_256 ?_
  refine J.stk (st' := .long (lN 6) :: [.long (lN 0), .long (lN 2)]) rfl ?_
  refine J_callSr (M' := mX8_in) (d' := (1, 0, 0)) (rest := []) dX8_count_6 jmX8_in jlRX8_56 (ctX8_inM 2 0 6   (by first | assumption | omega) (by first | assumption | omega) (by first | assumption | omega)) rfl rfl (Nat.le_of_ble_eq_true rfl) (Nat.le_of_ble_eq_true rfl) ⟨Nat.le_refl _, Nat.le_refl _⟩ ?_
  refine J_if_eqB (tgt := 20) dX8_count_9 (by decide) (fun c1 => (by exfalso; omega)) (fun c1 => ?_)
  refine J_aload_n dX8_count_12 rfl ?_
  refine J_iload_n dX8_count_13 rfl ?_
  refine J_callVr (M' := mX8_counted) (d' := (2, 0, 0)) (rest := []) dX8_count_14 jmX8_counted jlRX8_258 (ctX8_counted_2 xa xb dt mo bn ta tl tk va Q H0 H1 (by omega) ) H0 (by omega) jk8.1 rfl rfl (Nat.le_of_ble_eq_true rfl) (Nat.le_of_ble_eq_true rfl) ⟨Nat.le_refl _, Nat.le_refl _⟩ ?_
  refine J_goto (tgt := 26) dX8_count_17 (by decide) ?_
  exact J_iret dX8_count_26 rfl ⟨Nat.le_refl _, Nat.le_refl _⟩ (by rw [hPP]; exact ⟨rfl, rfl, rfl⟩)

set_option maxHeartbeats 1000000 in
set_option maxRecDepth 100000 in
theorem ctX8_count_3 {E : jE} {h : Nat → va_E} {n : Nat} (xa : Nat) (xb : Nat) (dt : Nat) (mo : Nat) (bn : Nat) (ta : Nat) (tl : Nat) (tk : Nat) (va : Nat) (Q : Nat → Nat) (H0 : h 38 = .inr (7, [.ref (E.1 + 39), .ref (E.1 + 40), .ref (E.1 + 41), .ref (E.1 + 42), .long (lN xa), .long (lN xb), .ref (E.1 + 43), .int (nI dt), .ref (E.1 + 44), .ref (E.1 + 45), .int (nI mo), .ref (E.1 + 46), .ref (E.1 + 47), .int (nI bn), .int (nI ta), .int (nI tl), .int (nI tk), .int (nI va), .ref (E.1 + 48), .ref (E.1 + 49)])) (H1 : h 39 = cI E 218 (nF Q)) (hn : 50 ≤ n) : jC E mX8_count (3, 0, 0) [.ref (E.1 + 38), .int (nI 3)] h n (jR (some (.int (nI (Q 1)))) h n) := by
  refine J.of (L := [(0, .ref (E.1 + 38)), (1, .int (nI 3))]) rfl (by decide +kernel) (Nat.le_of_ble_eq_true rfl) ?_
  obtain ⟨PP, hPP⟩ : ∃ PP : jPost, PP = (jR (some (.int (nI (Q 1)))) h n) := ⟨_, rfl⟩
  rw [← hPP]
  refine J_iload_n dX8_count_0 rfl ?_
  refine J_i2lN dX8_count_1 (by omega) ?_
  refine J_lconst (v := lN 0) dX8_count_2 (by decide +kernel) ?_
  refine J_ldc2 dX8_count_3 jqRX8_256 ?_
  refine J.stk (st' := .long (lN 6) :: [.long (lN 0), .long (lN 3)]) rfl ?_
  refine J_callSr (M' := mX8_in) (d' := (1, 0, 0)) (rest := []) dX8_count_6 jmX8_in jlRX8_56 (ctX8_inM 3 0 6   (by first | assumption | omega) (by first | assumption | omega) (by first | assumption | omega)) rfl rfl (Nat.le_of_ble_eq_true rfl) (Nat.le_of_ble_eq_true rfl) ⟨Nat.le_refl _, Nat.le_refl _⟩ ?_
  refine J_if_eqB (tgt := 20) dX8_count_9 (by decide) (fun c1 => (by exfalso; omega)) (fun c1 => ?_)
  refine J_aload_n dX8_count_12 rfl ?_
  refine J_iload_n dX8_count_13 rfl ?_
  refine J_callVr (M' := mX8_counted) (d' := (2, 0, 0)) (rest := []) dX8_count_14 jmX8_counted jlRX8_258 (ctX8_counted_3 xa xb dt mo bn ta tl tk va Q H0 H1 (by omega) ) H0 (by omega) jk8.1 rfl rfl (Nat.le_of_ble_eq_true rfl) (Nat.le_of_ble_eq_true rfl) ⟨Nat.le_refl _, Nat.le_refl _⟩ ?_
  refine J_goto (tgt := 26) dX8_count_17 (by decide) ?_
  exact J_iret dX8_count_26 rfl ⟨Nat.le_refl _, Nat.le_refl _⟩ (by rw [hPP]; exact ⟨rfl, rfl, rfl⟩)

set_option maxHeartbeats 1000000 in
set_option maxRecDepth 100000 in
theorem ctX8_count_4 {E : jE} {h : Nat → va_E} {n : Nat} (xa : Nat) (xb : Nat) (dt : Nat) (mo : Nat) (bn : Nat) (ta : Nat) (tl : Nat) (tk : Nat) (va : Nat) (Q : Nat → Nat) (H0 : h 38 = .inr (7, [.ref (E.1 + 39), .ref (E.1 + 40), .ref (E.1 + 41), .ref (E.1 + 42), .long (lN xa), .long (lN xb), .ref (E.1 + 43), .int (nI dt), .ref (E.1 + 44), .ref (E.1 + 45), .int (nI mo), .ref (E.1 + 46), .ref (E.1 + 47), .int (nI bn), .int (nI ta), .int (nI tl), .int (nI tk), .int (nI va), .ref (E.1 + 48), .ref (E.1 + 49)])) (H1 : h 39 = cI E 218 (nF Q)) (hn : 50 ≤ n) : jC E mX8_count (3, 0, 0) [.ref (E.1 + 38), .int (nI 4)] h n (jR (some (.int (nI (Q 2)))) h n) := by
  refine J.of (L := [(0, .ref (E.1 + 38)), (1, .int (nI 4))]) rfl (by decide +kernel) (Nat.le_of_ble_eq_true rfl) ?_
  obtain ⟨PP, hPP⟩ : ∃ PP : jPost, PP = (jR (some (.int (nI (Q 2)))) h n) := ⟨_, rfl⟩
  rw [← hPP]
  refine J_iload_n dX8_count_0 rfl ?_
  refine J_i2lN dX8_count_1 (by omega) ?_
  refine J_lconst (v := lN 0) dX8_count_2 (by decide +kernel) ?_
  refine J_ldc2 dX8_count_3 jqRX8_256 ?_
  refine J.stk (st' := .long (lN 6) :: [.long (lN 0), .long (lN 4)]) rfl ?_
  refine J_callSr (M' := mX8_in) (d' := (1, 0, 0)) (rest := []) dX8_count_6 jmX8_in jlRX8_56 (ctX8_inM 4 0 6   (by first | assumption | omega) (by first | assumption | omega) (by first | assumption | omega)) rfl rfl (Nat.le_of_ble_eq_true rfl) (Nat.le_of_ble_eq_true rfl) ⟨Nat.le_refl _, Nat.le_refl _⟩ ?_
  refine J_if_eqB (tgt := 20) dX8_count_9 (by decide) (fun c1 => (by exfalso; omega)) (fun c1 => ?_)
  refine J_aload_n dX8_count_12 rfl ?_
  refine J_iload_n dX8_count_13 rfl ?_
  refine J_callVr (M' := mX8_counted) (d' := (2, 0, 0)) (rest := []) dX8_count_14 jmX8_counted jlRX8_258 (ctX8_counted_4 xa xb dt mo bn ta tl tk va Q H0 H1 (by omega) ) H0 (by omega) jk8.1 rfl rfl (Nat.le_of_ble_eq_true rfl) (Nat.le_of_ble_eq_true rfl) ⟨Nat.le_refl _, Nat.le_refl _⟩ ?_
  refine J_goto (tgt := 26) dX8_count_17 (by decide) ?_
  exact J_iret dX8_count_26 rfl ⟨Nat.le_refl _, Nat.le_refl _⟩ (by rw [hPP]; exact ⟨rfl, rfl, rfl⟩)

set_option maxHeartbeats 1000000 in
set_option maxRecDepth 100000 in
theorem ctX8_count_5 {E : jE} {h : Nat → va_E} {n : Nat} (xa : Nat) (xb : Nat) (dt : Nat) (mo : Nat) (bn : Nat) (ta : Nat) (tl : Nat) (tk : Nat) (va : Nat) (Q : Nat → Nat) (H0 : h 38 = .inr (7, [.ref (E.1 + 39), .ref (E.1 + 40), .ref (E.1 + 41), .ref (E.1 + 42), .long (lN xa), .long (lN xb), .ref (E.1 + 43), .int (nI dt), .ref (E.1 + 44), .ref (E.1 + 45), .int (nI mo), .ref (E.1 + 46), .ref (E.1 + 47), .int (nI bn), .int (nI ta), .int (nI tl), .int (nI tk), .int (nI va), .ref (E.1 + 48), .ref (E.1 + 49)])) (H1 : h 39 = cI E 218 (nF Q)) (hn : 50 ≤ n) : jC E mX8_count (3, 0, 0) [.ref (E.1 + 38), .int (nI 5)] h n (jR (some (.int (nI (Q 3)))) h n) := by
  refine J.of (L := [(0, .ref (E.1 + 38)), (1, .int (nI 5))]) rfl (by decide +kernel) (Nat.le_of_ble_eq_true rfl) ?_
  obtain ⟨PP, hPP⟩ : ∃ PP : jPost, PP = (jR (some (.int (nI (Q 3)))) h n) := ⟨_, rfl⟩
  rw [← hPP]
  refine J_iload_n dX8_count_0 rfl ?_
  refine J_i2lN dX8_count_1 (by omega) ?_
  refine J_lconst (v := lN 0) dX8_count_2 (by decide +kernel) ?_
  refine J_ldc2 dX8_count_3 jqRX8_256 ?_
  refine J.stk (st' := .long (lN 6) :: [.long (lN 0), .long (lN 5)]) rfl ?_
  refine J_callSr (M' := mX8_in) (d' := (1, 0, 0)) (rest := []) dX8_count_6 jmX8_in jlRX8_56 (ctX8_inM 5 0 6   (by first | assumption | omega) (by first | assumption | omega) (by first | assumption | omega)) rfl rfl (Nat.le_of_ble_eq_true rfl) (Nat.le_of_ble_eq_true rfl) ⟨Nat.le_refl _, Nat.le_refl _⟩ ?_
  refine J_if_eqB (tgt := 20) dX8_count_9 (by decide) (fun c1 => (by exfalso; omega)) (fun c1 => ?_)
  refine J_aload_n dX8_count_12 rfl ?_
  refine J_iload_n dX8_count_13 rfl ?_
  refine J_callVr (M' := mX8_counted) (d' := (2, 0, 0)) (rest := []) dX8_count_14 jmX8_counted jlRX8_258 (ctX8_counted_5 xa xb dt mo bn ta tl tk va Q H0 H1 (by omega) ) H0 (by omega) jk8.1 rfl rfl (Nat.le_of_ble_eq_true rfl) (Nat.le_of_ble_eq_true rfl) ⟨Nat.le_refl _, Nat.le_refl _⟩ ?_
  refine J_goto (tgt := 26) dX8_count_17 (by decide) ?_
  exact J_iret dX8_count_26 rfl ⟨Nat.le_refl _, Nat.le_refl _⟩ (by rw [hPP]; exact ⟨rfl, rfl, rfl⟩)

set_option maxHeartbeats 1000000 in
set_option maxRecDepth 100000 in
theorem ctX8_count_6 {E : jE} {h : Nat → va_E} {n : Nat} (xa : Nat) (xb : Nat) (dt : Nat) (mo : Nat) (bn : Nat) (ta : Nat) (tl : Nat) (tk : Nat) (va : Nat) (Q : Nat → Nat) (H0 : h 38 = .inr (7, [.ref (E.1 + 39), .ref (E.1 + 40), .ref (E.1 + 41), .ref (E.1 + 42), .long (lN xa), .long (lN xb), .ref (E.1 + 43), .int (nI dt), .ref (E.1 + 44), .ref (E.1 + 45), .int (nI mo), .ref (E.1 + 46), .ref (E.1 + 47), .int (nI bn), .int (nI ta), .int (nI tl), .int (nI tk), .int (nI va), .ref (E.1 + 48), .ref (E.1 + 49)])) (H1 : h 39 = cI E 218 (nF Q)) (hn : 50 ≤ n) : jC E mX8_count (3, 0, 0) [.ref (E.1 + 38), .int (nI 6)] h n (jR (some (.int (nI bn))) h n) := by
  refine J.of (L := [(0, .ref (E.1 + 38)), (1, .int (nI 6))]) rfl (by decide +kernel) (Nat.le_of_ble_eq_true rfl) ?_
  obtain ⟨PP, hPP⟩ : ∃ PP : jPost, PP = (jR (some (.int (nI bn))) h n) := ⟨_, rfl⟩
  rw [← hPP]
  refine J_iload_n dX8_count_0 rfl ?_
  refine J_i2lN dX8_count_1 (by omega) ?_
  refine J_lconst (v := lN 0) dX8_count_2 (by decide +kernel) ?_
  refine J_ldc2 dX8_count_3 jqRX8_256 ?_
  refine J.stk (st' := .long (lN 6) :: [.long (lN 0), .long (lN 6)]) rfl ?_
  refine J_callSr (M' := mX8_in) (d' := (1, 0, 0)) (rest := []) dX8_count_6 jmX8_in jlRX8_56 (ctX8_inM 6 0 6   (by first | assumption | omega) (by first | assumption | omega) (by first | assumption | omega)) rfl rfl (Nat.le_of_ble_eq_true rfl) (Nat.le_of_ble_eq_true rfl) ⟨Nat.le_refl _, Nat.le_refl _⟩ ?_
  refine J_if_eqB (tgt := 20) dX8_count_9 (by decide) (fun c1 => (by exfalso; omega)) (fun c1 => ?_)
  refine J_aload_n dX8_count_12 rfl ?_
  refine J_iload_n dX8_count_13 rfl ?_
  refine J_callVr (M' := mX8_counted) (d' := (2, 0, 0)) (rest := []) dX8_count_14 jmX8_counted jlRX8_258 (ctX8_counted_6 xa xb dt mo bn ta tl tk va Q H0 H1 (by omega) ) H0 (by omega) jk8.1 rfl rfl (Nat.le_of_ble_eq_true rfl) (Nat.le_of_ble_eq_true rfl) ⟨Nat.le_refl _, Nat.le_refl _⟩ ?_
  refine J_goto (tgt := 26) dX8_count_17 (by decide) ?_
  exact J_iret dX8_count_26 rfl ⟨Nat.le_refl _, Nat.le_refl _⟩ (by rw [hPP]; exact ⟨rfl, rfl, rfl⟩)

set_option maxHeartbeats 1000000 in
set_option maxRecDepth 100000 in
theorem ctX8_count_bad {E : jE} {h : Nat → va_E} {n : Nat} (x : Nat) (xa : Nat) (xb : Nat) (dt : Nat) (mo : Nat) (bn : Nat) (ta : Nat) (tl : Nat) (tk : Nat) (va : Nat) (RF : Nat → Nat) (H0 : h 38 = .inr (7, [.ref (E.1 + 39), .ref (E.1 + 40), .ref (E.1 + 41), .ref (E.1 + 42), .long (lN xa), .long (lN xb), .ref (E.1 + 43), .int (nI dt), .ref (E.1 + 44), .ref (E.1 + 45), .int (nI mo), .ref (E.1 + 46), .ref (E.1 + 47), .int (nI bn), .int (nI ta), .int (nI tl), .int (nI tk), .int (nI va), .ref (E.1 + 48), .ref (E.1 + 49)])) (H1 : h 42 = cI E 3 (nF RF)) (hn : 50 ≤ n) (h32x : x < 2 ^ 32) (hbad : ¬ x ≤ 6) : jC E mX8_count (3, 0, 0) [.ref (E.1 + 38), .int (nI x)] h n (jR (some (.int (-2))) (hset h 42 (cI E 3 (nF (updN RF 0 (RF 0 + 1))))) n) := by
  refine J.of (L := [(0, .ref (E.1 + 38)), (1, .int (nI x))]) rfl (by decide +kernel) (Nat.le_of_ble_eq_true rfl) ?_
  obtain ⟨PP, hPP⟩ : ∃ PP : jPost, PP = (jR (some (.int (-2))) (hset h 42 (cI E 3 (nF (updN RF 0 (RF 0 + 1))))) n) := ⟨_, rfl⟩
  rw [← hPP]
  refine J_iload_n dX8_count_0 rfl ?_
  refine J_i2l (v := (nI x).toInt64) dX8_count_1 rfl ?_
  refine J_lconst (v := lN 0) dX8_count_2 (by decide +kernel) ?_
  refine J_ldc2 dX8_count_3 jqRX8_256 ?_
  refine J.stk (st' := .long (lN 6) :: [.long (lN 0), .long (nI x).toInt64]) rfl ?_
  refine J_callSr (M' := mX8_in) (d' := (1, 0, 0)) (rest := []) dX8_count_6 jmX8_in jlRX8_56 (ctX8_in x 0 6   (by first | assumption | omega) (by first | assumption | omega) (by first | assumption | omega)) rfl rfl (Nat.le_of_ble_eq_true rfl) (Nat.le_of_ble_eq_true rfl) ⟨Nat.le_refl _, Nat.le_refl _⟩ ?_
  refine J_if_eqB (tgt := 20) dX8_count_9 (by decide) (fun c1 => ?_) (fun c1 => (by exfalso; omega))
  refine J_aload_n dX8_count_20 rfl ?_
  refine J_bipush (v := (-2)) dX8_count_21 (by decide +kernel) ?_
  refine J_callVr (M' := mX8_bad) (d' := (1, 0, 0)) (rest := []) dX8_count_23 jmX8_bad jlRX8_66 (ctX8_bad (-2) xa xb dt mo bn ta tl tk va RF H0 H1 (by omega) ) H0 (by omega) jk8.1 rfl rfl (Nat.le_of_ble_eq_true rfl) (Nat.le_of_ble_eq_true rfl) ⟨Nat.le_refl _, Nat.le_refl _⟩ ?_
  exact J_iret dX8_count_26 rfl ⟨Nat.le_refl _, Nat.le_refl _⟩ (by rw [hPP]; exact ⟨rfl, rfl, rfl⟩)

set_option maxHeartbeats 1000000 in
set_option maxRecDepth 100000 in
theorem ctX8_sums {E : jE} {h : Nat → va_E} {n : Nat} (x : Int64) (f : Nat) (c : Nat) (xa : Nat) (xb : Nat) (dt : Nat) (mo : Nat) (bn : Nat) (ta : Nat) (tl : Nat) (tk : Nat) (va : Nat) (Q : Nat → Nat) (H0 : h 38 = .inr (7, [.ref (E.1 + 39), .ref (E.1 + 40), .ref (E.1 + 41), .ref (E.1 + 42), .long (lN xa), .long (lN xb), .ref (E.1 + 43), .int (nI dt), .ref (E.1 + 44), .ref (E.1 + 45), .int (nI mo), .ref (E.1 + 46), .ref (E.1 + 47), .int (nI bn), .int (nI ta), .int (nI tl), .int (nI tk), .int (nI va), .ref (E.1 + 48), .ref (E.1 + 49)])) (H1 : h 39 = cI E 218 (nF Q)) (hn : 50 ≤ n) (hf : f + c ≤ 218) (hQ : ∀ zz, zz < c → Q (f + zz) ≤ 99) : jC E mX8_sums (1, 0, 0) [.ref (E.1 + 38), .long x, .int (nI f), .int (nI c)] h n (jR (some (.long (rowsL (fun k => Q (f + k)) x c))) h n) := by
  refine J.of (L := [(0, .ref (E.1 + 38)), (1, .long x), (3, .int (nI f)), (4, .int (nI c))]) rfl (by decide +kernel) (Nat.le_of_ble_eq_true rfl) ?_
  obtain ⟨PP, hPP⟩ : ∃ PP : jPost, PP = (jR (some (.long (rowsL (fun k => Q (f + k)) x c))) h n) := ⟨_, rfl⟩
  rw [← hPP]
  refine J_lload_n dX8_sums_0 rfl ?_
  refine J_lstore dX8_sums_1 (Nat.le_of_ble_eq_true rfl) (L' := [(5, .long x), (0, .ref (E.1 + 38)), (1, .long x), (3, .int (nI f)), (4, .int (nI c))]) rfl ?_
  refine J_iconst (v := nI 0) dX8_sums_3 (by decide +kernel) ?_
  refine J_istore dX8_sums_4 (Nat.le_of_ble_eq_true rfl) (L' := [(7, .int (nI 0)), (5, .long x), (0, .ref (E.1 + 38)), (1, .long x), (3, .int (nI f)), (4, .int (nI c))]) rfl ?_
  have CUT6 : ∀ (f6 : Nat) (i : Nat) (hm6 : c - i < f6) (hi : i ≤ c), J E mX8_sums (1, 0, 0) jS0 PP h n (0, 0) 6 [(7, .int (nI i)), (5, .long (rowsL (fun k => Q (f + k)) x i)), (0, .ref (E.1 + 38)), (1, .long x), (3, .int (nI f)), (4, .int (nI c))] [] := by
    intro f6
    induction f6 with
    | zero => intro i hm6; exact absurd hm6 (Nat.not_lt_zero _)
    | succ f6 ih6 =>
      intro i hm6 hi
      refine J_iload dX8_sums_6 rfl ?_
      refine J_iload dX8_sums_8 rfl ?_
      refine J_icmp_geN (tgt := 38) dX8_sums_10 (by decide) (by omega) (by omega) (fun c1 => ?_) (fun c1 => ?_)
      · skip
        refine J_lload dX8_sums_38 rfl ?_
        exact J_lret dX8_sums_40 rfl ⟨Nat.le_refl _, Nat.le_refl _⟩ (by rw [hPP]; exact ⟨(congrArg some (jv_L (by rw [show i = c by omega]))), rfl, rfl⟩)
      · skip
        refine J_ldc2 dX8_sums_13 jqRX8_261 ?_
        refine J.stk (st' := .long (lN 31) :: []) rfl ?_
        refine J_lload dX8_sums_16 rfl ?_
        refine J_lmul dX8_sums_18 ?_
        refine J_aload_n dX8_sums_19 rfl ?_
        refine J_get 0 dX8_sums_20 jk8 (Nat.le_of_ble_eq_true rfl) jfRX8_7 H0 (by omega) rfl ?_
        refine J_iload_n dX8_sums_23 rfl ?_
        refine J_iload dX8_sums_24 rfl ?_
        refine J_iaddN dX8_sums_26 ?_
        refine J_ialdN (i := f + i) dX8_sums_27 H1 (by omega) (by omega) (by omega) ?_
        have qb := hQ i (by omega)
        refine J_i2lN dX8_sums_28 (by omega) ?_
        refine J_ladd dX8_sums_29 ?_
        refine J_lstore dX8_sums_30 (Nat.le_of_ble_eq_true rfl) (L' := [(5, .long (((lN 31) * (rowsL (fun k => Q (f + k)) x i)) + (lN (Q (f + i))))), (7, .int (nI i)), (0, .ref (E.1 + 38)), (1, .long x), (3, .int (nI f)), (4, .int (nI c))]) rfl ?_
        refine J_iincN (q := 1) (a := i) (m := 1) dX8_sums_32 rfl (by decide +kernel) (Nat.le_of_ble_eq_true rfl) (L' := [(7, .int (nI (i + 1))), (5, .long (((lN 31) * (rowsL (fun k => Q (f + k)) x i)) + (lN (Q (f + i))))), (0, .ref (E.1 + 38)), (1, .long x), (3, .int (nI f)), (4, .int (nI c))]) rfl ?_
        refine J_goto (tgt := 6) dX8_sums_35 (by decide) ?_
        refine J.eqs (h' := h) (L' := [(7, .int (nI (i + 1))), (5, .long (rowsL (fun k => Q (f + k)) x (i + 1))), (0, .ref (E.1 + 38)), (1, .long x), (3, .int (nI f)), (4, .int (nI c))]) (st' := []) rfl (jL_c rfl (jL_c (jv_L (by rfl)) (jL_c rfl (jL_c rfl (jL_c rfl (jL_c rfl rfl)))))) rfl ?_
        exact ih6 (i + 1) (by omega) (by first | assumption | omega)
  refine J.eqs (h' := h) (L' := [(7, .int (nI 0)), (5, .long (rowsL (fun k => Q (f + k)) x 0)), (0, .ref (E.1 + 38)), (1, .long x), (3, .int (nI f)), (4, .int (nI c))]) (st' := []) rfl (jL_c rfl (jL_c (jv_L (by rfl)) (jL_c rfl (jL_c rfl (jL_c rfl (jL_c rfl rfl)))))) rfl ?_
  exact CUT6 (c - 0 + 1) 0 (Nat.lt_succ_self _) (by first | assumption | omega)

set_option maxHeartbeats 1000000 in
set_option maxRecDepth 100000 in
theorem ctX8_digest {E : jE} {h : Nat → va_E} {n : Nat} (xa : Nat) (xb : Nat) (dt : Nat) (mo : Nat) (bn : Nat) (ta : Nat) (tl : Nat) (tk : Nat) (va : Nat) (Q : Nat → Nat) (H0 : h 38 = .inr (7, [.ref (E.1 + 39), .ref (E.1 + 40), .ref (E.1 + 41), .ref (E.1 + 42), .long (lN xa), .long (lN xb), .ref (E.1 + 43), .int (nI dt), .ref (E.1 + 44), .ref (E.1 + 45), .int (nI mo), .ref (E.1 + 46), .ref (E.1 + 47), .int (nI bn), .int (nI ta), .int (nI tl), .int (nI tk), .int (nI va), .ref (E.1 + 48), .ref (E.1 + 49)])) (H1 : h 39 = cI E 218 (nF Q)) (hn : 50 ≤ n) (hn4 : Q 0 ≤ 4) (hK : ∀ zz, zz < 4 → KQ Q zz ≤ 5) (hM4 : ∀ zz, zz < 16 → Q (4 + zz) ≤ 20) (hg : Q 21 ≤ 9) (hd9 : Q 20 ≤ 999) (hn1 : Q 1 ≤ 6) (hNQ : ∀ zz, zz < 24 → Q (26 + zz) ≤ 99) (hc2 : Q 2 ≤ 6) (hCQ : ∀ zz, zz < 24 → Q (50 + zz) ≤ 50) (hq3 : Q 3 ≤ 8) (hbn : bn ≤ 150) (hxa : xa < 2 ^ 31) (hxb : xb < 2 ^ 31) : jC E mX8_digest (3, 0, 0) [.ref (E.1 + 38)] h n (jR (some (.long (digN (Q 0) (Q 20) (Q 21) (Q 1) (Q 2) (Q 3) bn (KQ Q) (MV Q) (fun k => Q (26 + k)) (fun k => Q (50 + k)) xa xb))) h n) := by
  refine J.of (L := [(0, .ref (E.1 + 38))]) rfl (by decide +kernel) (Nat.le_of_ble_eq_true rfl) ?_
  obtain ⟨PP, hPP⟩ : ∃ PP : jPost, PP = (jR (some (.long (digN (Q 0) (Q 20) (Q 21) (Q 1) (Q 2) (Q 3) bn (KQ Q) (MV Q) (fun k => Q (26 + k)) (fun k => Q (50 + k)) xa xb))) h n) := ⟨_, rfl⟩
  rw [← hPP]
  refine J_ldc2 dX8_digest_0 jqRX8_263 ?_
  refine J.stk (st' := .long (lN 1321) :: []) rfl ?_
  refine J_lstore_n dX8_digest_3 (Nat.le_of_ble_eq_true rfl) (L' := [(1, .long (lN 1321)), (0, .ref (E.1 + 38))]) rfl ?_
  refine J_iconst (v := nI 0) dX8_digest_4 (by decide +kernel) ?_
  refine J_istore_n dX8_digest_5 (Nat.le_of_ble_eq_true rfl) (L' := [(3, .int (nI 0)), (1, .long (lN 1321)), (0, .ref (E.1 + 38))]) rfl ?_
  refine J_iload_n dX8_digest_6 rfl ?_
  refine J_bipush (v := nI 7) dX8_digest_7 (by decide +kernel) ?_
  refine J_icmp_geN (tgt := 31) dX8_digest_9 (by decide) (by omega) (by omega) (fun z => absurd z (by decide)) (fun _ => ?_)
  refine J_ldc2 dX8_digest_12 jqRX8_261 ?_
  refine J.stk (st' := .long (lN 31) :: []) rfl ?_
  refine J_lload_n dX8_digest_15 rfl ?_
  refine J_lmulN dX8_digest_16 ?_
  refine J_aload_n dX8_digest_17 rfl ?_
  refine J_iload_n dX8_digest_18 rfl ?_
  refine J_callVr (M' := mX8_counted) (d' := (2, 0, 0)) (rest := [.long (lN (31 * 1321))]) dX8_digest_19 jmX8_counted jlRX8_258 (ctX8_counted_0 xa xb dt mo bn ta tl tk va Q H0 H1 (by omega) ) H0 (by omega) jk8.1 rfl rfl (Nat.le_of_ble_eq_true rfl) (Nat.le_of_ble_eq_true rfl) ⟨Nat.le_refl _, Nat.le_refl _⟩ ?_
  refine J_i2lN dX8_digest_22 (by omega) ?_
  refine J_laddN dX8_digest_23 ?_
  refine J_lstore_n dX8_digest_24 (Nat.le_of_ble_eq_true rfl) (L' := [(1, .long (lN ((31 * 1321) + (Q 0)))), (3, .int (nI 0)), (0, .ref (E.1 + 38))]) rfl ?_
  refine J_iincN (q := 1) (a := 0) (m := 1) dX8_digest_25 rfl (by decide +kernel) (Nat.le_of_ble_eq_true rfl) (L' := [(3, .int (nI 1)), (1, .long (lN ((31 * 1321) + (Q 0)))), (0, .ref (E.1 + 38))]) rfl ?_
  refine J_goto (tgt := 6) dX8_digest_28 (by decide) ?_
  refine J_iload_n dX8_digest_6 rfl ?_
  refine J_bipush (v := nI 7) dX8_digest_7 (by decide +kernel) ?_
  refine J_icmp_geN (tgt := 31) dX8_digest_9 (by decide) (by omega) (by omega) (fun z => absurd z (by decide)) (fun _ => ?_)
  refine J_ldc2 dX8_digest_12 jqRX8_261 ?_
  refine J.stk (st' := .long (lN 31) :: []) rfl ?_
  refine J_lload_n dX8_digest_15 rfl ?_
  refine J_lmulN dX8_digest_16 ?_
  refine J_aload_n dX8_digest_17 rfl ?_
  refine J_iload_n dX8_digest_18 rfl ?_
  refine J_callVr (M' := mX8_counted) (d' := (2, 0, 0)) (rest := [.long (lN (31 * ((31 * 1321) + (Q 0))))]) dX8_digest_19 jmX8_counted jlRX8_258 (ctX8_counted_1 xa xb dt mo bn ta tl tk va Q H0 H1 (by omega) ) H0 (by omega) jk8.1 rfl rfl (Nat.le_of_ble_eq_true rfl) (Nat.le_of_ble_eq_true rfl) ⟨Nat.le_refl _, Nat.le_refl _⟩ ?_
  refine J_i2lN dX8_digest_22 (by omega) ?_
  refine J_laddN dX8_digest_23 ?_
  refine J_lstore_n dX8_digest_24 (Nat.le_of_ble_eq_true rfl) (L' := [(1, .long (lN ((31 * ((31 * 1321) + (Q 0))) + (Q 20)))), (3, .int (nI 1)), (0, .ref (E.1 + 38))]) rfl ?_
  refine J_iincN (q := 1) (a := 1) (m := 1) dX8_digest_25 rfl (by decide +kernel) (Nat.le_of_ble_eq_true rfl) (L' := [(3, .int (nI 2)), (1, .long (lN ((31 * ((31 * 1321) + (Q 0))) + (Q 20)))), (0, .ref (E.1 + 38))]) rfl ?_
  refine J_goto (tgt := 6) dX8_digest_28 (by decide) ?_
  refine J_iload_n dX8_digest_6 rfl ?_
  refine J_bipush (v := nI 7) dX8_digest_7 (by decide +kernel) ?_
  refine J_icmp_geN (tgt := 31) dX8_digest_9 (by decide) (by omega) (by omega) (fun z => absurd z (by decide)) (fun _ => ?_)
  refine J_ldc2 dX8_digest_12 jqRX8_261 ?_
  refine J.stk (st' := .long (lN 31) :: []) rfl ?_
  refine J_lload_n dX8_digest_15 rfl ?_
  refine J_lmulN dX8_digest_16 ?_
  refine J_aload_n dX8_digest_17 rfl ?_
  refine J_iload_n dX8_digest_18 rfl ?_
  refine J_callVr (M' := mX8_counted) (d' := (2, 0, 0)) (rest := [.long (lN (31 * ((31 * ((31 * 1321) + (Q 0))) + (Q 20))))]) dX8_digest_19 jmX8_counted jlRX8_258 (ctX8_counted_2 xa xb dt mo bn ta tl tk va Q H0 H1 (by omega) ) H0 (by omega) jk8.1 rfl rfl (Nat.le_of_ble_eq_true rfl) (Nat.le_of_ble_eq_true rfl) ⟨Nat.le_refl _, Nat.le_refl _⟩ ?_
  refine J_i2lN dX8_digest_22 (by omega) ?_
  refine J_laddN dX8_digest_23 ?_
  refine J_lstore_n dX8_digest_24 (Nat.le_of_ble_eq_true rfl) (L' := [(1, .long (lN ((31 * ((31 * ((31 * 1321) + (Q 0))) + (Q 20))) + (Q 21)))), (3, .int (nI 2)), (0, .ref (E.1 + 38))]) rfl ?_
  refine J_iincN (q := 1) (a := 2) (m := 1) dX8_digest_25 rfl (by decide +kernel) (Nat.le_of_ble_eq_true rfl) (L' := [(3, .int (nI 3)), (1, .long (lN ((31 * ((31 * ((31 * 1321) + (Q 0))) + (Q 20))) + (Q 21)))), (0, .ref (E.1 + 38))]) rfl ?_
  refine J_goto (tgt := 6) dX8_digest_28 (by decide) ?_
  refine J_iload_n dX8_digest_6 rfl ?_
  refine J_bipush (v := nI 7) dX8_digest_7 (by decide +kernel) ?_
  refine J_icmp_geN (tgt := 31) dX8_digest_9 (by decide) (by omega) (by omega) (fun z => absurd z (by decide)) (fun _ => ?_)
  refine J_ldc2 dX8_digest_12 jqRX8_261 ?_
  refine J.stk (st' := .long (lN 31) :: []) rfl ?_
  refine J_lload_n dX8_digest_15 rfl ?_
  refine J_lmulN dX8_digest_16 ?_
  refine J_aload_n dX8_digest_17 rfl ?_
  refine J_iload_n dX8_digest_18 rfl ?_
  refine J_callVr (M' := mX8_counted) (d' := (2, 0, 0)) (rest := [.long (lN (31 * ((31 * ((31 * ((31 * 1321) + (Q 0))) + (Q 20))) + (Q 21))))]) dX8_digest_19 jmX8_counted jlRX8_258 (ctX8_counted_3 xa xb dt mo bn ta tl tk va Q H0 H1 (by omega) ) H0 (by omega) jk8.1 rfl rfl (Nat.le_of_ble_eq_true rfl) (Nat.le_of_ble_eq_true rfl) ⟨Nat.le_refl _, Nat.le_refl _⟩ ?_
  refine J_i2lN dX8_digest_22 (by omega) ?_
  refine J_laddN dX8_digest_23 ?_
  refine J_lstore_n dX8_digest_24 (Nat.le_of_ble_eq_true rfl) (L' := [(1, .long (lN ((31 * ((31 * ((31 * ((31 * 1321) + (Q 0))) + (Q 20))) + (Q 21))) + (Q 1)))), (3, .int (nI 3)), (0, .ref (E.1 + 38))]) rfl ?_
  refine J_iincN (q := 1) (a := 3) (m := 1) dX8_digest_25 rfl (by decide +kernel) (Nat.le_of_ble_eq_true rfl) (L' := [(3, .int (nI 4)), (1, .long (lN ((31 * ((31 * ((31 * ((31 * 1321) + (Q 0))) + (Q 20))) + (Q 21))) + (Q 1)))), (0, .ref (E.1 + 38))]) rfl ?_
  refine J_goto (tgt := 6) dX8_digest_28 (by decide) ?_
  refine J_iload_n dX8_digest_6 rfl ?_
  refine J_bipush (v := nI 7) dX8_digest_7 (by decide +kernel) ?_
  refine J_icmp_geN (tgt := 31) dX8_digest_9 (by decide) (by omega) (by omega) (fun z => absurd z (by decide)) (fun _ => ?_)
  refine J_ldc2 dX8_digest_12 jqRX8_261 ?_
  refine J.stk (st' := .long (lN 31) :: []) rfl ?_
  refine J_lload_n dX8_digest_15 rfl ?_
  refine J_lmulN dX8_digest_16 ?_
  refine J_aload_n dX8_digest_17 rfl ?_
  refine J_iload_n dX8_digest_18 rfl ?_
  refine J_callVr (M' := mX8_counted) (d' := (2, 0, 0)) (rest := [.long (lN (31 * ((31 * ((31 * ((31 * ((31 * 1321) + (Q 0))) + (Q 20))) + (Q 21))) + (Q 1))))]) dX8_digest_19 jmX8_counted jlRX8_258 (ctX8_counted_4 xa xb dt mo bn ta tl tk va Q H0 H1 (by omega) ) H0 (by omega) jk8.1 rfl rfl (Nat.le_of_ble_eq_true rfl) (Nat.le_of_ble_eq_true rfl) ⟨Nat.le_refl _, Nat.le_refl _⟩ ?_
  refine J_i2lN dX8_digest_22 (by omega) ?_
  refine J_laddN dX8_digest_23 ?_
  refine J_lstore_n dX8_digest_24 (Nat.le_of_ble_eq_true rfl) (L' := [(1, .long (lN ((31 * ((31 * ((31 * ((31 * ((31 * 1321) + (Q 0))) + (Q 20))) + (Q 21))) + (Q 1))) + (Q 2)))), (3, .int (nI 4)), (0, .ref (E.1 + 38))]) rfl ?_
  refine J_iincN (q := 1) (a := 4) (m := 1) dX8_digest_25 rfl (by decide +kernel) (Nat.le_of_ble_eq_true rfl) (L' := [(3, .int (nI 5)), (1, .long (lN ((31 * ((31 * ((31 * ((31 * ((31 * 1321) + (Q 0))) + (Q 20))) + (Q 21))) + (Q 1))) + (Q 2)))), (0, .ref (E.1 + 38))]) rfl ?_
  refine J_goto (tgt := 6) dX8_digest_28 (by decide) ?_
  refine J_iload_n dX8_digest_6 rfl ?_
  refine J_bipush (v := nI 7) dX8_digest_7 (by decide +kernel) ?_
  refine J_icmp_geN (tgt := 31) dX8_digest_9 (by decide) (by omega) (by omega) (fun z => absurd z (by decide)) (fun _ => ?_)
  refine J_ldc2 dX8_digest_12 jqRX8_261 ?_
  refine J.stk (st' := .long (lN 31) :: []) rfl ?_
  refine J_lload_n dX8_digest_15 rfl ?_
  refine J_lmulN dX8_digest_16 ?_
  refine J_aload_n dX8_digest_17 rfl ?_
  refine J_iload_n dX8_digest_18 rfl ?_
  refine J_callVr (M' := mX8_counted) (d' := (2, 0, 0)) (rest := [.long (lN (31 * ((31 * ((31 * ((31 * ((31 * ((31 * 1321) + (Q 0))) + (Q 20))) + (Q 21))) + (Q 1))) + (Q 2))))]) dX8_digest_19 jmX8_counted jlRX8_258 (ctX8_counted_5 xa xb dt mo bn ta tl tk va Q H0 H1 (by omega) ) H0 (by omega) jk8.1 rfl rfl (Nat.le_of_ble_eq_true rfl) (Nat.le_of_ble_eq_true rfl) ⟨Nat.le_refl _, Nat.le_refl _⟩ ?_
  refine J_i2lN dX8_digest_22 (by omega) ?_
  refine J_laddN dX8_digest_23 ?_
  refine J_lstore_n dX8_digest_24 (Nat.le_of_ble_eq_true rfl) (L' := [(1, .long (lN ((31 * ((31 * ((31 * ((31 * ((31 * ((31 * 1321) + (Q 0))) + (Q 20))) + (Q 21))) + (Q 1))) + (Q 2))) + (Q 3)))), (3, .int (nI 5)), (0, .ref (E.1 + 38))]) rfl ?_
  refine J_iincN (q := 1) (a := 5) (m := 1) dX8_digest_25 rfl (by decide +kernel) (Nat.le_of_ble_eq_true rfl) (L' := [(3, .int (nI 6)), (1, .long (lN ((31 * ((31 * ((31 * ((31 * ((31 * ((31 * 1321) + (Q 0))) + (Q 20))) + (Q 21))) + (Q 1))) + (Q 2))) + (Q 3)))), (0, .ref (E.1 + 38))]) rfl ?_
  refine J_goto (tgt := 6) dX8_digest_28 (by decide) ?_
  refine J_iload_n dX8_digest_6 rfl ?_
  refine J_bipush (v := nI 7) dX8_digest_7 (by decide +kernel) ?_
  refine J_icmp_geN (tgt := 31) dX8_digest_9 (by decide) (by omega) (by omega) (fun z => absurd z (by decide)) (fun _ => ?_)
  refine J_ldc2 dX8_digest_12 jqRX8_261 ?_
  refine J.stk (st' := .long (lN 31) :: []) rfl ?_
  refine J_lload_n dX8_digest_15 rfl ?_
  refine J_lmulN dX8_digest_16 ?_
  refine J_aload_n dX8_digest_17 rfl ?_
  refine J_iload_n dX8_digest_18 rfl ?_
  refine J_callVr (M' := mX8_counted) (d' := (2, 0, 0)) (rest := [.long (lN (31 * ((31 * ((31 * ((31 * ((31 * ((31 * ((31 * 1321) + (Q 0))) + (Q 20))) + (Q 21))) + (Q 1))) + (Q 2))) + (Q 3))))]) dX8_digest_19 jmX8_counted jlRX8_258 (ctX8_counted_6 xa xb dt mo bn ta tl tk va Q H0 H1 (by omega) ) H0 (by omega) jk8.1 rfl rfl (Nat.le_of_ble_eq_true rfl) (Nat.le_of_ble_eq_true rfl) ⟨Nat.le_refl _, Nat.le_refl _⟩ ?_
  refine J_i2lN dX8_digest_22 (by omega) ?_
  refine J_laddN dX8_digest_23 ?_
  refine J_lstore_n dX8_digest_24 (Nat.le_of_ble_eq_true rfl) (L' := [(1, .long (lN ((31 * ((31 * ((31 * ((31 * ((31 * ((31 * ((31 * 1321) + (Q 0))) + (Q 20))) + (Q 21))) + (Q 1))) + (Q 2))) + (Q 3))) + bn))), (3, .int (nI 6)), (0, .ref (E.1 + 38))]) rfl ?_
  refine J_iincN (q := 1) (a := 6) (m := 1) dX8_digest_25 rfl (by decide +kernel) (Nat.le_of_ble_eq_true rfl) (L' := [(3, .int (nI 7)), (1, .long (lN ((31 * ((31 * ((31 * ((31 * ((31 * ((31 * ((31 * 1321) + (Q 0))) + (Q 20))) + (Q 21))) + (Q 1))) + (Q 2))) + (Q 3))) + bn))), (0, .ref (E.1 + 38))]) rfl ?_
  refine J_goto (tgt := 6) dX8_digest_28 (by decide) ?_
  refine J_iload_n dX8_digest_6 rfl ?_
  refine J_bipush (v := nI 7) dX8_digest_7 (by decide +kernel) ?_
  refine J_icmp_geN (tgt := 31) dX8_digest_9 (by decide) (by omega) (by omega) (fun _ => ?_) (fun z => absurd z (by decide))
  refine J_iconst (v := nI 0) dX8_digest_31 (by decide +kernel) ?_
  refine J_istore_n dX8_digest_32 (Nat.le_of_ble_eq_true rfl) (L' := [(3, .int (nI 0)), (1, .long (lN ((31 * ((31 * ((31 * ((31 * ((31 * ((31 * ((31 * 1321) + (Q 0))) + (Q 20))) + (Q 21))) + (Q 1))) + (Q 2))) + (Q 3))) + bn))), (0, .ref (E.1 + 38))]) rfl ?_
  have CUT33 : ∀ (f33 : Nat) (i : Nat) (hm33 : Q 0 - i < f33) (hi : i ≤ Q 0), J E mX8_digest (3, 0, 0) jS0 PP h n (0, 0) 33 [(3, .int (nI i)), (1, .long (anvL (KQ Q) (MV Q) (mixL (mixL (mixL (mixL (mixL (mixL (mixL (lN 1321) (Q 0)) (Q 20)) (Q 21)) (Q 1)) (Q 2)) (Q 3)) bn) i)), (0, .ref (E.1 + 38))] [] := by
    intro f33
    induction f33 with
    | zero => intro i hm33; exact absurd hm33 (Nat.not_lt_zero _)
    | succ f33 ih33 =>
      intro i hm33 hi
      refine J_iload_n dX8_digest_33 rfl ?_
      refine J_aload_n dX8_digest_34 rfl ?_
      refine J_callVr (M' := mX8_many) (d' := (1, 0, 0)) (rest := [.int (nI i)]) dX8_digest_35 jmX8_many jlRX8_52 (ctX8_many xa xb dt mo bn ta tl tk va Q H0 H1 (by omega) ) H0 (by omega) jk8.1 rfl rfl (Nat.le_of_ble_eq_true rfl) (Nat.le_of_ble_eq_true rfl) ⟨Nat.le_refl _, Nat.le_refl _⟩ ?_
      refine J_icmp_geN (tgt := 70) dX8_digest_38 (by decide) (by omega) (by omega) (fun c9 => ?_) (fun c9 => ?_)
      · skip
        refine J_aload_n dX8_digest_70 rfl ?_
        refine J_lload_n dX8_digest_71 rfl ?_
        refine J_bipush (v := nI 26) dX8_digest_72 (by decide +kernel) ?_
        refine J_iconst (v := nI 4) dX8_digest_74 (by decide +kernel) ?_
        refine J_aload_n dX8_digest_75 rfl ?_
        refine J_get 0 dX8_digest_76 jk8 (Nat.le_of_ble_eq_true rfl) jfRX8_7 H0 (by omega) rfl ?_
        refine J_iconst (v := nI 1) dX8_digest_79 (by decide +kernel) ?_
        refine J_ialdN (i := 1) dX8_digest_80 H1 (by omega) (by omega) (by omega) ?_
        refine J_imulN dX8_digest_81 ?_
        refine J_callVr (M' := mX8_sums) (d' := (1, 0, 0)) (rest := []) dX8_digest_82 jmX8_sums jlRX8_265 (ctX8_sums (anvL (KQ Q) (MV Q) (mixL (mixL (mixL (mixL (mixL (mixL (mixL (lN 1321) (Q 0)) (Q 20)) (Q 21)) (Q 1)) (Q 2)) (Q 3)) bn) i) 26 (4 * (Q 1)) xa xb dt mo bn ta tl tk va Q H0 H1 (by omega) (by first | assumption | omega) (by exact fun zz hz => hNQ zz (by omega))) H0 (by omega) jk8.1 rfl rfl (Nat.le_of_ble_eq_true rfl) (Nat.le_of_ble_eq_true rfl) ⟨Nat.le_refl _, Nat.le_refl _⟩ ?_
        refine J_lstore_n dX8_digest_85 (Nat.le_of_ble_eq_true rfl) (L' := [(1, .long (rowsL (fun k => Q (26 + k)) (anvL (KQ Q) (MV Q) (mixL (mixL (mixL (mixL (mixL (mixL (mixL (lN 1321) (Q 0)) (Q 20)) (Q 21)) (Q 1)) (Q 2)) (Q 3)) bn) i) (4 * (Q 1)))), (3, .int (nI i)), (0, .ref (E.1 + 38))]) rfl ?_
        refine J_aload_n dX8_digest_86 rfl ?_
        refine J_lload_n dX8_digest_87 rfl ?_
        refine J_bipush (v := nI 50) dX8_digest_88 (by decide +kernel) ?_
        refine J_iconst (v := nI 4) dX8_digest_90 (by decide +kernel) ?_
        refine J_aload_n dX8_digest_91 rfl ?_
        refine J_get 0 dX8_digest_92 jk8 (Nat.le_of_ble_eq_true rfl) jfRX8_7 H0 (by omega) rfl ?_
        refine J_iconst (v := nI 2) dX8_digest_95 (by decide +kernel) ?_
        refine J_ialdN (i := 2) dX8_digest_96 H1 (by omega) (by omega) (by omega) ?_
        refine J_imulN dX8_digest_97 ?_
        refine J_callVr (M' := mX8_sums) (d' := (1, 0, 0)) (rest := []) dX8_digest_98 jmX8_sums jlRX8_265 (ctX8_sums (rowsL (fun k => Q (26 + k)) (anvL (KQ Q) (MV Q) (mixL (mixL (mixL (mixL (mixL (mixL (mixL (lN 1321) (Q 0)) (Q 20)) (Q 21)) (Q 1)) (Q 2)) (Q 3)) bn) i) (4 * (Q 1))) 50 (4 * (Q 2)) xa xb dt mo bn ta tl tk va Q H0 H1 (by omega) (by first | assumption | omega) (by exact fun zz hz => Nat.le_trans (hCQ zz (by omega)) (by omega))) H0 (by omega) jk8.1 rfl rfl (Nat.le_of_ble_eq_true rfl) (Nat.le_of_ble_eq_true rfl) ⟨Nat.le_refl _, Nat.le_refl _⟩ ?_
        refine J_lstore_n dX8_digest_101 (Nat.le_of_ble_eq_true rfl) (L' := [(1, .long (rowsL (fun k => Q (50 + k)) (rowsL (fun k => Q (26 + k)) (anvL (KQ Q) (MV Q) (mixL (mixL (mixL (mixL (mixL (mixL (mixL (lN 1321) (Q 0)) (Q 20)) (Q 21)) (Q 1)) (Q 2)) (Q 3)) bn) i) (4 * (Q 1))) (4 * (Q 2)))), (3, .int (nI i)), (0, .ref (E.1 + 38))]) rfl ?_
        refine J_ldc2 dX8_digest_102 jqRX8_261 ?_
        refine J.stk (st' := .long (lN 31) :: []) rfl ?_
        refine J_ldc2 dX8_digest_105 jqRX8_261 ?_
        refine J.stk (st' := .long (lN 31) :: [.long (lN 31)]) rfl ?_
        refine J_lload_n dX8_digest_108 rfl ?_
        refine J_lmul dX8_digest_109 ?_
        refine J_aload_n dX8_digest_110 rfl ?_
        refine J_get 4 dX8_digest_111 jk8 (Nat.le_of_ble_eq_true rfl) jfRX8_169 H0 (by omega) rfl ?_
        refine J_ladd dX8_digest_114 ?_
        refine J_lmul dX8_digest_115 ?_
        refine J_aload_n dX8_digest_116 rfl ?_
        refine J_get 5 dX8_digest_117 jk8 (Nat.le_of_ble_eq_true rfl) jfRX8_23 H0 (by omega) rfl ?_
        refine J_ladd dX8_digest_120 ?_
        exact J_lret dX8_digest_121 rfl ⟨Nat.le_refl _, Nat.le_refl _⟩ (by rw [hPP]; exact ⟨(congrArg some (jv_L (by rw [show i = Q 0 by omega]; rfl))), rfl, rfl⟩)
      · skip
        refine J_aload_n dX8_digest_41 rfl ?_
        refine J_ldc2 dX8_digest_42 jqRX8_261 ?_
        refine J.stk (st' := .long (lN 31) :: [.ref (E.1 + 38)]) rfl ?_
        refine J_lload_n dX8_digest_45 rfl ?_
        refine J_lmul dX8_digest_46 ?_
        refine J_aload_n dX8_digest_47 rfl ?_
        refine J_iload_n dX8_digest_48 rfl ?_
        refine J_callVr (M' := mX8_kindOf) (d' := (1, 0, 0)) (rest := [.long ((lN 31) * (anvL (KQ Q) (MV Q) (mixL (mixL (mixL (mixL (mixL (mixL (mixL (lN 1321) (Q 0)) (Q 20)) (Q 21)) (Q 1)) (Q 2)) (Q 3)) bn) i)), .ref (E.1 + 38)]) dX8_digest_49 jmX8_kindOf jlRX8_87 (ctX8_kindOf i xa xb dt mo bn ta tl tk va Q H0 H1 (by omega) (by first | assumption | omega)) H0 (by omega) jk8.1 rfl rfl (Nat.le_of_ble_eq_true rfl) (Nat.le_of_ble_eq_true rfl) ⟨Nat.le_refl _, Nat.le_refl _⟩ ?_
        have kb := hK i (by omega)
        refine J_i2lN dX8_digest_52 (by omega) ?_
        refine J_ladd dX8_digest_53 ?_
        refine J_iconst (v := nI 4) dX8_digest_54 (by decide +kernel) ?_
        refine J_iconst (v := nI 4) dX8_digest_55 (by decide +kernel) ?_
        refine J_iload_n dX8_digest_56 rfl ?_
        refine J_imulN dX8_digest_57 ?_
        refine J_iaddN dX8_digest_58 ?_
        refine J_iconst (v := nI 4) dX8_digest_59 (by decide +kernel) ?_
        refine J_callVr (M' := mX8_sums) (d' := (1, 0, 0)) (rest := []) dX8_digest_60 jmX8_sums jlRX8_265 (ctX8_sums (((lN 31) * (anvL (KQ Q) (MV Q) (mixL (mixL (mixL (mixL (mixL (mixL (mixL (lN 1321) (Q 0)) (Q 20)) (Q 21)) (Q 1)) (Q 2)) (Q 3)) bn) i)) + (lN (KQ Q i))) (4 + (4 * i)) 4 xa xb dt mo bn ta tl tk va Q H0 H1 (by omega) (by first | assumption | omega) (by exact fun zz hz => by have q5 := hM4 (4 * i + zz) (by omega); rw [← Nat.add_assoc] at q5; omega)) H0 (by omega) jk8.1 rfl rfl (Nat.le_of_ble_eq_true rfl) (Nat.le_of_ble_eq_true rfl) ⟨Nat.le_refl _, Nat.le_refl _⟩ ?_
        refine J_lstore_n dX8_digest_63 (Nat.le_of_ble_eq_true rfl) (L' := [(1, .long (rowsL (fun k => Q ((4 + (4 * i)) + k)) (((lN 31) * (anvL (KQ Q) (MV Q) (mixL (mixL (mixL (mixL (mixL (mixL (mixL (lN 1321) (Q 0)) (Q 20)) (Q 21)) (Q 1)) (Q 2)) (Q 3)) bn) i)) + (lN (KQ Q i))) 4)), (3, .int (nI i)), (0, .ref (E.1 + 38))]) rfl ?_
        refine J_iincN (q := 1) (a := i) (m := 1) dX8_digest_64 rfl (by decide +kernel) (Nat.le_of_ble_eq_true rfl) (L' := [(3, .int (nI (i + 1))), (1, .long (rowsL (fun k => Q ((4 + (4 * i)) + k)) (((lN 31) * (anvL (KQ Q) (MV Q) (mixL (mixL (mixL (mixL (mixL (mixL (mixL (lN 1321) (Q 0)) (Q 20)) (Q 21)) (Q 1)) (Q 2)) (Q 3)) bn) i)) + (lN (KQ Q i))) 4)), (0, .ref (E.1 + 38))]) rfl ?_
        refine J_goto (tgt := 33) dX8_digest_67 (by decide) ?_
        refine J.eqs (h' := h) (L' := [(3, .int (nI (i + 1))), (1, .long (anvL (KQ Q) (MV Q) (mixL (mixL (mixL (mixL (mixL (mixL (mixL (lN 1321) (Q 0)) (Q 20)) (Q 21)) (Q 1)) (Q 2)) (Q 3)) bn) (i + 1))), (0, .ref (E.1 + 38))]) (st' := []) rfl (jL_c rfl (jL_c (jv_L (by first | (simp only [anvL, mixL, lN_mul, lN_add]; done) | (simp only [anvL]; exact rowsL_cg 4 (fun j hj => by simp only [MV, Nat.add_assoc])))) (jL_c rfl rfl))) rfl ?_
        exact ih33 (i + 1) (by omega) (by first | assumption | omega)
  refine J.eqs (h' := h) (L' := [(3, .int (nI 0)), (1, .long (anvL (KQ Q) (MV Q) (mixL (mixL (mixL (mixL (mixL (mixL (mixL (lN 1321) (Q 0)) (Q 20)) (Q 21)) (Q 1)) (Q 2)) (Q 3)) bn) 0)), (0, .ref (E.1 + 38))]) (st' := []) rfl (jL_c rfl (jL_c (jv_L (a := lN ((31 * ((31 * ((31 * ((31 * ((31 * ((31 * ((31 * 1321) + (Q 0))) + (Q 20))) + (Q 21))) + (Q 1))) + (Q 2))) + (Q 3))) + bn)) (by first | (simp only [anvL, mixL, lN_mul, lN_add]; done) | (simp only [anvL]; exact rowsL_cg 4 (fun j hj => by simp only [MV, Nat.add_assoc])))) (jL_c rfl rfl))) rfl ?_
  exact CUT33 (Q 0 - 0 + 1) 0 (Nat.lt_succ_self _) (by first | assumption | omega)
